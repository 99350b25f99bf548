/-! ===== tables that are right, 2 ===== -/
theorem dX2_rootOf_0 : decode cX2_rootOf 0 = .ok (.iload_n 1, 1) := by decide +kernel
theorem dX2_rootOf_1 : decode cX2_rootOf 1 = .ok (.istore_n 2, 1) := by decide +kernel
theorem dX2_rootOf_2 : decode cX2_rootOf 2 = .ok (.iconst 0, 1) := by decide +kernel
theorem dX2_rootOf_3 : decode cX2_rootOf 3 = .ok (.istore_n 3, 1) := by decide +kernel
theorem dX2_rootOf_4 : decode cX2_rootOf 4 = .ok (.iload_n 3, 1) := by decide +kernel
theorem dX2_rootOf_5 : decode cX2_rootOf 5 = .ok (.bipush 40, 2) := by decide +kernel
theorem dX2_rootOf_7 : decode cX2_rootOf 7 = .ok (.if_icmp .ge 26, 3) := by decide +kernel
theorem dX2_rootOf_10 : decode cX2_rootOf 10 = .ok (.aload_n 0, 1) := by decide +kernel
theorem dX2_rootOf_11 : decode cX2_rootOf 11 = .ok (.getfield 9, 3) := by decide +kernel
theorem dX2_rootOf_14 : decode cX2_rootOf 14 = .ok (.iload_n 2, 1) := by decide +kernel
theorem dX2_rootOf_15 : decode cX2_rootOf 15 = .ok (.iaload, 1) := by decide +kernel
theorem dX2_rootOf_16 : decode cX2_rootOf 16 = .ok (.iconst (-1), 1) := by decide +kernel
theorem dX2_rootOf_17 : decode cX2_rootOf 17 = .ok (.if_icmp .eq 16, 3) := by decide +kernel
theorem dX2_rootOf_20 : decode cX2_rootOf 20 = .ok (.aload_n 0, 1) := by decide +kernel
theorem dX2_rootOf_21 : decode cX2_rootOf 21 = .ok (.getfield 9, 3) := by decide +kernel
theorem dX2_rootOf_24 : decode cX2_rootOf 24 = .ok (.iload_n 2, 1) := by decide +kernel
theorem dX2_rootOf_25 : decode cX2_rootOf 25 = .ok (.iaload, 1) := by decide +kernel
theorem dX2_rootOf_26 : decode cX2_rootOf 26 = .ok (.istore_n 2, 1) := by decide +kernel
theorem dX2_rootOf_27 : decode cX2_rootOf 27 = .ok (.iinc 3 1, 3) := by decide +kernel
theorem dX2_rootOf_30 : decode cX2_rootOf 30 = .ok (.goto (-26), 3) := by decide +kernel
theorem dX2_rootOf_33 : decode cX2_rootOf 33 = .ok (.iload_n 2, 1) := by decide +kernel
theorem dX2_rootOf_34 : decode cX2_rootOf 34 = .ok (.ireturn, 1) := by decide +kernel
set_option maxRecDepth 20000 in
theorem ok_38 {l : Launch} {d : Nat} (IH : ∀ μ, μ < 196 → px_Met l px_P d μ) : px_ok l px_P d RX2 cX2_rootOf 4 (some .int) tb_38 :=
  ⟨px_Sp.of (ps_iload_n dX2_rootOf_0 rfl),
   px_Sp.of (ps_istore_n dX2_rootOf_1 rfl (by decide)),
   px_Sp.of (ps_iconst dX2_rootOf_2 (by decide)),
   px_Sp.of (ps_istore_n dX2_rootOf_3 rfl (by decide)),
   px_Sp.of (ps_iload_n dX2_rootOf_4 rfl),
   px_Sp.of (ps_bipush dX2_rootOf_5 (by decide)),
   px_Sp.of (ps_icmp_ge dX2_rootOf_7 (by decide)),
   px_Sp.of (ps_aload_n dX2_rootOf_10 rfl),
   px_Sp.of (ps_get kc_X2 (by decide) wf_RX2_9 dX2_rootOf_11),
   px_Sp.of (ps_iload_n dX2_rootOf_14 rfl),
   px_Sp.of (ps_iald dX2_rootOf_15),
   px_Sp.of (ps_iconst dX2_rootOf_16 (by decide)),
   px_Sp.of (ps_icmp_eq dX2_rootOf_17 (by decide)),
   px_Sp.of (ps_aload_n dX2_rootOf_20 rfl),
   px_Sp.of (ps_get kc_X2 (by decide) wf_RX2_9 dX2_rootOf_21),
   px_Sp.of (ps_iload_n dX2_rootOf_24 rfl),
   px_Sp.of (ps_iald dX2_rootOf_25),
   px_Sp.of (ps_istore_n dX2_rootOf_26 rfl (by decide)),
   px_Sp.of (ps_iinc dX2_rootOf_27 (by decide) (by decide)),
   px_Sp.of (ps_goto dX2_rootOf_30 (by decide)),
   px_Sp.of (ps_iload_n dX2_rootOf_33 rfl),
   ps_iret dX2_rootOf_34, trivial⟩
theorem mt_38 {l : Launch} {d : Nat} (IH : ∀ μ, μ < 196 → px_Met l px_P d μ) : px_Met l px_P (d + 1) 38 := px_met (own := RX2) rfl (by decide +kernel) (ok_38 IH)
theorem dX2_stepsOf_0 : decode cX2_stepsOf 0 = .ok (.iload_n 1, 1) := by decide +kernel
theorem dX2_stepsOf_1 : decode cX2_stepsOf 1 = .ok (.istore_n 2, 1) := by decide +kernel
theorem dX2_stepsOf_2 : decode cX2_stepsOf 2 = .ok (.iconst 0, 1) := by decide +kernel
theorem dX2_stepsOf_3 : decode cX2_stepsOf 3 = .ok (.istore_n 3, 1) := by decide +kernel
theorem dX2_stepsOf_4 : decode cX2_stepsOf 4 = .ok (.iload_n 3, 1) := by decide +kernel
theorem dX2_stepsOf_5 : decode cX2_stepsOf 5 = .ok (.bipush 40, 2) := by decide +kernel
theorem dX2_stepsOf_7 : decode cX2_stepsOf 7 = .ok (.if_icmp .ge 26, 3) := by decide +kernel
theorem dX2_stepsOf_10 : decode cX2_stepsOf 10 = .ok (.aload_n 0, 1) := by decide +kernel
theorem dX2_stepsOf_11 : decode cX2_stepsOf 11 = .ok (.getfield 9, 3) := by decide +kernel
theorem dX2_stepsOf_14 : decode cX2_stepsOf 14 = .ok (.iload_n 2, 1) := by decide +kernel
theorem dX2_stepsOf_15 : decode cX2_stepsOf 15 = .ok (.iaload, 1) := by decide +kernel
theorem dX2_stepsOf_16 : decode cX2_stepsOf 16 = .ok (.iconst (-1), 1) := by decide +kernel
theorem dX2_stepsOf_17 : decode cX2_stepsOf 17 = .ok (.if_icmp .eq 16, 3) := by decide +kernel
theorem dX2_stepsOf_20 : decode cX2_stepsOf 20 = .ok (.aload_n 0, 1) := by decide +kernel
theorem dX2_stepsOf_21 : decode cX2_stepsOf 21 = .ok (.getfield 9, 3) := by decide +kernel
theorem dX2_stepsOf_24 : decode cX2_stepsOf 24 = .ok (.iload_n 2, 1) := by decide +kernel
theorem dX2_stepsOf_25 : decode cX2_stepsOf 25 = .ok (.iaload, 1) := by decide +kernel
theorem dX2_stepsOf_26 : decode cX2_stepsOf 26 = .ok (.istore_n 2, 1) := by decide +kernel
theorem dX2_stepsOf_27 : decode cX2_stepsOf 27 = .ok (.iinc 3 1, 3) := by decide +kernel
theorem dX2_stepsOf_30 : decode cX2_stepsOf 30 = .ok (.goto (-26), 3) := by decide +kernel
theorem dX2_stepsOf_33 : decode cX2_stepsOf 33 = .ok (.iload_n 3, 1) := by decide +kernel
theorem dX2_stepsOf_34 : decode cX2_stepsOf 34 = .ok (.ireturn, 1) := by decide +kernel
set_option maxRecDepth 20000 in
theorem ok_39 {l : Launch} {d : Nat} (IH : ∀ μ, μ < 196 → px_Met l px_P d μ) : px_ok l px_P d RX2 cX2_stepsOf 4 (some .int) tb_39 :=
  ⟨px_Sp.of (ps_iload_n dX2_stepsOf_0 rfl),
   px_Sp.of (ps_istore_n dX2_stepsOf_1 rfl (by decide)),
   px_Sp.of (ps_iconst dX2_stepsOf_2 (by decide)),
   px_Sp.of (ps_istore_n dX2_stepsOf_3 rfl (by decide)),
   px_Sp.of (ps_iload_n dX2_stepsOf_4 rfl),
   px_Sp.of (ps_bipush dX2_stepsOf_5 (by decide)),
   px_Sp.of (ps_icmp_ge dX2_stepsOf_7 (by decide)),
   px_Sp.of (ps_aload_n dX2_stepsOf_10 rfl),
   px_Sp.of (ps_get kc_X2 (by decide) wf_RX2_9 dX2_stepsOf_11),
   px_Sp.of (ps_iload_n dX2_stepsOf_14 rfl),
   px_Sp.of (ps_iald dX2_stepsOf_15),
   px_Sp.of (ps_iconst dX2_stepsOf_16 (by decide)),
   px_Sp.of (ps_icmp_eq dX2_stepsOf_17 (by decide)),
   px_Sp.of (ps_aload_n dX2_stepsOf_20 rfl),
   px_Sp.of (ps_get kc_X2 (by decide) wf_RX2_9 dX2_stepsOf_21),
   px_Sp.of (ps_iload_n dX2_stepsOf_24 rfl),
   px_Sp.of (ps_iald dX2_stepsOf_25),
   px_Sp.of (ps_istore_n dX2_stepsOf_26 rfl (by decide)),
   px_Sp.of (ps_iinc dX2_stepsOf_27 (by decide) (by decide)),
   px_Sp.of (ps_goto dX2_stepsOf_30 (by decide)),
   px_Sp.of (ps_iload_n dX2_stepsOf_33 rfl),
   ps_iret dX2_stepsOf_34, trivial⟩
theorem mt_39 {l : Launch} {d : Nat} (IH : ∀ μ, μ < 196 → px_Met l px_P d μ) : px_Met l px_P (d + 1) 39 := px_met (own := RX2) rfl (by decide +kernel) (ok_39 IH)
theorem dX2_childrenOf_0 : decode cX2_childrenOf 0 = .ok (.iconst 0, 1) := by decide +kernel
theorem dX2_childrenOf_1 : decode cX2_childrenOf 1 = .ok (.istore_n 2, 1) := by decide +kernel
theorem dX2_childrenOf_2 : decode cX2_childrenOf 2 = .ok (.iconst 0, 1) := by decide +kernel
theorem dX2_childrenOf_3 : decode cX2_childrenOf 3 = .ok (.istore_n 3, 1) := by decide +kernel
theorem dX2_childrenOf_4 : decode cX2_childrenOf 4 = .ok (.iload_n 3, 1) := by decide +kernel
theorem dX2_childrenOf_5 : decode cX2_childrenOf 5 = .ok (.aload_n 0, 1) := by decide +kernel
theorem dX2_childrenOf_6 : decode cX2_childrenOf 6 = .ok (.getfield 22, 3) := by decide +kernel
theorem dX2_childrenOf_9 : decode cX2_childrenOf 9 = .ok (.getfield 41, 3) := by decide +kernel
theorem dX2_childrenOf_12 : decode cX2_childrenOf 12 = .ok (.if_icmp .ge 22, 3) := by decide +kernel
theorem dX2_childrenOf_15 : decode cX2_childrenOf 15 = .ok (.aload_n 0, 1) := by decide +kernel
theorem dX2_childrenOf_16 : decode cX2_childrenOf 16 = .ok (.getfield 9, 3) := by decide +kernel
theorem dX2_childrenOf_19 : decode cX2_childrenOf 19 = .ok (.iload_n 3, 1) := by decide +kernel
theorem dX2_childrenOf_20 : decode cX2_childrenOf 20 = .ok (.iaload, 1) := by decide +kernel
theorem dX2_childrenOf_21 : decode cX2_childrenOf 21 = .ok (.iload_n 1, 1) := by decide +kernel
theorem dX2_childrenOf_22 : decode cX2_childrenOf 22 = .ok (.if_icmp .ne 6, 3) := by decide +kernel
theorem dX2_childrenOf_25 : decode cX2_childrenOf 25 = .ok (.iinc 2 1, 3) := by decide +kernel
theorem dX2_childrenOf_28 : decode cX2_childrenOf 28 = .ok (.iinc 3 1, 3) := by decide +kernel
theorem dX2_childrenOf_31 : decode cX2_childrenOf 31 = .ok (.goto (-27), 3) := by decide +kernel
theorem dX2_childrenOf_34 : decode cX2_childrenOf 34 = .ok (.iload_n 2, 1) := by decide +kernel
theorem dX2_childrenOf_35 : decode cX2_childrenOf 35 = .ok (.ireturn, 1) := by decide +kernel
set_option maxRecDepth 20000 in
theorem ok_40 {l : Launch} {d : Nat} (IH : ∀ μ, μ < 196 → px_Met l px_P d μ) : px_ok l px_P d RX2 cX2_childrenOf 4 (some .int) tb_40 :=
  ⟨px_Sp.of (ps_iconst dX2_childrenOf_0 (by decide)),
   px_Sp.of (ps_istore_n dX2_childrenOf_1 rfl (by decide)),
   px_Sp.of (ps_iconst dX2_childrenOf_2 (by decide)),
   px_Sp.of (ps_istore_n dX2_childrenOf_3 rfl (by decide)),
   px_Sp.of (ps_iload_n dX2_childrenOf_4 rfl),
   px_Sp.of (ps_aload_n dX2_childrenOf_5 rfl),
   px_Sp.of (ps_get kc_X2 (by decide) wf_RX2_22 dX2_childrenOf_6),
   px_Sp.of (ps_get kc_X1 (by decide) wf_RX2_41 dX2_childrenOf_9),
   px_Sp.of (ps_icmp_ge dX2_childrenOf_12 (by decide)),
   px_Sp.of (ps_aload_n dX2_childrenOf_15 rfl),
   px_Sp.of (ps_get kc_X2 (by decide) wf_RX2_9 dX2_childrenOf_16),
   px_Sp.of (ps_iload_n dX2_childrenOf_19 rfl),
   px_Sp.of (ps_iald dX2_childrenOf_20),
   px_Sp.of (ps_iload_n dX2_childrenOf_21 rfl),
   px_Sp.of (ps_icmp_ne dX2_childrenOf_22 (by decide)),
   px_Sp.of (ps_iinc dX2_childrenOf_25 (by decide) (by decide)),
   px_Sp.of (ps_iinc dX2_childrenOf_28 (by decide) (by decide)),
   px_Sp.of (ps_goto dX2_childrenOf_31 (by decide)),
   px_Sp.of (ps_iload_n dX2_childrenOf_34 rfl),
   ps_iret dX2_childrenOf_35, trivial⟩
theorem mt_40 {l : Launch} {d : Nat} (IH : ∀ μ, μ < 196 → px_Met l px_P d μ) : px_Met l px_P (d + 1) 40 := px_met (own := RX2) rfl (by decide +kernel) (ok_40 IH)
theorem dX2_lettersOfThread_0 : decode cX2_lettersOfThread 0 = .ok (.aload_n 0, 1) := by decide +kernel
theorem dX2_lettersOfThread_1 : decode cX2_lettersOfThread 1 = .ok (.iload_n 1, 1) := by decide +kernel
theorem dX2_lettersOfThread_2 : decode cX2_lettersOfThread 2 = .ok (.invokevirtual 108, 3) := by decide +kernel
theorem dX2_lettersOfThread_5 : decode cX2_lettersOfThread 5 = .ok (.istore_n 2, 1) := by decide +kernel
theorem dX2_lettersOfThread_6 : decode cX2_lettersOfThread 6 = .ok (.iconst 0, 1) := by decide +kernel
theorem dX2_lettersOfThread_7 : decode cX2_lettersOfThread 7 = .ok (.istore_n 3, 1) := by decide +kernel
theorem dX2_lettersOfThread_8 : decode cX2_lettersOfThread 8 = .ok (.iconst 0, 1) := by decide +kernel
theorem dX2_lettersOfThread_9 : decode cX2_lettersOfThread 9 = .ok (.istore 4, 2) := by decide +kernel
theorem dX2_lettersOfThread_11 : decode cX2_lettersOfThread 11 = .ok (.iload 4, 2) := by decide +kernel
theorem dX2_lettersOfThread_13 : decode cX2_lettersOfThread 13 = .ok (.aload_n 0, 1) := by decide +kernel
theorem dX2_lettersOfThread_14 : decode cX2_lettersOfThread 14 = .ok (.getfield 22, 3) := by decide +kernel
theorem dX2_lettersOfThread_17 : decode cX2_lettersOfThread 17 = .ok (.getfield 41, 3) := by decide +kernel
theorem dX2_lettersOfThread_20 : decode cX2_lettersOfThread 20 = .ok (.if_icmp .ge 31, 3) := by decide +kernel
theorem dX2_lettersOfThread_23 : decode cX2_lettersOfThread 23 = .ok (.aload_n 0, 1) := by decide +kernel
theorem dX2_lettersOfThread_24 : decode cX2_lettersOfThread 24 = .ok (.iload 4, 2) := by decide +kernel
theorem dX2_lettersOfThread_26 : decode cX2_lettersOfThread 26 = .ok (.invokevirtual 50, 3) := by decide +kernel
theorem dX2_lettersOfThread_29 : decode cX2_lettersOfThread 29 = .ok (.ifCond .eq 16, 3) := by decide +kernel
theorem dX2_lettersOfThread_32 : decode cX2_lettersOfThread 32 = .ok (.aload_n 0, 1) := by decide +kernel
theorem dX2_lettersOfThread_33 : decode cX2_lettersOfThread 33 = .ok (.iload 4, 2) := by decide +kernel
theorem dX2_lettersOfThread_35 : decode cX2_lettersOfThread 35 = .ok (.invokevirtual 108, 3) := by decide +kernel
theorem dX2_lettersOfThread_38 : decode cX2_lettersOfThread 38 = .ok (.iload_n 2, 1) := by decide +kernel
theorem dX2_lettersOfThread_39 : decode cX2_lettersOfThread 39 = .ok (.if_icmp .ne 6, 3) := by decide +kernel
theorem dX2_lettersOfThread_42 : decode cX2_lettersOfThread 42 = .ok (.iinc 3 1, 3) := by decide +kernel
theorem dX2_lettersOfThread_45 : decode cX2_lettersOfThread 45 = .ok (.iinc 4 1, 3) := by decide +kernel
theorem dX2_lettersOfThread_48 : decode cX2_lettersOfThread 48 = .ok (.goto (-37), 3) := by decide +kernel
theorem dX2_lettersOfThread_51 : decode cX2_lettersOfThread 51 = .ok (.iload_n 3, 1) := by decide +kernel
theorem dX2_lettersOfThread_52 : decode cX2_lettersOfThread 52 = .ok (.ireturn, 1) := by decide +kernel
set_option maxRecDepth 20000 in
theorem ok_41 {l : Launch} {d : Nat} (IH : ∀ μ, μ < 196 → px_Met l px_P d μ) : px_ok l px_P d RX2 cX2_lettersOfThread 5 (some .int) tb_41 :=
  ⟨px_Sp.of (ps_aload_n dX2_lettersOfThread_0 rfl),
   px_Sp.of (ps_iload_n dX2_lettersOfThread_1 rfl),
   ps_callV (IH 38 (by decide)) (C := RX2) (T := TX2) (N := 8) (ci := 2) rfl rfl (fc_38 _ _) wm_RX2_108 wi_yX2_rootOf wl_yX2_rootOf dX2_lettersOfThread_2,
   px_Sp.of (ps_istore_n dX2_lettersOfThread_5 rfl (by decide)),
   px_Sp.of (ps_iconst dX2_lettersOfThread_6 (by decide)),
   px_Sp.of (ps_istore_n dX2_lettersOfThread_7 rfl (by decide)),
   px_Sp.of (ps_iconst dX2_lettersOfThread_8 (by decide)),
   px_Sp.of (ps_istore dX2_lettersOfThread_9 (by decide)),
   px_Sp.of (ps_iload dX2_lettersOfThread_11),
   px_Sp.of (ps_aload_n dX2_lettersOfThread_13 rfl),
   px_Sp.of (ps_get kc_X2 (by decide) wf_RX2_22 dX2_lettersOfThread_14),
   px_Sp.of (ps_get kc_X1 (by decide) wf_RX2_41 dX2_lettersOfThread_17),
   px_Sp.of (ps_icmp_ge dX2_lettersOfThread_20 (by decide)),
   px_Sp.of (ps_aload_n dX2_lettersOfThread_23 rfl),
   px_Sp.of (ps_iload dX2_lettersOfThread_24),
   ps_callV (IH 24 (by decide)) (C := RX2) (T := TX2) (N := 8) (ci := 2) rfl rfl (fc_24 _ _) wm_RX2_50 wi_yX2_isSeen wl_yX2_isSeen dX2_lettersOfThread_26,
   px_Sp.of (ps_if_eq dX2_lettersOfThread_29 (by decide)),
   px_Sp.of (ps_aload_n dX2_lettersOfThread_32 rfl),
   px_Sp.of (ps_iload dX2_lettersOfThread_33),
   ps_callV (IH 38 (by decide)) (C := RX2) (T := TX2) (N := 8) (ci := 2) rfl rfl (fc_38 _ _) wm_RX2_108 wi_yX2_rootOf wl_yX2_rootOf dX2_lettersOfThread_35,
   px_Sp.of (ps_iload_n dX2_lettersOfThread_38 rfl),
   px_Sp.of (ps_icmp_ne dX2_lettersOfThread_39 (by decide)),
   px_Sp.of (ps_iinc dX2_lettersOfThread_42 (by decide) (by decide)),
   px_Sp.of (ps_iinc dX2_lettersOfThread_45 (by decide) (by decide)),
   px_Sp.of (ps_goto dX2_lettersOfThread_48 (by decide)),
   px_Sp.of (ps_iload_n dX2_lettersOfThread_51 rfl),
   ps_iret dX2_lettersOfThread_52, trivial⟩
theorem mt_41 {l : Launch} {d : Nat} (IH : ∀ μ, μ < 196 → px_Met l px_P d μ) : px_Met l px_P (d + 1) 41 := px_met (own := RX2) rfl (by decide +kernel) (ok_41 IH)
theorem dX8_told_0 : decode cX8_told 0 = .ok (.aload_n 0, 1) := by decide +kernel
theorem dX8_told_1 : decode cX8_told 1 = .ok (.getfield 25, 3) := by decide +kernel
theorem dX8_told_4 : decode cX8_told 4 = .ok (.iload_n 1, 1) := by decide +kernel
theorem dX8_told_5 : decode cX8_told 5 = .ok (.iload_n 2, 1) := by decide +kernel
theorem dX8_told_6 : decode cX8_told 6 = .ok (.invokevirtual 153, 3) := by decide +kernel
theorem dX8_told_9 : decode cX8_told 9 = .ok (.ifCond .ne 7, 3) := by decide +kernel
theorem dX8_told_12 : decode cX8_told 12 = .ok (.sipush (-1001), 3) := by decide +kernel
theorem dX8_told_15 : decode cX8_told 15 = .ok (.ireturn, 1) := by decide +kernel
theorem dX8_told_16 : decode cX8_told 16 = .ok (.iload_n 3, 1) := by decide +kernel
theorem dX8_told_17 : decode cX8_told 17 = .ok (.ifCond .lt 9, 3) := by decide +kernel
theorem dX8_told_20 : decode cX8_told 20 = .ok (.iload_n 3, 1) := by decide +kernel
theorem dX8_told_21 : decode cX8_told 21 = .ok (.bipush 9, 2) := by decide +kernel
theorem dX8_told_23 : decode cX8_told 23 = .ok (.if_icmp .le 7, 3) := by decide +kernel
theorem dX8_told_26 : decode cX8_told 26 = .ok (.sipush (-1002), 3) := by decide +kernel
theorem dX8_told_29 : decode cX8_told 29 = .ok (.ireturn, 1) := by decide +kernel
theorem dX8_told_30 : decode cX8_told 30 = .ok (.iload_n 1, 1) := by decide +kernel
theorem dX8_told_31 : decode cX8_told 31 = .ok (.iload_n 2, 1) := by decide +kernel
theorem dX8_told_32 : decode cX8_told 32 = .ok (.invokestatic 157, 3) := by decide +kernel
theorem dX8_told_35 : decode cX8_told 35 = .ok (.istore 4, 2) := by decide +kernel
theorem dX8_told_37 : decode cX8_told 37 = .ok (.iload_n 3, 1) := by decide +kernel
theorem dX8_told_38 : decode cX8_told 38 = .ok (.ifCond .ne 14, 3) := by decide +kernel
theorem dX8_told_41 : decode cX8_told 41 = .ok (.aload_n 0, 1) := by decide +kernel
theorem dX8_told_42 : decode cX8_told 42 = .ok (.getfield 25, 3) := by decide +kernel
theorem dX8_told_45 : decode cX8_told 45 = .ok (.getfield 160, 3) := by decide +kernel
theorem dX8_told_48 : decode cX8_told 48 = .ok (.iload 4, 2) := by decide +kernel
theorem dX8_told_50 : decode cX8_told 50 = .ok (.iaload, 1) := by decide +kernel
theorem dX8_told_51 : decode cX8_told 51 = .ok (.ireturn, 1) := by decide +kernel
theorem dX8_told_52 : decode cX8_told 52 = .ok (.iload_n 3, 1) := by decide +kernel
theorem dX8_told_53 : decode cX8_told 53 = .ok (.iconst 1, 1) := by decide +kernel
theorem dX8_told_54 : decode cX8_told 54 = .ok (.if_icmp .ne 17, 3) := by decide +kernel
theorem dX8_told_57 : decode cX8_told 57 = .ok (.aload_n 0, 1) := by decide +kernel
theorem dX8_told_58 : decode cX8_told 58 = .ok (.getfield 25, 3) := by decide +kernel
theorem dX8_told_61 : decode cX8_told 61 = .ok (.getfield 163, 3) := by decide +kernel
theorem dX8_told_64 : decode cX8_told 64 = .ok (.iload 4, 2) := by decide +kernel
theorem dX8_told_66 : decode cX8_told 66 = .ok (.laload, 1) := by decide +kernel
theorem dX8_told_67 : decode cX8_told 67 = .ok (.invokestatic 167, 3) := by decide +kernel
theorem dX8_told_70 : decode cX8_told 70 = .ok (.ireturn, 1) := by decide +kernel
theorem dX8_told_71 : decode cX8_told 71 = .ok (.aload_n 0, 1) := by decide +kernel
theorem dX8_told_72 : decode cX8_told 72 = .ok (.getfield 25, 3) := by decide +kernel
theorem dX8_told_75 : decode cX8_told 75 = .ok (.getfield 163, 3) := by decide +kernel
theorem dX8_told_78 : decode cX8_told 78 = .ok (.iload 4, 2) := by decide +kernel
theorem dX8_told_80 : decode cX8_told 80 = .ok (.laload, 1) := by decide +kernel
theorem dX8_told_81 : decode cX8_told 81 = .ok (.iload_n 3, 1) := by decide +kernel
theorem dX8_told_82 : decode cX8_told 82 = .ok (.iconst 2, 1) := by decide +kernel
theorem dX8_told_83 : decode cX8_told 83 = .ok (.isub, 1) := by decide +kernel
theorem dX8_told_84 : decode cX8_told 84 = .ok (.invokestatic 171, 3) := by decide +kernel
theorem dX8_told_87 : decode cX8_told 87 = .ok (.ireturn, 1) := by decide +kernel
set_option maxRecDepth 20000 in
theorem ok_42 {l : Launch} {d : Nat} (IH : ∀ μ, μ < 196 → px_Met l px_P d μ) : px_ok l px_P d RX8 cX8_told 5 (some .int) tb_42 :=
  ⟨px_Sp.of (ps_aload_n dX8_told_0 rfl),
   px_Sp.of (ps_get kc_X8 (by decide) wf_RX8_25 dX8_told_1),
   px_Sp.of (ps_iload_n dX8_told_4 rfl),
   px_Sp.of (ps_iload_n dX8_told_5 rfl),
   ps_callV (IH 43 (by decide)) (C := RX1) (T := TX1) (N := 10) (ci := 1) rfl rfl (fc_43 _ _) wm_RX8_153 wi_yX1_hasLine wl_yX1_hasLine dX8_told_6,
   px_Sp.of (ps_if_ne dX8_told_9 (by decide)),
   px_Sp.of (ps_sipush dX8_told_12 (by decide)),
   ps_iret dX8_told_15,
   px_Sp.of (ps_iload_n dX8_told_16 rfl),
   px_Sp.of (ps_if_lt dX8_told_17 (by decide)),
   px_Sp.of (ps_iload_n dX8_told_20 rfl),
   px_Sp.of (ps_bipush dX8_told_21 (by decide)),
   px_Sp.of (ps_icmp_le dX8_told_23 (by decide)),
   px_Sp.of (ps_sipush dX8_told_26 (by decide)),
   ps_iret dX8_told_29,
   px_Sp.of (ps_iload_n dX8_told_30 rfl),
   px_Sp.of (ps_iload_n dX8_told_31 rfl),
   ps_callS (IH 11 (by decide)) (fc_11 _ _) wm_RX8_157 ws_yX8_spotOf dX8_told_32,
   px_Sp.of (ps_istore dX8_told_35 (by decide)),
   px_Sp.of (ps_iload_n dX8_told_37 rfl),
   px_Sp.of (ps_if_ne dX8_told_38 (by decide)),
   px_Sp.of (ps_aload_n dX8_told_41 rfl),
   px_Sp.of (ps_get kc_X8 (by decide) wf_RX8_25 dX8_told_42),
   px_Sp.of (ps_get kc_X1 (by decide) wf_RX8_160 dX8_told_45),
   px_Sp.of (ps_iload dX8_told_48),
   px_Sp.of (ps_iald dX8_told_50),
   ps_iret dX8_told_51,
   px_Sp.of (ps_iload_n dX8_told_52 rfl),
   px_Sp.of (ps_iconst dX8_told_53 (by decide)),
   px_Sp.of (ps_icmp_ne dX8_told_54 (by decide)),
   px_Sp.of (ps_aload_n dX8_told_57 rfl),
   px_Sp.of (ps_get kc_X8 (by decide) wf_RX8_25 dX8_told_58),
   px_Sp.of (ps_get kc_X1 (by decide) wf_RX8_163 dX8_told_61),
   px_Sp.of (ps_iload dX8_told_64),
   px_Sp.of (ps_lald dX8_told_66),
   ps_callS (IH 33 (by decide)) (fc_33 _ _) wm_RX8_167 ws_yX7_wordsIn dX8_told_67,
   ps_iret dX8_told_70,
   px_Sp.of (ps_aload_n dX8_told_71 rfl),
   px_Sp.of (ps_get kc_X8 (by decide) wf_RX8_25 dX8_told_72),
   px_Sp.of (ps_get kc_X1 (by decide) wf_RX8_163 dX8_told_75),
   px_Sp.of (ps_iload dX8_told_78),
   px_Sp.of (ps_lald dX8_told_80),
   px_Sp.of (ps_iload_n dX8_told_81 rfl),
   px_Sp.of (ps_iconst dX8_told_82 (by decide)),
   px_Sp.of (ps_isub dX8_told_83),
   ps_callS (IH 44 (by decide)) (fc_44 _ _) wm_RX8_171 ws_yX7_wordOrNone dX8_told_84,
   ps_iret dX8_told_87, trivial⟩
theorem mt_42 {l : Launch} {d : Nat} (IH : ∀ μ, μ < 196 → px_Met l px_P d μ) : px_Met l px_P (d + 1) 42 := px_met (own := RX8) rfl (by decide +kernel) (ok_42 IH)
theorem dX1_hasLine_0 : decode cX1_hasLine 0 = .ok (.aload_n 0, 1) := by decide +kernel
theorem dX1_hasLine_1 : decode cX1_hasLine 1 = .ok (.iload_n 1, 1) := by decide +kernel
theorem dX1_hasLine_2 : decode cX1_hasLine 2 = .ok (.invokevirtual 41, 3) := by decide +kernel
theorem dX1_hasLine_5 : decode cX1_hasLine 5 = .ok (.ifCond .eq 21, 3) := by decide +kernel
theorem dX1_hasLine_8 : decode cX1_hasLine 8 = .ok (.iload_n 2, 1) := by decide +kernel
theorem dX1_hasLine_9 : decode cX1_hasLine 9 = .ok (.ifCond .lt 17, 3) := by decide +kernel
theorem dX1_hasLine_12 : decode cX1_hasLine 12 = .ok (.iload_n 2, 1) := by decide +kernel
theorem dX1_hasLine_13 : decode cX1_hasLine 13 = .ok (.aload_n 0, 1) := by decide +kernel
theorem dX1_hasLine_14 : decode cX1_hasLine 14 = .ok (.getfield 21, 3) := by decide +kernel
theorem dX1_hasLine_17 : decode cX1_hasLine 17 = .ok (.iload_n 1, 1) := by decide +kernel
theorem dX1_hasLine_18 : decode cX1_hasLine 18 = .ok (.iaload, 1) := by decide +kernel
theorem dX1_hasLine_19 : decode cX1_hasLine 19 = .ok (.if_icmp .ge 7, 3) := by decide +kernel
theorem dX1_hasLine_22 : decode cX1_hasLine 22 = .ok (.iconst 1, 1) := by decide +kernel
theorem dX1_hasLine_23 : decode cX1_hasLine 23 = .ok (.goto 4, 3) := by decide +kernel
theorem dX1_hasLine_26 : decode cX1_hasLine 26 = .ok (.iconst 0, 1) := by decide +kernel
theorem dX1_hasLine_27 : decode cX1_hasLine 27 = .ok (.ireturn, 1) := by decide +kernel
set_option maxRecDepth 20000 in
theorem ok_43 {l : Launch} {d : Nat} (IH : ∀ μ, μ < 196 → px_Met l px_P d μ) : px_ok l px_P d RX1 cX1_hasLine 3 (some .boolean) tb_43 :=
  ⟨px_Sp.of (ps_aload_n dX1_hasLine_0 rfl),
   px_Sp.of (ps_iload_n dX1_hasLine_1 rfl),
   ps_callV (IH 4 (by decide)) (C := RX1) (T := TX1) (N := 10) (ci := 1) rfl rfl (fc_4 _ _) wm_RX1_41 wi_yX1_has wl_yX1_has dX1_hasLine_2,
   px_Sp.of (ps_if_eq dX1_hasLine_5 (by decide)),
   px_Sp.of (ps_iload_n dX1_hasLine_8 rfl),
   px_Sp.of (ps_if_lt dX1_hasLine_9 (by decide)),
   px_Sp.of (ps_iload_n dX1_hasLine_12 rfl),
   px_Sp.of (ps_aload_n dX1_hasLine_13 rfl),
   px_Sp.of (ps_get kc_X1 (by decide) wf_RX1_21 dX1_hasLine_14),
   px_Sp.of (ps_iload_n dX1_hasLine_17 rfl),
   px_Sp.of (ps_iald dX1_hasLine_18),
   px_Sp.of (ps_icmp_ge dX1_hasLine_19 (by decide)),
   px_Sp.of (ps_iconst dX1_hasLine_22 (by decide)),
   px_Sp.of (ps_goto dX1_hasLine_23 (by decide)),
   px_Sp.of (ps_iconst dX1_hasLine_26 (by decide)),
   ps_zret dX1_hasLine_27, trivial⟩
theorem mt_43 {l : Launch} {d : Nat} (IH : ∀ μ, μ < 196 → px_Met l px_P d μ) : px_Met l px_P (d + 1) 43 := px_met (own := RX1) rfl (by decide +kernel) (ok_43 IH)
theorem dX7_wordOrNone_0 : decode cX7_wordOrNone 0 = .ok (.iload_n 2, 1) := by decide +kernel
theorem dX7_wordOrNone_1 : decode cX7_wordOrNone 1 = .ok (.ifCond .lt 17, 3) := by decide +kernel
theorem dX7_wordOrNone_4 : decode cX7_wordOrNone 4 = .ok (.iload_n 2, 1) := by decide +kernel
theorem dX7_wordOrNone_5 : decode cX7_wordOrNone 5 = .ok (.bipush 8, 2) := by decide +kernel
theorem dX7_wordOrNone_7 : decode cX7_wordOrNone 7 = .ok (.if_icmp .ge 11, 3) := by decide +kernel
theorem dX7_wordOrNone_10 : decode cX7_wordOrNone 10 = .ok (.lload_n 0, 1) := by decide +kernel
theorem dX7_wordOrNone_11 : decode cX7_wordOrNone 11 = .ok (.iload_n 2, 1) := by decide +kernel
theorem dX7_wordOrNone_12 : decode cX7_wordOrNone 12 = .ok (.invokestatic 13, 3) := by decide +kernel
theorem dX7_wordOrNone_15 : decode cX7_wordOrNone 15 = .ok (.ifCond .ne 5, 3) := by decide +kernel
theorem dX7_wordOrNone_18 : decode cX7_wordOrNone 18 = .ok (.iconst (-1), 1) := by decide +kernel
theorem dX7_wordOrNone_19 : decode cX7_wordOrNone 19 = .ok (.ireturn, 1) := by decide +kernel
theorem dX7_wordOrNone_20 : decode cX7_wordOrNone 20 = .ok (.lload_n 0, 1) := by decide +kernel
theorem dX7_wordOrNone_21 : decode cX7_wordOrNone 21 = .ok (.iload_n 2, 1) := by decide +kernel
theorem dX7_wordOrNone_22 : decode cX7_wordOrNone 22 = .ok (.invokestatic 13, 3) := by decide +kernel
theorem dX7_wordOrNone_25 : decode cX7_wordOrNone 25 = .ok (.ireturn, 1) := by decide +kernel
set_option maxRecDepth 20000 in
theorem ok_44 {l : Launch} {d : Nat} (IH : ∀ μ, μ < 196 → px_Met l px_P d μ) : px_ok l px_P d RX7 cX7_wordOrNone 3 (some .int) tb_44 :=
  ⟨px_Sp.of (ps_iload_n dX7_wordOrNone_0 rfl),
   px_Sp.of (ps_if_lt dX7_wordOrNone_1 (by decide)),
   px_Sp.of (ps_iload_n dX7_wordOrNone_4 rfl),
   px_Sp.of (ps_bipush dX7_wordOrNone_5 (by decide)),
   px_Sp.of (ps_icmp_ge dX7_wordOrNone_7 (by decide)),
   px_Sp.of (ps_lload_n dX7_wordOrNone_10 rfl),
   px_Sp.of (ps_iload_n dX7_wordOrNone_11 rfl),
   ps_callS (IH 34 (by decide)) (fc_34 _ _) wm_RX7_13 ws_yX7_wordAt dX7_wordOrNone_12,
   px_Sp.of (ps_if_ne dX7_wordOrNone_15 (by decide)),
   px_Sp.of (ps_iconst dX7_wordOrNone_18 (by decide)),
   ps_iret dX7_wordOrNone_19,
   px_Sp.of (ps_lload_n dX7_wordOrNone_20 rfl),
   px_Sp.of (ps_iload_n dX7_wordOrNone_21 rfl),
   ps_callS (IH 34 (by decide)) (fc_34 _ _) wm_RX7_13 ws_yX7_wordAt dX7_wordOrNone_22,
   ps_iret dX7_wordOrNone_25, trivial⟩
theorem mt_44 {l : Launch} {d : Nat} (IH : ∀ μ, μ < 196 → px_Met l px_P d μ) : px_Met l px_P (d + 1) 44 := px_met (own := RX7) rfl (by decide +kernel) (ok_44 IH)
theorem dX8_differ_0 : decode cX8_differ 0 = .ok (.aload_n 0, 1) := by decide +kernel
theorem dX8_differ_1 : decode cX8_differ 1 = .ok (.getfield 25, 3) := by decide +kernel
theorem dX8_differ_4 : decode cX8_differ 4 = .ok (.iload_n 1, 1) := by decide +kernel
theorem dX8_differ_5 : decode cX8_differ 5 = .ok (.iload_n 2, 1) := by decide +kernel
theorem dX8_differ_6 : decode cX8_differ 6 = .ok (.invokevirtual 153, 3) := by decide +kernel
theorem dX8_differ_9 : decode cX8_differ 9 = .ok (.ifCond .eq 16, 3) := by decide +kernel
theorem dX8_differ_12 : decode cX8_differ 12 = .ok (.aload_n 0, 1) := by decide +kernel
theorem dX8_differ_13 : decode cX8_differ 13 = .ok (.getfield 25, 3) := by decide +kernel
theorem dX8_differ_16 : decode cX8_differ 16 = .ok (.iload_n 3, 1) := by decide +kernel
theorem dX8_differ_17 : decode cX8_differ 17 = .ok (.iload 4, 2) := by decide +kernel
theorem dX8_differ_19 : decode cX8_differ 19 = .ok (.invokevirtual 153, 3) := by decide +kernel
theorem dX8_differ_22 : decode cX8_differ 22 = .ok (.ifCond .ne 7, 3) := by decide +kernel
theorem dX8_differ_25 : decode cX8_differ 25 = .ok (.sipush (-1001), 3) := by decide +kernel
theorem dX8_differ_28 : decode cX8_differ 28 = .ok (.ireturn, 1) := by decide +kernel
theorem dX8_differ_29 : decode cX8_differ 29 = .ok (.aload_n 0, 1) := by decide +kernel
theorem dX8_differ_30 : decode cX8_differ 30 = .ok (.getfield 34, 3) := by decide +kernel
theorem dX8_differ_33 : decode cX8_differ 33 = .ok (.aload_n 0, 1) := by decide +kernel
theorem dX8_differ_34 : decode cX8_differ 34 = .ok (.getfield 25, 3) := by decide +kernel
theorem dX8_differ_37 : decode cX8_differ 37 = .ok (.getfield 163, 3) := by decide +kernel
theorem dX8_differ_40 : decode cX8_differ 40 = .ok (.iload_n 1, 1) := by decide +kernel
theorem dX8_differ_41 : decode cX8_differ 41 = .ok (.iload_n 2, 1) := by decide +kernel
theorem dX8_differ_42 : decode cX8_differ 42 = .ok (.invokestatic 157, 3) := by decide +kernel
theorem dX8_differ_45 : decode cX8_differ 45 = .ok (.laload, 1) := by decide +kernel
theorem dX8_differ_46 : decode cX8_differ 46 = .ok (.aload_n 0, 1) := by decide +kernel
theorem dX8_differ_47 : decode cX8_differ 47 = .ok (.getfield 25, 3) := by decide +kernel
theorem dX8_differ_50 : decode cX8_differ 50 = .ok (.getfield 163, 3) := by decide +kernel
theorem dX8_differ_53 : decode cX8_differ 53 = .ok (.iload_n 3, 1) := by decide +kernel
theorem dX8_differ_54 : decode cX8_differ 54 = .ok (.iload 4, 2) := by decide +kernel
theorem dX8_differ_56 : decode cX8_differ 56 = .ok (.invokestatic 157, 3) := by decide +kernel
theorem dX8_differ_59 : decode cX8_differ 59 = .ok (.laload, 1) := by decide +kernel
theorem dX8_differ_60 : decode cX8_differ 60 = .ok (.invokevirtual 175, 3) := by decide +kernel
theorem dX8_differ_63 : decode cX8_differ 63 = .ok (.ireturn, 1) := by decide +kernel
set_option maxRecDepth 20000 in
theorem ok_45 {l : Launch} {d : Nat} (IH : ∀ μ, μ < 196 → px_Met l px_P d μ) : px_ok l px_P d RX8 cX8_differ 5 (some .int) tb_45 :=
  ⟨px_Sp.of (ps_aload_n dX8_differ_0 rfl),
   px_Sp.of (ps_get kc_X8 (by decide) wf_RX8_25 dX8_differ_1),
   px_Sp.of (ps_iload_n dX8_differ_4 rfl),
   px_Sp.of (ps_iload_n dX8_differ_5 rfl),
   ps_callV (IH 43 (by decide)) (C := RX1) (T := TX1) (N := 10) (ci := 1) rfl rfl (fc_43 _ _) wm_RX8_153 wi_yX1_hasLine wl_yX1_hasLine dX8_differ_6,
   px_Sp.of (ps_if_eq dX8_differ_9 (by decide)),
   px_Sp.of (ps_aload_n dX8_differ_12 rfl),
   px_Sp.of (ps_get kc_X8 (by decide) wf_RX8_25 dX8_differ_13),
   px_Sp.of (ps_iload_n dX8_differ_16 rfl),
   px_Sp.of (ps_iload dX8_differ_17),
   ps_callV (IH 43 (by decide)) (C := RX1) (T := TX1) (N := 10) (ci := 1) rfl rfl (fc_43 _ _) wm_RX8_153 wi_yX1_hasLine wl_yX1_hasLine dX8_differ_19,
   px_Sp.of (ps_if_ne dX8_differ_22 (by decide)),
   px_Sp.of (ps_sipush dX8_differ_25 (by decide)),
   ps_iret dX8_differ_28,
   px_Sp.of (ps_aload_n dX8_differ_29 rfl),
   px_Sp.of (ps_get kc_X8 (by decide) wf_RX8_34 dX8_differ_30),
   px_Sp.of (ps_aload_n dX8_differ_33 rfl),
   px_Sp.of (ps_get kc_X8 (by decide) wf_RX8_25 dX8_differ_34),
   px_Sp.of (ps_get kc_X1 (by decide) wf_RX8_163 dX8_differ_37),
   px_Sp.of (ps_iload_n dX8_differ_40 rfl),
   px_Sp.of (ps_iload_n dX8_differ_41 rfl),
   ps_callS (IH 11 (by decide)) (fc_11 _ _) wm_RX8_157 ws_yX8_spotOf dX8_differ_42,
   px_Sp.of (ps_lald dX8_differ_45),
   px_Sp.of (ps_aload_n dX8_differ_46 rfl),
   px_Sp.of (ps_get kc_X8 (by decide) wf_RX8_25 dX8_differ_47),
   px_Sp.of (ps_get kc_X1 (by decide) wf_RX8_163 dX8_differ_50),
   px_Sp.of (ps_iload_n dX8_differ_53 rfl),
   px_Sp.of (ps_iload dX8_differ_54),
   ps_callS (IH 11 (by decide)) (fc_11 _ _) wm_RX8_157 ws_yX8_spotOf dX8_differ_56,
   px_Sp.of (ps_lald dX8_differ_59),
   ps_callV (IH 32 (by decide)) (C := RX0) (T := TX0) (N := 5) (ci := 0) rfl rfl (fc_32 _ _) wm_RX8_175 wi_yX0_distance wl_yX0_distance dX8_differ_60,
   ps_iret dX8_differ_63, trivial⟩
theorem mt_45 {l : Launch} {d : Nat} (IH : ∀ μ, μ < 196 → px_Met l px_P d μ) : px_Met l px_P (d + 1) 45 := px_met (own := RX8) rfl (by decide +kernel) (ok_45 IH)
theorem dX8_fit_0 : decode cX8_fit 0 = .ok (.aload_n 0, 1) := by decide +kernel
theorem dX8_fit_1 : decode cX8_fit 1 = .ok (.getfield 25, 3) := by decide +kernel
theorem dX8_fit_4 : decode cX8_fit 4 = .ok (.iload_n 1, 1) := by decide +kernel
theorem dX8_fit_5 : decode cX8_fit 5 = .ok (.invokevirtual 87, 3) := by decide +kernel
theorem dX8_fit_8 : decode cX8_fit 8 = .ok (.ifCond .eq 14, 3) := by decide +kernel
theorem dX8_fit_11 : decode cX8_fit 11 = .ok (.aload_n 0, 1) := by decide +kernel
theorem dX8_fit_12 : decode cX8_fit 12 = .ok (.getfield 25, 3) := by decide +kernel
theorem dX8_fit_15 : decode cX8_fit 15 = .ok (.iload_n 2, 1) := by decide +kernel
theorem dX8_fit_16 : decode cX8_fit 16 = .ok (.invokevirtual 87, 3) := by decide +kernel
theorem dX8_fit_19 : decode cX8_fit 19 = .ok (.ifCond .ne 7, 3) := by decide +kernel
theorem dX8_fit_22 : decode cX8_fit 22 = .ok (.sipush (-1001), 3) := by decide +kernel
theorem dX8_fit_25 : decode cX8_fit 25 = .ok (.ireturn, 1) := by decide +kernel
theorem dX8_fit_26 : decode cX8_fit 26 = .ok (.iload_n 1, 1) := by decide +kernel
theorem dX8_fit_27 : decode cX8_fit 27 = .ok (.iload_n 2, 1) := by decide +kernel
theorem dX8_fit_28 : decode cX8_fit 28 = .ok (.if_icmp .eq 25, 3) := by decide +kernel
theorem dX8_fit_31 : decode cX8_fit 31 = .ok (.aload_n 0, 1) := by decide +kernel
theorem dX8_fit_32 : decode cX8_fit 32 = .ok (.getfield 25, 3) := by decide +kernel
theorem dX8_fit_35 : decode cX8_fit 35 = .ok (.iload_n 1, 1) := by decide +kernel
theorem dX8_fit_36 : decode cX8_fit 36 = .ok (.invokevirtual 143, 3) := by decide +kernel
theorem dX8_fit_39 : decode cX8_fit 39 = .ok (.ifCond .eq 14, 3) := by decide +kernel
theorem dX8_fit_42 : decode cX8_fit 42 = .ok (.aload_n 0, 1) := by decide +kernel
theorem dX8_fit_43 : decode cX8_fit 43 = .ok (.getfield 25, 3) := by decide +kernel
theorem dX8_fit_46 : decode cX8_fit 46 = .ok (.iload_n 2, 1) := by decide +kernel
theorem dX8_fit_47 : decode cX8_fit 47 = .ok (.invokevirtual 143, 3) := by decide +kernel
theorem dX8_fit_50 : decode cX8_fit 50 = .ok (.ifCond .ne 7, 3) := by decide +kernel
theorem dX8_fit_53 : decode cX8_fit 53 = .ok (.sipush (-1003), 3) := by decide +kernel
theorem dX8_fit_56 : decode cX8_fit 56 = .ok (.ireturn, 1) := by decide +kernel
theorem dX8_fit_57 : decode cX8_fit 57 = .ok (.aload_n 0, 1) := by decide +kernel
theorem dX8_fit_58 : decode cX8_fit 58 = .ok (.getfield 34, 3) := by decide +kernel
theorem dX8_fit_61 : decode cX8_fit 61 = .ok (.iload_n 1, 1) := by decide +kernel
theorem dX8_fit_62 : decode cX8_fit 62 = .ok (.iload_n 2, 1) := by decide +kernel
theorem dX8_fit_63 : decode cX8_fit 63 = .ok (.invokevirtual 179, 3) := by decide +kernel
theorem dX8_fit_66 : decode cX8_fit 66 = .ok (.ireturn, 1) := by decide +kernel
set_option maxRecDepth 20000 in
theorem ok_46 {l : Launch} {d : Nat} (IH : ∀ μ, μ < 196 → px_Met l px_P d μ) : px_ok l px_P d RX8 cX8_fit 3 (some .int) tb_46 :=
  ⟨px_Sp.of (ps_aload_n dX8_fit_0 rfl),
   px_Sp.of (ps_get kc_X8 (by decide) wf_RX8_25 dX8_fit_1),
   px_Sp.of (ps_iload_n dX8_fit_4 rfl),
   ps_callV (IH 4 (by decide)) (C := RX1) (T := TX1) (N := 10) (ci := 1) rfl rfl (fc_4 _ _) wm_RX8_87 wi_yX1_has wl_yX1_has dX8_fit_5,
   px_Sp.of (ps_if_eq dX8_fit_8 (by decide)),
   px_Sp.of (ps_aload_n dX8_fit_11 rfl),
   px_Sp.of (ps_get kc_X8 (by decide) wf_RX8_25 dX8_fit_12),
   px_Sp.of (ps_iload_n dX8_fit_15 rfl),
   ps_callV (IH 4 (by decide)) (C := RX1) (T := TX1) (N := 10) (ci := 1) rfl rfl (fc_4 _ _) wm_RX8_87 wi_yX1_has wl_yX1_has dX8_fit_16,
   px_Sp.of (ps_if_ne dX8_fit_19 (by decide)),
   px_Sp.of (ps_sipush dX8_fit_22 (by decide)),
   ps_iret dX8_fit_25,
   px_Sp.of (ps_iload_n dX8_fit_26 rfl),
   px_Sp.of (ps_iload_n dX8_fit_27 rfl),
   px_Sp.of (ps_icmp_eq dX8_fit_28 (by decide)),
   px_Sp.of (ps_aload_n dX8_fit_31 rfl),
   px_Sp.of (ps_get kc_X8 (by decide) wf_RX8_25 dX8_fit_32),
   px_Sp.of (ps_iload_n dX8_fit_35 rfl),
   ps_callV (IH 21 (by decide)) (C := RX1) (T := TX1) (N := 10) (ci := 1) rfl rfl (fc_21 _ _) wm_RX8_143 wi_yX1_isSeen wl_yX1_isSeen dX8_fit_36,
   px_Sp.of (ps_if_eq dX8_fit_39 (by decide)),
   px_Sp.of (ps_aload_n dX8_fit_42 rfl),
   px_Sp.of (ps_get kc_X8 (by decide) wf_RX8_25 dX8_fit_43),
   px_Sp.of (ps_iload_n dX8_fit_46 rfl),
   ps_callV (IH 21 (by decide)) (C := RX1) (T := TX1) (N := 10) (ci := 1) rfl rfl (fc_21 _ _) wm_RX8_143 wi_yX1_isSeen wl_yX1_isSeen dX8_fit_47,
   px_Sp.of (ps_if_ne dX8_fit_50 (by decide)),
   px_Sp.of (ps_sipush dX8_fit_53 (by decide)),
   ps_iret dX8_fit_56,
   px_Sp.of (ps_aload_n dX8_fit_57 rfl),
   px_Sp.of (ps_get kc_X8 (by decide) wf_RX8_34 dX8_fit_58),
   px_Sp.of (ps_iload_n dX8_fit_61 rfl),
   px_Sp.of (ps_iload_n dX8_fit_62 rfl),
   ps_callV (IH 29 (by decide)) (C := RX0) (T := TX0) (N := 5) (ci := 0) rfl rfl (fc_29 _ _) wm_RX8_179 wi_yX0_of wl_yX0_of dX8_fit_63,
   ps_iret dX8_fit_66, trivial⟩
theorem mt_46 {l : Launch} {d : Nat} (IH : ∀ μ, μ < 196 → px_Met l px_P d μ) : px_Met l px_P (d + 1) 46 := px_met (own := RX8) rfl (by decide +kernel) (ok_46 IH)
theorem dX8_count_0 : decode cX8_count 0 = .ok (.iload_n 1, 1) := by decide +kernel
theorem dX8_count_1 : decode cX8_count 1 = .ok (.tableswitch 104 0 10 #[59, 67, 75, 104, 104, 104, 104, 104, 80, 88, 96], 59) := by decide +kernel
theorem dX8_count_60 : decode cX8_count 60 = .ok (.aload_n 0, 1) := by decide +kernel
theorem dX8_count_61 : decode cX8_count 61 = .ok (.getfield 25, 3) := by decide +kernel
theorem dX8_count_64 : decode cX8_count 64 = .ok (.getfield 97, 3) := by decide +kernel
theorem dX8_count_67 : decode cX8_count 67 = .ok (.ireturn, 1) := by decide +kernel
theorem dX8_count_68 : decode cX8_count 68 = .ok (.aload_n 0, 1) := by decide +kernel
theorem dX8_count_69 : decode cX8_count 69 = .ok (.getfield 25, 3) := by decide +kernel
theorem dX8_count_72 : decode cX8_count 72 = .ok (.invokevirtual 182, 3) := by decide +kernel
theorem dX8_count_75 : decode cX8_count 75 = .ok (.ireturn, 1) := by decide +kernel
theorem dX8_count_76 : decode cX8_count 76 = .ok (.aload_n 0, 1) := by decide +kernel
theorem dX8_count_77 : decode cX8_count 77 = .ok (.getfield 73, 3) := by decide +kernel
theorem dX8_count_80 : decode cX8_count 80 = .ok (.ireturn, 1) := by decide +kernel
theorem dX8_count_81 : decode cX8_count 81 = .ok (.aload_n 0, 1) := by decide +kernel
theorem dX8_count_82 : decode cX8_count 82 = .ok (.getfield 62, 3) := by decide +kernel
theorem dX8_count_85 : decode cX8_count 85 = .ok (.getfield 186, 3) := by decide +kernel
theorem dX8_count_88 : decode cX8_count 88 = .ok (.ireturn, 1) := by decide +kernel
theorem dX8_count_89 : decode cX8_count 89 = .ok (.aload_n 0, 1) := by decide +kernel
theorem dX8_count_90 : decode cX8_count 90 = .ok (.getfield 69, 3) := by decide +kernel
theorem dX8_count_93 : decode cX8_count 93 = .ok (.getfield 189, 3) := by decide +kernel
theorem dX8_count_96 : decode cX8_count 96 = .ok (.ireturn, 1) := by decide +kernel
theorem dX8_count_97 : decode cX8_count 97 = .ok (.aload_n 0, 1) := by decide +kernel
theorem dX8_count_98 : decode cX8_count 98 = .ok (.getfield 25, 3) := by decide +kernel
theorem dX8_count_101 : decode cX8_count 101 = .ok (.getfield 128, 3) := by decide +kernel
theorem dX8_count_104 : decode cX8_count 104 = .ok (.ireturn, 1) := by decide +kernel
theorem dX8_count_105 : decode cX8_count 105 = .ok (.iload_n 1, 1) := by decide +kernel
theorem dX8_count_106 : decode cX8_count 106 = .ok (.ifCond .lt 9, 3) := by decide +kernel
theorem dX8_count_109 : decode cX8_count 109 = .ok (.iload_n 1, 1) := by decide +kernel
theorem dX8_count_110 : decode cX8_count 110 = .ok (.bipush 10, 2) := by decide +kernel
theorem dX8_count_112 : decode cX8_count 112 = .ok (.if_icmp .le 7, 3) := by decide +kernel
theorem dX8_count_115 : decode cX8_count 115 = .ok (.sipush (-1002), 3) := by decide +kernel
theorem dX8_count_118 : decode cX8_count 118 = .ok (.ireturn, 1) := by decide +kernel
theorem dX8_count_119 : decode cX8_count 119 = .ok (.aload_n 0, 1) := by decide +kernel
theorem dX8_count_120 : decode cX8_count 120 = .ok (.getfield 43, 3) := by decide +kernel
theorem dX8_count_123 : decode cX8_count 123 = .ok (.iconst (-1), 1) := by decide +kernel
theorem dX8_count_124 : decode cX8_count 124 = .ok (.invokevirtual 146, 3) := by decide +kernel
theorem dX8_count_127 : decode cX8_count 127 = .ok (.aload_n 0, 1) := by decide +kernel
theorem dX8_count_128 : decode cX8_count 128 = .ok (.iload_n 1, 1) := by decide +kernel
theorem dX8_count_129 : decode cX8_count 129 = .ok (.invokevirtual 190, 3) := by decide +kernel
theorem dX8_count_132 : decode cX8_count 132 = .ok (.ireturn, 1) := by decide +kernel
set_option maxRecDepth 20000 in
theorem ok_47 {l : Launch} {d : Nat} (IH : ∀ μ, μ < 196 → px_Met l px_P d μ) : px_ok l px_P d RX8 cX8_count 2 (some .int) tb_47 :=
  ⟨px_Sp.of (ps_iload_n dX8_count_0 rfl),
   px_Sp.of (ps_tsw dX8_count_1 (by decide) (by decide)),
   px_Sp.of (ps_aload_n dX8_count_60 rfl),
   px_Sp.of (ps_get kc_X8 (by decide) wf_RX8_25 dX8_count_61),
   px_Sp.of (ps_get kc_X1 (by decide) wf_RX8_97 dX8_count_64),
   ps_iret dX8_count_67,
   px_Sp.of (ps_aload_n dX8_count_68 rfl),
   px_Sp.of (ps_get kc_X8 (by decide) wf_RX8_25 dX8_count_69),
   ps_callV (IH 48 (by decide)) (C := RX1) (T := TX1) (N := 10) (ci := 1) rfl rfl (fc_48 _ _) wm_RX8_182 wi_yX1_seenLetters wl_yX1_seenLetters dX8_count_72,
   ps_iret dX8_count_75,
   px_Sp.of (ps_aload_n dX8_count_76 rfl),
   px_Sp.of (ps_get kc_X8 (by decide) wf_RX8_73 dX8_count_77),
   ps_iret dX8_count_80,
   px_Sp.of (ps_aload_n dX8_count_81 rfl),
   px_Sp.of (ps_get kc_X8 (by decide) wf_RX8_62 dX8_count_82),
   px_Sp.of (ps_get kc_X4 (by decide) wf_RX8_186 dX8_count_85),
   ps_iret dX8_count_88,
   px_Sp.of (ps_aload_n dX8_count_89 rfl),
   px_Sp.of (ps_get kc_X8 (by decide) wf_RX8_69 dX8_count_90),
   px_Sp.of (ps_get kc_X6 (by decide) wf_RX8_189 dX8_count_93),
   ps_iret dX8_count_96,
   px_Sp.of (ps_aload_n dX8_count_97 rfl),
   px_Sp.of (ps_get kc_X8 (by decide) wf_RX8_25 dX8_count_98),
   px_Sp.of (ps_get kc_X1 (by decide) wf_RX8_128 dX8_count_101),
   ps_iret dX8_count_104,
   px_Sp.of (ps_iload_n dX8_count_105 rfl),
   px_Sp.of (ps_if_lt dX8_count_106 (by decide)),
   px_Sp.of (ps_iload_n dX8_count_109 rfl),
   px_Sp.of (ps_bipush dX8_count_110 (by decide)),
   px_Sp.of (ps_icmp_le dX8_count_112 (by decide)),
   px_Sp.of (ps_sipush dX8_count_115 (by decide)),
   ps_iret dX8_count_118,
   px_Sp.of (ps_aload_n dX8_count_119 rfl),
   px_Sp.of (ps_get kc_X8 (by decide) wf_RX8_43 dX8_count_120),
   px_Sp.of (ps_iconst dX8_count_123 (by decide)),
   ps_callV (IH 23 (by decide)) (C := RX2) (T := TX2) (N := 8) (ci := 2) rfl rfl (fc_23 _ _) wm_RX8_146 wi_yX2_refresh wl_yX2_refresh dX8_count_124,
   px_Sp.of (ps_aload_n dX8_count_127 rfl),
   px_Sp.of (ps_iload_n dX8_count_128 rfl),
   ps_callV (IH 49 (by decide)) (C := RX8) (T := TX8) (N := 10) (ci := 7) rfl rfl (fc_49 _ _) wm_RX8_190 wi_yX8_countFindings wl_yX8_countFindings dX8_count_129,
   ps_iret dX8_count_132, trivial⟩
theorem mt_47 {l : Launch} {d : Nat} (IH : ∀ μ, μ < 196 → px_Met l px_P d μ) : px_Met l px_P (d + 1) 47 := px_met (own := RX8) rfl (by decide +kernel) (ok_47 IH)
theorem dX1_seenLetters_0 : decode cX1_seenLetters 0 = .ok (.iconst 0, 1) := by decide +kernel
theorem dX1_seenLetters_1 : decode cX1_seenLetters 1 = .ok (.istore_n 1, 1) := by decide +kernel
theorem dX1_seenLetters_2 : decode cX1_seenLetters 2 = .ok (.iconst 0, 1) := by decide +kernel
theorem dX1_seenLetters_3 : decode cX1_seenLetters 3 = .ok (.istore_n 2, 1) := by decide +kernel
theorem dX1_seenLetters_4 : decode cX1_seenLetters 4 = .ok (.iload_n 2, 1) := by decide +kernel
theorem dX1_seenLetters_5 : decode cX1_seenLetters 5 = .ok (.aload_n 0, 1) := by decide +kernel
theorem dX1_seenLetters_6 : decode cX1_seenLetters 6 = .ok (.getfield 38, 3) := by decide +kernel
theorem dX1_seenLetters_9 : decode cX1_seenLetters 9 = .ok (.if_icmp .ge 20, 3) := by decide +kernel
theorem dX1_seenLetters_12 : decode cX1_seenLetters 12 = .ok (.aload_n 0, 1) := by decide +kernel
theorem dX1_seenLetters_13 : decode cX1_seenLetters 13 = .ok (.iload_n 2, 1) := by decide +kernel
theorem dX1_seenLetters_14 : decode cX1_seenLetters 14 = .ok (.invokevirtual 56, 3) := by decide +kernel
theorem dX1_seenLetters_17 : decode cX1_seenLetters 17 = .ok (.ifCond .eq 6, 3) := by decide +kernel
theorem dX1_seenLetters_20 : decode cX1_seenLetters 20 = .ok (.iinc 1 1, 3) := by decide +kernel
theorem dX1_seenLetters_23 : decode cX1_seenLetters 23 = .ok (.iinc 2 1, 3) := by decide +kernel
theorem dX1_seenLetters_26 : decode cX1_seenLetters 26 = .ok (.goto (-22), 3) := by decide +kernel
theorem dX1_seenLetters_29 : decode cX1_seenLetters 29 = .ok (.iload_n 1, 1) := by decide +kernel
theorem dX1_seenLetters_30 : decode cX1_seenLetters 30 = .ok (.ireturn, 1) := by decide +kernel
set_option maxRecDepth 20000 in
theorem ok_48 {l : Launch} {d : Nat} (IH : ∀ μ, μ < 196 → px_Met l px_P d μ) : px_ok l px_P d RX1 cX1_seenLetters 3 (some .int) tb_48 :=
  ⟨px_Sp.of (ps_iconst dX1_seenLetters_0 (by decide)),
   px_Sp.of (ps_istore_n dX1_seenLetters_1 rfl (by decide)),
   px_Sp.of (ps_iconst dX1_seenLetters_2 (by decide)),
   px_Sp.of (ps_istore_n dX1_seenLetters_3 rfl (by decide)),
   px_Sp.of (ps_iload_n dX1_seenLetters_4 rfl),
   px_Sp.of (ps_aload_n dX1_seenLetters_5 rfl),
   px_Sp.of (ps_get kc_X1 (by decide) wf_RX1_38 dX1_seenLetters_6),
   px_Sp.of (ps_icmp_ge dX1_seenLetters_9 (by decide)),
   px_Sp.of (ps_aload_n dX1_seenLetters_12 rfl),
   px_Sp.of (ps_iload_n dX1_seenLetters_13 rfl),
   ps_callV (IH 21 (by decide)) (C := RX1) (T := TX1) (N := 10) (ci := 1) rfl rfl (fc_21 _ _) wm_RX1_56 wi_yX1_isSeen wl_yX1_isSeen dX1_seenLetters_14,
   px_Sp.of (ps_if_eq dX1_seenLetters_17 (by decide)),
   px_Sp.of (ps_iinc dX1_seenLetters_20 (by decide) (by decide)),
   px_Sp.of (ps_iinc dX1_seenLetters_23 (by decide) (by decide)),
   px_Sp.of (ps_goto dX1_seenLetters_26 (by decide)),
   px_Sp.of (ps_iload_n dX1_seenLetters_29 rfl),
   ps_iret dX1_seenLetters_30, trivial⟩
theorem mt_48 {l : Launch} {d : Nat} (IH : ∀ μ, μ < 196 → px_Met l px_P d μ) : px_Met l px_P (d + 1) 48 := px_met (own := RX1) rfl (by decide +kernel) (ok_48 IH)
theorem dX8_countFindings_0 : decode cX8_countFindings 0 = .ok (.iload_n 1, 1) := by decide +kernel
theorem dX8_countFindings_1 : decode cX8_countFindings 1 = .ok (.tableswitch 71 3 6 #[31, 39, 47, 56], 31) := by decide +kernel
theorem dX8_countFindings_32 : decode cX8_countFindings 32 = .ok (.aload_n 0, 1) := by decide +kernel
theorem dX8_countFindings_33 : decode cX8_countFindings 33 = .ok (.getfield 43, 3) := by decide +kernel
theorem dX8_countFindings_36 : decode cX8_countFindings 36 = .ok (.invokevirtual 289, 3) := by decide +kernel
theorem dX8_countFindings_39 : decode cX8_countFindings 39 = .ok (.ireturn, 1) := by decide +kernel
theorem dX8_countFindings_40 : decode cX8_countFindings 40 = .ok (.aload_n 0, 1) := by decide +kernel
theorem dX8_countFindings_41 : decode cX8_countFindings 41 = .ok (.getfield 43, 3) := by decide +kernel
theorem dX8_countFindings_44 : decode cX8_countFindings 44 = .ok (.invokevirtual 292, 3) := by decide +kernel
theorem dX8_countFindings_47 : decode cX8_countFindings 47 = .ok (.ireturn, 1) := by decide +kernel
theorem dX8_countFindings_48 : decode cX8_countFindings 48 = .ok (.aload_n 0, 1) := by decide +kernel
theorem dX8_countFindings_49 : decode cX8_countFindings 49 = .ok (.getfield 43, 3) := by decide +kernel
theorem dX8_countFindings_52 : decode cX8_countFindings 52 = .ok (.iconst (-1), 1) := by decide +kernel
theorem dX8_countFindings_53 : decode cX8_countFindings 53 = .ok (.invokevirtual 200, 3) := by decide +kernel
theorem dX8_countFindings_56 : decode cX8_countFindings 56 = .ok (.ireturn, 1) := by decide +kernel
theorem dX8_countFindings_57 : decode cX8_countFindings 57 = .ok (.aload_n 0, 1) := by decide +kernel
theorem dX8_countFindings_58 : decode cX8_countFindings 58 = .ok (.getfield 55, 3) := by decide +kernel
theorem dX8_countFindings_61 : decode cX8_countFindings 61 = .ok (.invokevirtual 203, 3) := by decide +kernel
theorem dX8_countFindings_64 : decode cX8_countFindings 64 = .ok (.aload_n 0, 1) := by decide +kernel
theorem dX8_countFindings_65 : decode cX8_countFindings 65 = .ok (.getfield 55, 3) := by decide +kernel
theorem dX8_countFindings_68 : decode cX8_countFindings 68 = .ok (.getfield 295, 3) := by decide +kernel
theorem dX8_countFindings_71 : decode cX8_countFindings 71 = .ok (.ireturn, 1) := by decide +kernel
theorem dX8_countFindings_72 : decode cX8_countFindings 72 = .ok (.aload_n 0, 1) := by decide +kernel
theorem dX8_countFindings_73 : decode cX8_countFindings 73 = .ok (.getfield 43, 3) := by decide +kernel
theorem dX8_countFindings_76 : decode cX8_countFindings 76 = .ok (.invokevirtual 298, 3) := by decide +kernel
theorem dX8_countFindings_79 : decode cX8_countFindings 79 = .ok (.ireturn, 1) := by decide +kernel
set_option maxRecDepth 20000 in
theorem ok_49 {l : Launch} {d : Nat} (IH : ∀ μ, μ < 196 → px_Met l px_P d μ) : px_ok l px_P d RX8 cX8_countFindings 2 (some .int) tb_49 :=
  ⟨px_Sp.of (ps_iload_n dX8_countFindings_0 rfl),
   px_Sp.of (ps_tsw dX8_countFindings_1 (by decide) (by decide)),
   px_Sp.of (ps_aload_n dX8_countFindings_32 rfl),
   px_Sp.of (ps_get kc_X8 (by decide) wf_RX8_43 dX8_countFindings_33),
   ps_callV (IH 50 (by decide)) (C := RX2) (T := TX2) (N := 8) (ci := 2) rfl rfl (fc_50 _ _) wm_RX8_289 wi_yX2_roots wl_yX2_roots dX8_countFindings_36,
   ps_iret dX8_countFindings_39,
   px_Sp.of (ps_aload_n dX8_countFindings_40 rfl),
   px_Sp.of (ps_get kc_X8 (by decide) wf_RX8_43 dX8_countFindings_41),
   ps_callV (IH 51 (by decide)) (C := RX2) (T := TX2) (N := 8) (ci := 2) rfl rfl (fc_51 _ _) wm_RX8_292 wi_yX2_alteredLines wl_yX2_alteredLines dX8_countFindings_44,
   ps_iret dX8_countFindings_47,
   px_Sp.of (ps_aload_n dX8_countFindings_48 rfl),
   px_Sp.of (ps_get kc_X8 (by decide) wf_RX8_43 dX8_countFindings_49),
   px_Sp.of (ps_iconst dX8_countFindings_52 (by decide)),
   ps_callV (IH 53 (by decide)) (C := RX2) (T := TX2) (N := 8) (ci := 2) rfl rfl (fc_53 _ _) wm_RX8_200 wi_yX2_linesFrom wl_yX2_linesFrom dX8_countFindings_53,
   ps_iret dX8_countFindings_56,
   px_Sp.of (ps_aload_n dX8_countFindings_57 rfl),
   px_Sp.of (ps_get kc_X8 (by decide) wf_RX8_55 dX8_countFindings_58),
   ps_callV (IH 55 (by decide)) (C := RX3) (T := TX3) (N := 10) (ci := 3) rfl rfl (fc_55 _ _) wm_RX8_203 wi_yX3_refresh wl_yX3_refresh dX8_countFindings_61,
   px_Sp.of (ps_aload_n dX8_countFindings_64 rfl),
   px_Sp.of (ps_get kc_X8 (by decide) wf_RX8_55 dX8_countFindings_65),
   px_Sp.of (ps_get kc_X3 (by decide) wf_RX8_295 dX8_countFindings_68),
   ps_iret dX8_countFindings_71,
   px_Sp.of (ps_aload_n dX8_countFindings_72 rfl),
   px_Sp.of (ps_get kc_X8 (by decide) wf_RX8_43 dX8_countFindings_73),
   ps_callV (IH 61 (by decide)) (C := RX2) (T := TX2) (N := 8) (ci := 2) rfl rfl (fc_61 _ _) wm_RX8_298 wi_yX2_quarrels wl_yX2_quarrels dX8_countFindings_76,
   ps_iret dX8_countFindings_79, trivial⟩
theorem mt_49 {l : Launch} {d : Nat} (IH : ∀ μ, μ < 196 → px_Met l px_P d μ) : px_Met l px_P (d + 1) 49 := px_met (own := RX8) rfl (by decide +kernel) (ok_49 IH)
theorem dX2_roots_0 : decode cX2_roots 0 = .ok (.iconst 0, 1) := by decide +kernel
theorem dX2_roots_1 : decode cX2_roots 1 = .ok (.istore_n 1, 1) := by decide +kernel
theorem dX2_roots_2 : decode cX2_roots 2 = .ok (.iconst 0, 1) := by decide +kernel
theorem dX2_roots_3 : decode cX2_roots 3 = .ok (.istore_n 2, 1) := by decide +kernel
theorem dX2_roots_4 : decode cX2_roots 4 = .ok (.iload_n 2, 1) := by decide +kernel
theorem dX2_roots_5 : decode cX2_roots 5 = .ok (.aload_n 0, 1) := by decide +kernel
theorem dX2_roots_6 : decode cX2_roots 6 = .ok (.getfield 22, 3) := by decide +kernel
theorem dX2_roots_9 : decode cX2_roots 9 = .ok (.getfield 41, 3) := by decide +kernel
theorem dX2_roots_12 : decode cX2_roots 12 = .ok (.if_icmp .ge 30, 3) := by decide +kernel
theorem dX2_roots_15 : decode cX2_roots 15 = .ok (.aload_n 0, 1) := by decide +kernel
theorem dX2_roots_16 : decode cX2_roots 16 = .ok (.iload_n 2, 1) := by decide +kernel
theorem dX2_roots_17 : decode cX2_roots 17 = .ok (.invokevirtual 50, 3) := by decide +kernel
theorem dX2_roots_20 : decode cX2_roots 20 = .ok (.ifCond .eq 16, 3) := by decide +kernel
theorem dX2_roots_23 : decode cX2_roots 23 = .ok (.aload_n 0, 1) := by decide +kernel
theorem dX2_roots_24 : decode cX2_roots 24 = .ok (.getfield 9, 3) := by decide +kernel
theorem dX2_roots_27 : decode cX2_roots 27 = .ok (.iload_n 2, 1) := by decide +kernel
theorem dX2_roots_28 : decode cX2_roots 28 = .ok (.iaload, 1) := by decide +kernel
theorem dX2_roots_29 : decode cX2_roots 29 = .ok (.iconst (-1), 1) := by decide +kernel
theorem dX2_roots_30 : decode cX2_roots 30 = .ok (.if_icmp .ne 6, 3) := by decide +kernel
theorem dX2_roots_33 : decode cX2_roots 33 = .ok (.iinc 1 1, 3) := by decide +kernel
theorem dX2_roots_36 : decode cX2_roots 36 = .ok (.iinc 2 1, 3) := by decide +kernel
theorem dX2_roots_39 : decode cX2_roots 39 = .ok (.goto (-35), 3) := by decide +kernel
theorem dX2_roots_42 : decode cX2_roots 42 = .ok (.iload_n 1, 1) := by decide +kernel
theorem dX2_roots_43 : decode cX2_roots 43 = .ok (.ireturn, 1) := by decide +kernel
set_option maxRecDepth 20000 in
theorem ok_50 {l : Launch} {d : Nat} (IH : ∀ μ, μ < 196 → px_Met l px_P d μ) : px_ok l px_P d RX2 cX2_roots 3 (some .int) tb_50 :=
  ⟨px_Sp.of (ps_iconst dX2_roots_0 (by decide)),
   px_Sp.of (ps_istore_n dX2_roots_1 rfl (by decide)),
   px_Sp.of (ps_iconst dX2_roots_2 (by decide)),
   px_Sp.of (ps_istore_n dX2_roots_3 rfl (by decide)),
   px_Sp.of (ps_iload_n dX2_roots_4 rfl),
   px_Sp.of (ps_aload_n dX2_roots_5 rfl),
   px_Sp.of (ps_get kc_X2 (by decide) wf_RX2_22 dX2_roots_6),
   px_Sp.of (ps_get kc_X1 (by decide) wf_RX2_41 dX2_roots_9),
   px_Sp.of (ps_icmp_ge dX2_roots_12 (by decide)),
   px_Sp.of (ps_aload_n dX2_roots_15 rfl),
   px_Sp.of (ps_iload_n dX2_roots_16 rfl),
   ps_callV (IH 24 (by decide)) (C := RX2) (T := TX2) (N := 8) (ci := 2) rfl rfl (fc_24 _ _) wm_RX2_50 wi_yX2_isSeen wl_yX2_isSeen dX2_roots_17,
   px_Sp.of (ps_if_eq dX2_roots_20 (by decide)),
   px_Sp.of (ps_aload_n dX2_roots_23 rfl),
   px_Sp.of (ps_get kc_X2 (by decide) wf_RX2_9 dX2_roots_24),
   px_Sp.of (ps_iload_n dX2_roots_27 rfl),
   px_Sp.of (ps_iald dX2_roots_28),
   px_Sp.of (ps_iconst dX2_roots_29 (by decide)),
   px_Sp.of (ps_icmp_ne dX2_roots_30 (by decide)),
   px_Sp.of (ps_iinc dX2_roots_33 (by decide) (by decide)),
   px_Sp.of (ps_iinc dX2_roots_36 (by decide) (by decide)),
   px_Sp.of (ps_goto dX2_roots_39 (by decide)),
   px_Sp.of (ps_iload_n dX2_roots_42 rfl),
   ps_iret dX2_roots_43, trivial⟩
theorem mt_50 {l : Launch} {d : Nat} (IH : ∀ μ, μ < 196 → px_Met l px_P d μ) : px_Met l px_P (d + 1) 50 := px_met (own := RX2) rfl (by decide +kernel) (ok_50 IH)
theorem dX2_alteredLines_0 : decode cX2_alteredLines 0 = .ok (.iconst 0, 1) := by decide +kernel
theorem dX2_alteredLines_1 : decode cX2_alteredLines 1 = .ok (.istore_n 1, 1) := by decide +kernel
theorem dX2_alteredLines_2 : decode cX2_alteredLines 2 = .ok (.iconst 0, 1) := by decide +kernel
theorem dX2_alteredLines_3 : decode cX2_alteredLines 3 = .ok (.istore_n 2, 1) := by decide +kernel
theorem dX2_alteredLines_4 : decode cX2_alteredLines 4 = .ok (.iload_n 2, 1) := by decide +kernel
theorem dX2_alteredLines_5 : decode cX2_alteredLines 5 = .ok (.aload_n 0, 1) := by decide +kernel
theorem dX2_alteredLines_6 : decode cX2_alteredLines 6 = .ok (.getfield 22, 3) := by decide +kernel
theorem dX2_alteredLines_9 : decode cX2_alteredLines 9 = .ok (.getfield 41, 3) := by decide +kernel
theorem dX2_alteredLines_12 : decode cX2_alteredLines 12 = .ok (.if_icmp .ge 45, 3) := by decide +kernel
theorem dX2_alteredLines_15 : decode cX2_alteredLines 15 = .ok (.iconst 0, 1) := by decide +kernel
theorem dX2_alteredLines_16 : decode cX2_alteredLines 16 = .ok (.istore_n 3, 1) := by decide +kernel
theorem dX2_alteredLines_17 : decode cX2_alteredLines 17 = .ok (.iload_n 3, 1) := by decide +kernel
theorem dX2_alteredLines_18 : decode cX2_alteredLines 18 = .ok (.aload_n 0, 1) := by decide +kernel
theorem dX2_alteredLines_19 : decode cX2_alteredLines 19 = .ok (.getfield 22, 3) := by decide +kernel
theorem dX2_alteredLines_22 : decode cX2_alteredLines 22 = .ok (.getfield 89, 3) := by decide +kernel
theorem dX2_alteredLines_25 : decode cX2_alteredLines 25 = .ok (.iload_n 2, 1) := by decide +kernel
theorem dX2_alteredLines_26 : decode cX2_alteredLines 26 = .ok (.iaload, 1) := by decide +kernel
theorem dX2_alteredLines_27 : decode cX2_alteredLines 27 = .ok (.if_icmp .ge 24, 3) := by decide +kernel
theorem dX2_alteredLines_30 : decode cX2_alteredLines 30 = .ok (.aload_n 0, 1) := by decide +kernel
theorem dX2_alteredLines_31 : decode cX2_alteredLines 31 = .ok (.iload_n 2, 1) := by decide +kernel
theorem dX2_alteredLines_32 : decode cX2_alteredLines 32 = .ok (.iload_n 3, 1) := by decide +kernel
theorem dX2_alteredLines_33 : decode cX2_alteredLines 33 = .ok (.invokestatic 92, 3) := by decide +kernel
theorem dX2_alteredLines_36 : decode cX2_alteredLines 36 = .ok (.invokevirtual 111, 3) := by decide +kernel
theorem dX2_alteredLines_39 : decode cX2_alteredLines 39 = .ok (.ifCond .eq 6, 3) := by decide +kernel
theorem dX2_alteredLines_42 : decode cX2_alteredLines 42 = .ok (.iinc 1 1, 3) := by decide +kernel
theorem dX2_alteredLines_45 : decode cX2_alteredLines 45 = .ok (.iinc 3 1, 3) := by decide +kernel
theorem dX2_alteredLines_48 : decode cX2_alteredLines 48 = .ok (.goto (-31), 3) := by decide +kernel
theorem dX2_alteredLines_51 : decode cX2_alteredLines 51 = .ok (.iinc 2 1, 3) := by decide +kernel
theorem dX2_alteredLines_54 : decode cX2_alteredLines 54 = .ok (.goto (-50), 3) := by decide +kernel
theorem dX2_alteredLines_57 : decode cX2_alteredLines 57 = .ok (.iload_n 1, 1) := by decide +kernel
theorem dX2_alteredLines_58 : decode cX2_alteredLines 58 = .ok (.ireturn, 1) := by decide +kernel
set_option maxRecDepth 20000 in
theorem ok_51 {l : Launch} {d : Nat} (IH : ∀ μ, μ < 196 → px_Met l px_P d μ) : px_ok l px_P d RX2 cX2_alteredLines 4 (some .int) tb_51 :=
  ⟨px_Sp.of (ps_iconst dX2_alteredLines_0 (by decide)),
   px_Sp.of (ps_istore_n dX2_alteredLines_1 rfl (by decide)),
   px_Sp.of (ps_iconst dX2_alteredLines_2 (by decide)),
   px_Sp.of (ps_istore_n dX2_alteredLines_3 rfl (by decide)),
   px_Sp.of (ps_iload_n dX2_alteredLines_4 rfl),
   px_Sp.of (ps_aload_n dX2_alteredLines_5 rfl),
   px_Sp.of (ps_get kc_X2 (by decide) wf_RX2_22 dX2_alteredLines_6),
   px_Sp.of (ps_get kc_X1 (by decide) wf_RX2_41 dX2_alteredLines_9),
   px_Sp.of (ps_icmp_ge dX2_alteredLines_12 (by decide)),
   px_Sp.of (ps_iconst dX2_alteredLines_15 (by decide)),
   px_Sp.of (ps_istore_n dX2_alteredLines_16 rfl (by decide)),
   px_Sp.of (ps_iload_n dX2_alteredLines_17 rfl),
   px_Sp.of (ps_aload_n dX2_alteredLines_18 rfl),
   px_Sp.of (ps_get kc_X2 (by decide) wf_RX2_22 dX2_alteredLines_19),
   px_Sp.of (ps_get kc_X1 (by decide) wf_RX2_89 dX2_alteredLines_22),
   px_Sp.of (ps_iload_n dX2_alteredLines_25 rfl),
   px_Sp.of (ps_iald dX2_alteredLines_26),
   px_Sp.of (ps_icmp_ge dX2_alteredLines_27 (by decide)),
   px_Sp.of (ps_aload_n dX2_alteredLines_30 rfl),
   px_Sp.of (ps_iload_n dX2_alteredLines_31 rfl),
   px_Sp.of (ps_iload_n dX2_alteredLines_32 rfl),
   ps_callSN (IH 11 (by decide)) (fc_11 _ _) (fun _ _ _ _ h => h.1.2.2.1) ws_yX8_spotOf dX2_alteredLines_33,
   ps_callV (IH 52 (by decide)) (C := RX2) (T := TX2) (N := 8) (ci := 2) rfl rfl (fc_52 _ _) wm_RX2_111 wi_yX2_isAltered wl_yX2_isAltered dX2_alteredLines_36,
   px_Sp.of (ps_if_eq dX2_alteredLines_39 (by decide)),
   px_Sp.of (ps_iinc dX2_alteredLines_42 (by decide) (by decide)),
   px_Sp.of (ps_iinc dX2_alteredLines_45 (by decide) (by decide)),
   px_Sp.of (ps_goto dX2_alteredLines_48 (by decide)),
   px_Sp.of (ps_iinc dX2_alteredLines_51 (by decide) (by decide)),
   px_Sp.of (ps_goto dX2_alteredLines_54 (by decide)),
   px_Sp.of (ps_iload_n dX2_alteredLines_57 rfl),
   ps_iret dX2_alteredLines_58, trivial⟩
theorem mt_51 {l : Launch} {d : Nat} (IH : ∀ μ, μ < 196 → px_Met l px_P d μ) : px_Met l px_P (d + 1) 51 := px_met (own := RX2) rfl (by decide +kernel) (ok_51 IH)
theorem dX2_isAltered_0 : decode cX2_isAltered 0 = .ok (.aload_n 0, 1) := by decide +kernel
theorem dX2_isAltered_1 : decode cX2_isAltered 1 = .ok (.getfield 15, 3) := by decide +kernel
theorem dX2_isAltered_4 : decode cX2_isAltered 4 = .ok (.iload_n 1, 1) := by decide +kernel
theorem dX2_isAltered_5 : decode cX2_isAltered 5 = .ok (.iaload, 1) := by decide +kernel
theorem dX2_isAltered_6 : decode cX2_isAltered 6 = .ok (.iconst (-1), 1) := by decide +kernel
theorem dX2_isAltered_7 : decode cX2_isAltered 7 = .ok (.if_icmp .eq 34, 3) := by decide +kernel
theorem dX2_isAltered_10 : decode cX2_isAltered 10 = .ok (.aload_n 0, 1) := by decide +kernel
theorem dX2_isAltered_11 : decode cX2_isAltered 11 = .ok (.getfield 22, 3) := by decide +kernel
theorem dX2_isAltered_14 : decode cX2_isAltered 14 = .ok (.getfield 101, 3) := by decide +kernel
theorem dX2_isAltered_17 : decode cX2_isAltered 17 = .ok (.aload_n 0, 1) := by decide +kernel
theorem dX2_isAltered_18 : decode cX2_isAltered 18 = .ok (.getfield 15, 3) := by decide +kernel
theorem dX2_isAltered_21 : decode cX2_isAltered 21 = .ok (.iload_n 1, 1) := by decide +kernel
theorem dX2_isAltered_22 : decode cX2_isAltered 22 = .ok (.iaload, 1) := by decide +kernel
theorem dX2_isAltered_23 : decode cX2_isAltered 23 = .ok (.laload, 1) := by decide +kernel
theorem dX2_isAltered_24 : decode cX2_isAltered 24 = .ok (.aload_n 0, 1) := by decide +kernel
theorem dX2_isAltered_25 : decode cX2_isAltered 25 = .ok (.getfield 22, 3) := by decide +kernel
theorem dX2_isAltered_28 : decode cX2_isAltered 28 = .ok (.getfield 101, 3) := by decide +kernel
theorem dX2_isAltered_31 : decode cX2_isAltered 31 = .ok (.iload_n 1, 1) := by decide +kernel
theorem dX2_isAltered_32 : decode cX2_isAltered 32 = .ok (.laload, 1) := by decide +kernel
theorem dX2_isAltered_33 : decode cX2_isAltered 33 = .ok (.lcmp, 1) := by decide +kernel
theorem dX2_isAltered_34 : decode cX2_isAltered 34 = .ok (.ifCond .eq 7, 3) := by decide +kernel
theorem dX2_isAltered_37 : decode cX2_isAltered 37 = .ok (.iconst 1, 1) := by decide +kernel
theorem dX2_isAltered_38 : decode cX2_isAltered 38 = .ok (.goto 4, 3) := by decide +kernel
theorem dX2_isAltered_41 : decode cX2_isAltered 41 = .ok (.iconst 0, 1) := by decide +kernel
theorem dX2_isAltered_42 : decode cX2_isAltered 42 = .ok (.ireturn, 1) := by decide +kernel
set_option maxRecDepth 20000 in
theorem ok_52 {l : Launch} {d : Nat} (IH : ∀ μ, μ < 196 → px_Met l px_P d μ) : px_ok l px_P d RX2 cX2_isAltered 2 (some .boolean) tb_52 :=
  ⟨px_Sp.of (ps_aload_n dX2_isAltered_0 rfl),
   px_Sp.of (ps_get kc_X2 (by decide) wf_RX2_15 dX2_isAltered_1),
   px_Sp.of (ps_iload_n dX2_isAltered_4 rfl),
   px_Sp.of (ps_iald dX2_isAltered_5),
   px_Sp.of (ps_iconst dX2_isAltered_6 (by decide)),
   px_Sp.of (ps_icmp_eq dX2_isAltered_7 (by decide)),
   px_Sp.of (ps_aload_n dX2_isAltered_10 rfl),
   px_Sp.of (ps_get kc_X2 (by decide) wf_RX2_22 dX2_isAltered_11),
   px_Sp.of (ps_get kc_X1 (by decide) wf_RX2_101 dX2_isAltered_14),
   px_Sp.of (ps_aload_n dX2_isAltered_17 rfl),
   px_Sp.of (ps_get kc_X2 (by decide) wf_RX2_15 dX2_isAltered_18),
   px_Sp.of (ps_iload_n dX2_isAltered_21 rfl),
   px_Sp.of (ps_iald dX2_isAltered_22),
   px_Sp.of (ps_lald dX2_isAltered_23),
   px_Sp.of (ps_aload_n dX2_isAltered_24 rfl),
   px_Sp.of (ps_get kc_X2 (by decide) wf_RX2_22 dX2_isAltered_25),
   px_Sp.of (ps_get kc_X1 (by decide) wf_RX2_101 dX2_isAltered_28),
   px_Sp.of (ps_iload_n dX2_isAltered_31 rfl),
   px_Sp.of (ps_lald dX2_isAltered_32),
   px_Sp.of (ps_lcmp dX2_isAltered_33),
   px_Sp.of (ps_if_eq dX2_isAltered_34 (by decide)),
   px_Sp.of (ps_iconst dX2_isAltered_37 (by decide)),
   px_Sp.of (ps_goto dX2_isAltered_38 (by decide)),
   px_Sp.of (ps_iconst dX2_isAltered_41 (by decide)),
   ps_zret dX2_isAltered_42, trivial⟩
theorem mt_52 {l : Launch} {d : Nat} (IH : ∀ μ, μ < 196 → px_Met l px_P d μ) : px_Met l px_P (d + 1) 52 := px_met (own := RX2) rfl (by decide +kernel) (ok_52 IH)
theorem dX2_linesFrom_0 : decode cX2_linesFrom 0 = .ok (.iconst 0, 1) := by decide +kernel
theorem dX2_linesFrom_1 : decode cX2_linesFrom 1 = .ok (.istore_n 2, 1) := by decide +kernel
theorem dX2_linesFrom_2 : decode cX2_linesFrom 2 = .ok (.iconst 0, 1) := by decide +kernel
theorem dX2_linesFrom_3 : decode cX2_linesFrom 3 = .ok (.istore_n 3, 1) := by decide +kernel
theorem dX2_linesFrom_4 : decode cX2_linesFrom 4 = .ok (.iload_n 3, 1) := by decide +kernel
theorem dX2_linesFrom_5 : decode cX2_linesFrom 5 = .ok (.aload_n 0, 1) := by decide +kernel
theorem dX2_linesFrom_6 : decode cX2_linesFrom 6 = .ok (.getfield 22, 3) := by decide +kernel
theorem dX2_linesFrom_9 : decode cX2_linesFrom 9 = .ok (.getfield 41, 3) := by decide +kernel
theorem dX2_linesFrom_12 : decode cX2_linesFrom 12 = .ok (.if_icmp .ge 57, 3) := by decide +kernel
theorem dX2_linesFrom_15 : decode cX2_linesFrom 15 = .ok (.iconst 0, 1) := by decide +kernel
theorem dX2_linesFrom_16 : decode cX2_linesFrom 16 = .ok (.istore 4, 2) := by decide +kernel
theorem dX2_linesFrom_18 : decode cX2_linesFrom 18 = .ok (.aload_n 0, 1) := by decide +kernel
theorem dX2_linesFrom_19 : decode cX2_linesFrom 19 = .ok (.iload_n 3, 1) := by decide +kernel
theorem dX2_linesFrom_20 : decode cX2_linesFrom 20 = .ok (.invokevirtual 50, 3) := by decide +kernel
theorem dX2_linesFrom_23 : decode cX2_linesFrom 23 = .ok (.ifCond .eq 40, 3) := by decide +kernel
theorem dX2_linesFrom_26 : decode cX2_linesFrom 26 = .ok (.iload 4, 2) := by decide +kernel
theorem dX2_linesFrom_28 : decode cX2_linesFrom 28 = .ok (.aload_n 0, 1) := by decide +kernel
theorem dX2_linesFrom_29 : decode cX2_linesFrom 29 = .ok (.getfield 22, 3) := by decide +kernel
theorem dX2_linesFrom_32 : decode cX2_linesFrom 32 = .ok (.getfield 89, 3) := by decide +kernel
theorem dX2_linesFrom_35 : decode cX2_linesFrom 35 = .ok (.iload_n 3, 1) := by decide +kernel
theorem dX2_linesFrom_36 : decode cX2_linesFrom 36 = .ok (.iaload, 1) := by decide +kernel
theorem dX2_linesFrom_37 : decode cX2_linesFrom 37 = .ok (.if_icmp .ge 26, 3) := by decide +kernel
theorem dX2_linesFrom_40 : decode cX2_linesFrom 40 = .ok (.aload_n 0, 1) := by decide +kernel
theorem dX2_linesFrom_41 : decode cX2_linesFrom 41 = .ok (.iload_n 3, 1) := by decide +kernel
theorem dX2_linesFrom_42 : decode cX2_linesFrom 42 = .ok (.iload 4, 2) := by decide +kernel
theorem dX2_linesFrom_44 : decode cX2_linesFrom 44 = .ok (.invokestatic 92, 3) := by decide +kernel
theorem dX2_linesFrom_47 : decode cX2_linesFrom 47 = .ok (.invokevirtual 114, 3) := by decide +kernel
theorem dX2_linesFrom_50 : decode cX2_linesFrom 50 = .ok (.iload_n 1, 1) := by decide +kernel
theorem dX2_linesFrom_51 : decode cX2_linesFrom 51 = .ok (.if_icmp .ne 6, 3) := by decide +kernel
theorem dX2_linesFrom_54 : decode cX2_linesFrom 54 = .ok (.iinc 2 1, 3) := by decide +kernel
theorem dX2_linesFrom_57 : decode cX2_linesFrom 57 = .ok (.iinc 4 1, 3) := by decide +kernel
theorem dX2_linesFrom_60 : decode cX2_linesFrom 60 = .ok (.goto (-42), 3) := by decide +kernel
theorem dX2_linesFrom_63 : decode cX2_linesFrom 63 = .ok (.iinc 3 1, 3) := by decide +kernel
theorem dX2_linesFrom_66 : decode cX2_linesFrom 66 = .ok (.goto (-62), 3) := by decide +kernel
theorem dX2_linesFrom_69 : decode cX2_linesFrom 69 = .ok (.iload_n 2, 1) := by decide +kernel
theorem dX2_linesFrom_70 : decode cX2_linesFrom 70 = .ok (.ireturn, 1) := by decide +kernel
set_option maxRecDepth 20000 in
theorem ok_53 {l : Launch} {d : Nat} (IH : ∀ μ, μ < 196 → px_Met l px_P d μ) : px_ok l px_P d RX2 cX2_linesFrom 5 (some .int) tb_53 :=
  ⟨px_Sp.of (ps_iconst dX2_linesFrom_0 (by decide)),
   px_Sp.of (ps_istore_n dX2_linesFrom_1 rfl (by decide)),
   px_Sp.of (ps_iconst dX2_linesFrom_2 (by decide)),
   px_Sp.of (ps_istore_n dX2_linesFrom_3 rfl (by decide)),
   px_Sp.of (ps_iload_n dX2_linesFrom_4 rfl),
   px_Sp.of (ps_aload_n dX2_linesFrom_5 rfl),
   px_Sp.of (ps_get kc_X2 (by decide) wf_RX2_22 dX2_linesFrom_6),
   px_Sp.of (ps_get kc_X1 (by decide) wf_RX2_41 dX2_linesFrom_9),
   px_Sp.of (ps_icmp_ge dX2_linesFrom_12 (by decide)),
   px_Sp.of (ps_iconst dX2_linesFrom_15 (by decide)),
   px_Sp.of (ps_istore dX2_linesFrom_16 (by decide)),
   px_Sp.of (ps_aload_n dX2_linesFrom_18 rfl),
   px_Sp.of (ps_iload_n dX2_linesFrom_19 rfl),
   ps_callV (IH 24 (by decide)) (C := RX2) (T := TX2) (N := 8) (ci := 2) rfl rfl (fc_24 _ _) wm_RX2_50 wi_yX2_isSeen wl_yX2_isSeen dX2_linesFrom_20,
   px_Sp.of (ps_if_eq dX2_linesFrom_23 (by decide)),
   px_Sp.of (ps_iload dX2_linesFrom_26),
   px_Sp.of (ps_aload_n dX2_linesFrom_28 rfl),
   px_Sp.of (ps_get kc_X2 (by decide) wf_RX2_22 dX2_linesFrom_29),
   px_Sp.of (ps_get kc_X1 (by decide) wf_RX2_89 dX2_linesFrom_32),
   px_Sp.of (ps_iload_n dX2_linesFrom_35 rfl),
   px_Sp.of (ps_iald dX2_linesFrom_36),
   px_Sp.of (ps_icmp_ge dX2_linesFrom_37 (by decide)),
   px_Sp.of (ps_aload_n dX2_linesFrom_40 rfl),
   px_Sp.of (ps_iload_n dX2_linesFrom_41 rfl),
   px_Sp.of (ps_iload dX2_linesFrom_42),
   ps_callSN (IH 11 (by decide)) (fc_11 _ _) (fun _ _ _ _ h => h.1.2.2.1) ws_yX8_spotOf dX2_linesFrom_44,
   ps_callV (IH 54 (by decide)) (C := RX2) (T := TX2) (N := 8) (ci := 2) rfl rfl (fc_54 _ _) wm_RX2_114 wi_yX2_sourceOf wl_yX2_sourceOf dX2_linesFrom_47,
   px_Sp.of (ps_iload_n dX2_linesFrom_50 rfl),
   px_Sp.of (ps_icmp_ne dX2_linesFrom_51 (by decide)),
   px_Sp.of (ps_iinc dX2_linesFrom_54 (by decide) (by decide)),
   px_Sp.of (ps_iinc dX2_linesFrom_57 (by decide) (by decide)),
   px_Sp.of (ps_goto dX2_linesFrom_60 (by decide)),
   px_Sp.of (ps_iinc dX2_linesFrom_63 (by decide) (by decide)),
   px_Sp.of (ps_goto dX2_linesFrom_66 (by decide)),
   px_Sp.of (ps_iload_n dX2_linesFrom_69 rfl),
   ps_iret dX2_linesFrom_70, trivial⟩
theorem mt_53 {l : Launch} {d : Nat} (IH : ∀ μ, μ < 196 → px_Met l px_P d μ) : px_Met l px_P (d + 1) 53 := px_met (own := RX2) rfl (by decide +kernel) (ok_53 IH)
theorem dX2_sourceOf_0 : decode cX2_sourceOf 0 = .ok (.iload_n 1, 1) := by decide +kernel
theorem dX2_sourceOf_1 : decode cX2_sourceOf 1 = .ok (.istore_n 2, 1) := by decide +kernel
theorem dX2_sourceOf_2 : decode cX2_sourceOf 2 = .ok (.iconst 0, 1) := by decide +kernel
theorem dX2_sourceOf_3 : decode cX2_sourceOf 3 = .ok (.istore_n 3, 1) := by decide +kernel
theorem dX2_sourceOf_4 : decode cX2_sourceOf 4 = .ok (.iload_n 3, 1) := by decide +kernel
theorem dX2_sourceOf_5 : decode cX2_sourceOf 5 = .ok (.iconst 5, 1) := by decide +kernel
theorem dX2_sourceOf_6 : decode cX2_sourceOf 6 = .ok (.if_icmp .gt 35, 3) := by decide +kernel
theorem dX2_sourceOf_9 : decode cX2_sourceOf 9 = .ok (.iload_n 2, 1) := by decide +kernel
theorem dX2_sourceOf_10 : decode cX2_sourceOf 10 = .ok (.iconst (-1), 1) := by decide +kernel
theorem dX2_sourceOf_11 : decode cX2_sourceOf 11 = .ok (.if_icmp .eq 30, 3) := by decide +kernel
theorem dX2_sourceOf_14 : decode cX2_sourceOf 14 = .ok (.aload_n 0, 1) := by decide +kernel
theorem dX2_sourceOf_15 : decode cX2_sourceOf 15 = .ok (.getfield 22, 3) := by decide +kernel
theorem dX2_sourceOf_18 : decode cX2_sourceOf 18 = .ok (.getfield 95, 3) := by decide +kernel
theorem dX2_sourceOf_21 : decode cX2_sourceOf 21 = .ok (.iload_n 2, 1) := by decide +kernel
theorem dX2_sourceOf_22 : decode cX2_sourceOf 22 = .ok (.iaload, 1) := by decide +kernel
theorem dX2_sourceOf_23 : decode cX2_sourceOf 23 = .ok (.ifCond .ne 5, 3) := by decide +kernel
theorem dX2_sourceOf_26 : decode cX2_sourceOf 26 = .ok (.iload_n 2, 1) := by decide +kernel
theorem dX2_sourceOf_27 : decode cX2_sourceOf 27 = .ok (.ireturn, 1) := by decide +kernel
theorem dX2_sourceOf_28 : decode cX2_sourceOf 28 = .ok (.aload_n 0, 1) := by decide +kernel
theorem dX2_sourceOf_29 : decode cX2_sourceOf 29 = .ok (.getfield 15, 3) := by decide +kernel
theorem dX2_sourceOf_32 : decode cX2_sourceOf 32 = .ok (.iload_n 2, 1) := by decide +kernel
theorem dX2_sourceOf_33 : decode cX2_sourceOf 33 = .ok (.iaload, 1) := by decide +kernel
theorem dX2_sourceOf_34 : decode cX2_sourceOf 34 = .ok (.istore_n 2, 1) := by decide +kernel
theorem dX2_sourceOf_35 : decode cX2_sourceOf 35 = .ok (.iinc 3 1, 3) := by decide +kernel
theorem dX2_sourceOf_38 : decode cX2_sourceOf 38 = .ok (.goto (-34), 3) := by decide +kernel
theorem dX2_sourceOf_41 : decode cX2_sourceOf 41 = .ok (.iconst (-1), 1) := by decide +kernel
theorem dX2_sourceOf_42 : decode cX2_sourceOf 42 = .ok (.ireturn, 1) := by decide +kernel
set_option maxRecDepth 20000 in
theorem ok_54 {l : Launch} {d : Nat} (IH : ∀ μ, μ < 196 → px_Met l px_P d μ) : px_ok l px_P d RX2 cX2_sourceOf 4 (some .int) tb_54 :=
  ⟨px_Sp.of (ps_iload_n dX2_sourceOf_0 rfl),
   px_Sp.of (ps_istore_n dX2_sourceOf_1 rfl (by decide)),
   px_Sp.of (ps_iconst dX2_sourceOf_2 (by decide)),
   px_Sp.of (ps_istore_n dX2_sourceOf_3 rfl (by decide)),
   px_Sp.of (ps_iload_n dX2_sourceOf_4 rfl),
   px_Sp.of (ps_iconst dX2_sourceOf_5 (by decide)),
   px_Sp.of (ps_icmp_gt dX2_sourceOf_6 (by decide)),
   px_Sp.of (ps_iload_n dX2_sourceOf_9 rfl),
   px_Sp.of (ps_iconst dX2_sourceOf_10 (by decide)),
   px_Sp.of (ps_icmp_eq dX2_sourceOf_11 (by decide)),
   px_Sp.of (ps_aload_n dX2_sourceOf_14 rfl),
   px_Sp.of (ps_get kc_X2 (by decide) wf_RX2_22 dX2_sourceOf_15),
   px_Sp.of (ps_get kc_X1 (by decide) wf_RX2_95 dX2_sourceOf_18),
   px_Sp.of (ps_iload_n dX2_sourceOf_21 rfl),
   px_Sp.of (ps_iald dX2_sourceOf_22),
   px_Sp.of (ps_if_ne dX2_sourceOf_23 (by decide)),
   px_Sp.of (ps_iload_n dX2_sourceOf_26 rfl),
   ps_iret dX2_sourceOf_27,
   px_Sp.of (ps_aload_n dX2_sourceOf_28 rfl),
   px_Sp.of (ps_get kc_X2 (by decide) wf_RX2_15 dX2_sourceOf_29),
   px_Sp.of (ps_iload_n dX2_sourceOf_32 rfl),
   px_Sp.of (ps_iald dX2_sourceOf_33),
   px_Sp.of (ps_istore_n dX2_sourceOf_34 rfl (by decide)),
   px_Sp.of (ps_iinc dX2_sourceOf_35 (by decide) (by decide)),
   px_Sp.of (ps_goto dX2_sourceOf_38 (by decide)),
   px_Sp.of (ps_iconst dX2_sourceOf_41 (by decide)),
   ps_iret dX2_sourceOf_42, trivial⟩
theorem mt_54 {l : Launch} {d : Nat} (IH : ∀ μ, μ < 196 → px_Met l px_P d μ) : px_Met l px_P (d + 1) 54 := px_met (own := RX2) rfl (by decide +kernel) (ok_54 IH)
theorem dX3_refresh_0 : decode cX3_refresh 0 = .ok (.aload_n 0, 1) := by decide +kernel
theorem dX3_refresh_1 : decode cX3_refresh 1 = .ok (.getfield 46, 3) := by decide +kernel
theorem dX3_refresh_4 : decode cX3_refresh 4 = .ok (.ifCond .eq 4, 3) := by decide +kernel
theorem dX3_refresh_7 : decode cX3_refresh 7 = .ok (.return_, 1) := by decide +kernel
theorem dX3_refresh_8 : decode cX3_refresh 8 = .ok (.aload_n 0, 1) := by decide +kernel
theorem dX3_refresh_9 : decode cX3_refresh 9 = .ok (.iconst 0, 1) := by decide +kernel
theorem dX3_refresh_10 : decode cX3_refresh 10 = .ok (.putfield 43, 3) := by decide +kernel
theorem dX3_refresh_13 : decode cX3_refresh 13 = .ok (.aload_n 0, 1) := by decide +kernel
theorem dX3_refresh_14 : decode cX3_refresh 14 = .ok (.iconst (-1), 1) := by decide +kernel
theorem dX3_refresh_15 : decode cX3_refresh 15 = .ok (.putfield 31, 3) := by decide +kernel
theorem dX3_refresh_18 : decode cX3_refresh 18 = .ok (.aload_n 0, 1) := by decide +kernel
theorem dX3_refresh_19 : decode cX3_refresh 19 = .ok (.getfield 18, 3) := by decide +kernel
theorem dX3_refresh_22 : decode cX3_refresh 22 = .ok (.iconst (-1), 1) := by decide +kernel
theorem dX3_refresh_23 : decode cX3_refresh 23 = .ok (.invokestatic 50, 3) := by decide +kernel
theorem dX3_refresh_26 : decode cX3_refresh 26 = .ok (.iconst 0, 1) := by decide +kernel
theorem dX3_refresh_27 : decode cX3_refresh 27 = .ok (.istore_n 1, 1) := by decide +kernel
theorem dX3_refresh_28 : decode cX3_refresh 28 = .ok (.iload_n 1, 1) := by decide +kernel
theorem dX3_refresh_29 : decode cX3_refresh 29 = .ok (.aload_n 0, 1) := by decide +kernel
theorem dX3_refresh_30 : decode cX3_refresh 30 = .ok (.getfield 35, 3) := by decide +kernel
theorem dX3_refresh_33 : decode cX3_refresh 33 = .ok (.getfield 56, 3) := by decide +kernel
theorem dX3_refresh_36 : decode cX3_refresh 36 = .ok (.if_icmp .ge 65, 3) := by decide +kernel
theorem dX3_refresh_39 : decode cX3_refresh 39 = .ok (.aload_n 0, 1) := by decide +kernel
theorem dX3_refresh_40 : decode cX3_refresh 40 = .ok (.getfield 18, 3) := by decide +kernel
theorem dX3_refresh_43 : decode cX3_refresh 43 = .ok (.iload_n 1, 1) := by decide +kernel
theorem dX3_refresh_44 : decode cX3_refresh 44 = .ok (.iaload, 1) := by decide +kernel
theorem dX3_refresh_45 : decode cX3_refresh 45 = .ok (.iconst (-1), 1) := by decide +kernel
theorem dX3_refresh_46 : decode cX3_refresh 46 = .ok (.if_icmp .ne 49, 3) := by decide +kernel
theorem dX3_refresh_49 : decode cX3_refresh 49 = .ok (.aload_n 0, 1) := by decide +kernel
theorem dX3_refresh_50 : decode cX3_refresh 50 = .ok (.iload_n 1, 1) := by decide +kernel
theorem dX3_refresh_51 : decode cX3_refresh 51 = .ok (.invokevirtual 61, 3) := by decide +kernel
theorem dX3_refresh_54 : decode cX3_refresh 54 = .ok (.ifCond .eq 41, 3) := by decide +kernel
theorem dX3_refresh_57 : decode cX3_refresh 57 = .ok (.aload_n 0, 1) := by decide +kernel
theorem dX3_refresh_58 : decode cX3_refresh 58 = .ok (.getfield 25, 3) := by decide +kernel
theorem dX3_refresh_61 : decode cX3_refresh 61 = .ok (.aload_n 0, 1) := by decide +kernel
theorem dX3_refresh_62 : decode cX3_refresh 62 = .ok (.getfield 43, 3) := by decide +kernel
theorem dX3_refresh_65 : decode cX3_refresh 65 = .ok (.iload_n 1, 1) := by decide +kernel
theorem dX3_refresh_66 : decode cX3_refresh 66 = .ok (.iastore, 1) := by decide +kernel
theorem dX3_refresh_67 : decode cX3_refresh 67 = .ok (.aload_n 0, 1) := by decide +kernel
theorem dX3_refresh_68 : decode cX3_refresh 68 = .ok (.getfield 22, 3) := by decide +kernel
theorem dX3_refresh_71 : decode cX3_refresh 71 = .ok (.aload_n 0, 1) := by decide +kernel
theorem dX3_refresh_72 : decode cX3_refresh 72 = .ok (.getfield 43, 3) := by decide +kernel
theorem dX3_refresh_75 : decode cX3_refresh 75 = .ok (.aload_n 0, 1) := by decide +kernel
theorem dX3_refresh_76 : decode cX3_refresh 76 = .ok (.iload_n 1, 1) := by decide +kernel
theorem dX3_refresh_77 : decode cX3_refresh 77 = .ok (.aload_n 0, 1) := by decide +kernel
theorem dX3_refresh_78 : decode cX3_refresh 78 = .ok (.getfield 43, 3) := by decide +kernel
theorem dX3_refresh_81 : decode cX3_refresh 81 = .ok (.invokevirtual 65, 3) := by decide +kernel
theorem dX3_refresh_84 : decode cX3_refresh 84 = .ok (.iastore, 1) := by decide +kernel
theorem dX3_refresh_85 : decode cX3_refresh 85 = .ok (.aload_n 0, 1) := by decide +kernel
theorem dX3_refresh_86 : decode cX3_refresh 86 = .ok (.dup, 1) := by decide +kernel
theorem dX3_refresh_87 : decode cX3_refresh 87 = .ok (.getfield 43, 3) := by decide +kernel
theorem dX3_refresh_90 : decode cX3_refresh 90 = .ok (.iconst 1, 1) := by decide +kernel
theorem dX3_refresh_91 : decode cX3_refresh 91 = .ok (.iadd, 1) := by decide +kernel
theorem dX3_refresh_92 : decode cX3_refresh 92 = .ok (.putfield 43, 3) := by decide +kernel
theorem dX3_refresh_95 : decode cX3_refresh 95 = .ok (.iinc 1 1, 3) := by decide +kernel
theorem dX3_refresh_98 : decode cX3_refresh 98 = .ok (.goto (-70), 3) := by decide +kernel
theorem dX3_refresh_101 : decode cX3_refresh 101 = .ok (.aload_n 0, 1) := by decide +kernel
theorem dX3_refresh_102 : decode cX3_refresh 102 = .ok (.iconst 1, 1) := by decide +kernel
theorem dX3_refresh_103 : decode cX3_refresh 103 = .ok (.putfield 46, 3) := by decide +kernel
theorem dX3_refresh_106 : decode cX3_refresh 106 = .ok (.return_, 1) := by decide +kernel
set_option maxRecDepth 20000 in
theorem ok_55 {l : Launch} {d : Nat} (IH : ∀ μ, μ < 196 → px_Met l px_P d μ) : px_ok l px_P d RX3 cX3_refresh 2 (none) tb_55 :=
  ⟨px_Sp.of (ps_aload_n dX3_refresh_0 rfl),
   px_Sp.of (ps_get kc_X3 (by decide) wf_RX3_46 dX3_refresh_1),
   px_Sp.of (ps_if_eq dX3_refresh_4 (by decide)),
   ps_vret dX3_refresh_7,
   px_Sp.of (ps_aload_n dX3_refresh_8 rfl),
   px_Sp.of (ps_iconst dX3_refresh_9 (by decide)),
   px_Sp.ofm (ps_putI kc_X3 (by decide) wf_RX3_43 rfl (by decide +kernel) kp_X3_7 dX3_refresh_10),
   px_Sp.of (ps_aload_n dX3_refresh_13 rfl),
   px_Sp.of (ps_iconst dX3_refresh_14 (by decide)),
   px_Sp.ofm (ps_putI kc_X3 (by decide) wf_RX3_31 rfl (by decide +kernel) kp_X3_9 dX3_refresh_15),
   px_Sp.of (ps_aload_n dX3_refresh_18 rfl),
   px_Sp.of (ps_get kc_X3 (by decide) wf_RX3_18 dX3_refresh_19),
   px_Sp.of (ps_iconst dX3_refresh_22 (by decide)),
   ps_callS (IH 0 (by decide)) (fc_0 _ _) wm_RX3_50 ws_yJ7_fill_53178 dX3_refresh_23,
   px_Sp.of (ps_iconst dX3_refresh_26 (by decide)),
   px_Sp.of (ps_istore_n dX3_refresh_27 rfl (by decide)),
   px_Sp.of (ps_iload_n dX3_refresh_28 rfl),
   px_Sp.of (ps_aload_n dX3_refresh_29 rfl),
   px_Sp.of (ps_get kc_X3 (by decide) wf_RX3_35 dX3_refresh_30),
   px_Sp.of (ps_get kc_X1 (by decide) wf_RX3_56 dX3_refresh_33),
   px_Sp.of (ps_icmp_ge dX3_refresh_36 (by decide)),
   px_Sp.of (ps_aload_n dX3_refresh_39 rfl),
   px_Sp.of (ps_get kc_X3 (by decide) wf_RX3_18 dX3_refresh_40),
   px_Sp.of (ps_iload_n dX3_refresh_43 rfl),
   px_Sp.of (ps_iald dX3_refresh_44),
   px_Sp.of (ps_iconst dX3_refresh_45 (by decide)),
   px_Sp.of (ps_icmp_ne dX3_refresh_46 (by decide)),
   px_Sp.of (ps_aload_n dX3_refresh_49 rfl),
   px_Sp.of (ps_iload_n dX3_refresh_50 rfl),
   ps_callV (IH 56 (by decide)) (C := RX3) (T := TX3) (N := 10) (ci := 3) rfl rfl (fc_56 _ _) wm_RX3_61 wi_yX3_hasPiece wl_yX3_hasPiece dX3_refresh_51,
   px_Sp.of (ps_if_eq dX3_refresh_54 (by decide)),
   px_Sp.of (ps_aload_n dX3_refresh_57 rfl),
   px_Sp.of (ps_get kc_X3 (by decide) wf_RX3_25 dX3_refresh_58),
   px_Sp.of (ps_aload_n dX3_refresh_61 rfl),
   px_Sp.of (ps_get kc_X3 (by decide) wf_RX3_43 dX3_refresh_62),
   px_Sp.of (ps_iload_n dX3_refresh_65 rfl),
   px_Sp.ofm (ps_iast dX3_refresh_66),
   px_Sp.of (ps_aload_n dX3_refresh_67 rfl),
   px_Sp.of (ps_get kc_X3 (by decide) wf_RX3_22 dX3_refresh_68),
   px_Sp.of (ps_aload_n dX3_refresh_71 rfl),
   px_Sp.of (ps_get kc_X3 (by decide) wf_RX3_43 dX3_refresh_72),
   px_Sp.of (ps_aload_n dX3_refresh_75 rfl),
   px_Sp.of (ps_iload_n dX3_refresh_76 rfl),
   px_Sp.of (ps_aload_n dX3_refresh_77 rfl),
   px_Sp.of (ps_get kc_X3 (by decide) wf_RX3_43 dX3_refresh_78),
   ps_callV (IH 58 (by decide)) (C := RX3) (T := TX3) (N := 10) (ci := 3) rfl rfl (fc_58 _ _) wm_RX3_65 wi_yX3_gather wl_yX3_gather dX3_refresh_81,
   px_Sp.ofm (ps_iast dX3_refresh_84),
   px_Sp.of (ps_aload_n dX3_refresh_85 rfl),
   px_Sp.of (ps_dup dX3_refresh_86),
   px_Sp.of (ps_get kc_X3 (by decide) wf_RX3_43 dX3_refresh_87),
   px_Sp.of (ps_iconst dX3_refresh_90 (by decide)),
   px_Sp.of (ps_iadd dX3_refresh_91),
   px_Sp.ofm (ps_putI kc_X3 (by decide) wf_RX3_43 rfl (by decide +kernel) kp_X3_7 dX3_refresh_92),
   px_Sp.of (ps_iinc dX3_refresh_95 (by decide) (by decide)),
   px_Sp.of (ps_goto dX3_refresh_98 (by decide)),
   px_Sp.of (ps_aload_n dX3_refresh_101 rfl),
   px_Sp.of (ps_iconst dX3_refresh_102 (by decide)),
   px_Sp.ofm (ps_putI kc_X3 (by decide) wf_RX3_46 rfl (by decide +kernel) kp_X3_8 dX3_refresh_103),
   ps_vret dX3_refresh_106, trivial⟩
theorem mt_55 {l : Launch} {d : Nat} (IH : ∀ μ, μ < 196 → px_Met l px_P d μ) : px_Met l px_P (d + 1) 55 := px_met (own := RX3) rfl (by decide +kernel) (ok_55 IH)
theorem dX3_hasPiece_0 : decode cX3_hasPiece 0 = .ok (.iconst 0, 1) := by decide +kernel
theorem dX3_hasPiece_1 : decode cX3_hasPiece 1 = .ok (.istore_n 2, 1) := by decide +kernel
theorem dX3_hasPiece_2 : decode cX3_hasPiece 2 = .ok (.iload_n 2, 1) := by decide +kernel
theorem dX3_hasPiece_3 : decode cX3_hasPiece 3 = .ok (.aload_n 0, 1) := by decide +kernel
theorem dX3_hasPiece_4 : decode cX3_hasPiece 4 = .ok (.getfield 35, 3) := by decide +kernel
theorem dX3_hasPiece_7 : decode cX3_hasPiece 7 = .ok (.getfield 87, 3) := by decide +kernel
theorem dX3_hasPiece_10 : decode cX3_hasPiece 10 = .ok (.iload_n 1, 1) := by decide +kernel
theorem dX3_hasPiece_11 : decode cX3_hasPiece 11 = .ok (.iaload, 1) := by decide +kernel
theorem dX3_hasPiece_12 : decode cX3_hasPiece 12 = .ok (.if_icmp .ge 20, 3) := by decide +kernel
theorem dX3_hasPiece_15 : decode cX3_hasPiece 15 = .ok (.aload_n 0, 1) := by decide +kernel
theorem dX3_hasPiece_16 : decode cX3_hasPiece 16 = .ok (.iload_n 1, 1) := by decide +kernel
theorem dX3_hasPiece_17 : decode cX3_hasPiece 17 = .ok (.iload_n 2, 1) := by decide +kernel
theorem dX3_hasPiece_18 : decode cX3_hasPiece 18 = .ok (.invokevirtual 90, 3) := by decide +kernel
theorem dX3_hasPiece_21 : decode cX3_hasPiece 21 = .ok (.ifCond .eq 5, 3) := by decide +kernel
theorem dX3_hasPiece_24 : decode cX3_hasPiece 24 = .ok (.iconst 1, 1) := by decide +kernel
theorem dX3_hasPiece_25 : decode cX3_hasPiece 25 = .ok (.ireturn, 1) := by decide +kernel
theorem dX3_hasPiece_26 : decode cX3_hasPiece 26 = .ok (.iinc 2 1, 3) := by decide +kernel
theorem dX3_hasPiece_29 : decode cX3_hasPiece 29 = .ok (.goto (-27), 3) := by decide +kernel
theorem dX3_hasPiece_32 : decode cX3_hasPiece 32 = .ok (.iconst 0, 1) := by decide +kernel
theorem dX3_hasPiece_33 : decode cX3_hasPiece 33 = .ok (.ireturn, 1) := by decide +kernel
set_option maxRecDepth 20000 in
theorem ok_56 {l : Launch} {d : Nat} (IH : ∀ μ, μ < 196 → px_Met l px_P d μ) : px_ok l px_P d RX3 cX3_hasPiece 3 (some .boolean) tb_56 :=
  ⟨px_Sp.of (ps_iconst dX3_hasPiece_0 (by decide)),
   px_Sp.of (ps_istore_n dX3_hasPiece_1 rfl (by decide)),
   px_Sp.of (ps_iload_n dX3_hasPiece_2 rfl),
   px_Sp.of (ps_aload_n dX3_hasPiece_3 rfl),
   px_Sp.of (ps_get kc_X3 (by decide) wf_RX3_35 dX3_hasPiece_4),
   px_Sp.of (ps_get kc_X1 (by decide) wf_RX3_87 dX3_hasPiece_7),
   px_Sp.of (ps_iload_n dX3_hasPiece_10 rfl),
   px_Sp.of (ps_iald dX3_hasPiece_11),
   px_Sp.of (ps_icmp_ge dX3_hasPiece_12 (by decide)),
   px_Sp.of (ps_aload_n dX3_hasPiece_15 rfl),
   px_Sp.of (ps_iload_n dX3_hasPiece_16 rfl),
   px_Sp.of (ps_iload_n dX3_hasPiece_17 rfl),
   ps_callV (IH 57 (by decide)) (C := RX3) (T := TX3) (N := 10) (ci := 3) rfl rfl (fc_57 _ _) wm_RX3_90 wi_yX3_isOfPiece wl_yX3_isOfPiece dX3_hasPiece_18,
   px_Sp.of (ps_if_eq dX3_hasPiece_21 (by decide)),
   px_Sp.of (ps_iconst dX3_hasPiece_24 (by decide)),
   ps_zret dX3_hasPiece_25,
   px_Sp.of (ps_iinc dX3_hasPiece_26 (by decide) (by decide)),
   px_Sp.of (ps_goto dX3_hasPiece_29 (by decide)),
   px_Sp.of (ps_iconst dX3_hasPiece_32 (by decide)),
   ps_zret dX3_hasPiece_33, trivial⟩
theorem mt_56 {l : Launch} {d : Nat} (IH : ∀ μ, μ < 196 → px_Met l px_P d μ) : px_Met l px_P (d + 1) 56 := px_met (own := RX3) rfl (by decide +kernel) (ok_56 IH)
theorem dX3_isOfPiece_0 : decode cX3_isOfPiece 0 = .ok (.iload_n 1, 1) := by decide +kernel
theorem dX3_isOfPiece_1 : decode cX3_isOfPiece 1 = .ok (.iload_n 2, 1) := by decide +kernel
theorem dX3_isOfPiece_2 : decode cX3_isOfPiece 2 = .ok (.invokestatic 73, 3) := by decide +kernel
theorem dX3_isOfPiece_5 : decode cX3_isOfPiece 5 = .ok (.istore_n 3, 1) := by decide +kernel
theorem dX3_isOfPiece_6 : decode cX3_isOfPiece 6 = .ok (.aload_n 0, 1) := by decide +kernel
theorem dX3_isOfPiece_7 : decode cX3_isOfPiece 7 = .ok (.getfield 39, 3) := by decide +kernel
theorem dX3_isOfPiece_10 : decode cX3_isOfPiece 10 = .ok (.iload_n 1, 1) := by decide +kernel
theorem dX3_isOfPiece_11 : decode cX3_isOfPiece 11 = .ok (.invokevirtual 76, 3) := by decide +kernel
theorem dX3_isOfPiece_14 : decode cX3_isOfPiece 14 = .ok (.ifCond .eq 33, 3) := by decide +kernel
theorem dX3_isOfPiece_17 : decode cX3_isOfPiece 17 = .ok (.aload_n 0, 1) := by decide +kernel
theorem dX3_isOfPiece_18 : decode cX3_isOfPiece 18 = .ok (.getfield 35, 3) := by decide +kernel
theorem dX3_isOfPiece_21 : decode cX3_isOfPiece 21 = .ok (.getfield 81, 3) := by decide +kernel
theorem dX3_isOfPiece_24 : decode cX3_isOfPiece 24 = .ok (.iload_n 3, 1) := by decide +kernel
theorem dX3_isOfPiece_25 : decode cX3_isOfPiece 25 = .ok (.iaload, 1) := by decide +kernel
theorem dX3_isOfPiece_26 : decode cX3_isOfPiece 26 = .ok (.iconst 1, 1) := by decide +kernel
theorem dX3_isOfPiece_27 : decode cX3_isOfPiece 27 = .ok (.if_icmp .ne 20, 3) := by decide +kernel
theorem dX3_isOfPiece_30 : decode cX3_isOfPiece 30 = .ok (.aload_n 0, 1) := by decide +kernel
theorem dX3_isOfPiece_31 : decode cX3_isOfPiece 31 = .ok (.getfield 39, 3) := by decide +kernel
theorem dX3_isOfPiece_34 : decode cX3_isOfPiece 34 = .ok (.getfield 84, 3) := by decide +kernel
theorem dX3_isOfPiece_37 : decode cX3_isOfPiece 37 = .ok (.iload_n 3, 1) := by decide +kernel
theorem dX3_isOfPiece_38 : decode cX3_isOfPiece 38 = .ok (.iaload, 1) := by decide +kernel
theorem dX3_isOfPiece_39 : decode cX3_isOfPiece 39 = .ok (.iconst (-1), 1) := by decide +kernel
theorem dX3_isOfPiece_40 : decode cX3_isOfPiece 40 = .ok (.if_icmp .ne 7, 3) := by decide +kernel
theorem dX3_isOfPiece_43 : decode cX3_isOfPiece 43 = .ok (.iconst 1, 1) := by decide +kernel
theorem dX3_isOfPiece_44 : decode cX3_isOfPiece 44 = .ok (.goto 4, 3) := by decide +kernel
theorem dX3_isOfPiece_47 : decode cX3_isOfPiece 47 = .ok (.iconst 0, 1) := by decide +kernel
theorem dX3_isOfPiece_48 : decode cX3_isOfPiece 48 = .ok (.ireturn, 1) := by decide +kernel
set_option maxRecDepth 20000 in
theorem ok_57 {l : Launch} {d : Nat} (IH : ∀ μ, μ < 196 → px_Met l px_P d μ) : px_ok l px_P d RX3 cX3_isOfPiece 4 (some .boolean) tb_57 :=
  ⟨px_Sp.of (ps_iload_n dX3_isOfPiece_0 rfl),
   px_Sp.of (ps_iload_n dX3_isOfPiece_1 rfl),
   ps_callSN (IH 11 (by decide)) (fc_11 _ _) (fun _ _ _ _ h => h.1.2.2.2.1) ws_yX8_spotOf dX3_isOfPiece_2,
   px_Sp.of (ps_istore_n dX3_isOfPiece_5 rfl (by decide)),
   px_Sp.of (ps_aload_n dX3_isOfPiece_6 rfl),
   px_Sp.of (ps_get kc_X3 (by decide) wf_RX3_39 dX3_isOfPiece_7),
   px_Sp.of (ps_iload_n dX3_isOfPiece_10 rfl),
   ps_callV (IH 24 (by decide)) (C := RX2) (T := TX2) (N := 8) (ci := 2) rfl rfl (fc_24 _ _) wm_RX3_76 wi_yX2_isSeen wl_yX2_isSeen dX3_isOfPiece_11,
   px_Sp.of (ps_if_eq dX3_isOfPiece_14 (by decide)),
   px_Sp.of (ps_aload_n dX3_isOfPiece_17 rfl),
   px_Sp.of (ps_get kc_X3 (by decide) wf_RX3_35 dX3_isOfPiece_18),
   px_Sp.of (ps_get kc_X1 (by decide) wf_RX3_81 dX3_isOfPiece_21),
   px_Sp.of (ps_iload_n dX3_isOfPiece_24 rfl),
   px_Sp.of (ps_iald dX3_isOfPiece_25),
   px_Sp.of (ps_iconst dX3_isOfPiece_26 (by decide)),
   px_Sp.of (ps_icmp_ne dX3_isOfPiece_27 (by decide)),
   px_Sp.of (ps_aload_n dX3_isOfPiece_30 rfl),
   px_Sp.of (ps_get kc_X3 (by decide) wf_RX3_39 dX3_isOfPiece_31),
   px_Sp.of (ps_get kc_X2 (by decide) wf_RX3_84 dX3_isOfPiece_34),
   px_Sp.of (ps_iload_n dX3_isOfPiece_37 rfl),
   px_Sp.of (ps_iald dX3_isOfPiece_38),
   px_Sp.of (ps_iconst dX3_isOfPiece_39 (by decide)),
   px_Sp.of (ps_icmp_ne dX3_isOfPiece_40 (by decide)),
   px_Sp.of (ps_iconst dX3_isOfPiece_43 (by decide)),
   px_Sp.of (ps_goto dX3_isOfPiece_44 (by decide)),
   px_Sp.of (ps_iconst dX3_isOfPiece_47 (by decide)),
   ps_zret dX3_isOfPiece_48, trivial⟩
theorem mt_57 {l : Launch} {d : Nat} (IH : ∀ μ, μ < 196 → px_Met l px_P d μ) : px_Met l px_P (d + 1) 57 := px_met (own := RX3) rfl (by decide +kernel) (ok_57 IH)
theorem dX3_gather_0 : decode cX3_gather 0 = .ok (.aload_n 0, 1) := by decide +kernel
theorem dX3_gather_1 : decode cX3_gather 1 = .ok (.getfield 28, 3) := by decide +kernel
theorem dX3_gather_4 : decode cX3_gather 4 = .ok (.iconst 0, 1) := by decide +kernel
theorem dX3_gather_5 : decode cX3_gather 5 = .ok (.iload_n 1, 1) := by decide +kernel
theorem dX3_gather_6 : decode cX3_gather 6 = .ok (.iastore, 1) := by decide +kernel
theorem dX3_gather_7 : decode cX3_gather 7 = .ok (.aload_n 0, 1) := by decide +kernel
theorem dX3_gather_8 : decode cX3_gather 8 = .ok (.getfield 18, 3) := by decide +kernel
theorem dX3_gather_11 : decode cX3_gather 11 = .ok (.iload_n 1, 1) := by decide +kernel
theorem dX3_gather_12 : decode cX3_gather 12 = .ok (.iload_n 2, 1) := by decide +kernel
theorem dX3_gather_13 : decode cX3_gather 13 = .ok (.iastore, 1) := by decide +kernel
theorem dX3_gather_14 : decode cX3_gather 14 = .ok (.iconst 1, 1) := by decide +kernel
theorem dX3_gather_15 : decode cX3_gather 15 = .ok (.istore_n 3, 1) := by decide +kernel
theorem dX3_gather_16 : decode cX3_gather 16 = .ok (.iconst 0, 1) := by decide +kernel
theorem dX3_gather_17 : decode cX3_gather 17 = .ok (.istore 4, 2) := by decide +kernel
theorem dX3_gather_19 : decode cX3_gather 19 = .ok (.iload 4, 2) := by decide +kernel
theorem dX3_gather_21 : decode cX3_gather 21 = .ok (.iload_n 3, 1) := by decide +kernel
theorem dX3_gather_22 : decode cX3_gather 22 = .ok (.if_icmp .ge 91, 3) := by decide +kernel
theorem dX3_gather_25 : decode cX3_gather 25 = .ok (.iload 4, 2) := by decide +kernel
theorem dX3_gather_27 : decode cX3_gather 27 = .ok (.bipush 40, 2) := by decide +kernel
theorem dX3_gather_29 : decode cX3_gather 29 = .ok (.if_icmp .ge 84, 3) := by decide +kernel
theorem dX3_gather_32 : decode cX3_gather 32 = .ok (.iload_n 1, 1) := by decide +kernel
theorem dX3_gather_33 : decode cX3_gather 33 = .ok (.iconst 1, 1) := by decide +kernel
theorem dX3_gather_34 : decode cX3_gather 34 = .ok (.iadd, 1) := by decide +kernel
theorem dX3_gather_35 : decode cX3_gather 35 = .ok (.istore 5, 2) := by decide +kernel
theorem dX3_gather_37 : decode cX3_gather 37 = .ok (.iload 5, 2) := by decide +kernel
theorem dX3_gather_39 : decode cX3_gather 39 = .ok (.aload_n 0, 1) := by decide +kernel
theorem dX3_gather_40 : decode cX3_gather 40 = .ok (.getfield 35, 3) := by decide +kernel
theorem dX3_gather_43 : decode cX3_gather 43 = .ok (.getfield 56, 3) := by decide +kernel
theorem dX3_gather_46 : decode cX3_gather 46 = .ok (.if_icmp .ge 61, 3) := by decide +kernel
theorem dX3_gather_49 : decode cX3_gather 49 = .ok (.iload_n 3, 1) := by decide +kernel
theorem dX3_gather_50 : decode cX3_gather 50 = .ok (.bipush 40, 2) := by decide +kernel
theorem dX3_gather_52 : decode cX3_gather 52 = .ok (.if_icmp .ge 55, 3) := by decide +kernel
theorem dX3_gather_55 : decode cX3_gather 55 = .ok (.aload_n 0, 1) := by decide +kernel
theorem dX3_gather_56 : decode cX3_gather 56 = .ok (.getfield 18, 3) := by decide +kernel
theorem dX3_gather_59 : decode cX3_gather 59 = .ok (.iload 5, 2) := by decide +kernel
theorem dX3_gather_61 : decode cX3_gather 61 = .ok (.iaload, 1) := by decide +kernel
theorem dX3_gather_62 : decode cX3_gather 62 = .ok (.iconst (-1), 1) := by decide +kernel
theorem dX3_gather_63 : decode cX3_gather 63 = .ok (.if_icmp .ne 38, 3) := by decide +kernel
theorem dX3_gather_66 : decode cX3_gather 66 = .ok (.aload_n 0, 1) := by decide +kernel
theorem dX3_gather_67 : decode cX3_gather 67 = .ok (.aload_n 0, 1) := by decide +kernel
theorem dX3_gather_68 : decode cX3_gather 68 = .ok (.getfield 28, 3) := by decide +kernel
theorem dX3_gather_71 : decode cX3_gather 71 = .ok (.iload 4, 2) := by decide +kernel
theorem dX3_gather_73 : decode cX3_gather 73 = .ok (.iaload, 1) := by decide +kernel
theorem dX3_gather_74 : decode cX3_gather 74 = .ok (.iload 5, 2) := by decide +kernel
theorem dX3_gather_76 : decode cX3_gather 76 = .ok (.invokevirtual 69, 3) := by decide +kernel
theorem dX3_gather_79 : decode cX3_gather 79 = .ok (.ifCond .eq 22, 3) := by decide +kernel
theorem dX3_gather_82 : decode cX3_gather 82 = .ok (.aload_n 0, 1) := by decide +kernel
theorem dX3_gather_83 : decode cX3_gather 83 = .ok (.getfield 28, 3) := by decide +kernel
theorem dX3_gather_86 : decode cX3_gather 86 = .ok (.iload_n 3, 1) := by decide +kernel
theorem dX3_gather_87 : decode cX3_gather 87 = .ok (.iload 5, 2) := by decide +kernel
theorem dX3_gather_89 : decode cX3_gather 89 = .ok (.iastore, 1) := by decide +kernel
theorem dX3_gather_90 : decode cX3_gather 90 = .ok (.aload_n 0, 1) := by decide +kernel
theorem dX3_gather_91 : decode cX3_gather 91 = .ok (.getfield 18, 3) := by decide +kernel
theorem dX3_gather_94 : decode cX3_gather 94 = .ok (.iload 5, 2) := by decide +kernel
theorem dX3_gather_96 : decode cX3_gather 96 = .ok (.iload_n 2, 1) := by decide +kernel
theorem dX3_gather_97 : decode cX3_gather 97 = .ok (.iastore, 1) := by decide +kernel
theorem dX3_gather_98 : decode cX3_gather 98 = .ok (.iinc 3 1, 3) := by decide +kernel
theorem dX3_gather_101 : decode cX3_gather 101 = .ok (.iinc 5 1, 3) := by decide +kernel
theorem dX3_gather_104 : decode cX3_gather 104 = .ok (.goto (-67), 3) := by decide +kernel
theorem dX3_gather_107 : decode cX3_gather 107 = .ok (.iinc 4 1, 3) := by decide +kernel
theorem dX3_gather_110 : decode cX3_gather 110 = .ok (.goto (-91), 3) := by decide +kernel
theorem dX3_gather_113 : decode cX3_gather 113 = .ok (.iload_n 3, 1) := by decide +kernel
theorem dX3_gather_114 : decode cX3_gather 114 = .ok (.ireturn, 1) := by decide +kernel
set_option maxRecDepth 20000 in
theorem ok_58 {l : Launch} {d : Nat} (IH : ∀ μ, μ < 196 → px_Met l px_P d μ) : px_ok l px_P d RX3 cX3_gather 6 (some .int) tb_58 :=
  ⟨px_Sp.of (ps_aload_n dX3_gather_0 rfl),
   px_Sp.of (ps_get kc_X3 (by decide) wf_RX3_28 dX3_gather_1),
   px_Sp.of (ps_iconst dX3_gather_4 (by decide)),
   px_Sp.of (ps_iload_n dX3_gather_5 rfl),
   px_Sp.ofm (ps_iast dX3_gather_6),
   px_Sp.of (ps_aload_n dX3_gather_7 rfl),
   px_Sp.of (ps_get kc_X3 (by decide) wf_RX3_18 dX3_gather_8),
   px_Sp.of (ps_iload_n dX3_gather_11 rfl),
   px_Sp.of (ps_iload_n dX3_gather_12 rfl),
   px_Sp.ofm (ps_iast dX3_gather_13),
   px_Sp.of (ps_iconst dX3_gather_14 (by decide)),
   px_Sp.of (ps_istore_n dX3_gather_15 rfl (by decide)),
   px_Sp.of (ps_iconst dX3_gather_16 (by decide)),
   px_Sp.of (ps_istore dX3_gather_17 (by decide)),
   px_Sp.of (ps_iload dX3_gather_19),
   px_Sp.of (ps_iload_n dX3_gather_21 rfl),
   px_Sp.of (ps_icmp_ge dX3_gather_22 (by decide)),
   px_Sp.of (ps_iload dX3_gather_25),
   px_Sp.of (ps_bipush dX3_gather_27 (by decide)),
   px_Sp.of (ps_icmp_ge dX3_gather_29 (by decide)),
   px_Sp.of (ps_iload_n dX3_gather_32 rfl),
   px_Sp.of (ps_iconst dX3_gather_33 (by decide)),
   px_Sp.of (ps_iadd dX3_gather_34),
   px_Sp.of (ps_istore dX3_gather_35 (by decide)),
   px_Sp.of (ps_iload dX3_gather_37),
   px_Sp.of (ps_aload_n dX3_gather_39 rfl),
   px_Sp.of (ps_get kc_X3 (by decide) wf_RX3_35 dX3_gather_40),
   px_Sp.of (ps_get kc_X1 (by decide) wf_RX3_56 dX3_gather_43),
   px_Sp.of (ps_icmp_ge dX3_gather_46 (by decide)),
   px_Sp.of (ps_iload_n dX3_gather_49 rfl),
   px_Sp.of (ps_bipush dX3_gather_50 (by decide)),
   px_Sp.of (ps_icmp_ge dX3_gather_52 (by decide)),
   px_Sp.of (ps_aload_n dX3_gather_55 rfl),
   px_Sp.of (ps_get kc_X3 (by decide) wf_RX3_18 dX3_gather_56),
   px_Sp.of (ps_iload dX3_gather_59),
   px_Sp.of (ps_iald dX3_gather_61),
   px_Sp.of (ps_iconst dX3_gather_62 (by decide)),
   px_Sp.of (ps_icmp_ne dX3_gather_63 (by decide)),
   px_Sp.of (ps_aload_n dX3_gather_66 rfl),
   px_Sp.of (ps_aload_n dX3_gather_67 rfl),
   px_Sp.of (ps_get kc_X3 (by decide) wf_RX3_28 dX3_gather_68),
   px_Sp.of (ps_iload dX3_gather_71),
   px_Sp.of (ps_iald dX3_gather_73),
   px_Sp.of (ps_iload dX3_gather_74),
   ps_callV (IH 59 (by decide)) (C := RX3) (T := TX3) (N := 10) (ci := 3) rfl rfl (fc_59 _ _) wm_RX3_69 wi_yX3_shareText wl_yX3_shareText dX3_gather_76,
   px_Sp.of (ps_if_eq dX3_gather_79 (by decide)),
   px_Sp.of (ps_aload_n dX3_gather_82 rfl),
   px_Sp.of (ps_get kc_X3 (by decide) wf_RX3_28 dX3_gather_83),
   px_Sp.of (ps_iload_n dX3_gather_86 rfl),
   px_Sp.of (ps_iload dX3_gather_87),
   px_Sp.ofm (ps_iast dX3_gather_89),
   px_Sp.of (ps_aload_n dX3_gather_90 rfl),
   px_Sp.of (ps_get kc_X3 (by decide) wf_RX3_18 dX3_gather_91),
   px_Sp.of (ps_iload dX3_gather_94),
   px_Sp.of (ps_iload_n dX3_gather_96 rfl),
   px_Sp.ofm (ps_iast dX3_gather_97),
   px_Sp.of (ps_iinc dX3_gather_98 (by decide) (by decide)),
   px_Sp.of (ps_iinc dX3_gather_101 (by decide) (by decide)),
   px_Sp.of (ps_goto dX3_gather_104 (by decide)),
   px_Sp.of (ps_iinc dX3_gather_107 (by decide) (by decide)),
   px_Sp.of (ps_goto dX3_gather_110 (by decide)),
   px_Sp.of (ps_iload_n dX3_gather_113 rfl),
   ps_iret dX3_gather_114, trivial⟩
theorem mt_58 {l : Launch} {d : Nat} (IH : ∀ μ, μ < 196 → px_Met l px_P d μ) : px_Met l px_P (d + 1) 58 := px_met (own := RX3) rfl (by decide +kernel) (ok_58 IH)
