/-! ===== tables that are right, 5 ===== -/
theorem dX8_isWhere_0 : decode cX8_isWhere 0 = .ok (.iload_n 1, 1) := by decide +kernel
theorem dX8_isWhere_1 : decode cX8_isWhere 1 = .ok (.ifCond .eq 25, 3) := by decide +kernel
theorem dX8_isWhere_4 : decode cX8_isWhere 4 = .ok (.iload_n 0, 1) := by decide +kernel
theorem dX8_isWhere_5 : decode cX8_isWhere 5 = .ok (.ifCond .ne 7, 3) := by decide +kernel
theorem dX8_isWhere_8 : decode cX8_isWhere 8 = .ok (.iconst 1, 1) := by decide +kernel
theorem dX8_isWhere_9 : decode cX8_isWhere 9 = .ok (.goto 4, 3) := by decide +kernel
theorem dX8_isWhere_12 : decode cX8_isWhere 12 = .ok (.iconst 0, 1) := by decide +kernel
theorem dX8_isWhere_13 : decode cX8_isWhere 13 = .ok (.iload_n 1, 1) := by decide +kernel
theorem dX8_isWhere_14 : decode cX8_isWhere 14 = .ok (.iconst 1, 1) := by decide +kernel
theorem dX8_isWhere_15 : decode cX8_isWhere 15 = .ok (.if_icmp .ne 7, 3) := by decide +kernel
theorem dX8_isWhere_18 : decode cX8_isWhere 18 = .ok (.iconst 1, 1) := by decide +kernel
theorem dX8_isWhere_19 : decode cX8_isWhere 19 = .ok (.goto 4, 3) := by decide +kernel
theorem dX8_isWhere_22 : decode cX8_isWhere 22 = .ok (.iconst 0, 1) := by decide +kernel
theorem dX8_isWhere_23 : decode cX8_isWhere 23 = .ok (.if_icmp .ne 7, 3) := by decide +kernel
theorem dX8_isWhere_26 : decode cX8_isWhere 26 = .ok (.iconst 1, 1) := by decide +kernel
theorem dX8_isWhere_27 : decode cX8_isWhere 27 = .ok (.goto 4, 3) := by decide +kernel
theorem dX8_isWhere_30 : decode cX8_isWhere 30 = .ok (.iconst 0, 1) := by decide +kernel
theorem dX8_isWhere_31 : decode cX8_isWhere 31 = .ok (.ireturn, 1) := by decide +kernel
set_option maxRecDepth 20000 in
theorem ok_98 {l : Launch} {d : Nat} (IH : ∀ μ, μ < 196 → px_Met l px_P d μ) : px_ok l px_P d RX8 cX8_isWhere 2 (some .boolean) tb_98 :=
  ⟨px_Sp.of (ps_iload_n dX8_isWhere_0 rfl),
   px_Sp.of (ps_if_eq dX8_isWhere_1 (by decide)),
   px_Sp.of (ps_iload_n dX8_isWhere_4 rfl),
   px_Sp.of (ps_if_ne dX8_isWhere_5 (by decide)),
   px_Sp.of (ps_iconst dX8_isWhere_8 (by decide)),
   px_Sp.of (ps_goto dX8_isWhere_9 (by decide)),
   px_Sp.of (ps_iconst dX8_isWhere_12 (by decide)),
   px_Sp.of (ps_iload_n dX8_isWhere_13 rfl),
   px_Sp.of (ps_iconst dX8_isWhere_14 (by decide)),
   px_Sp.of (ps_icmp_ne dX8_isWhere_15 (by decide)),
   px_Sp.of (ps_iconst dX8_isWhere_18 (by decide)),
   px_Sp.of (ps_goto dX8_isWhere_19 (by decide)),
   px_Sp.of (ps_iconst dX8_isWhere_22 (by decide)),
   px_Sp.of (ps_icmp_ne dX8_isWhere_23 (by decide)),
   px_Sp.of (ps_iconst dX8_isWhere_26 (by decide)),
   px_Sp.of (ps_goto dX8_isWhere_27 (by decide)),
   px_Sp.of (ps_iconst dX8_isWhere_30 (by decide)),
   ps_zret dX8_isWhere_31, trivial⟩
theorem mt_98 {l : Launch} {d : Nat} (IH : ∀ μ, μ < 196 → px_Met l px_P d μ) : px_Met l px_P (d + 1) 98 := px_met (own := RX8) rfl (by decide +kernel) (ok_98 IH)
theorem dX4_standsIn_0 : decode cX4_standsIn 0 = .ok (.lload_n 1, 1) := by decide +kernel
theorem dX4_standsIn_1 : decode cX4_standsIn 1 = .ok (.invokestatic 19, 3) := by decide +kernel
theorem dX4_standsIn_4 : decode cX4_standsIn 4 = .ok (.istore_n 3, 1) := by decide +kernel
theorem dX4_standsIn_5 : decode cX4_standsIn 5 = .ok (.iconst 0, 1) := by decide +kernel
theorem dX4_standsIn_6 : decode cX4_standsIn 6 = .ok (.istore 4, 2) := by decide +kernel
theorem dX4_standsIn_8 : decode cX4_standsIn 8 = .ok (.iload 4, 2) := by decide +kernel
theorem dX4_standsIn_10 : decode cX4_standsIn 10 = .ok (.aload_n 0, 1) := by decide +kernel
theorem dX4_standsIn_11 : decode cX4_standsIn 11 = .ok (.getfield 15, 3) := by decide +kernel
theorem dX4_standsIn_14 : decode cX4_standsIn 14 = .ok (.iadd, 1) := by decide +kernel
theorem dX4_standsIn_15 : decode cX4_standsIn 15 = .ok (.iload_n 3, 1) := by decide +kernel
theorem dX4_standsIn_16 : decode cX4_standsIn 16 = .ok (.if_icmp .gt 21, 3) := by decide +kernel
theorem dX4_standsIn_19 : decode cX4_standsIn 19 = .ok (.aload_n 0, 1) := by decide +kernel
theorem dX4_standsIn_20 : decode cX4_standsIn 20 = .ok (.lload_n 1, 1) := by decide +kernel
theorem dX4_standsIn_21 : decode cX4_standsIn 21 = .ok (.iload 4, 2) := by decide +kernel
theorem dX4_standsIn_23 : decode cX4_standsIn 23 = .ok (.invokevirtual 25, 3) := by decide +kernel
theorem dX4_standsIn_26 : decode cX4_standsIn 26 = .ok (.ifCond .eq 5, 3) := by decide +kernel
theorem dX4_standsIn_29 : decode cX4_standsIn 29 = .ok (.iconst 1, 1) := by decide +kernel
theorem dX4_standsIn_30 : decode cX4_standsIn 30 = .ok (.ireturn, 1) := by decide +kernel
theorem dX4_standsIn_31 : decode cX4_standsIn 31 = .ok (.iinc 4 1, 3) := by decide +kernel
theorem dX4_standsIn_34 : decode cX4_standsIn 34 = .ok (.goto (-26), 3) := by decide +kernel
theorem dX4_standsIn_37 : decode cX4_standsIn 37 = .ok (.iconst 0, 1) := by decide +kernel
theorem dX4_standsIn_38 : decode cX4_standsIn 38 = .ok (.ireturn, 1) := by decide +kernel
set_option maxRecDepth 20000 in
theorem ok_99 {l : Launch} {d : Nat} (IH : ∀ μ, μ < 196 → px_Met l px_P d μ) : px_ok l px_P d RX4 cX4_standsIn 5 (some .boolean) tb_99 :=
  ⟨px_Sp.of (ps_lload_n dX4_standsIn_0 rfl),
   ps_callS (IH 33 (by decide)) (fc_33 _ _) wm_RX4_19 ws_yX7_wordsIn dX4_standsIn_1,
   px_Sp.of (ps_istore_n dX4_standsIn_4 rfl (by decide)),
   px_Sp.of (ps_iconst dX4_standsIn_5 (by decide)),
   px_Sp.of (ps_istore dX4_standsIn_6 (by decide)),
   px_Sp.of (ps_iload dX4_standsIn_8),
   px_Sp.of (ps_aload_n dX4_standsIn_10 rfl),
   px_Sp.of (ps_get kc_X4 (by decide) wf_RX4_15 dX4_standsIn_11),
   px_Sp.of (ps_iadd dX4_standsIn_14),
   px_Sp.of (ps_iload_n dX4_standsIn_15 rfl),
   px_Sp.of (ps_icmp_gt dX4_standsIn_16 (by decide)),
   px_Sp.of (ps_aload_n dX4_standsIn_19 rfl),
   px_Sp.of (ps_lload_n dX4_standsIn_20 rfl),
   px_Sp.of (ps_iload dX4_standsIn_21),
   ps_callV (IH 100 (by decide)) (C := RX4) (T := TX4) (N := 2) (ci := 4) rfl rfl (fc_100 _ _) wm_RX4_25 wi_yX4_standsAt wl_yX4_standsAt dX4_standsIn_23,
   px_Sp.of (ps_if_eq dX4_standsIn_26 (by decide)),
   px_Sp.of (ps_iconst dX4_standsIn_29 (by decide)),
   ps_zret dX4_standsIn_30,
   px_Sp.of (ps_iinc dX4_standsIn_31 (by decide) (by decide)),
   px_Sp.of (ps_goto dX4_standsIn_34 (by decide)),
   px_Sp.of (ps_iconst dX4_standsIn_37 (by decide)),
   ps_zret dX4_standsIn_38, trivial⟩
theorem mt_99 {l : Launch} {d : Nat} (IH : ∀ μ, μ < 196 → px_Met l px_P d μ) : px_Met l px_P (d + 1) 99 := px_met (own := RX4) rfl (by decide +kernel) (ok_99 IH)
theorem dX4_standsAt_0 : decode cX4_standsAt 0 = .ok (.iconst 0, 1) := by decide +kernel
theorem dX4_standsAt_1 : decode cX4_standsAt 1 = .ok (.istore 4, 2) := by decide +kernel
theorem dX4_standsAt_3 : decode cX4_standsAt 3 = .ok (.iload 4, 2) := by decide +kernel
theorem dX4_standsAt_5 : decode cX4_standsAt 5 = .ok (.aload_n 0, 1) := by decide +kernel
theorem dX4_standsAt_6 : decode cX4_standsAt 6 = .ok (.getfield 15, 3) := by decide +kernel
theorem dX4_standsAt_9 : decode cX4_standsAt 9 = .ok (.if_icmp .ge 39, 3) := by decide +kernel
theorem dX4_standsAt_12 : decode cX4_standsAt 12 = .ok (.aload_n 0, 1) := by decide +kernel
theorem dX4_standsAt_13 : decode cX4_standsAt 13 = .ok (.getfield 9, 3) := by decide +kernel
theorem dX4_standsAt_16 : decode cX4_standsAt 16 = .ok (.iload 4, 2) := by decide +kernel
theorem dX4_standsAt_18 : decode cX4_standsAt 18 = .ok (.iaload, 1) := by decide +kernel
theorem dX4_standsAt_19 : decode cX4_standsAt 19 = .ok (.ifCond .eq 23, 3) := by decide +kernel
theorem dX4_standsAt_22 : decode cX4_standsAt 22 = .ok (.aload_n 0, 1) := by decide +kernel
theorem dX4_standsAt_23 : decode cX4_standsAt 23 = .ok (.getfield 9, 3) := by decide +kernel
theorem dX4_standsAt_26 : decode cX4_standsAt 26 = .ok (.iload 4, 2) := by decide +kernel
theorem dX4_standsAt_28 : decode cX4_standsAt 28 = .ok (.iaload, 1) := by decide +kernel
theorem dX4_standsAt_29 : decode cX4_standsAt 29 = .ok (.lload_n 1, 1) := by decide +kernel
theorem dX4_standsAt_30 : decode cX4_standsAt 30 = .ok (.iload_n 3, 1) := by decide +kernel
theorem dX4_standsAt_31 : decode cX4_standsAt 31 = .ok (.iload 4, 2) := by decide +kernel
theorem dX4_standsAt_33 : decode cX4_standsAt 33 = .ok (.iadd, 1) := by decide +kernel
theorem dX4_standsAt_34 : decode cX4_standsAt 34 = .ok (.invokestatic 29, 3) := by decide +kernel
theorem dX4_standsAt_37 : decode cX4_standsAt 37 = .ok (.if_icmp .eq 5, 3) := by decide +kernel
theorem dX4_standsAt_40 : decode cX4_standsAt 40 = .ok (.iconst 0, 1) := by decide +kernel
theorem dX4_standsAt_41 : decode cX4_standsAt 41 = .ok (.ireturn, 1) := by decide +kernel
theorem dX4_standsAt_42 : decode cX4_standsAt 42 = .ok (.iinc 4 1, 3) := by decide +kernel
theorem dX4_standsAt_45 : decode cX4_standsAt 45 = .ok (.goto (-42), 3) := by decide +kernel
theorem dX4_standsAt_48 : decode cX4_standsAt 48 = .ok (.iconst 1, 1) := by decide +kernel
theorem dX4_standsAt_49 : decode cX4_standsAt 49 = .ok (.ireturn, 1) := by decide +kernel
set_option maxRecDepth 20000 in
theorem ok_100 {l : Launch} {d : Nat} (IH : ∀ μ, μ < 196 → px_Met l px_P d μ) : px_ok l px_P d RX4 cX4_standsAt 5 (some .boolean) tb_100 :=
  ⟨px_Sp.of (ps_iconst dX4_standsAt_0 (by decide)),
   px_Sp.of (ps_istore dX4_standsAt_1 (by decide)),
   px_Sp.of (ps_iload dX4_standsAt_3),
   px_Sp.of (ps_aload_n dX4_standsAt_5 rfl),
   px_Sp.of (ps_get kc_X4 (by decide) wf_RX4_15 dX4_standsAt_6),
   px_Sp.of (ps_icmp_ge dX4_standsAt_9 (by decide)),
   px_Sp.of (ps_aload_n dX4_standsAt_12 rfl),
   px_Sp.of (ps_get kc_X4 (by decide) wf_RX4_9 dX4_standsAt_13),
   px_Sp.of (ps_iload dX4_standsAt_16),
   px_Sp.of (ps_iald dX4_standsAt_18),
   px_Sp.of (ps_if_eq dX4_standsAt_19 (by decide)),
   px_Sp.of (ps_aload_n dX4_standsAt_22 rfl),
   px_Sp.of (ps_get kc_X4 (by decide) wf_RX4_9 dX4_standsAt_23),
   px_Sp.of (ps_iload dX4_standsAt_26),
   px_Sp.of (ps_iald dX4_standsAt_28),
   px_Sp.of (ps_lload_n dX4_standsAt_29 rfl),
   px_Sp.of (ps_iload_n dX4_standsAt_30 rfl),
   px_Sp.of (ps_iload dX4_standsAt_31),
   px_Sp.of (ps_iadd dX4_standsAt_33),
   ps_callS (IH 34 (by decide)) (fc_34 _ _) wm_RX4_29 ws_yX7_wordAt dX4_standsAt_34,
   px_Sp.of (ps_icmp_eq dX4_standsAt_37 (by decide)),
   px_Sp.of (ps_iconst dX4_standsAt_40 (by decide)),
   ps_zret dX4_standsAt_41,
   px_Sp.of (ps_iinc dX4_standsAt_42 (by decide) (by decide)),
   px_Sp.of (ps_goto dX4_standsAt_45 (by decide)),
   px_Sp.of (ps_iconst dX4_standsAt_48 (by decide)),
   ps_zret dX4_standsAt_49, trivial⟩
theorem mt_100 {l : Launch} {d : Nat} (IH : ∀ μ, μ < 196 → px_Met l px_P d μ) : px_Met l px_P (d + 1) 100 := px_met (own := RX4) rfl (by decide +kernel) (ok_100 IH)
theorem dX8_still_0 : decode cX8_still 0 = .ok (.aload_n 0, 1) := by decide +kernel
theorem dX8_still_1 : decode cX8_still 1 = .ok (.getfield 25, 3) := by decide +kernel
theorem dX8_still_4 : decode cX8_still 4 = .ok (.iload_n 1, 1) := by decide +kernel
theorem dX8_still_5 : decode cX8_still 5 = .ok (.invokevirtual 87, 3) := by decide +kernel
theorem dX8_still_8 : decode cX8_still 8 = .ok (.ifCond .ne 7, 3) := by decide +kernel
theorem dX8_still_11 : decode cX8_still 11 = .ok (.sipush (-1001), 3) := by decide +kernel
theorem dX8_still_14 : decode cX8_still 14 = .ok (.ireturn, 1) := by decide +kernel
theorem dX8_still_15 : decode cX8_still 15 = .ok (.aload_n 0, 1) := by decide +kernel
theorem dX8_still_16 : decode cX8_still 16 = .ok (.getfield 25, 3) := by decide +kernel
theorem dX8_still_19 : decode cX8_still 19 = .ok (.iload_n 1, 1) := by decide +kernel
theorem dX8_still_20 : decode cX8_still 20 = .ok (.invokevirtual 122, 3) := by decide +kernel
theorem dX8_still_23 : decode cX8_still 23 = .ok (.ifCond .ne 7, 3) := by decide +kernel
theorem dX8_still_26 : decode cX8_still 26 = .ok (.sipush (-1003), 3) := by decide +kernel
theorem dX8_still_29 : decode cX8_still 29 = .ok (.ireturn, 1) := by decide +kernel
theorem dX8_still_30 : decode cX8_still 30 = .ok (.aload_n 0, 1) := by decide +kernel
theorem dX8_still_31 : decode cX8_still 31 = .ok (.getfield 47, 3) := by decide +kernel
theorem dX8_still_34 : decode cX8_still 34 = .ok (.iload_n 1, 1) := by decide +kernel
theorem dX8_still_35 : decode cX8_still 35 = .ok (.invokevirtual 146, 3) := by decide +kernel
theorem dX8_still_38 : decode cX8_still 38 = .ok (.aload_n 0, 1) := by decide +kernel
theorem dX8_still_39 : decode cX8_still 39 = .ok (.getfield 47, 3) := by decide +kernel
theorem dX8_still_42 : decode cX8_still 42 = .ok (.iload_n 1, 1) := by decide +kernel
theorem dX8_still_43 : decode cX8_still 43 = .ok (.invokevirtual 247, 3) := by decide +kernel
theorem dX8_still_46 : decode cX8_still 46 = .ok (.ireturn, 1) := by decide +kernel
set_option maxRecDepth 20000 in
theorem ok_101 {l : Launch} {d : Nat} (IH : ∀ μ, μ < 196 → px_Met l px_P d μ) : px_ok l px_P d RX8 cX8_still 2 (some .int) tb_101 :=
  ⟨px_Sp.of (ps_aload_n dX8_still_0 rfl),
   px_Sp.of (ps_get kc_X8 (by decide) wf_RX8_25 dX8_still_1),
   px_Sp.of (ps_iload_n dX8_still_4 rfl),
   ps_callV (IH 4 (by decide)) (C := RX1) (T := TX1) (N := 10) (ci := 1) rfl rfl (fc_4 _ _) wm_RX8_87 wi_yX1_has wl_yX1_has dX8_still_5,
   px_Sp.of (ps_if_ne dX8_still_8 (by decide)),
   px_Sp.of (ps_sipush dX8_still_11 (by decide)),
   ps_iret dX8_still_14,
   px_Sp.of (ps_aload_n dX8_still_15 rfl),
   px_Sp.of (ps_get kc_X8 (by decide) wf_RX8_25 dX8_still_16),
   px_Sp.of (ps_iload_n dX8_still_19 rfl),
   ps_callV (IH 16 (by decide)) (C := RX1) (T := TX1) (N := 10) (ci := 1) rfl rfl (fc_16 _ _) wm_RX8_122 wi_yX1_isTaken wl_yX1_isTaken dX8_still_20,
   px_Sp.of (ps_if_ne dX8_still_23 (by decide)),
   px_Sp.of (ps_sipush dX8_still_26 (by decide)),
   ps_iret dX8_still_29,
   px_Sp.of (ps_aload_n dX8_still_30 rfl),
   px_Sp.of (ps_get kc_X8 (by decide) wf_RX8_47 dX8_still_31),
   px_Sp.of (ps_iload_n dX8_still_34 rfl),
   ps_callV (IH 23 (by decide)) (C := RX2) (T := TX2) (N := 8) (ci := 2) rfl rfl (fc_23 _ _) wm_RX8_146 wi_yX2_refresh wl_yX2_refresh dX8_still_35,
   px_Sp.of (ps_aload_n dX8_still_38 rfl),
   px_Sp.of (ps_get kc_X8 (by decide) wf_RX8_47 dX8_still_39),
   px_Sp.of (ps_iload_n dX8_still_42 rfl),
   ps_callV (IH 102 (by decide)) (C := RX2) (T := TX2) (N := 8) (ci := 2) rfl rfl (fc_102 _ _) wm_RX8_247 wi_yX2_linesQuotedAlike wl_yX2_linesQuotedAlike dX8_still_43,
   ps_iret dX8_still_46, trivial⟩
theorem mt_101 {l : Launch} {d : Nat} (IH : ∀ μ, μ < 196 → px_Met l px_P d μ) : px_Met l px_P (d + 1) 101 := px_met (own := RX8) rfl (by decide +kernel) (ok_101 IH)
theorem dX2_linesQuotedAlike_0 : decode cX2_linesQuotedAlike 0 = .ok (.iconst 0, 1) := by decide +kernel
theorem dX2_linesQuotedAlike_1 : decode cX2_linesQuotedAlike 1 = .ok (.istore_n 2, 1) := by decide +kernel
theorem dX2_linesQuotedAlike_2 : decode cX2_linesQuotedAlike 2 = .ok (.iconst 0, 1) := by decide +kernel
theorem dX2_linesQuotedAlike_3 : decode cX2_linesQuotedAlike 3 = .ok (.istore_n 3, 1) := by decide +kernel
theorem dX2_linesQuotedAlike_4 : decode cX2_linesQuotedAlike 4 = .ok (.iload_n 3, 1) := by decide +kernel
theorem dX2_linesQuotedAlike_5 : decode cX2_linesQuotedAlike 5 = .ok (.aload_n 0, 1) := by decide +kernel
theorem dX2_linesQuotedAlike_6 : decode cX2_linesQuotedAlike 6 = .ok (.getfield 22, 3) := by decide +kernel
theorem dX2_linesQuotedAlike_9 : decode cX2_linesQuotedAlike 9 = .ok (.getfield 41, 3) := by decide +kernel
theorem dX2_linesQuotedAlike_12 : decode cX2_linesQuotedAlike 12 = .ok (.if_icmp .ge 113, 3) := by decide +kernel
theorem dX2_linesQuotedAlike_15 : decode cX2_linesQuotedAlike 15 = .ok (.iload_n 3, 1) := by decide +kernel
theorem dX2_linesQuotedAlike_16 : decode cX2_linesQuotedAlike 16 = .ok (.iload_n 1, 1) := by decide +kernel
theorem dX2_linesQuotedAlike_17 : decode cX2_linesQuotedAlike 17 = .ok (.if_icmp .eq 102, 3) := by decide +kernel
theorem dX2_linesQuotedAlike_20 : decode cX2_linesQuotedAlike 20 = .ok (.aload_n 0, 1) := by decide +kernel
theorem dX2_linesQuotedAlike_21 : decode cX2_linesQuotedAlike 21 = .ok (.iload_n 3, 1) := by decide +kernel
theorem dX2_linesQuotedAlike_22 : decode cX2_linesQuotedAlike 22 = .ok (.invokevirtual 50, 3) := by decide +kernel
theorem dX2_linesQuotedAlike_25 : decode cX2_linesQuotedAlike 25 = .ok (.ifCond .ne 6, 3) := by decide +kernel
theorem dX2_linesQuotedAlike_28 : decode cX2_linesQuotedAlike 28 = .ok (.goto 91, 3) := by decide +kernel
theorem dX2_linesQuotedAlike_31 : decode cX2_linesQuotedAlike 31 = .ok (.iconst 0, 1) := by decide +kernel
theorem dX2_linesQuotedAlike_32 : decode cX2_linesQuotedAlike 32 = .ok (.istore 4, 2) := by decide +kernel
theorem dX2_linesQuotedAlike_34 : decode cX2_linesQuotedAlike 34 = .ok (.iload 4, 2) := by decide +kernel
theorem dX2_linesQuotedAlike_36 : decode cX2_linesQuotedAlike 36 = .ok (.aload_n 0, 1) := by decide +kernel
theorem dX2_linesQuotedAlike_37 : decode cX2_linesQuotedAlike 37 = .ok (.getfield 22, 3) := by decide +kernel
theorem dX2_linesQuotedAlike_40 : decode cX2_linesQuotedAlike 40 = .ok (.getfield 89, 3) := by decide +kernel
theorem dX2_linesQuotedAlike_43 : decode cX2_linesQuotedAlike 43 = .ok (.iload_n 3, 1) := by decide +kernel
theorem dX2_linesQuotedAlike_44 : decode cX2_linesQuotedAlike 44 = .ok (.iaload, 1) := by decide +kernel
theorem dX2_linesQuotedAlike_45 : decode cX2_linesQuotedAlike 45 = .ok (.if_icmp .ge 74, 3) := by decide +kernel
theorem dX2_linesQuotedAlike_48 : decode cX2_linesQuotedAlike 48 = .ok (.iload_n 3, 1) := by decide +kernel
theorem dX2_linesQuotedAlike_49 : decode cX2_linesQuotedAlike 49 = .ok (.iload 4, 2) := by decide +kernel
theorem dX2_linesQuotedAlike_51 : decode cX2_linesQuotedAlike 51 = .ok (.invokestatic 92, 3) := by decide +kernel
theorem dX2_linesQuotedAlike_54 : decode cX2_linesQuotedAlike 54 = .ok (.istore 5, 2) := by decide +kernel
theorem dX2_linesQuotedAlike_56 : decode cX2_linesQuotedAlike 56 = .ok (.aload_n 0, 1) := by decide +kernel
theorem dX2_linesQuotedAlike_57 : decode cX2_linesQuotedAlike 57 = .ok (.iload 5, 2) := by decide +kernel
theorem dX2_linesQuotedAlike_59 : decode cX2_linesQuotedAlike 59 = .ok (.invokevirtual 114, 3) := by decide +kernel
theorem dX2_linesQuotedAlike_62 : decode cX2_linesQuotedAlike 62 = .ok (.istore 6, 2) := by decide +kernel
theorem dX2_linesQuotedAlike_64 : decode cX2_linesQuotedAlike 64 = .ok (.iload 6, 2) := by decide +kernel
theorem dX2_linesQuotedAlike_66 : decode cX2_linesQuotedAlike 66 = .ok (.iconst (-1), 1) := by decide +kernel
theorem dX2_linesQuotedAlike_67 : decode cX2_linesQuotedAlike 67 = .ok (.if_icmp .eq 46, 3) := by decide +kernel
theorem dX2_linesQuotedAlike_70 : decode cX2_linesQuotedAlike 70 = .ok (.iload 6, 2) := by decide +kernel
theorem dX2_linesQuotedAlike_72 : decode cX2_linesQuotedAlike 72 = .ok (.bipush 14, 2) := by decide +kernel
theorem dX2_linesQuotedAlike_74 : decode cX2_linesQuotedAlike 74 = .ok (.idiv, 1) := by decide +kernel
theorem dX2_linesQuotedAlike_75 : decode cX2_linesQuotedAlike 75 = .ok (.iload_n 1, 1) := by decide +kernel
theorem dX2_linesQuotedAlike_76 : decode cX2_linesQuotedAlike 76 = .ok (.if_icmp .ne 37, 3) := by decide +kernel
theorem dX2_linesQuotedAlike_79 : decode cX2_linesQuotedAlike 79 = .ok (.aload_n 0, 1) := by decide +kernel
theorem dX2_linesQuotedAlike_80 : decode cX2_linesQuotedAlike 80 = .ok (.getfield 22, 3) := by decide +kernel
theorem dX2_linesQuotedAlike_83 : decode cX2_linesQuotedAlike 83 = .ok (.getfield 101, 3) := by decide +kernel
theorem dX2_linesQuotedAlike_86 : decode cX2_linesQuotedAlike 86 = .ok (.iload 6, 2) := by decide +kernel
theorem dX2_linesQuotedAlike_88 : decode cX2_linesQuotedAlike 88 = .ok (.laload, 1) := by decide +kernel
theorem dX2_linesQuotedAlike_89 : decode cX2_linesQuotedAlike 89 = .ok (.aload_n 0, 1) := by decide +kernel
theorem dX2_linesQuotedAlike_90 : decode cX2_linesQuotedAlike 90 = .ok (.getfield 22, 3) := by decide +kernel
theorem dX2_linesQuotedAlike_93 : decode cX2_linesQuotedAlike 93 = .ok (.getfield 101, 3) := by decide +kernel
theorem dX2_linesQuotedAlike_96 : decode cX2_linesQuotedAlike 96 = .ok (.iload 5, 2) := by decide +kernel
theorem dX2_linesQuotedAlike_98 : decode cX2_linesQuotedAlike 98 = .ok (.laload, 1) := by decide +kernel
theorem dX2_linesQuotedAlike_99 : decode cX2_linesQuotedAlike 99 = .ok (.lcmp, 1) := by decide +kernel
theorem dX2_linesQuotedAlike_100 : decode cX2_linesQuotedAlike 100 = .ok (.ifCond .ne 13, 3) := by decide +kernel
theorem dX2_linesQuotedAlike_103 : decode cX2_linesQuotedAlike 103 = .ok (.iload_n 2, 1) := by decide +kernel
theorem dX2_linesQuotedAlike_104 : decode cX2_linesQuotedAlike 104 = .ok (.iconst 1, 1) := by decide +kernel
theorem dX2_linesQuotedAlike_105 : decode cX2_linesQuotedAlike 105 = .ok (.iload 6, 2) := by decide +kernel
theorem dX2_linesQuotedAlike_107 : decode cX2_linesQuotedAlike 107 = .ok (.bipush 14, 2) := by decide +kernel
theorem dX2_linesQuotedAlike_109 : decode cX2_linesQuotedAlike 109 = .ok (.irem, 1) := by decide +kernel
theorem dX2_linesQuotedAlike_110 : decode cX2_linesQuotedAlike 110 = .ok (.ishl, 1) := by decide +kernel
theorem dX2_linesQuotedAlike_111 : decode cX2_linesQuotedAlike 111 = .ok (.ior, 1) := by decide +kernel
theorem dX2_linesQuotedAlike_112 : decode cX2_linesQuotedAlike 112 = .ok (.istore_n 2, 1) := by decide +kernel
theorem dX2_linesQuotedAlike_113 : decode cX2_linesQuotedAlike 113 = .ok (.iinc 4 1, 3) := by decide +kernel
theorem dX2_linesQuotedAlike_116 : decode cX2_linesQuotedAlike 116 = .ok (.goto (-82), 3) := by decide +kernel
theorem dX2_linesQuotedAlike_119 : decode cX2_linesQuotedAlike 119 = .ok (.iinc 3 1, 3) := by decide +kernel
theorem dX2_linesQuotedAlike_122 : decode cX2_linesQuotedAlike 122 = .ok (.goto (-118), 3) := by decide +kernel
theorem dX2_linesQuotedAlike_125 : decode cX2_linesQuotedAlike 125 = .ok (.iload_n 2, 1) := by decide +kernel
theorem dX2_linesQuotedAlike_126 : decode cX2_linesQuotedAlike 126 = .ok (.ireturn, 1) := by decide +kernel
set_option maxRecDepth 20000 in
theorem ok_102 {l : Launch} {d : Nat} (IH : ∀ μ, μ < 196 → px_Met l px_P d μ) : px_ok l px_P d RX2 cX2_linesQuotedAlike 7 (some .int) tb_102 :=
  ⟨px_Sp.of (ps_iconst dX2_linesQuotedAlike_0 (by decide)),
   px_Sp.of (ps_istore_n dX2_linesQuotedAlike_1 rfl (by decide)),
   px_Sp.of (ps_iconst dX2_linesQuotedAlike_2 (by decide)),
   px_Sp.of (ps_istore_n dX2_linesQuotedAlike_3 rfl (by decide)),
   px_Sp.of (ps_iload_n dX2_linesQuotedAlike_4 rfl),
   px_Sp.of (ps_aload_n dX2_linesQuotedAlike_5 rfl),
   px_Sp.of (ps_get kc_X2 (by decide) wf_RX2_22 dX2_linesQuotedAlike_6),
   px_Sp.of (ps_get kc_X1 (by decide) wf_RX2_41 dX2_linesQuotedAlike_9),
   px_Sp.of (ps_icmp_ge dX2_linesQuotedAlike_12 (by decide)),
   px_Sp.of (ps_iload_n dX2_linesQuotedAlike_15 rfl),
   px_Sp.of (ps_iload_n dX2_linesQuotedAlike_16 rfl),
   px_Sp.of (ps_icmp_eq dX2_linesQuotedAlike_17 (by decide)),
   px_Sp.of (ps_aload_n dX2_linesQuotedAlike_20 rfl),
   px_Sp.of (ps_iload_n dX2_linesQuotedAlike_21 rfl),
   ps_callV (IH 24 (by decide)) (C := RX2) (T := TX2) (N := 8) (ci := 2) rfl rfl (fc_24 _ _) wm_RX2_50 wi_yX2_isSeen wl_yX2_isSeen dX2_linesQuotedAlike_22,
   px_Sp.of (ps_if_ne dX2_linesQuotedAlike_25 (by decide)),
   px_Sp.of (ps_goto dX2_linesQuotedAlike_28 (by decide)),
   px_Sp.of (ps_iconst dX2_linesQuotedAlike_31 (by decide)),
   px_Sp.of (ps_istore dX2_linesQuotedAlike_32 (by decide)),
   px_Sp.of (ps_iload dX2_linesQuotedAlike_34),
   px_Sp.of (ps_aload_n dX2_linesQuotedAlike_36 rfl),
   px_Sp.of (ps_get kc_X2 (by decide) wf_RX2_22 dX2_linesQuotedAlike_37),
   px_Sp.of (ps_get kc_X1 (by decide) wf_RX2_89 dX2_linesQuotedAlike_40),
   px_Sp.of (ps_iload_n dX2_linesQuotedAlike_43 rfl),
   px_Sp.of (ps_iald dX2_linesQuotedAlike_44),
   px_Sp.of (ps_icmp_ge dX2_linesQuotedAlike_45 (by decide)),
   px_Sp.of (ps_iload_n dX2_linesQuotedAlike_48 rfl),
   px_Sp.of (ps_iload dX2_linesQuotedAlike_49),
   ps_callSN (IH 11 (by decide)) (fc_11 _ _) (fun _ _ _ _ h => h.1.2.2.1) ws_yX8_spotOf dX2_linesQuotedAlike_51,
   px_Sp.of (ps_istore dX2_linesQuotedAlike_54 (by decide)),
   px_Sp.of (ps_aload_n dX2_linesQuotedAlike_56 rfl),
   px_Sp.of (ps_iload dX2_linesQuotedAlike_57),
   ps_callV (IH 54 (by decide)) (C := RX2) (T := TX2) (N := 8) (ci := 2) rfl rfl (fc_54 _ _) wm_RX2_114 wi_yX2_sourceOf wl_yX2_sourceOf dX2_linesQuotedAlike_59,
   px_Sp.of (ps_istore dX2_linesQuotedAlike_62 (by decide)),
   px_Sp.of (ps_iload dX2_linesQuotedAlike_64),
   px_Sp.of (ps_iconst dX2_linesQuotedAlike_66 (by decide)),
   px_Sp.of (ps_icmp_eq dX2_linesQuotedAlike_67 (by decide)),
   px_Sp.of (ps_iload dX2_linesQuotedAlike_70),
   px_Sp.of (ps_bipush dX2_linesQuotedAlike_72 (by decide)),
   px_Sp.of (ps_idiv dX2_linesQuotedAlike_74),
   px_Sp.of (ps_iload_n dX2_linesQuotedAlike_75 rfl),
   px_Sp.of (ps_icmp_ne dX2_linesQuotedAlike_76 (by decide)),
   px_Sp.of (ps_aload_n dX2_linesQuotedAlike_79 rfl),
   px_Sp.of (ps_get kc_X2 (by decide) wf_RX2_22 dX2_linesQuotedAlike_80),
   px_Sp.of (ps_get kc_X1 (by decide) wf_RX2_101 dX2_linesQuotedAlike_83),
   px_Sp.of (ps_iload dX2_linesQuotedAlike_86),
   px_Sp.of (ps_lald dX2_linesQuotedAlike_88),
   px_Sp.of (ps_aload_n dX2_linesQuotedAlike_89 rfl),
   px_Sp.of (ps_get kc_X2 (by decide) wf_RX2_22 dX2_linesQuotedAlike_90),
   px_Sp.of (ps_get kc_X1 (by decide) wf_RX2_101 dX2_linesQuotedAlike_93),
   px_Sp.of (ps_iload dX2_linesQuotedAlike_96),
   px_Sp.of (ps_lald dX2_linesQuotedAlike_98),
   px_Sp.of (ps_lcmp dX2_linesQuotedAlike_99),
   px_Sp.of (ps_if_ne dX2_linesQuotedAlike_100 (by decide)),
   px_Sp.of (ps_iload_n dX2_linesQuotedAlike_103 rfl),
   px_Sp.of (ps_iconst dX2_linesQuotedAlike_104 (by decide)),
   px_Sp.of (ps_iload dX2_linesQuotedAlike_105),
   px_Sp.of (ps_bipush dX2_linesQuotedAlike_107 (by decide)),
   px_Sp.of (ps_irem dX2_linesQuotedAlike_109),
   px_Sp.of (ps_ishl dX2_linesQuotedAlike_110),
   px_Sp.of (ps_ior dX2_linesQuotedAlike_111),
   px_Sp.of (ps_istore_n dX2_linesQuotedAlike_112 rfl (by decide)),
   px_Sp.of (ps_iinc dX2_linesQuotedAlike_113 (by decide) (by decide)),
   px_Sp.of (ps_goto dX2_linesQuotedAlike_116 (by decide)),
   px_Sp.of (ps_iinc dX2_linesQuotedAlike_119 (by decide) (by decide)),
   px_Sp.of (ps_goto dX2_linesQuotedAlike_122 (by decide)),
   px_Sp.of (ps_iload_n dX2_linesQuotedAlike_125 rfl),
   ps_iret dX2_linesQuotedAlike_126, trivial⟩
theorem mt_102 {l : Launch} {d : Nat} (IH : ∀ μ, μ < 196 → px_Met l px_P d μ) : px_Met l px_P (d + 1) 102 := px_met (own := RX2) rfl (by decide +kernel) (ok_102 IH)
theorem dX8_feed_0 : decode cX8_feed 0 = .ok (.iload_n 1, 1) := by decide +kernel
theorem dX8_feed_1 : decode cX8_feed 1 = .ok (.iconst 1, 1) := by decide +kernel
theorem dX8_feed_2 : decode cX8_feed 2 = .ok (.if_icmp .lt 9, 3) := by decide +kernel
theorem dX8_feed_5 : decode cX8_feed 5 = .ok (.iload_n 1, 1) := by decide +kernel
theorem dX8_feed_6 : decode cX8_feed 6 = .ok (.bipush 8, 2) := by decide +kernel
theorem dX8_feed_8 : decode cX8_feed 8 = .ok (.if_icmp .le 7, 3) := by decide +kernel
theorem dX8_feed_11 : decode cX8_feed 11 = .ok (.sipush (-1002), 3) := by decide +kernel
theorem dX8_feed_14 : decode cX8_feed 14 = .ok (.ireturn, 1) := by decide +kernel
theorem dX8_feed_15 : decode cX8_feed 15 = .ok (.aload_n 0, 1) := by decide +kernel
theorem dX8_feed_16 : decode cX8_feed 16 = .ok (.getfield 69, 3) := by decide +kernel
theorem dX8_feed_19 : decode cX8_feed 19 = .ok (.getfield 189, 3) := by decide +kernel
theorem dX8_feed_22 : decode cX8_feed 22 = .ok (.iload_n 1, 1) := by decide +kernel
theorem dX8_feed_23 : decode cX8_feed 23 = .ok (.iadd, 1) := by decide +kernel
theorem dX8_feed_24 : decode cX8_feed 24 = .ok (.bipush 120, 2) := by decide +kernel
theorem dX8_feed_26 : decode cX8_feed 26 = .ok (.if_icmp .le 9, 3) := by decide +kernel
theorem dX8_feed_29 : decode cX8_feed 29 = .ok (.sipush (-1004), 3) := by decide +kernel
theorem dX8_feed_32 : decode cX8_feed 32 = .ok (.goto 12, 3) := by decide +kernel
theorem dX8_feed_35 : decode cX8_feed 35 = .ok (.aload_n 0, 1) := by decide +kernel
theorem dX8_feed_36 : decode cX8_feed 36 = .ok (.getfield 69, 3) := by decide +kernel
theorem dX8_feed_39 : decode cX8_feed 39 = .ok (.iload_n 1, 1) := by decide +kernel
theorem dX8_feed_40 : decode cX8_feed 40 = .ok (.lload_n 2, 1) := by decide +kernel
theorem dX8_feed_41 : decode cX8_feed 41 = .ok (.invokevirtual 250, 3) := by decide +kernel
theorem dX8_feed_44 : decode cX8_feed 44 = .ok (.ireturn, 1) := by decide +kernel
set_option maxRecDepth 20000 in
theorem ok_103 {l : Launch} {d : Nat} (IH : ∀ μ, μ < 196 → px_Met l px_P d μ) : px_ok l px_P d RX8 cX8_feed 4 (some .int) tb_103 :=
  ⟨px_Sp.of (ps_iload_n dX8_feed_0 rfl),
   px_Sp.of (ps_iconst dX8_feed_1 (by decide)),
   px_Sp.of (ps_icmp_lt dX8_feed_2 (by decide)),
   px_Sp.of (ps_iload_n dX8_feed_5 rfl),
   px_Sp.of (ps_bipush dX8_feed_6 (by decide)),
   px_Sp.of (ps_icmp_le dX8_feed_8 (by decide)),
   px_Sp.of (ps_sipush dX8_feed_11 (by decide)),
   ps_iret dX8_feed_14,
   px_Sp.of (ps_aload_n dX8_feed_15 rfl),
   px_Sp.of (ps_get kc_X8 (by decide) wf_RX8_69 dX8_feed_16),
   px_Sp.of (ps_get kc_X6 (by decide) wf_RX8_189 dX8_feed_19),
   px_Sp.of (ps_iload_n dX8_feed_22 rfl),
   px_Sp.of (ps_iadd dX8_feed_23),
   px_Sp.of (ps_bipush dX8_feed_24 (by decide)),
   px_Sp.of (ps_icmp_le dX8_feed_26 (by decide)),
   px_Sp.of (ps_sipush dX8_feed_29 (by decide)),
   px_Sp.of (ps_goto dX8_feed_32 (by decide)),
   px_Sp.of (ps_aload_n dX8_feed_35 rfl),
   px_Sp.of (ps_get kc_X8 (by decide) wf_RX8_69 dX8_feed_36),
   px_Sp.of (ps_iload_n dX8_feed_39 rfl),
   px_Sp.of (ps_lload_n dX8_feed_40 rfl),
   ps_callV (IH 104 (by decide)) (C := RX6) (T := TX6) (N := 7) (ci := 6) rfl rfl (fc_104 _ _) wm_RX8_250 wi_yX6_addBytes wl_yX6_addBytes dX8_feed_41,
   ps_iret dX8_feed_44, trivial⟩
theorem mt_103 {l : Launch} {d : Nat} (IH : ∀ μ, μ < 196 → px_Met l px_P d μ) : px_Met l px_P (d + 1) 103 := px_met (own := RX8) rfl (by decide +kernel) (ok_103 IH)
theorem dX6_addBytes_0 : decode cX6_addBytes 0 = .ok (.iload_n 1, 1) := by decide +kernel
theorem dX6_addBytes_1 : decode cX6_addBytes 1 = .ok (.iconst 1, 1) := by decide +kernel
theorem dX6_addBytes_2 : decode cX6_addBytes 2 = .ok (.isub, 1) := by decide +kernel
theorem dX6_addBytes_3 : decode cX6_addBytes 3 = .ok (.istore 4, 2) := by decide +kernel
theorem dX6_addBytes_5 : decode cX6_addBytes 5 = .ok (.iload 4, 2) := by decide +kernel
theorem dX6_addBytes_7 : decode cX6_addBytes 7 = .ok (.ifCond .lt 49, 3) := by decide +kernel
theorem dX6_addBytes_10 : decode cX6_addBytes 10 = .ok (.aload_n 0, 1) := by decide +kernel
theorem dX6_addBytes_11 : decode cX6_addBytes 11 = .ok (.getfield 22, 3) := by decide +kernel
theorem dX6_addBytes_14 : decode cX6_addBytes 14 = .ok (.bipush 120, 2) := by decide +kernel
theorem dX6_addBytes_16 : decode cX6_addBytes 16 = .ok (.if_icmp .ge 40, 3) := by decide +kernel
theorem dX6_addBytes_19 : decode cX6_addBytes 19 = .ok (.aload_n 0, 1) := by decide +kernel
theorem dX6_addBytes_20 : decode cX6_addBytes 20 = .ok (.getfield 9, 3) := by decide +kernel
theorem dX6_addBytes_23 : decode cX6_addBytes 23 = .ok (.aload_n 0, 1) := by decide +kernel
theorem dX6_addBytes_24 : decode cX6_addBytes 24 = .ok (.getfield 22, 3) := by decide +kernel
theorem dX6_addBytes_27 : decode cX6_addBytes 27 = .ok (.lload_n 2, 1) := by decide +kernel
theorem dX6_addBytes_28 : decode cX6_addBytes 28 = .ok (.bipush 8, 2) := by decide +kernel
theorem dX6_addBytes_30 : decode cX6_addBytes 30 = .ok (.iload 4, 2) := by decide +kernel
theorem dX6_addBytes_32 : decode cX6_addBytes 32 = .ok (.imul, 1) := by decide +kernel
theorem dX6_addBytes_33 : decode cX6_addBytes 33 = .ok (.lushr, 1) := by decide +kernel
theorem dX6_addBytes_34 : decode cX6_addBytes 34 = .ok (.l2i, 1) := by decide +kernel
theorem dX6_addBytes_35 : decode cX6_addBytes 35 = .ok (.sipush 255, 3) := by decide +kernel
theorem dX6_addBytes_38 : decode cX6_addBytes 38 = .ok (.iand, 1) := by decide +kernel
theorem dX6_addBytes_39 : decode cX6_addBytes 39 = .ok (.iastore, 1) := by decide +kernel
theorem dX6_addBytes_40 : decode cX6_addBytes 40 = .ok (.aload_n 0, 1) := by decide +kernel
theorem dX6_addBytes_41 : decode cX6_addBytes 41 = .ok (.dup, 1) := by decide +kernel
theorem dX6_addBytes_42 : decode cX6_addBytes 42 = .ok (.getfield 22, 3) := by decide +kernel
theorem dX6_addBytes_45 : decode cX6_addBytes 45 = .ok (.iconst 1, 1) := by decide +kernel
theorem dX6_addBytes_46 : decode cX6_addBytes 46 = .ok (.iadd, 1) := by decide +kernel
theorem dX6_addBytes_47 : decode cX6_addBytes 47 = .ok (.putfield 22, 3) := by decide +kernel
theorem dX6_addBytes_50 : decode cX6_addBytes 50 = .ok (.iinc 4 (-1), 3) := by decide +kernel
theorem dX6_addBytes_53 : decode cX6_addBytes 53 = .ok (.goto (-48), 3) := by decide +kernel
theorem dX6_addBytes_56 : decode cX6_addBytes 56 = .ok (.aload_n 0, 1) := by decide +kernel
theorem dX6_addBytes_57 : decode cX6_addBytes 57 = .ok (.getfield 22, 3) := by decide +kernel
theorem dX6_addBytes_60 : decode cX6_addBytes 60 = .ok (.ireturn, 1) := by decide +kernel
set_option maxRecDepth 20000 in
theorem ok_104 {l : Launch} {d : Nat} (IH : ∀ μ, μ < 196 → px_Met l px_P d μ) : px_ok l px_P d RX6 cX6_addBytes 5 (some .int) tb_104 :=
  ⟨px_Sp.of (ps_iload_n dX6_addBytes_0 rfl),
   px_Sp.of (ps_iconst dX6_addBytes_1 (by decide)),
   px_Sp.of (ps_isub dX6_addBytes_2),
   px_Sp.of (ps_istore dX6_addBytes_3 (by decide)),
   px_Sp.of (ps_iload dX6_addBytes_5),
   px_Sp.of (ps_if_lt dX6_addBytes_7 (by decide)),
   px_Sp.of (ps_aload_n dX6_addBytes_10 rfl),
   px_Sp.of (ps_get kc_X6 (by decide) wf_RX6_22 dX6_addBytes_11),
   px_Sp.of (ps_bipush dX6_addBytes_14 (by decide)),
   px_Sp.of (ps_icmp_ge dX6_addBytes_16 (by decide)),
   px_Sp.of (ps_aload_n dX6_addBytes_19 rfl),
   px_Sp.of (ps_get kc_X6 (by decide) wf_RX6_9 dX6_addBytes_20),
   px_Sp.of (ps_aload_n dX6_addBytes_23 rfl),
   px_Sp.of (ps_get kc_X6 (by decide) wf_RX6_22 dX6_addBytes_24),
   px_Sp.of (ps_lload_n dX6_addBytes_27 rfl),
   px_Sp.of (ps_bipush dX6_addBytes_28 (by decide)),
   px_Sp.of (ps_iload dX6_addBytes_30),
   px_Sp.of (ps_imul dX6_addBytes_32),
   px_Sp.of (ps_lushr dX6_addBytes_33),
   px_Sp.of (ps_l2i dX6_addBytes_34),
   px_Sp.of (ps_sipush dX6_addBytes_35 (by decide)),
   px_Sp.of (ps_iand dX6_addBytes_38),
   px_Sp.ofm (ps_iast dX6_addBytes_39),
   px_Sp.of (ps_aload_n dX6_addBytes_40 rfl),
   px_Sp.of (ps_dup dX6_addBytes_41),
   px_Sp.of (ps_get kc_X6 (by decide) wf_RX6_22 dX6_addBytes_42),
   px_Sp.of (ps_iconst dX6_addBytes_45 (by decide)),
   px_Sp.of (ps_iadd dX6_addBytes_46),
   px_Sp.ofm (ps_putI kc_X6 (by decide) wf_RX6_22 rfl (by decide +kernel) kp_X6_2 dX6_addBytes_47),
   px_Sp.of (ps_iinc dX6_addBytes_50 (by decide) (by decide)),
   px_Sp.of (ps_goto dX6_addBytes_53 (by decide)),
   px_Sp.of (ps_aload_n dX6_addBytes_56 rfl),
   px_Sp.of (ps_get kc_X6 (by decide) wf_RX6_22 dX6_addBytes_57),
   ps_iret dX6_addBytes_60, trivial⟩
theorem mt_104 {l : Launch} {d : Nat} (IH : ∀ μ, μ < 196 → px_Met l px_P d μ) : px_Met l px_P (d + 1) 104 := px_met (own := RX6) rfl (by decide +kernel) (ok_104 IH)
theorem dX8_read_0 : decode cX8_read 0 = .ok (.aload_n 0, 1) := by decide +kernel
theorem dX8_read_1 : decode cX8_read 1 = .ok (.getfield 69, 3) := by decide +kernel
theorem dX8_read_4 : decode cX8_read 4 = .ok (.invokevirtual 254, 3) := by decide +kernel
theorem dX8_read_7 : decode cX8_read 7 = .ok (.istore_n 1, 1) := by decide +kernel
theorem dX8_read_8 : decode cX8_read 8 = .ok (.aload_n 0, 1) := by decide +kernel
theorem dX8_read_9 : decode cX8_read 9 = .ok (.getfield 69, 3) := by decide +kernel
theorem dX8_read_12 : decode cX8_read 12 = .ok (.iconst 0, 1) := by decide +kernel
theorem dX8_read_13 : decode cX8_read 13 = .ok (.putfield 189, 3) := by decide +kernel
theorem dX8_read_16 : decode cX8_read 16 = .ok (.aload_n 0, 1) := by decide +kernel
theorem dX8_read_17 : decode cX8_read 17 = .ok (.getfield 69, 3) := by decide +kernel
theorem dX8_read_20 : decode cX8_read 20 = .ok (.getfield 257, 3) := by decide +kernel
theorem dX8_read_23 : decode cX8_read 23 = .ok (.iconst (-1), 1) := by decide +kernel
theorem dX8_read_24 : decode cX8_read 24 = .ok (.if_icmp .eq 14, 3) := by decide +kernel
theorem dX8_read_27 : decode cX8_read 27 = .ok (.bipush (-10), 2) := by decide +kernel
theorem dX8_read_29 : decode cX8_read 29 = .ok (.aload_n 0, 1) := by decide +kernel
theorem dX8_read_30 : decode cX8_read 30 = .ok (.getfield 69, 3) := by decide +kernel
theorem dX8_read_33 : decode cX8_read 33 = .ok (.getfield 260, 3) := by decide +kernel
theorem dX8_read_36 : decode cX8_read 36 = .ok (.isub, 1) := by decide +kernel
theorem dX8_read_37 : decode cX8_read 37 = .ok (.ireturn, 1) := by decide +kernel
theorem dX8_read_38 : decode cX8_read 38 = .ok (.aload_n 0, 1) := by decide +kernel
theorem dX8_read_39 : decode cX8_read 39 = .ok (.getfield 9, 3) := by decide +kernel
theorem dX8_read_42 : decode cX8_read 42 = .ok (.iconst 0, 1) := by decide +kernel
theorem dX8_read_43 : decode cX8_read 43 = .ok (.iaload, 1) := by decide +kernel
theorem dX8_read_44 : decode cX8_read 44 = .ok (.aload_n 0, 1) := by decide +kernel
theorem dX8_read_45 : decode cX8_read 45 = .ok (.getfield 69, 3) := by decide +kernel
theorem dX8_read_48 : decode cX8_read 48 = .ok (.getfield 263, 3) := by decide +kernel
theorem dX8_read_51 : decode cX8_read 51 = .ok (.iconst 0, 1) := by decide +kernel
theorem dX8_read_52 : decode cX8_read 52 = .ok (.iaload, 1) := by decide +kernel
theorem dX8_read_53 : decode cX8_read 53 = .ok (.if_icmp .eq 10, 3) := by decide +kernel
theorem dX8_read_56 : decode cX8_read 56 = .ok (.aload_n 0, 1) := by decide +kernel
theorem dX8_read_57 : decode cX8_read 57 = .ok (.getfield 34, 3) := by decide +kernel
theorem dX8_read_60 : decode cX8_read 60 = .ok (.invokevirtual 266, 3) := by decide +kernel
theorem dX8_read_63 : decode cX8_read 63 = .ok (.aload_n 0, 1) := by decide +kernel
theorem dX8_read_64 : decode cX8_read 64 = .ok (.getfield 69, 3) := by decide +kernel
theorem dX8_read_67 : decode cX8_read 67 = .ok (.getfield 263, 3) := by decide +kernel
theorem dX8_read_70 : decode cX8_read 70 = .ok (.iconst 0, 1) := by decide +kernel
theorem dX8_read_71 : decode cX8_read 71 = .ok (.aload_n 0, 1) := by decide +kernel
theorem dX8_read_72 : decode cX8_read 72 = .ok (.getfield 9, 3) := by decide +kernel
theorem dX8_read_75 : decode cX8_read 75 = .ok (.iconst 0, 1) := by decide +kernel
theorem dX8_read_76 : decode cX8_read 76 = .ok (.iconst 5, 1) := by decide +kernel
theorem dX8_read_77 : decode cX8_read 77 = .ok (.invokestatic 16, 3) := by decide +kernel
theorem dX8_read_80 : decode cX8_read 80 = .ok (.aload_n 0, 1) := by decide +kernel
theorem dX8_read_81 : decode cX8_read 81 = .ok (.invokevirtual 100, 3) := by decide +kernel
theorem dX8_read_84 : decode cX8_read 84 = .ok (.iload_n 1, 1) := by decide +kernel
theorem dX8_read_85 : decode cX8_read 85 = .ok (.ireturn, 1) := by decide +kernel
set_option maxRecDepth 20000 in
theorem ok_105 {l : Launch} {d : Nat} (IH : ∀ μ, μ < 196 → px_Met l px_P d μ) : px_ok l px_P d RX8 cX8_read 2 (some .int) tb_105 :=
  ⟨px_Sp.of (ps_aload_n dX8_read_0 rfl),
   px_Sp.of (ps_get kc_X8 (by decide) wf_RX8_69 dX8_read_1),
   ps_callV (IH 106 (by decide)) (C := RX6) (T := TX6) (N := 7) (ci := 6) rfl rfl (fc_106 _ _) wm_RX8_254 wi_yX6_readClauses wl_yX6_readClauses dX8_read_4,
   px_Sp.of (ps_istore_n dX8_read_7 rfl (by decide)),
   px_Sp.of (ps_aload_n dX8_read_8 rfl),
   px_Sp.of (ps_get kc_X8 (by decide) wf_RX8_69 dX8_read_9),
   px_Sp.of (ps_iconst dX8_read_12 (by decide)),
   px_Sp.ofm (ps_putI kc_X6 (by decide) wf_RX8_189 rfl (by decide +kernel) kp_X6_2 dX8_read_13),
   px_Sp.of (ps_aload_n dX8_read_16 rfl),
   px_Sp.of (ps_get kc_X8 (by decide) wf_RX8_69 dX8_read_17),
   px_Sp.of (ps_get kc_X6 (by decide) wf_RX8_257 dX8_read_20),
   px_Sp.of (ps_iconst dX8_read_23 (by decide)),
   px_Sp.of (ps_icmp_eq dX8_read_24 (by decide)),
   px_Sp.of (ps_bipush dX8_read_27 (by decide)),
   px_Sp.of (ps_aload_n dX8_read_29 rfl),
   px_Sp.of (ps_get kc_X8 (by decide) wf_RX8_69 dX8_read_30),
   px_Sp.of (ps_get kc_X6 (by decide) wf_RX8_260 dX8_read_33),
   px_Sp.of (ps_isub dX8_read_36),
   ps_iret dX8_read_37,
   px_Sp.of (ps_aload_n dX8_read_38 rfl),
   px_Sp.of (ps_get kc_X8 (by decide) wf_RX8_9 dX8_read_39),
   px_Sp.of (ps_iconst dX8_read_42 (by decide)),
   px_Sp.of (ps_iald dX8_read_43),
   px_Sp.of (ps_aload_n dX8_read_44 rfl),
   px_Sp.of (ps_get kc_X8 (by decide) wf_RX8_69 dX8_read_45),
   px_Sp.of (ps_get kc_X6 (by decide) wf_RX8_263 dX8_read_48),
   px_Sp.of (ps_iconst dX8_read_51 (by decide)),
   px_Sp.of (ps_iald dX8_read_52),
   px_Sp.of (ps_icmp_eq dX8_read_53 (by decide)),
   px_Sp.of (ps_aload_n dX8_read_56 rfl),
   px_Sp.of (ps_get kc_X8 (by decide) wf_RX8_34 dX8_read_57),
   ps_callV (IH 125 (by decide)) (C := RX0) (T := TX0) (N := 5) (ci := 0) rfl rfl (fc_125 _ _) wm_RX8_266 wi_yX0_forgetAll wl_yX0_forgetAll dX8_read_60,
   px_Sp.of (ps_aload_n dX8_read_63 rfl),
   px_Sp.of (ps_get kc_X8 (by decide) wf_RX8_69 dX8_read_64),
   px_Sp.of (ps_get kc_X6 (by decide) wf_RX8_263 dX8_read_67),
   px_Sp.of (ps_iconst dX8_read_70 (by decide)),
   px_Sp.of (ps_aload_n dX8_read_71 rfl),
   px_Sp.of (ps_get kc_X8 (by decide) wf_RX8_9 dX8_read_72),
   px_Sp.of (ps_iconst dX8_read_75 (by decide)),
   px_Sp.of (ps_iconst dX8_read_76 (by decide)),
   px_Sp.ofm (ps_copy wm_RX8_16 wa_native ws_arraycopy wn_RJ10 dX8_read_77),
   px_Sp.of (ps_aload_n dX8_read_80 rfl),
   ps_callV (IH 7 (by decide)) (C := RX8) (T := TX8) (N := 10) (ci := 7) rfl rfl (fc_7 _ _) wm_RX8_100 wi_yX8_forgetFindings wl_yX8_forgetFindings dX8_read_81,
   px_Sp.of (ps_iload_n dX8_read_84 rfl),
   ps_iret dX8_read_85, trivial⟩
theorem mt_105 {l : Launch} {d : Nat} (IH : ∀ μ, μ < 196 → px_Met l px_P d μ) : px_Met l px_P (d + 1) 105 := px_met (own := RX8) rfl (by decide +kernel) (ok_105 IH)
theorem dX6_readClauses_0 : decode cX6_readClauses 0 = .ok (.getstatic 25, 3) := by decide +kernel
theorem dX6_readClauses_3 : decode cX6_readClauses 3 = .ok (.iconst 0, 1) := by decide +kernel
theorem dX6_readClauses_4 : decode cX6_readClauses 4 = .ok (.aload_n 0, 1) := by decide +kernel
theorem dX6_readClauses_5 : decode cX6_readClauses 5 = .ok (.getfield 15, 3) := by decide +kernel
theorem dX6_readClauses_8 : decode cX6_readClauses 8 = .ok (.iconst 0, 1) := by decide +kernel
theorem dX6_readClauses_9 : decode cX6_readClauses 9 = .ok (.iconst 5, 1) := by decide +kernel
theorem dX6_readClauses_10 : decode cX6_readClauses 10 = .ok (.invokestatic 28, 3) := by decide +kernel
theorem dX6_readClauses_13 : decode cX6_readClauses 13 = .ok (.aload_n 0, 1) := by decide +kernel
theorem dX6_readClauses_14 : decode cX6_readClauses 14 = .ok (.iconst 0, 1) := by decide +kernel
theorem dX6_readClauses_15 : decode cX6_readClauses 15 = .ok (.putfield 34, 3) := by decide +kernel
theorem dX6_readClauses_18 : decode cX6_readClauses 18 = .ok (.aload_n 0, 1) := by decide +kernel
theorem dX6_readClauses_19 : decode cX6_readClauses 19 = .ok (.iconst 0, 1) := by decide +kernel
theorem dX6_readClauses_20 : decode cX6_readClauses 20 = .ok (.putfield 37, 3) := by decide +kernel
theorem dX6_readClauses_23 : decode cX6_readClauses 23 = .ok (.aload_n 0, 1) := by decide +kernel
theorem dX6_readClauses_24 : decode cX6_readClauses 24 = .ok (.iconst (-1), 1) := by decide +kernel
theorem dX6_readClauses_25 : decode cX6_readClauses 25 = .ok (.putfield 18, 3) := by decide +kernel
theorem dX6_readClauses_28 : decode cX6_readClauses 28 = .ok (.aload_n 0, 1) := by decide +kernel
theorem dX6_readClauses_29 : decode cX6_readClauses 29 = .ok (.iconst 0, 1) := by decide +kernel
theorem dX6_readClauses_30 : decode cX6_readClauses 30 = .ok (.putfield 40, 3) := by decide +kernel
theorem dX6_readClauses_33 : decode cX6_readClauses 33 = .ok (.iconst 0, 1) := by decide +kernel
theorem dX6_readClauses_34 : decode cX6_readClauses 34 = .ok (.istore_n 1, 1) := by decide +kernel
theorem dX6_readClauses_35 : decode cX6_readClauses 35 = .ok (.aload_n 0, 1) := by decide +kernel
theorem dX6_readClauses_36 : decode cX6_readClauses 36 = .ok (.invokevirtual 43, 3) := by decide +kernel
theorem dX6_readClauses_39 : decode cX6_readClauses 39 = .ok (.iload_n 1, 1) := by decide +kernel
theorem dX6_readClauses_40 : decode cX6_readClauses 40 = .ok (.bipush 120, 2) := by decide +kernel
theorem dX6_readClauses_42 : decode cX6_readClauses 42 = .ok (.if_icmp .ge 31, 3) := by decide +kernel
theorem dX6_readClauses_45 : decode cX6_readClauses 45 = .ok (.aload_n 0, 1) := by decide +kernel
theorem dX6_readClauses_46 : decode cX6_readClauses 46 = .ok (.getfield 34, 3) := by decide +kernel
theorem dX6_readClauses_49 : decode cX6_readClauses 49 = .ok (.aload_n 0, 1) := by decide +kernel
theorem dX6_readClauses_50 : decode cX6_readClauses 50 = .ok (.getfield 22, 3) := by decide +kernel
theorem dX6_readClauses_53 : decode cX6_readClauses 53 = .ok (.if_icmp .ge 20, 3) := by decide +kernel
theorem dX6_readClauses_56 : decode cX6_readClauses 56 = .ok (.aload_n 0, 1) := by decide +kernel
theorem dX6_readClauses_57 : decode cX6_readClauses 57 = .ok (.invokevirtual 46, 3) := by decide +kernel
theorem dX6_readClauses_60 : decode cX6_readClauses 60 = .ok (.ifCond .eq 13, 3) := by decide +kernel
theorem dX6_readClauses_63 : decode cX6_readClauses 63 = .ok (.iinc 1 1, 3) := by decide +kernel
theorem dX6_readClauses_66 : decode cX6_readClauses 66 = .ok (.aload_n 0, 1) := by decide +kernel
theorem dX6_readClauses_67 : decode cX6_readClauses 67 = .ok (.invokevirtual 43, 3) := by decide +kernel
theorem dX6_readClauses_70 : decode cX6_readClauses 70 = .ok (.goto (-31), 3) := by decide +kernel
theorem dX6_readClauses_73 : decode cX6_readClauses 73 = .ok (.iload_n 1, 1) := by decide +kernel
theorem dX6_readClauses_74 : decode cX6_readClauses 74 = .ok (.ireturn, 1) := by decide +kernel
set_option maxRecDepth 20000 in
theorem ok_106 {l : Launch} {d : Nat} (IH : ∀ μ, μ < 196 → px_Met l px_P d μ) : px_ok l px_P d RX6 cX6_readClauses 2 (some .int) tb_106 :=
  ⟨px_Sp.of (ps_getsF dX6_readClauses_0),
   px_Sp.of (ps_iconst dX6_readClauses_3 (by decide)),
   px_Sp.of (ps_aload_n dX6_readClauses_4 rfl),
   px_Sp.of (ps_get kc_X6 (by decide) wf_RX6_15 dX6_readClauses_5),
   px_Sp.of (ps_iconst dX6_readClauses_8 (by decide)),
   px_Sp.of (ps_iconst dX6_readClauses_9 (by decide)),
   px_Sp.ofm (ps_copyF wm_RX6_28 wa_native ws_arraycopy wn_RJ10 dX6_readClauses_10),
   px_Sp.of (ps_aload_n dX6_readClauses_13 rfl),
   px_Sp.of (ps_iconst dX6_readClauses_14 (by decide)),
   px_Sp.ofm (ps_putI kc_X6 (by decide) wf_RX6_34 rfl (by decide +kernel) kp_X6_5 dX6_readClauses_15),
   px_Sp.of (ps_aload_n dX6_readClauses_18 rfl),
   px_Sp.of (ps_iconst dX6_readClauses_19 (by decide)),
   px_Sp.ofm (ps_putI kc_X6 (by decide) wf_RX6_37 rfl (by decide +kernel) kp_X6_6 dX6_readClauses_20),
   px_Sp.of (ps_aload_n dX6_readClauses_23 rfl),
   px_Sp.of (ps_iconst dX6_readClauses_24 (by decide)),
   px_Sp.ofm (ps_putI kc_X6 (by decide) wf_RX6_18 rfl (by decide +kernel) kp_X6_3 dX6_readClauses_25),
   px_Sp.of (ps_aload_n dX6_readClauses_28 rfl),
   px_Sp.of (ps_iconst dX6_readClauses_29 (by decide)),
   px_Sp.ofm (ps_putI kc_X6 (by decide) wf_RX6_40 rfl (by decide +kernel) kp_X6_4 dX6_readClauses_30),
   px_Sp.of (ps_iconst dX6_readClauses_33 (by decide)),
   px_Sp.of (ps_istore_n dX6_readClauses_34 rfl (by decide)),
   px_Sp.of (ps_aload_n dX6_readClauses_35 rfl),
   ps_callV (IH 107 (by decide)) (C := RX6) (T := TX6) (N := 7) (ci := 6) rfl rfl (fc_107 _ _) wm_RX6_43 wi_yX6_skipBlanks wl_yX6_skipBlanks dX6_readClauses_36,
   px_Sp.of (ps_iload_n dX6_readClauses_39 rfl),
   px_Sp.of (ps_bipush dX6_readClauses_40 (by decide)),
   px_Sp.of (ps_icmp_ge dX6_readClauses_42 (by decide)),
   px_Sp.of (ps_aload_n dX6_readClauses_45 rfl),
   px_Sp.of (ps_get kc_X6 (by decide) wf_RX6_34 dX6_readClauses_46),
   px_Sp.of (ps_aload_n dX6_readClauses_49 rfl),
   px_Sp.of (ps_get kc_X6 (by decide) wf_RX6_22 dX6_readClauses_50),
   px_Sp.of (ps_icmp_ge dX6_readClauses_53 (by decide)),
   px_Sp.of (ps_aload_n dX6_readClauses_56 rfl),
   ps_callV (IH 108 (by decide)) (C := RX6) (T := TX6) (N := 7) (ci := 6) rfl rfl (fc_108 _ _) wm_RX6_46 wi_yX6_readClause wl_yX6_readClause dX6_readClauses_57,
   px_Sp.of (ps_if_eq dX6_readClauses_60 (by decide)),
   px_Sp.of (ps_iinc dX6_readClauses_63 (by decide) (by decide)),
   px_Sp.of (ps_aload_n dX6_readClauses_66 rfl),
   ps_callV (IH 107 (by decide)) (C := RX6) (T := TX6) (N := 7) (ci := 6) rfl rfl (fc_107 _ _) wm_RX6_43 wi_yX6_skipBlanks wl_yX6_skipBlanks dX6_readClauses_67,
   px_Sp.of (ps_goto dX6_readClauses_70 (by decide)),
   px_Sp.of (ps_iload_n dX6_readClauses_73 rfl),
   ps_iret dX6_readClauses_74, trivial⟩
theorem mt_106 {l : Launch} {d : Nat} (IH : ∀ μ, μ < 196 → px_Met l px_P d μ) : px_Met l px_P (d + 1) 106 := px_met (own := RX6) rfl (by decide +kernel) (ok_106 IH)
theorem dX6_skipBlanks_0 : decode cX6_skipBlanks 0 = .ok (.aload_n 0, 1) := by decide +kernel
theorem dX6_skipBlanks_1 : decode cX6_skipBlanks 1 = .ok (.getfield 34, 3) := by decide +kernel
theorem dX6_skipBlanks_4 : decode cX6_skipBlanks 4 = .ok (.aload_n 0, 1) := by decide +kernel
theorem dX6_skipBlanks_5 : decode cX6_skipBlanks 5 = .ok (.getfield 22, 3) := by decide +kernel
theorem dX6_skipBlanks_8 : decode cX6_skipBlanks 8 = .ok (.if_icmp .ge 30, 3) := by decide +kernel
theorem dX6_skipBlanks_11 : decode cX6_skipBlanks 11 = .ok (.aload_n 0, 1) := by decide +kernel
theorem dX6_skipBlanks_12 : decode cX6_skipBlanks 12 = .ok (.getfield 9, 3) := by decide +kernel
theorem dX6_skipBlanks_15 : decode cX6_skipBlanks 15 = .ok (.aload_n 0, 1) := by decide +kernel
theorem dX6_skipBlanks_16 : decode cX6_skipBlanks 16 = .ok (.getfield 34, 3) := by decide +kernel
theorem dX6_skipBlanks_19 : decode cX6_skipBlanks 19 = .ok (.iaload, 1) := by decide +kernel
theorem dX6_skipBlanks_20 : decode cX6_skipBlanks 20 = .ok (.bipush 32, 2) := by decide +kernel
theorem dX6_skipBlanks_22 : decode cX6_skipBlanks 22 = .ok (.if_icmp .ne 16, 3) := by decide +kernel
theorem dX6_skipBlanks_25 : decode cX6_skipBlanks 25 = .ok (.aload_n 0, 1) := by decide +kernel
theorem dX6_skipBlanks_26 : decode cX6_skipBlanks 26 = .ok (.dup, 1) := by decide +kernel
theorem dX6_skipBlanks_27 : decode cX6_skipBlanks 27 = .ok (.getfield 34, 3) := by decide +kernel
theorem dX6_skipBlanks_30 : decode cX6_skipBlanks 30 = .ok (.iconst 1, 1) := by decide +kernel
theorem dX6_skipBlanks_31 : decode cX6_skipBlanks 31 = .ok (.iadd, 1) := by decide +kernel
theorem dX6_skipBlanks_32 : decode cX6_skipBlanks 32 = .ok (.putfield 34, 3) := by decide +kernel
theorem dX6_skipBlanks_35 : decode cX6_skipBlanks 35 = .ok (.goto (-35), 3) := by decide +kernel
theorem dX6_skipBlanks_38 : decode cX6_skipBlanks 38 = .ok (.return_, 1) := by decide +kernel
set_option maxRecDepth 20000 in
theorem ok_107 {l : Launch} {d : Nat} (IH : ∀ μ, μ < 196 → px_Met l px_P d μ) : px_ok l px_P d RX6 cX6_skipBlanks 1 (none) tb_107 :=
  ⟨px_Sp.of (ps_aload_n dX6_skipBlanks_0 rfl),
   px_Sp.of (ps_get kc_X6 (by decide) wf_RX6_34 dX6_skipBlanks_1),
   px_Sp.of (ps_aload_n dX6_skipBlanks_4 rfl),
   px_Sp.of (ps_get kc_X6 (by decide) wf_RX6_22 dX6_skipBlanks_5),
   px_Sp.of (ps_icmp_ge dX6_skipBlanks_8 (by decide)),
   px_Sp.of (ps_aload_n dX6_skipBlanks_11 rfl),
   px_Sp.of (ps_get kc_X6 (by decide) wf_RX6_9 dX6_skipBlanks_12),
   px_Sp.of (ps_aload_n dX6_skipBlanks_15 rfl),
   px_Sp.of (ps_get kc_X6 (by decide) wf_RX6_34 dX6_skipBlanks_16),
   px_Sp.of (ps_iald dX6_skipBlanks_19),
   px_Sp.of (ps_bipush dX6_skipBlanks_20 (by decide)),
   px_Sp.of (ps_icmp_ne dX6_skipBlanks_22 (by decide)),
   px_Sp.of (ps_aload_n dX6_skipBlanks_25 rfl),
   px_Sp.of (ps_dup dX6_skipBlanks_26),
   px_Sp.of (ps_get kc_X6 (by decide) wf_RX6_34 dX6_skipBlanks_27),
   px_Sp.of (ps_iconst dX6_skipBlanks_30 (by decide)),
   px_Sp.of (ps_iadd dX6_skipBlanks_31),
   px_Sp.ofm (ps_putI kc_X6 (by decide) wf_RX6_34 rfl (by decide +kernel) kp_X6_5 dX6_skipBlanks_32),
   px_Sp.of (ps_goto dX6_skipBlanks_35 (by decide)),
   ps_vret dX6_skipBlanks_38, trivial⟩
theorem mt_107 {l : Launch} {d : Nat} (IH : ∀ μ, μ < 196 → px_Met l px_P d μ) : px_Met l px_P (d + 1) 107 := px_met (own := RX6) rfl (by decide +kernel) (ok_107 IH)
theorem dX6_readClause_0 : decode cX6_readClause 0 = .ok (.aload_n 0, 1) := by decide +kernel
theorem dX6_readClause_1 : decode cX6_readClause 1 = .ok (.getfield 34, 3) := by decide +kernel
theorem dX6_readClause_4 : decode cX6_readClause 4 = .ok (.istore_n 1, 1) := by decide +kernel
theorem dX6_readClause_5 : decode cX6_readClause 5 = .ok (.aload_n 0, 1) := by decide +kernel
theorem dX6_readClause_6 : decode cX6_readClause 6 = .ok (.invokevirtual 50, 3) := by decide +kernel
theorem dX6_readClause_9 : decode cX6_readClause 9 = .ok (.istore_n 2, 1) := by decide +kernel
theorem dX6_readClause_10 : decode cX6_readClause 10 = .ok (.aload_n 0, 1) := by decide +kernel
theorem dX6_readClause_11 : decode cX6_readClause 11 = .ok (.iload_n 1, 1) := by decide +kernel
theorem dX6_readClause_12 : decode cX6_readClause 12 = .ok (.iload_n 2, 1) := by decide +kernel
theorem dX6_readClause_13 : decode cX6_readClause 13 = .ok (.invokevirtual 54, 3) := by decide +kernel
theorem dX6_readClause_16 : decode cX6_readClause 16 = .ok (.istore_n 3, 1) := by decide +kernel
theorem dX6_readClause_17 : decode cX6_readClause 17 = .ok (.iload_n 3, 1) := by decide +kernel
theorem dX6_readClause_18 : decode cX6_readClause 18 = .ok (.iconst (-1), 1) := by decide +kernel
theorem dX6_readClause_19 : decode cX6_readClause 19 = .ok (.if_icmp .ne 10, 3) := by decide +kernel
theorem dX6_readClause_22 : decode cX6_readClause 22 = .ok (.aload_n 0, 1) := by decide +kernel
theorem dX6_readClause_23 : decode cX6_readClause 23 = .ok (.iconst 1, 1) := by decide +kernel
theorem dX6_readClause_24 : decode cX6_readClause 24 = .ok (.iload_n 1, 1) := by decide +kernel
theorem dX6_readClause_25 : decode cX6_readClause 25 = .ok (.invokevirtual 58, 3) := by decide +kernel
theorem dX6_readClause_28 : decode cX6_readClause 28 = .ok (.ireturn, 1) := by decide +kernel
theorem dX6_readClause_29 : decode cX6_readClause 29 = .ok (.aload_n 0, 1) := by decide +kernel
theorem dX6_readClause_30 : decode cX6_readClause 30 = .ok (.getfield 37, 3) := by decide +kernel
theorem dX6_readClause_33 : decode cX6_readClause 33 = .ok (.iload_n 3, 1) := by decide +kernel
theorem dX6_readClause_34 : decode cX6_readClause 34 = .ok (.iushr, 1) := by decide +kernel
theorem dX6_readClause_35 : decode cX6_readClause 35 = .ok (.iconst 1, 1) := by decide +kernel
theorem dX6_readClause_36 : decode cX6_readClause 36 = .ok (.iand, 1) := by decide +kernel
theorem dX6_readClause_37 : decode cX6_readClause 37 = .ok (.ifCond .eq 10, 3) := by decide +kernel
theorem dX6_readClause_40 : decode cX6_readClause 40 = .ok (.aload_n 0, 1) := by decide +kernel
theorem dX6_readClause_41 : decode cX6_readClause 41 = .ok (.iconst 3, 1) := by decide +kernel
theorem dX6_readClause_42 : decode cX6_readClause 42 = .ok (.iload_n 1, 1) := by decide +kernel
theorem dX6_readClause_43 : decode cX6_readClause 43 = .ok (.invokevirtual 58, 3) := by decide +kernel
theorem dX6_readClause_46 : decode cX6_readClause 46 = .ok (.ireturn, 1) := by decide +kernel
theorem dX6_readClause_47 : decode cX6_readClause 47 = .ok (.aload_n 0, 1) := by decide +kernel
theorem dX6_readClause_48 : decode cX6_readClause 48 = .ok (.dup, 1) := by decide +kernel
theorem dX6_readClause_49 : decode cX6_readClause 49 = .ok (.getfield 37, 3) := by decide +kernel
theorem dX6_readClause_52 : decode cX6_readClause 52 = .ok (.iconst 1, 1) := by decide +kernel
theorem dX6_readClause_53 : decode cX6_readClause 53 = .ok (.iload_n 3, 1) := by decide +kernel
theorem dX6_readClause_54 : decode cX6_readClause 54 = .ok (.ishl, 1) := by decide +kernel
theorem dX6_readClause_55 : decode cX6_readClause 55 = .ok (.ior, 1) := by decide +kernel
theorem dX6_readClause_56 : decode cX6_readClause 56 = .ok (.putfield 37, 3) := by decide +kernel
theorem dX6_readClause_59 : decode cX6_readClause 59 = .ok (.aload_n 0, 1) := by decide +kernel
theorem dX6_readClause_60 : decode cX6_readClause 60 = .ok (.iload_n 2, 1) := by decide +kernel
theorem dX6_readClause_61 : decode cX6_readClause 61 = .ok (.putfield 34, 3) := by decide +kernel
theorem dX6_readClause_64 : decode cX6_readClause 64 = .ok (.aload_n 0, 1) := by decide +kernel
theorem dX6_readClause_65 : decode cX6_readClause 65 = .ok (.invokevirtual 43, 3) := by decide +kernel
theorem dX6_readClause_68 : decode cX6_readClause 68 = .ok (.iload_n 3, 1) := by decide +kernel
theorem dX6_readClause_69 : decode cX6_readClause 69 = .ok (.iconst 2, 1) := by decide +kernel
theorem dX6_readClause_70 : decode cX6_readClause 70 = .ok (.if_icmp .ne 10, 3) := by decide +kernel
theorem dX6_readClause_73 : decode cX6_readClause 73 = .ok (.aload_n 0, 1) := by decide +kernel
theorem dX6_readClause_74 : decode cX6_readClause 74 = .ok (.invokevirtual 62, 3) := by decide +kernel
theorem dX6_readClause_77 : decode cX6_readClause 77 = .ok (.goto 8, 3) := by decide +kernel
theorem dX6_readClause_80 : decode cX6_readClause 80 = .ok (.aload_n 0, 1) := by decide +kernel
theorem dX6_readClause_81 : decode cX6_readClause 81 = .ok (.iload_n 3, 1) := by decide +kernel
theorem dX6_readClause_82 : decode cX6_readClause 82 = .ok (.invokevirtual 65, 3) := by decide +kernel
theorem dX6_readClause_85 : decode cX6_readClause 85 = .ok (.istore 4, 2) := by decide +kernel
theorem dX6_readClause_87 : decode cX6_readClause 87 = .ok (.iload 4, 2) := by decide +kernel
theorem dX6_readClause_89 : decode cX6_readClause 89 = .ok (.ifCond .eq 14, 3) := by decide +kernel
theorem dX6_readClause_92 : decode cX6_readClause 92 = .ok (.aload_n 0, 1) := by decide +kernel
theorem dX6_readClause_93 : decode cX6_readClause 93 = .ok (.invokevirtual 69, 3) := by decide +kernel
theorem dX6_readClause_96 : decode cX6_readClause 96 = .ok (.ifCond .eq 7, 3) := by decide +kernel
theorem dX6_readClause_99 : decode cX6_readClause 99 = .ok (.iconst 1, 1) := by decide +kernel
theorem dX6_readClause_100 : decode cX6_readClause 100 = .ok (.goto 4, 3) := by decide +kernel
theorem dX6_readClause_103 : decode cX6_readClause 103 = .ok (.iconst 0, 1) := by decide +kernel
theorem dX6_readClause_104 : decode cX6_readClause 104 = .ok (.ireturn, 1) := by decide +kernel
set_option maxRecDepth 20000 in
theorem ok_108 {l : Launch} {d : Nat} (IH : ∀ μ, μ < 196 → px_Met l px_P d μ) : px_ok l px_P d RX6 cX6_readClause 5 (some .boolean) tb_108 :=
  ⟨px_Sp.of (ps_aload_n dX6_readClause_0 rfl),
   px_Sp.of (ps_get kc_X6 (by decide) wf_RX6_34 dX6_readClause_1),
   px_Sp.of (ps_istore_n dX6_readClause_4 rfl (by decide)),
   px_Sp.of (ps_aload_n dX6_readClause_5 rfl),
   ps_callV (IH 109 (by decide)) (C := RX6) (T := TX6) (N := 7) (ci := 6) rfl rfl (fc_109 _ _) wm_RX6_50 wi_yX6_endOfWord wl_yX6_endOfWord dX6_readClause_6,
   px_Sp.of (ps_istore_n dX6_readClause_9 rfl (by decide)),
   px_Sp.of (ps_aload_n dX6_readClause_10 rfl),
   px_Sp.of (ps_iload_n dX6_readClause_11 rfl),
   px_Sp.of (ps_iload_n dX6_readClause_12 rfl),
   ps_callV (IH 110 (by decide)) (C := RX6) (T := TX6) (N := 7) (ci := 6) rfl rfl (fc_110 _ _) wm_RX6_54 wi_yX6_kindOf wl_yX6_kindOf dX6_readClause_13,
   px_Sp.of (ps_istore_n dX6_readClause_16 rfl (by decide)),
   px_Sp.of (ps_iload_n dX6_readClause_17 rfl),
   px_Sp.of (ps_iconst dX6_readClause_18 (by decide)),
   px_Sp.of (ps_icmp_ne dX6_readClause_19 (by decide)),
   px_Sp.of (ps_aload_n dX6_readClause_22 rfl),
   px_Sp.of (ps_iconst dX6_readClause_23 (by decide)),
   px_Sp.of (ps_iload_n dX6_readClause_24 rfl),
   ps_callV (IH 120 (by decide)) (C := RX6) (T := TX6) (N := 7) (ci := 6) rfl rfl (fc_120 _ _) wm_RX6_58 wi_yX6_blame wl_yX6_blame dX6_readClause_25,
   ps_zret dX6_readClause_28,
   px_Sp.of (ps_aload_n dX6_readClause_29 rfl),
   px_Sp.of (ps_get kc_X6 (by decide) wf_RX6_37 dX6_readClause_30),
   px_Sp.of (ps_iload_n dX6_readClause_33 rfl),
   px_Sp.of (ps_iushr dX6_readClause_34),
   px_Sp.of (ps_iconst dX6_readClause_35 (by decide)),
   px_Sp.of (ps_iand dX6_readClause_36),
   px_Sp.of (ps_if_eq dX6_readClause_37 (by decide)),
   px_Sp.of (ps_aload_n dX6_readClause_40 rfl),
   px_Sp.of (ps_iconst dX6_readClause_41 (by decide)),
   px_Sp.of (ps_iload_n dX6_readClause_42 rfl),
   ps_callV (IH 120 (by decide)) (C := RX6) (T := TX6) (N := 7) (ci := 6) rfl rfl (fc_120 _ _) wm_RX6_58 wi_yX6_blame wl_yX6_blame dX6_readClause_43,
   ps_zret dX6_readClause_46,
   px_Sp.of (ps_aload_n dX6_readClause_47 rfl),
   px_Sp.of (ps_dup dX6_readClause_48),
   px_Sp.of (ps_get kc_X6 (by decide) wf_RX6_37 dX6_readClause_49),
   px_Sp.of (ps_iconst dX6_readClause_52 (by decide)),
   px_Sp.of (ps_iload_n dX6_readClause_53 rfl),
   px_Sp.of (ps_ishl dX6_readClause_54),
   px_Sp.of (ps_ior dX6_readClause_55),
   px_Sp.ofm (ps_putI kc_X6 (by decide) wf_RX6_37 rfl (by decide +kernel) kp_X6_6 dX6_readClause_56),
   px_Sp.of (ps_aload_n dX6_readClause_59 rfl),
   px_Sp.of (ps_iload_n dX6_readClause_60 rfl),
   px_Sp.ofm (ps_putI kc_X6 (by decide) wf_RX6_34 rfl (by decide +kernel) kp_X6_5 dX6_readClause_61),
   px_Sp.of (ps_aload_n dX6_readClause_64 rfl),
   ps_callV (IH 107 (by decide)) (C := RX6) (T := TX6) (N := 7) (ci := 6) rfl rfl (fc_107 _ _) wm_RX6_43 wi_yX6_skipBlanks wl_yX6_skipBlanks dX6_readClause_65,
   px_Sp.of (ps_iload_n dX6_readClause_68 rfl),
   px_Sp.of (ps_iconst dX6_readClause_69 (by decide)),
   px_Sp.of (ps_icmp_ne dX6_readClause_70 (by decide)),
   px_Sp.of (ps_aload_n dX6_readClause_73 rfl),
   ps_callV (IH 121 (by decide)) (C := RX6) (T := TX6) (N := 7) (ci := 6) rfl rfl (fc_121 _ _) wm_RX6_62 wi_yX6_readYes wl_yX6_readYes dX6_readClause_74,
   px_Sp.of (ps_goto dX6_readClause_77 (by decide)),
   px_Sp.of (ps_aload_n dX6_readClause_80 rfl),
   px_Sp.of (ps_iload_n dX6_readClause_81 rfl),
   ps_callV (IH 122 (by decide)) (C := RX6) (T := TX6) (N := 7) (ci := 6) rfl rfl (fc_122 _ _) wm_RX6_65 wi_yX6_readNumber wl_yX6_readNumber dX6_readClause_82,
   px_Sp.of (ps_istore dX6_readClause_85 (by decide)),
   px_Sp.of (ps_iload dX6_readClause_87),
   px_Sp.of (ps_if_eq dX6_readClause_89 (by decide)),
   px_Sp.of (ps_aload_n dX6_readClause_92 rfl),
   ps_callV (IH 124 (by decide)) (C := RX6) (T := TX6) (N := 7) (ci := 6) rfl rfl (fc_124 _ _) wm_RX6_69 wi_yX6_readSemicolon wl_yX6_readSemicolon dX6_readClause_93,
   px_Sp.of (ps_if_eq dX6_readClause_96 (by decide)),
   px_Sp.of (ps_iconst dX6_readClause_99 (by decide)),
   px_Sp.of (ps_goto dX6_readClause_100 (by decide)),
   px_Sp.of (ps_iconst dX6_readClause_103 (by decide)),
   ps_zret dX6_readClause_104, trivial⟩
theorem mt_108 {l : Launch} {d : Nat} (IH : ∀ μ, μ < 196 → px_Met l px_P d μ) : px_Met l px_P (d + 1) 108 := px_met (own := RX6) rfl (by decide +kernel) (ok_108 IH)
theorem dX6_endOfWord_0 : decode cX6_endOfWord 0 = .ok (.aload_n 0, 1) := by decide +kernel
theorem dX6_endOfWord_1 : decode cX6_endOfWord 1 = .ok (.getfield 34, 3) := by decide +kernel
theorem dX6_endOfWord_4 : decode cX6_endOfWord 4 = .ok (.istore_n 1, 1) := by decide +kernel
theorem dX6_endOfWord_5 : decode cX6_endOfWord 5 = .ok (.iload_n 1, 1) := by decide +kernel
theorem dX6_endOfWord_6 : decode cX6_endOfWord 6 = .ok (.aload_n 0, 1) := by decide +kernel
theorem dX6_endOfWord_7 : decode cX6_endOfWord 7 = .ok (.getfield 22, 3) := by decide +kernel
theorem dX6_endOfWord_10 : decode cX6_endOfWord 10 = .ok (.if_icmp .ge 31, 3) := by decide +kernel
theorem dX6_endOfWord_13 : decode cX6_endOfWord 13 = .ok (.aload_n 0, 1) := by decide +kernel
theorem dX6_endOfWord_14 : decode cX6_endOfWord 14 = .ok (.getfield 9, 3) := by decide +kernel
theorem dX6_endOfWord_17 : decode cX6_endOfWord 17 = .ok (.iload_n 1, 1) := by decide +kernel
theorem dX6_endOfWord_18 : decode cX6_endOfWord 18 = .ok (.iaload, 1) := by decide +kernel
theorem dX6_endOfWord_19 : decode cX6_endOfWord 19 = .ok (.bipush 97, 2) := by decide +kernel
theorem dX6_endOfWord_21 : decode cX6_endOfWord 21 = .ok (.if_icmp .lt 20, 3) := by decide +kernel
theorem dX6_endOfWord_24 : decode cX6_endOfWord 24 = .ok (.aload_n 0, 1) := by decide +kernel
theorem dX6_endOfWord_25 : decode cX6_endOfWord 25 = .ok (.getfield 9, 3) := by decide +kernel
theorem dX6_endOfWord_28 : decode cX6_endOfWord 28 = .ok (.iload_n 1, 1) := by decide +kernel
theorem dX6_endOfWord_29 : decode cX6_endOfWord 29 = .ok (.iaload, 1) := by decide +kernel
theorem dX6_endOfWord_30 : decode cX6_endOfWord 30 = .ok (.bipush 122, 2) := by decide +kernel
theorem dX6_endOfWord_32 : decode cX6_endOfWord 32 = .ok (.if_icmp .gt 9, 3) := by decide +kernel
theorem dX6_endOfWord_35 : decode cX6_endOfWord 35 = .ok (.iinc 1 1, 3) := by decide +kernel
theorem dX6_endOfWord_38 : decode cX6_endOfWord 38 = .ok (.goto (-33), 3) := by decide +kernel
theorem dX6_endOfWord_41 : decode cX6_endOfWord 41 = .ok (.iload_n 1, 1) := by decide +kernel
theorem dX6_endOfWord_42 : decode cX6_endOfWord 42 = .ok (.ireturn, 1) := by decide +kernel
set_option maxRecDepth 20000 in
theorem ok_109 {l : Launch} {d : Nat} (IH : ∀ μ, μ < 196 → px_Met l px_P d μ) : px_ok l px_P d RX6 cX6_endOfWord 2 (some .int) tb_109 :=
  ⟨px_Sp.of (ps_aload_n dX6_endOfWord_0 rfl),
   px_Sp.of (ps_get kc_X6 (by decide) wf_RX6_34 dX6_endOfWord_1),
   px_Sp.of (ps_istore_n dX6_endOfWord_4 rfl (by decide)),
   px_Sp.of (ps_iload_n dX6_endOfWord_5 rfl),
   px_Sp.of (ps_aload_n dX6_endOfWord_6 rfl),
   px_Sp.of (ps_get kc_X6 (by decide) wf_RX6_22 dX6_endOfWord_7),
   px_Sp.of (ps_icmp_ge dX6_endOfWord_10 (by decide)),
   px_Sp.of (ps_aload_n dX6_endOfWord_13 rfl),
   px_Sp.of (ps_get kc_X6 (by decide) wf_RX6_9 dX6_endOfWord_14),
   px_Sp.of (ps_iload_n dX6_endOfWord_17 rfl),
   px_Sp.of (ps_iald dX6_endOfWord_18),
   px_Sp.of (ps_bipush dX6_endOfWord_19 (by decide)),
   px_Sp.of (ps_icmp_lt dX6_endOfWord_21 (by decide)),
   px_Sp.of (ps_aload_n dX6_endOfWord_24 rfl),
   px_Sp.of (ps_get kc_X6 (by decide) wf_RX6_9 dX6_endOfWord_25),
   px_Sp.of (ps_iload_n dX6_endOfWord_28 rfl),
   px_Sp.of (ps_iald dX6_endOfWord_29),
   px_Sp.of (ps_bipush dX6_endOfWord_30 (by decide)),
   px_Sp.of (ps_icmp_gt dX6_endOfWord_32 (by decide)),
   px_Sp.of (ps_iinc dX6_endOfWord_35 (by decide) (by decide)),
   px_Sp.of (ps_goto dX6_endOfWord_38 (by decide)),
   px_Sp.of (ps_iload_n dX6_endOfWord_41 rfl),
   ps_iret dX6_endOfWord_42, trivial⟩
theorem mt_109 {l : Launch} {d : Nat} (IH : ∀ μ, μ < 196 → px_Met l px_P d μ) : px_Met l px_P (d + 1) 109 := px_met (own := RX6) rfl (by decide +kernel) (ok_109 IH)
theorem dX6_kindOf_0 : decode cX6_kindOf 0 = .ok (.iconst 0, 1) := by decide +kernel
theorem dX6_kindOf_1 : decode cX6_kindOf 1 = .ok (.istore_n 3, 1) := by decide +kernel
theorem dX6_kindOf_2 : decode cX6_kindOf 2 = .ok (.iload_n 3, 1) := by decide +kernel
theorem dX6_kindOf_3 : decode cX6_kindOf 3 = .ok (.iconst 5, 1) := by decide +kernel
theorem dX6_kindOf_4 : decode cX6_kindOf 4 = .ok (.if_icmp .ge 24, 3) := by decide +kernel
theorem dX6_kindOf_7 : decode cX6_kindOf 7 = .ok (.aload_n 0, 1) := by decide +kernel
theorem dX6_kindOf_8 : decode cX6_kindOf 8 = .ok (.iload_n 1, 1) := by decide +kernel
theorem dX6_kindOf_9 : decode cX6_kindOf 9 = .ok (.iload_n 2, 1) := by decide +kernel
theorem dX6_kindOf_10 : decode cX6_kindOf 10 = .ok (.iload_n 3, 1) := by decide +kernel
theorem dX6_kindOf_11 : decode cX6_kindOf 11 = .ok (.invokestatic 86, 3) := by decide +kernel
theorem dX6_kindOf_14 : decode cX6_kindOf 14 = .ok (.invokevirtual 74, 3) := by decide +kernel
theorem dX6_kindOf_17 : decode cX6_kindOf 17 = .ok (.ifCond .eq 5, 3) := by decide +kernel
theorem dX6_kindOf_20 : decode cX6_kindOf 20 = .ok (.iload_n 3, 1) := by decide +kernel
theorem dX6_kindOf_21 : decode cX6_kindOf 21 = .ok (.ireturn, 1) := by decide +kernel
theorem dX6_kindOf_22 : decode cX6_kindOf 22 = .ok (.iinc 3 1, 3) := by decide +kernel
theorem dX6_kindOf_25 : decode cX6_kindOf 25 = .ok (.goto (-23), 3) := by decide +kernel
theorem dX6_kindOf_28 : decode cX6_kindOf 28 = .ok (.iconst (-1), 1) := by decide +kernel
theorem dX6_kindOf_29 : decode cX6_kindOf 29 = .ok (.ireturn, 1) := by decide +kernel
set_option maxRecDepth 20000 in
theorem ok_110 {l : Launch} {d : Nat} (IH : ∀ μ, μ < 196 → px_Met l px_P d μ) : px_ok l px_P d RX6 cX6_kindOf 4 (some .int) tb_110 :=
  ⟨px_Sp.of (ps_iconst dX6_kindOf_0 (by decide)),
   px_Sp.of (ps_istore_n dX6_kindOf_1 rfl (by decide)),
   px_Sp.of (ps_iload_n dX6_kindOf_2 rfl),
   px_Sp.of (ps_iconst dX6_kindOf_3 (by decide)),
   px_Sp.of (ps_icmp_ge dX6_kindOf_4 (by decide)),
   px_Sp.of (ps_aload_n dX6_kindOf_7 rfl),
   px_Sp.of (ps_iload_n dX6_kindOf_8 rfl),
   px_Sp.of (ps_iload_n dX6_kindOf_9 rfl),
   px_Sp.of (ps_iload_n dX6_kindOf_10 rfl),
   ps_callS (IH 111 (by decide)) (fc_111 _ _) wm_RX6_86 ws_yX6_nameOf dX6_kindOf_11,
   ps_callV (IH 112 (by decide)) (C := RX6) (T := TX6) (N := 7) (ci := 6) rfl rfl (fc_112 _ _) wm_RX6_74 wi_yX6_isWord wl_yX6_isWord dX6_kindOf_14,
   px_Sp.of (ps_if_eq dX6_kindOf_17 (by decide)),
   px_Sp.of (ps_iload_n dX6_kindOf_20 rfl),
   ps_iret dX6_kindOf_21,
   px_Sp.of (ps_iinc dX6_kindOf_22 (by decide) (by decide)),
   px_Sp.of (ps_goto dX6_kindOf_25 (by decide)),
   px_Sp.of (ps_iconst dX6_kindOf_28 (by decide)),
   ps_iret dX6_kindOf_29, trivial⟩
theorem mt_110 {l : Launch} {d : Nat} (IH : ∀ μ, μ < 196 → px_Met l px_P d μ) : px_Met l px_P (d + 1) 110 := px_met (own := RX6) rfl (by decide +kernel) (ok_110 IH)
theorem dX6_nameOf_0 : decode cX6_nameOf 0 = .ok (.iload_n 0, 1) := by decide +kernel
theorem dX6_nameOf_1 : decode cX6_nameOf 1 = .ok (.tableswitch 43 0 3 #[31, 34, 37, 40], 31) := by decide +kernel
theorem dX6_nameOf_32 : decode cX6_nameOf 32 = .ok (.ldc 90, 2) := by decide +kernel
theorem dX6_nameOf_34 : decode cX6_nameOf 34 = .ok (.areturn, 1) := by decide +kernel
theorem dX6_nameOf_35 : decode cX6_nameOf 35 = .ok (.ldc 92, 2) := by decide +kernel
theorem dX6_nameOf_37 : decode cX6_nameOf 37 = .ok (.areturn, 1) := by decide +kernel
theorem dX6_nameOf_38 : decode cX6_nameOf 38 = .ok (.ldc 94, 2) := by decide +kernel
theorem dX6_nameOf_40 : decode cX6_nameOf 40 = .ok (.areturn, 1) := by decide +kernel
theorem dX6_nameOf_41 : decode cX6_nameOf 41 = .ok (.ldc 96, 2) := by decide +kernel
theorem dX6_nameOf_43 : decode cX6_nameOf 43 = .ok (.areturn, 1) := by decide +kernel
theorem dX6_nameOf_44 : decode cX6_nameOf 44 = .ok (.ldc 98, 2) := by decide +kernel
theorem dX6_nameOf_46 : decode cX6_nameOf 46 = .ok (.areturn, 1) := by decide +kernel
set_option maxRecDepth 20000 in
theorem ok_111 {l : Launch} {d : Nat} (IH : ∀ μ, μ < 196 → px_Met l px_P d μ) : px_ok l px_P d RX6 cX6_nameOf 1 (some (.object "java/lang/String")) tb_111 :=
  ⟨px_Sp.of (ps_iload_n dX6_nameOf_0 rfl),
   px_Sp.of (ps_tsw dX6_nameOf_1 (by decide) (by decide)),
   px_Sp.of (ps_ldcS 0 (by decide) dX6_nameOf_32),
   ps_aret dX6_nameOf_34,
   px_Sp.of (ps_ldcS 1 (by decide) dX6_nameOf_35),
   ps_aret dX6_nameOf_37,
   px_Sp.of (ps_ldcS 2 (by decide) dX6_nameOf_38),
   ps_aret dX6_nameOf_40,
   px_Sp.of (ps_ldcS 3 (by decide) dX6_nameOf_41),
   ps_aret dX6_nameOf_43,
   px_Sp.of (ps_ldcS 4 (by decide) dX6_nameOf_44),
   ps_aret dX6_nameOf_46, trivial⟩
theorem mt_111 {l : Launch} {d : Nat} (IH : ∀ μ, μ < 196 → px_Met l px_P d μ) : px_Met l px_P (d + 1) 111 := px_met (own := RX6) rfl (by decide +kernel) (ok_111 IH)
theorem dX6_isWord_0 : decode cX6_isWord 0 = .ok (.iload_n 2, 1) := by decide +kernel
theorem dX6_isWord_1 : decode cX6_isWord 1 = .ok (.iload_n 1, 1) := by decide +kernel
theorem dX6_isWord_2 : decode cX6_isWord 2 = .ok (.isub, 1) := by decide +kernel
theorem dX6_isWord_3 : decode cX6_isWord 3 = .ok (.aload_n 3, 1) := by decide +kernel
theorem dX6_isWord_4 : decode cX6_isWord 4 = .ok (.invokevirtual 100, 3) := by decide +kernel
theorem dX6_isWord_7 : decode cX6_isWord 7 = .ok (.if_icmp .eq 5, 3) := by decide +kernel
theorem dX6_isWord_10 : decode cX6_isWord 10 = .ok (.iconst 0, 1) := by decide +kernel
theorem dX6_isWord_11 : decode cX6_isWord 11 = .ok (.ireturn, 1) := by decide +kernel
theorem dX6_isWord_12 : decode cX6_isWord 12 = .ok (.iconst 0, 1) := by decide +kernel
theorem dX6_isWord_13 : decode cX6_isWord 13 = .ok (.istore 4, 2) := by decide +kernel
theorem dX6_isWord_15 : decode cX6_isWord 15 = .ok (.iload 4, 2) := by decide +kernel
theorem dX6_isWord_17 : decode cX6_isWord 17 = .ok (.aload_n 3, 1) := by decide +kernel
theorem dX6_isWord_18 : decode cX6_isWord 18 = .ok (.invokevirtual 100, 3) := by decide +kernel
theorem dX6_isWord_21 : decode cX6_isWord 21 = .ok (.if_icmp .ge 29, 3) := by decide +kernel
theorem dX6_isWord_24 : decode cX6_isWord 24 = .ok (.aload_n 0, 1) := by decide +kernel
theorem dX6_isWord_25 : decode cX6_isWord 25 = .ok (.getfield 9, 3) := by decide +kernel
theorem dX6_isWord_28 : decode cX6_isWord 28 = .ok (.iload_n 1, 1) := by decide +kernel
theorem dX6_isWord_29 : decode cX6_isWord 29 = .ok (.iload 4, 2) := by decide +kernel
theorem dX6_isWord_31 : decode cX6_isWord 31 = .ok (.iadd, 1) := by decide +kernel
theorem dX6_isWord_32 : decode cX6_isWord 32 = .ok (.iaload, 1) := by decide +kernel
theorem dX6_isWord_33 : decode cX6_isWord 33 = .ok (.aload_n 3, 1) := by decide +kernel
theorem dX6_isWord_34 : decode cX6_isWord 34 = .ok (.iload 4, 2) := by decide +kernel
theorem dX6_isWord_36 : decode cX6_isWord 36 = .ok (.invokevirtual 104, 3) := by decide +kernel
theorem dX6_isWord_39 : decode cX6_isWord 39 = .ok (.if_icmp .eq 5, 3) := by decide +kernel
theorem dX6_isWord_42 : decode cX6_isWord 42 = .ok (.iconst 0, 1) := by decide +kernel
theorem dX6_isWord_43 : decode cX6_isWord 43 = .ok (.ireturn, 1) := by decide +kernel
theorem dX6_isWord_44 : decode cX6_isWord 44 = .ok (.iinc 4 1, 3) := by decide +kernel
theorem dX6_isWord_47 : decode cX6_isWord 47 = .ok (.goto (-32), 3) := by decide +kernel
theorem dX6_isWord_50 : decode cX6_isWord 50 = .ok (.iconst 1, 1) := by decide +kernel
theorem dX6_isWord_51 : decode cX6_isWord 51 = .ok (.ireturn, 1) := by decide +kernel
set_option maxRecDepth 20000 in
theorem ok_112 {l : Launch} {d : Nat} (IH : ∀ μ, μ < 196 → px_Met l px_P d μ) : px_ok l px_P d RX6 cX6_isWord 5 (some .boolean) tb_112 :=
  ⟨px_Sp.of (ps_iload_n dX6_isWord_0 rfl),
   px_Sp.of (ps_iload_n dX6_isWord_1 rfl),
   px_Sp.of (ps_isub dX6_isWord_2),
   px_Sp.of (ps_aload_n dX6_isWord_3 rfl),
   ps_callT (IH 113 (by decide)) rfl (fc_113 _ _) wm_RX6_100 wi_yJ0_length_8abf5 wl_yJ0_length_8abf5 dX6_isWord_4,
   px_Sp.of (ps_icmp_eq dX6_isWord_7 (by decide)),
   px_Sp.of (ps_iconst dX6_isWord_10 (by decide)),
   ps_zret dX6_isWord_11,
   px_Sp.of (ps_iconst dX6_isWord_12 (by decide)),
   px_Sp.of (ps_istore dX6_isWord_13 (by decide)),
   px_Sp.of (ps_iload dX6_isWord_15),
   px_Sp.of (ps_aload_n dX6_isWord_17 rfl),
   ps_callT (IH 113 (by decide)) rfl (fc_113 _ _) wm_RX6_100 wi_yJ0_length_8abf5 wl_yJ0_length_8abf5 dX6_isWord_18,
   px_Sp.of (ps_icmp_ge dX6_isWord_21 (by decide)),
   px_Sp.of (ps_aload_n dX6_isWord_24 rfl),
   px_Sp.of (ps_get kc_X6 (by decide) wf_RX6_9 dX6_isWord_25),
   px_Sp.of (ps_iload_n dX6_isWord_28 rfl),
   px_Sp.of (ps_iload dX6_isWord_29),
   px_Sp.of (ps_iadd dX6_isWord_31),
   px_Sp.of (ps_iald dX6_isWord_32),
   px_Sp.of (ps_aload_n dX6_isWord_33 rfl),
   px_Sp.of (ps_iload dX6_isWord_34),
   ps_callT (IH 115 (by decide)) rfl (fc_115 _ _) wm_RX6_104 wi_yJ0_charAt_5068e wl_yJ0_charAt_5068e dX6_isWord_36,
   px_Sp.of (ps_icmp_eq dX6_isWord_39 (by decide)),
   px_Sp.of (ps_iconst dX6_isWord_42 (by decide)),
   ps_zret dX6_isWord_43,
   px_Sp.of (ps_iinc dX6_isWord_44 (by decide) (by decide)),
   px_Sp.of (ps_goto dX6_isWord_47 (by decide)),
   px_Sp.of (ps_iconst dX6_isWord_50 (by decide)),
   ps_zret dX6_isWord_51, trivial⟩
theorem mt_112 {l : Launch} {d : Nat} (IH : ∀ μ, μ < 196 → px_Met l px_P d μ) : px_Met l px_P (d + 1) 112 := px_met (own := RX6) rfl (by decide +kernel) (ok_112 IH)
theorem dJ0_length_8abf5_0 : decode cJ0_length_8abf5 0 = .ok (.aload_n 0, 1) := by decide +kernel
theorem dJ0_length_8abf5_1 : decode cJ0_length_8abf5 1 = .ok (.getfield 9, 3) := by decide +kernel
theorem dJ0_length_8abf5_4 : decode cJ0_length_8abf5 4 = .ok (.arraylength, 1) := by decide +kernel
theorem dJ0_length_8abf5_5 : decode cJ0_length_8abf5 5 = .ok (.aload_n 0, 1) := by decide +kernel
theorem dJ0_length_8abf5_6 : decode cJ0_length_8abf5 6 = .ok (.invokevirtual 335, 3) := by decide +kernel
theorem dJ0_length_8abf5_9 : decode cJ0_length_8abf5 9 = .ok (.ishr, 1) := by decide +kernel
theorem dJ0_length_8abf5_10 : decode cJ0_length_8abf5 10 = .ok (.ireturn, 1) := by decide +kernel
set_option maxRecDepth 20000 in
theorem ok_113 {l : Launch} {d : Nat} (IH : ∀ μ, μ < 196 → px_Met l px_P d μ) : px_ok l px_P d RJ0 cJ0_length_8abf5 1 (some .int) tb_113 :=
  ⟨px_Sp.of (ps_aload_n dJ0_length_8abf5_0 rfl),
   px_Sp.of (ps_sval wf_RJ0_9 dJ0_length_8abf5_1),
   px_Sp.of (ps_slen dJ0_length_8abf5_4),
   px_Sp.of (ps_aload_n dJ0_length_8abf5_5 rfl),
   ps_callT (IH 114 (by decide)) rfl (fc_114 _ _) wm_RJ0_335 wi_yJ0_coder_7d493 wl_yJ0_coder_7d493 dJ0_length_8abf5_6,
   px_Sp.of (ps_ishr dJ0_length_8abf5_9),
   ps_iret dJ0_length_8abf5_10, trivial⟩
theorem mt_113 {l : Launch} {d : Nat} (IH : ∀ μ, μ < 196 → px_Met l px_P d μ) : px_Met l px_P (d + 1) 113 := px_met (own := RJ0) rfl (by decide +kernel) (ok_113 IH)
theorem dJ0_coder_7d493_0 : decode cJ0_coder_7d493 0 = .ok (.getstatic 38, 3) := by decide +kernel
theorem dJ0_coder_7d493_3 : decode cJ0_coder_7d493 3 = .ok (.ifCond .eq 10, 3) := by decide +kernel
theorem dJ0_coder_7d493_6 : decode cJ0_coder_7d493 6 = .ok (.aload_n 0, 1) := by decide +kernel
theorem dJ0_coder_7d493_7 : decode cJ0_coder_7d493 7 = .ok (.getfield 15, 3) := by decide +kernel
theorem dJ0_coder_7d493_10 : decode cJ0_coder_7d493 10 = .ok (.goto 4, 3) := by decide +kernel
theorem dJ0_coder_7d493_13 : decode cJ0_coder_7d493 13 = .ok (.iconst 1, 1) := by decide +kernel
theorem dJ0_coder_7d493_14 : decode cJ0_coder_7d493 14 = .ok (.ireturn, 1) := by decide +kernel
set_option maxRecDepth 20000 in
theorem ok_114 {l : Launch} {d : Nat} (IH : ∀ μ, μ < 196 → px_Met l px_P d μ) : px_ok l px_P d RJ0 cJ0_coder_7d493 1 (some .byte) tb_114 :=
  ⟨px_Sp.of (ps_getsC wf_RJ0_38 dJ0_coder_7d493_0),
   px_Sp.of (ps_if_eq dJ0_coder_7d493_3 (by decide)),
   px_Sp.of (ps_aload_n dJ0_coder_7d493_6 rfl),
   px_Sp.of (ps_scod wf_RJ0_15 dJ0_coder_7d493_7),
   px_Sp.of (ps_goto dJ0_coder_7d493_10 (by decide)),
   px_Sp.of (ps_iconst dJ0_coder_7d493_13 (by decide)),
   ps_bret dJ0_coder_7d493_14, trivial⟩
theorem mt_114 {l : Launch} {d : Nat} (IH : ∀ μ, μ < 196 → px_Met l px_P d μ) : px_Met l px_P (d + 1) 114 := px_met (own := RJ0) rfl (by decide +kernel) (ok_114 IH)
theorem dJ0_charAt_5068e_0 : decode cJ0_charAt_5068e 0 = .ok (.aload_n 0, 1) := by decide +kernel
theorem dJ0_charAt_5068e_1 : decode cJ0_charAt_5068e 1 = .ok (.invokevirtual 492, 3) := by decide +kernel
theorem dJ0_charAt_5068e_4 : decode cJ0_charAt_5068e 4 = .ok (.ifCond .eq 12, 3) := by decide +kernel
theorem dJ0_charAt_5068e_7 : decode cJ0_charAt_5068e 7 = .ok (.aload_n 0, 1) := by decide +kernel
theorem dJ0_charAt_5068e_8 : decode cJ0_charAt_5068e 8 = .ok (.getfield 9, 3) := by decide +kernel
theorem dJ0_charAt_5068e_11 : decode cJ0_charAt_5068e 11 = .ok (.iload_n 1, 1) := by decide +kernel
theorem dJ0_charAt_5068e_12 : decode cJ0_charAt_5068e 12 = .ok (.invokestatic 495, 3) := by decide +kernel
theorem dJ0_charAt_5068e_15 : decode cJ0_charAt_5068e 15 = .ok (.ireturn, 1) := by decide +kernel
set_option maxRecDepth 20000 in
theorem ok_115 {l : Launch} {d : Nat} (IH : ∀ μ, μ < 196 → px_Met l px_P d μ) : px_ok l px_P d RJ0 cJ0_charAt_5068e 2 (some .char) tb_115 :=
  ⟨px_Sp.of (ps_aload_n dJ0_charAt_5068e_0 rfl),
   ps_callT (IH 116 (by decide)) rfl (fc_116 _ _) wm_RJ0_492 wi_yJ0_isLatin1_aae02 wl_yJ0_isLatin1_aae02 dJ0_charAt_5068e_1,
   px_Sp.of (ps_if_eq dJ0_charAt_5068e_4 (by decide)),
   px_Sp.of (ps_aload_n dJ0_charAt_5068e_7 rfl),
   px_Sp.of (ps_sval wf_RJ0_9 dJ0_charAt_5068e_8),
   px_Sp.of (ps_iload_n dJ0_charAt_5068e_11 rfl),
   ps_callS (IH 117 (by decide)) (fc_117 _ _) wm_RJ0_495 ws_yJ1_charAt_3b067 dJ0_charAt_5068e_12,
   ps_cret dJ0_charAt_5068e_15, trivial⟩
theorem mt_115 {l : Launch} {d : Nat} (IH : ∀ μ, μ < 196 → px_Met l px_P d μ) : px_Met l px_P (d + 1) 115 := px_met (own := RJ0) rfl (by decide +kernel) (ok_115 IH)
theorem dJ0_isLatin1_aae02_0 : decode cJ0_isLatin1_aae02 0 = .ok (.getstatic 38, 3) := by decide +kernel
theorem dJ0_isLatin1_aae02_3 : decode cJ0_isLatin1_aae02 3 = .ok (.ifCond .eq 14, 3) := by decide +kernel
theorem dJ0_isLatin1_aae02_6 : decode cJ0_isLatin1_aae02 6 = .ok (.aload_n 0, 1) := by decide +kernel
theorem dJ0_isLatin1_aae02_7 : decode cJ0_isLatin1_aae02 7 = .ok (.getfield 15, 3) := by decide +kernel
theorem dJ0_isLatin1_aae02_10 : decode cJ0_isLatin1_aae02 10 = .ok (.ifCond .ne 7, 3) := by decide +kernel
theorem dJ0_isLatin1_aae02_13 : decode cJ0_isLatin1_aae02 13 = .ok (.iconst 1, 1) := by decide +kernel
theorem dJ0_isLatin1_aae02_14 : decode cJ0_isLatin1_aae02 14 = .ok (.goto 4, 3) := by decide +kernel
theorem dJ0_isLatin1_aae02_17 : decode cJ0_isLatin1_aae02 17 = .ok (.iconst 0, 1) := by decide +kernel
theorem dJ0_isLatin1_aae02_18 : decode cJ0_isLatin1_aae02 18 = .ok (.ireturn, 1) := by decide +kernel
set_option maxRecDepth 20000 in
theorem ok_116 {l : Launch} {d : Nat} (IH : ∀ μ, μ < 196 → px_Met l px_P d μ) : px_ok l px_P d RJ0 cJ0_isLatin1_aae02 1 (some .boolean) tb_116 :=
  ⟨px_Sp.of (ps_getsC wf_RJ0_38 dJ0_isLatin1_aae02_0),
   px_Sp.of (ps_if_eq dJ0_isLatin1_aae02_3 (by decide)),
   px_Sp.of (ps_aload_n dJ0_isLatin1_aae02_6 rfl),
   px_Sp.of (ps_scod wf_RJ0_15 dJ0_isLatin1_aae02_7),
   px_Sp.of (ps_if_ne dJ0_isLatin1_aae02_10 (by decide)),
   px_Sp.of (ps_iconst dJ0_isLatin1_aae02_13 (by decide)),
   px_Sp.of (ps_goto dJ0_isLatin1_aae02_14 (by decide)),
   px_Sp.of (ps_iconst dJ0_isLatin1_aae02_17 (by decide)),
   ps_zret dJ0_isLatin1_aae02_18, trivial⟩
theorem mt_116 {l : Launch} {d : Nat} (IH : ∀ μ, μ < 196 → px_Met l px_P d μ) : px_Met l px_P (d + 1) 116 := px_met (own := RJ0) rfl (by decide +kernel) (ok_116 IH)
theorem dJ1_charAt_3b067_0 : decode cJ1_charAt_3b067 0 = .ok (.iload_n 1, 1) := by decide +kernel
theorem dJ1_charAt_3b067_1 : decode cJ1_charAt_3b067 1 = .ok (.aload_n 0, 1) := by decide +kernel
theorem dJ1_charAt_3b067_2 : decode cJ1_charAt_3b067 2 = .ok (.arraylength, 1) := by decide +kernel
theorem dJ1_charAt_3b067_3 : decode cJ1_charAt_3b067 3 = .ok (.invokestatic 9, 3) := by decide +kernel
theorem dJ1_charAt_3b067_6 : decode cJ1_charAt_3b067 6 = .ok (.aload_n 0, 1) := by decide +kernel
theorem dJ1_charAt_3b067_7 : decode cJ1_charAt_3b067 7 = .ok (.iload_n 1, 1) := by decide +kernel
theorem dJ1_charAt_3b067_8 : decode cJ1_charAt_3b067 8 = .ok (.baload, 1) := by decide +kernel
theorem dJ1_charAt_3b067_9 : decode cJ1_charAt_3b067 9 = .ok (.sipush 255, 3) := by decide +kernel
theorem dJ1_charAt_3b067_12 : decode cJ1_charAt_3b067 12 = .ok (.iand, 1) := by decide +kernel
theorem dJ1_charAt_3b067_13 : decode cJ1_charAt_3b067 13 = .ok (.i2c, 1) := by decide +kernel
theorem dJ1_charAt_3b067_14 : decode cJ1_charAt_3b067 14 = .ok (.ireturn, 1) := by decide +kernel
set_option maxRecDepth 20000 in
theorem ok_117 {l : Launch} {d : Nat} (IH : ∀ μ, μ < 196 → px_Met l px_P d μ) : px_ok l px_P d RJ1 cJ1_charAt_3b067 2 (some .char) tb_117 :=
  ⟨px_Sp.of (ps_iload_n dJ1_charAt_3b067_0 rfl),
   px_Sp.of (ps_aload_n dJ1_charAt_3b067_1 rfl),
   px_Sp.of (ps_slen dJ1_charAt_3b067_2),
   ps_callS (IH 118 (by decide)) (fc_118 _ _) wm_RJ1_9 ws_yJ0_checkIndex_df160 dJ1_charAt_3b067_3,
   px_Sp.of (ps_aload_n dJ1_charAt_3b067_6 rfl),
   px_Sp.of (ps_iload_n dJ1_charAt_3b067_7 rfl),
   px_Sp.of (ps_sald dJ1_charAt_3b067_8),
   px_Sp.of (ps_sipush dJ1_charAt_3b067_9 (by decide)),
   px_Sp.of (ps_iand dJ1_charAt_3b067_12),
   px_Sp.of (ps_i2c dJ1_charAt_3b067_13),
   ps_cret dJ1_charAt_3b067_14, trivial⟩
theorem mt_117 {l : Launch} {d : Nat} (IH : ∀ μ, μ < 196 → px_Met l px_P d μ) : px_Met l px_P (d + 1) 117 := px_met (own := RJ1) rfl (by decide +kernel) (ok_117 IH)
theorem dJ0_checkIndex_df160_0 : decode cJ0_checkIndex_df160 0 = .ok (.iload_n 0, 1) := by decide +kernel
theorem dJ0_checkIndex_df160_1 : decode cJ0_checkIndex_df160 1 = .ok (.iload_n 1, 1) := by decide +kernel
theorem dJ0_checkIndex_df160_2 : decode cJ0_checkIndex_df160 2 = .ok (.getstatic 1053, 3) := by decide +kernel
theorem dJ0_checkIndex_df160_5 : decode cJ0_checkIndex_df160 5 = .ok (.invokestatic 1059, 3) := by decide +kernel
theorem dJ0_checkIndex_df160_8 : decode cJ0_checkIndex_df160 8 = .ok (.pop, 1) := by decide +kernel
theorem dJ0_checkIndex_df160_9 : decode cJ0_checkIndex_df160 9 = .ok (.return_, 1) := by decide +kernel
set_option maxRecDepth 20000 in
theorem ok_118 {l : Launch} {d : Nat} (IH : ∀ μ, μ < 196 → px_Met l px_P d μ) : px_ok l px_P d RJ0 cJ0_checkIndex_df160 2 (none) tb_118 :=
  ⟨px_Sp.of (ps_iload_n dJ0_checkIndex_df160_0 rfl),
   px_Sp.of (ps_iload_n dJ0_checkIndex_df160_1 rfl),
   px_Sp.of (ps_getsS wf_RJ0_1053 dJ0_checkIndex_df160_2),
   ps_callS (IH 119 (by decide)) (fc_119 _ _) wm_RJ0_1059 ws_yJ3_checkIndex_8e157 dJ0_checkIndex_df160_5,
   px_Sp.of (ps_pop dJ0_checkIndex_df160_8),
   ps_vret dJ0_checkIndex_df160_9, trivial⟩
theorem mt_118 {l : Launch} {d : Nat} (IH : ∀ μ, μ < 196 → px_Met l px_P d μ) : px_Met l px_P (d + 1) 118 := px_met (own := RJ0) rfl (by decide +kernel) (ok_118 IH)
theorem dJ3_checkIndex_8e157_0 : decode cJ3_checkIndex_8e157 0 = .ok (.iload_n 0, 1) := by decide +kernel
theorem dJ3_checkIndex_8e157_1 : decode cJ3_checkIndex_8e157 1 = .ok (.ifCond .lt 8, 3) := by decide +kernel
theorem dJ3_checkIndex_8e157_4 : decode cJ3_checkIndex_8e157 4 = .ok (.iload_n 0, 1) := by decide +kernel
theorem dJ3_checkIndex_8e157_5 : decode cJ3_checkIndex_8e157 5 = .ok (.iload_n 1, 1) := by decide +kernel
theorem dJ3_checkIndex_8e157_6 : decode cJ3_checkIndex_8e157 6 = .ok (.if_icmp .lt 10, 3) := by decide +kernel
theorem dJ3_checkIndex_8e157_16 : decode cJ3_checkIndex_8e157 16 = .ok (.iload_n 0, 1) := by decide +kernel
theorem dJ3_checkIndex_8e157_17 : decode cJ3_checkIndex_8e157 17 = .ok (.ireturn, 1) := by decide +kernel
set_option maxRecDepth 20000 in
theorem ok_119 {l : Launch} {d : Nat} (IH : ∀ μ, μ < 196 → px_Met l px_P d μ) : px_ok l px_P d RJ3 cJ3_checkIndex_8e157 3 (some .int) tb_119 :=
  ⟨px_Sp.of (ps_iload_n dJ3_checkIndex_8e157_0 rfl),
   px_Sp.of (ps_if_lt dJ3_checkIndex_8e157_1 (by decide)),
   px_Sp.of (ps_iload_n dJ3_checkIndex_8e157_4 rfl),
   px_Sp.of (ps_iload_n dJ3_checkIndex_8e157_5 rfl),
   px_Sp.of (ps_icmp_lt dJ3_checkIndex_8e157_6 (by decide)),
   px_Sp.of (ps_iload_n dJ3_checkIndex_8e157_16 rfl),
   ps_iret dJ3_checkIndex_8e157_17, trivial⟩
theorem mt_119 {l : Launch} {d : Nat} (IH : ∀ μ, μ < 196 → px_Met l px_P d μ) : px_Met l px_P (d + 1) 119 := px_met (own := RJ3) rfl (by decide +kernel) (ok_119 IH)
theorem dX6_blame_0 : decode cX6_blame 0 = .ok (.aload_n 0, 1) := by decide +kernel
theorem dX6_blame_1 : decode cX6_blame 1 = .ok (.iload_n 1, 1) := by decide +kernel
theorem dX6_blame_2 : decode cX6_blame 2 = .ok (.putfield 40, 3) := by decide +kernel
theorem dX6_blame_5 : decode cX6_blame 5 = .ok (.aload_n 0, 1) := by decide +kernel
theorem dX6_blame_6 : decode cX6_blame 6 = .ok (.iload_n 2, 1) := by decide +kernel
theorem dX6_blame_7 : decode cX6_blame 7 = .ok (.putfield 18, 3) := by decide +kernel
theorem dX6_blame_10 : decode cX6_blame 10 = .ok (.iconst 0, 1) := by decide +kernel
theorem dX6_blame_11 : decode cX6_blame 11 = .ok (.ireturn, 1) := by decide +kernel
set_option maxRecDepth 20000 in
theorem ok_120 {l : Launch} {d : Nat} (IH : ∀ μ, μ < 196 → px_Met l px_P d μ) : px_ok l px_P d RX6 cX6_blame 3 (some .boolean) tb_120 :=
  ⟨px_Sp.of (ps_aload_n dX6_blame_0 rfl),
   px_Sp.of (ps_iload_n dX6_blame_1 rfl),
   px_Sp.ofm (ps_putI kc_X6 (by decide) wf_RX6_40 rfl (by decide +kernel) kp_X6_4 dX6_blame_2),
   px_Sp.of (ps_aload_n dX6_blame_5 rfl),
   px_Sp.of (ps_iload_n dX6_blame_6 rfl),
   px_Sp.ofm (ps_putI kc_X6 (by decide) wf_RX6_18 rfl (by decide +kernel) kp_X6_3 dX6_blame_7),
   px_Sp.of (ps_iconst dX6_blame_10 (by decide)),
   ps_zret dX6_blame_11, trivial⟩
theorem mt_120 {l : Launch} {d : Nat} (IH : ∀ μ, μ < 196 → px_Met l px_P d μ) : px_Met l px_P (d + 1) 120 := px_met (own := RX6) rfl (by decide +kernel) (ok_120 IH)
theorem dX6_readYes_0 : decode cX6_readYes 0 = .ok (.aload_n 0, 1) := by decide +kernel
theorem dX6_readYes_1 : decode cX6_readYes 1 = .ok (.invokevirtual 50, 3) := by decide +kernel
theorem dX6_readYes_4 : decode cX6_readYes 4 = .ok (.istore_n 1, 1) := by decide +kernel
theorem dX6_readYes_5 : decode cX6_readYes 5 = .ok (.aload_n 0, 1) := by decide +kernel
theorem dX6_readYes_6 : decode cX6_readYes 6 = .ok (.aload_n 0, 1) := by decide +kernel
theorem dX6_readYes_7 : decode cX6_readYes 7 = .ok (.getfield 34, 3) := by decide +kernel
theorem dX6_readYes_10 : decode cX6_readYes 10 = .ok (.iload_n 1, 1) := by decide +kernel
theorem dX6_readYes_11 : decode cX6_readYes 11 = .ok (.ldc 72, 2) := by decide +kernel
theorem dX6_readYes_13 : decode cX6_readYes 13 = .ok (.invokevirtual 74, 3) := by decide +kernel
theorem dX6_readYes_16 : decode cX6_readYes 16 = .ok (.istore_n 2, 1) := by decide +kernel
theorem dX6_readYes_17 : decode cX6_readYes 17 = .ok (.iload_n 2, 1) := by decide +kernel
theorem dX6_readYes_18 : decode cX6_readYes 18 = .ok (.ifCond .ne 27, 3) := by decide +kernel
theorem dX6_readYes_21 : decode cX6_readYes 21 = .ok (.aload_n 0, 1) := by decide +kernel
theorem dX6_readYes_22 : decode cX6_readYes 22 = .ok (.aload_n 0, 1) := by decide +kernel
theorem dX6_readYes_23 : decode cX6_readYes 23 = .ok (.getfield 34, 3) := by decide +kernel
theorem dX6_readYes_26 : decode cX6_readYes 26 = .ok (.iload_n 1, 1) := by decide +kernel
theorem dX6_readYes_27 : decode cX6_readYes 27 = .ok (.ldc 78, 2) := by decide +kernel
theorem dX6_readYes_29 : decode cX6_readYes 29 = .ok (.invokevirtual 74, 3) := by decide +kernel
theorem dX6_readYes_32 : decode cX6_readYes 32 = .ok (.ifCond .ne 13, 3) := by decide +kernel
theorem dX6_readYes_35 : decode cX6_readYes 35 = .ok (.aload_n 0, 1) := by decide +kernel
theorem dX6_readYes_36 : decode cX6_readYes 36 = .ok (.iconst 1, 1) := by decide +kernel
theorem dX6_readYes_37 : decode cX6_readYes 37 = .ok (.aload_n 0, 1) := by decide +kernel
theorem dX6_readYes_38 : decode cX6_readYes 38 = .ok (.getfield 34, 3) := by decide +kernel
theorem dX6_readYes_41 : decode cX6_readYes 41 = .ok (.invokevirtual 58, 3) := by decide +kernel
theorem dX6_readYes_44 : decode cX6_readYes 44 = .ok (.ireturn, 1) := by decide +kernel
theorem dX6_readYes_45 : decode cX6_readYes 45 = .ok (.aload_n 0, 1) := by decide +kernel
theorem dX6_readYes_46 : decode cX6_readYes 46 = .ok (.getfield 15, 3) := by decide +kernel
theorem dX6_readYes_49 : decode cX6_readYes 49 = .ok (.iconst 2, 1) := by decide +kernel
theorem dX6_readYes_50 : decode cX6_readYes 50 = .ok (.iload_n 2, 1) := by decide +kernel
theorem dX6_readYes_51 : decode cX6_readYes 51 = .ok (.ifCond .eq 7, 3) := by decide +kernel
theorem dX6_readYes_54 : decode cX6_readYes 54 = .ok (.iconst 1, 1) := by decide +kernel
theorem dX6_readYes_55 : decode cX6_readYes 55 = .ok (.goto 4, 3) := by decide +kernel
theorem dX6_readYes_58 : decode cX6_readYes 58 = .ok (.iconst 0, 1) := by decide +kernel
theorem dX6_readYes_59 : decode cX6_readYes 59 = .ok (.iastore, 1) := by decide +kernel
theorem dX6_readYes_60 : decode cX6_readYes 60 = .ok (.aload_n 0, 1) := by decide +kernel
theorem dX6_readYes_61 : decode cX6_readYes 61 = .ok (.iload_n 1, 1) := by decide +kernel
theorem dX6_readYes_62 : decode cX6_readYes 62 = .ok (.putfield 34, 3) := by decide +kernel
theorem dX6_readYes_65 : decode cX6_readYes 65 = .ok (.iconst 1, 1) := by decide +kernel
theorem dX6_readYes_66 : decode cX6_readYes 66 = .ok (.ireturn, 1) := by decide +kernel
set_option maxRecDepth 20000 in
theorem ok_121 {l : Launch} {d : Nat} (IH : ∀ μ, μ < 196 → px_Met l px_P d μ) : px_ok l px_P d RX6 cX6_readYes 3 (some .boolean) tb_121 :=
  ⟨px_Sp.of (ps_aload_n dX6_readYes_0 rfl),
   ps_callV (IH 109 (by decide)) (C := RX6) (T := TX6) (N := 7) (ci := 6) rfl rfl (fc_109 _ _) wm_RX6_50 wi_yX6_endOfWord wl_yX6_endOfWord dX6_readYes_1,
   px_Sp.of (ps_istore_n dX6_readYes_4 rfl (by decide)),
   px_Sp.of (ps_aload_n dX6_readYes_5 rfl),
   px_Sp.of (ps_aload_n dX6_readYes_6 rfl),
   px_Sp.of (ps_get kc_X6 (by decide) wf_RX6_34 dX6_readYes_7),
   px_Sp.of (ps_iload_n dX6_readYes_10 rfl),
   px_Sp.of (ps_ldcS 5 (by decide) dX6_readYes_11),
   ps_callV (IH 112 (by decide)) (C := RX6) (T := TX6) (N := 7) (ci := 6) rfl rfl (fc_112 _ _) wm_RX6_74 wi_yX6_isWord wl_yX6_isWord dX6_readYes_13,
   px_Sp.of (ps_istore_n dX6_readYes_16 rfl (by decide)),
   px_Sp.of (ps_iload_n dX6_readYes_17 rfl),
   px_Sp.of (ps_if_ne dX6_readYes_18 (by decide)),
   px_Sp.of (ps_aload_n dX6_readYes_21 rfl),
   px_Sp.of (ps_aload_n dX6_readYes_22 rfl),
   px_Sp.of (ps_get kc_X6 (by decide) wf_RX6_34 dX6_readYes_23),
   px_Sp.of (ps_iload_n dX6_readYes_26 rfl),
   px_Sp.of (ps_ldcS 6 (by decide) dX6_readYes_27),
   ps_callV (IH 112 (by decide)) (C := RX6) (T := TX6) (N := 7) (ci := 6) rfl rfl (fc_112 _ _) wm_RX6_74 wi_yX6_isWord wl_yX6_isWord dX6_readYes_29,
   px_Sp.of (ps_if_ne dX6_readYes_32 (by decide)),
   px_Sp.of (ps_aload_n dX6_readYes_35 rfl),
   px_Sp.of (ps_iconst dX6_readYes_36 (by decide)),
   px_Sp.of (ps_aload_n dX6_readYes_37 rfl),
   px_Sp.of (ps_get kc_X6 (by decide) wf_RX6_34 dX6_readYes_38),
   ps_callV (IH 120 (by decide)) (C := RX6) (T := TX6) (N := 7) (ci := 6) rfl rfl (fc_120 _ _) wm_RX6_58 wi_yX6_blame wl_yX6_blame dX6_readYes_41,
   ps_zret dX6_readYes_44,
   px_Sp.of (ps_aload_n dX6_readYes_45 rfl),
   px_Sp.of (ps_get kc_X6 (by decide) wf_RX6_15 dX6_readYes_46),
   px_Sp.of (ps_iconst dX6_readYes_49 (by decide)),
   px_Sp.of (ps_iload_n dX6_readYes_50 rfl),
   px_Sp.of (ps_if_eq dX6_readYes_51 (by decide)),
   px_Sp.of (ps_iconst dX6_readYes_54 (by decide)),
   px_Sp.of (ps_goto dX6_readYes_55 (by decide)),
   px_Sp.of (ps_iconst dX6_readYes_58 (by decide)),
   px_Sp.ofm (ps_iast dX6_readYes_59),
   px_Sp.of (ps_aload_n dX6_readYes_60 rfl),
   px_Sp.of (ps_iload_n dX6_readYes_61 rfl),
   px_Sp.ofm (ps_putI kc_X6 (by decide) wf_RX6_34 rfl (by decide +kernel) kp_X6_5 dX6_readYes_62),
   px_Sp.of (ps_iconst dX6_readYes_65 (by decide)),
   ps_zret dX6_readYes_66, trivial⟩
theorem mt_121 {l : Launch} {d : Nat} (IH : ∀ μ, μ < 196 → px_Met l px_P d μ) : px_Met l px_P (d + 1) 121 := px_met (own := RX6) rfl (by decide +kernel) (ok_121 IH)
theorem dX6_readNumber_0 : decode cX6_readNumber 0 = .ok (.aload_n 0, 1) := by decide +kernel
theorem dX6_readNumber_1 : decode cX6_readNumber 1 = .ok (.getfield 34, 3) := by decide +kernel
theorem dX6_readNumber_4 : decode cX6_readNumber 4 = .ok (.istore_n 2, 1) := by decide +kernel
theorem dX6_readNumber_5 : decode cX6_readNumber 5 = .ok (.iconst 0, 1) := by decide +kernel
theorem dX6_readNumber_6 : decode cX6_readNumber 6 = .ok (.istore_n 3, 1) := by decide +kernel
theorem dX6_readNumber_7 : decode cX6_readNumber 7 = .ok (.aload_n 0, 1) := by decide +kernel
theorem dX6_readNumber_8 : decode cX6_readNumber 8 = .ok (.getfield 34, 3) := by decide +kernel
theorem dX6_readNumber_11 : decode cX6_readNumber 11 = .ok (.aload_n 0, 1) := by decide +kernel
theorem dX6_readNumber_12 : decode cX6_readNumber 12 = .ok (.getfield 22, 3) := by decide +kernel
theorem dX6_readNumber_15 : decode cX6_readNumber 15 = .ok (.if_icmp .ge 59, 3) := by decide +kernel
theorem dX6_readNumber_18 : decode cX6_readNumber 18 = .ok (.aload_n 0, 1) := by decide +kernel
theorem dX6_readNumber_19 : decode cX6_readNumber 19 = .ok (.getfield 9, 3) := by decide +kernel
theorem dX6_readNumber_22 : decode cX6_readNumber 22 = .ok (.aload_n 0, 1) := by decide +kernel
theorem dX6_readNumber_23 : decode cX6_readNumber 23 = .ok (.getfield 34, 3) := by decide +kernel
theorem dX6_readNumber_26 : decode cX6_readNumber 26 = .ok (.iaload, 1) := by decide +kernel
theorem dX6_readNumber_27 : decode cX6_readNumber 27 = .ok (.invokestatic 80, 3) := by decide +kernel
theorem dX6_readNumber_30 : decode cX6_readNumber 30 = .ok (.ifCond .eq 44, 3) := by decide +kernel
theorem dX6_readNumber_33 : decode cX6_readNumber 33 = .ok (.aload_n 0, 1) := by decide +kernel
theorem dX6_readNumber_34 : decode cX6_readNumber 34 = .ok (.getfield 34, 3) := by decide +kernel
theorem dX6_readNumber_37 : decode cX6_readNumber 37 = .ok (.iload_n 2, 1) := by decide +kernel
theorem dX6_readNumber_38 : decode cX6_readNumber 38 = .ok (.isub, 1) := by decide +kernel
theorem dX6_readNumber_39 : decode cX6_readNumber 39 = .ok (.iconst 3, 1) := by decide +kernel
theorem dX6_readNumber_40 : decode cX6_readNumber 40 = .ok (.if_icmp .ge 21, 3) := by decide +kernel
theorem dX6_readNumber_43 : decode cX6_readNumber 43 = .ok (.bipush 10, 2) := by decide +kernel
theorem dX6_readNumber_45 : decode cX6_readNumber 45 = .ok (.iload_n 3, 1) := by decide +kernel
theorem dX6_readNumber_46 : decode cX6_readNumber 46 = .ok (.imul, 1) := by decide +kernel
theorem dX6_readNumber_47 : decode cX6_readNumber 47 = .ok (.aload_n 0, 1) := by decide +kernel
theorem dX6_readNumber_48 : decode cX6_readNumber 48 = .ok (.getfield 9, 3) := by decide +kernel
theorem dX6_readNumber_51 : decode cX6_readNumber 51 = .ok (.aload_n 0, 1) := by decide +kernel
theorem dX6_readNumber_52 : decode cX6_readNumber 52 = .ok (.getfield 34, 3) := by decide +kernel
theorem dX6_readNumber_55 : decode cX6_readNumber 55 = .ok (.iaload, 1) := by decide +kernel
theorem dX6_readNumber_56 : decode cX6_readNumber 56 = .ok (.iadd, 1) := by decide +kernel
theorem dX6_readNumber_57 : decode cX6_readNumber 57 = .ok (.bipush 48, 2) := by decide +kernel
theorem dX6_readNumber_59 : decode cX6_readNumber 59 = .ok (.isub, 1) := by decide +kernel
theorem dX6_readNumber_60 : decode cX6_readNumber 60 = .ok (.istore_n 3, 1) := by decide +kernel
theorem dX6_readNumber_61 : decode cX6_readNumber 61 = .ok (.aload_n 0, 1) := by decide +kernel
theorem dX6_readNumber_62 : decode cX6_readNumber 62 = .ok (.dup, 1) := by decide +kernel
theorem dX6_readNumber_63 : decode cX6_readNumber 63 = .ok (.getfield 34, 3) := by decide +kernel
theorem dX6_readNumber_66 : decode cX6_readNumber 66 = .ok (.iconst 1, 1) := by decide +kernel
theorem dX6_readNumber_67 : decode cX6_readNumber 67 = .ok (.iadd, 1) := by decide +kernel
theorem dX6_readNumber_68 : decode cX6_readNumber 68 = .ok (.putfield 34, 3) := by decide +kernel
theorem dX6_readNumber_71 : decode cX6_readNumber 71 = .ok (.goto (-64), 3) := by decide +kernel
theorem dX6_readNumber_74 : decode cX6_readNumber 74 = .ok (.aload_n 0, 1) := by decide +kernel
theorem dX6_readNumber_75 : decode cX6_readNumber 75 = .ok (.getfield 34, 3) := by decide +kernel
theorem dX6_readNumber_78 : decode cX6_readNumber 78 = .ok (.iload_n 2, 1) := by decide +kernel
theorem dX6_readNumber_79 : decode cX6_readNumber 79 = .ok (.if_icmp .ne 10, 3) := by decide +kernel
theorem dX6_readNumber_82 : decode cX6_readNumber 82 = .ok (.aload_n 0, 1) := by decide +kernel
theorem dX6_readNumber_83 : decode cX6_readNumber 83 = .ok (.iconst 1, 1) := by decide +kernel
theorem dX6_readNumber_84 : decode cX6_readNumber 84 = .ok (.iload_n 2, 1) := by decide +kernel
theorem dX6_readNumber_85 : decode cX6_readNumber 85 = .ok (.invokevirtual 58, 3) := by decide +kernel
theorem dX6_readNumber_88 : decode cX6_readNumber 88 = .ok (.ireturn, 1) := by decide +kernel
theorem dX6_readNumber_89 : decode cX6_readNumber 89 = .ok (.aload_n 0, 1) := by decide +kernel
theorem dX6_readNumber_90 : decode cX6_readNumber 90 = .ok (.getfield 34, 3) := by decide +kernel
theorem dX6_readNumber_93 : decode cX6_readNumber 93 = .ok (.iload_n 2, 1) := by decide +kernel
theorem dX6_readNumber_94 : decode cX6_readNumber 94 = .ok (.isub, 1) := by decide +kernel
theorem dX6_readNumber_95 : decode cX6_readNumber 95 = .ok (.iconst 3, 1) := by decide +kernel
theorem dX6_readNumber_96 : decode cX6_readNumber 96 = .ok (.if_icmp .gt 12, 3) := by decide +kernel
theorem dX6_readNumber_99 : decode cX6_readNumber 99 = .ok (.iload_n 3, 1) := by decide +kernel
theorem dX6_readNumber_100 : decode cX6_readNumber 100 = .ok (.getstatic 83, 3) := by decide +kernel
theorem dX6_readNumber_103 : decode cX6_readNumber 103 = .ok (.iload_n 1, 1) := by decide +kernel
theorem dX6_readNumber_104 : decode cX6_readNumber 104 = .ok (.iaload, 1) := by decide +kernel
theorem dX6_readNumber_105 : decode cX6_readNumber 105 = .ok (.if_icmp .le 10, 3) := by decide +kernel
theorem dX6_readNumber_108 : decode cX6_readNumber 108 = .ok (.aload_n 0, 1) := by decide +kernel
theorem dX6_readNumber_109 : decode cX6_readNumber 109 = .ok (.iconst 2, 1) := by decide +kernel
theorem dX6_readNumber_110 : decode cX6_readNumber 110 = .ok (.iload_n 2, 1) := by decide +kernel
theorem dX6_readNumber_111 : decode cX6_readNumber 111 = .ok (.invokevirtual 58, 3) := by decide +kernel
theorem dX6_readNumber_114 : decode cX6_readNumber 114 = .ok (.ireturn, 1) := by decide +kernel
theorem dX6_readNumber_115 : decode cX6_readNumber 115 = .ok (.aload_n 0, 1) := by decide +kernel
theorem dX6_readNumber_116 : decode cX6_readNumber 116 = .ok (.getfield 15, 3) := by decide +kernel
theorem dX6_readNumber_119 : decode cX6_readNumber 119 = .ok (.iload_n 1, 1) := by decide +kernel
theorem dX6_readNumber_120 : decode cX6_readNumber 120 = .ok (.iload_n 3, 1) := by decide +kernel
theorem dX6_readNumber_121 : decode cX6_readNumber 121 = .ok (.iastore, 1) := by decide +kernel
theorem dX6_readNumber_122 : decode cX6_readNumber 122 = .ok (.iconst 1, 1) := by decide +kernel
theorem dX6_readNumber_123 : decode cX6_readNumber 123 = .ok (.ireturn, 1) := by decide +kernel
set_option maxRecDepth 20000 in
theorem ok_122 {l : Launch} {d : Nat} (IH : ∀ μ, μ < 196 → px_Met l px_P d μ) : px_ok l px_P d RX6 cX6_readNumber 4 (some .boolean) tb_122 :=
  ⟨px_Sp.of (ps_aload_n dX6_readNumber_0 rfl),
   px_Sp.of (ps_get kc_X6 (by decide) wf_RX6_34 dX6_readNumber_1),
   px_Sp.of (ps_istore_n dX6_readNumber_4 rfl (by decide)),
   px_Sp.of (ps_iconst dX6_readNumber_5 (by decide)),
   px_Sp.of (ps_istore_n dX6_readNumber_6 rfl (by decide)),
   px_Sp.of (ps_aload_n dX6_readNumber_7 rfl),
   px_Sp.of (ps_get kc_X6 (by decide) wf_RX6_34 dX6_readNumber_8),
   px_Sp.of (ps_aload_n dX6_readNumber_11 rfl),
   px_Sp.of (ps_get kc_X6 (by decide) wf_RX6_22 dX6_readNumber_12),
   px_Sp.of (ps_icmp_ge dX6_readNumber_15 (by decide)),
   px_Sp.of (ps_aload_n dX6_readNumber_18 rfl),
   px_Sp.of (ps_get kc_X6 (by decide) wf_RX6_9 dX6_readNumber_19),
   px_Sp.of (ps_aload_n dX6_readNumber_22 rfl),
   px_Sp.of (ps_get kc_X6 (by decide) wf_RX6_34 dX6_readNumber_23),
   px_Sp.of (ps_iald dX6_readNumber_26),
   ps_callS (IH 123 (by decide)) (fc_123 _ _) wm_RX6_80 ws_yX6_isFigure dX6_readNumber_27,
   px_Sp.of (ps_if_eq dX6_readNumber_30 (by decide)),
   px_Sp.of (ps_aload_n dX6_readNumber_33 rfl),
   px_Sp.of (ps_get kc_X6 (by decide) wf_RX6_34 dX6_readNumber_34),
   px_Sp.of (ps_iload_n dX6_readNumber_37 rfl),
   px_Sp.of (ps_isub dX6_readNumber_38),
   px_Sp.of (ps_iconst dX6_readNumber_39 (by decide)),
   px_Sp.of (ps_icmp_ge dX6_readNumber_40 (by decide)),
   px_Sp.of (ps_bipush dX6_readNumber_43 (by decide)),
   px_Sp.of (ps_iload_n dX6_readNumber_45 rfl),
   px_Sp.of (ps_imul dX6_readNumber_46),
   px_Sp.of (ps_aload_n dX6_readNumber_47 rfl),
   px_Sp.of (ps_get kc_X6 (by decide) wf_RX6_9 dX6_readNumber_48),
   px_Sp.of (ps_aload_n dX6_readNumber_51 rfl),
   px_Sp.of (ps_get kc_X6 (by decide) wf_RX6_34 dX6_readNumber_52),
   px_Sp.of (ps_iald dX6_readNumber_55),
   px_Sp.of (ps_iadd dX6_readNumber_56),
   px_Sp.of (ps_bipush dX6_readNumber_57 (by decide)),
   px_Sp.of (ps_isub dX6_readNumber_59),
   px_Sp.of (ps_istore_n dX6_readNumber_60 rfl (by decide)),
   px_Sp.of (ps_aload_n dX6_readNumber_61 rfl),
   px_Sp.of (ps_dup dX6_readNumber_62),
   px_Sp.of (ps_get kc_X6 (by decide) wf_RX6_34 dX6_readNumber_63),
   px_Sp.of (ps_iconst dX6_readNumber_66 (by decide)),
   px_Sp.of (ps_iadd dX6_readNumber_67),
   px_Sp.ofm (ps_putI kc_X6 (by decide) wf_RX6_34 rfl (by decide +kernel) kp_X6_5 dX6_readNumber_68),
   px_Sp.of (ps_goto dX6_readNumber_71 (by decide)),
   px_Sp.of (ps_aload_n dX6_readNumber_74 rfl),
   px_Sp.of (ps_get kc_X6 (by decide) wf_RX6_34 dX6_readNumber_75),
   px_Sp.of (ps_iload_n dX6_readNumber_78 rfl),
   px_Sp.of (ps_icmp_ne dX6_readNumber_79 (by decide)),
   px_Sp.of (ps_aload_n dX6_readNumber_82 rfl),
   px_Sp.of (ps_iconst dX6_readNumber_83 (by decide)),
   px_Sp.of (ps_iload_n dX6_readNumber_84 rfl),
   ps_callV (IH 120 (by decide)) (C := RX6) (T := TX6) (N := 7) (ci := 6) rfl rfl (fc_120 _ _) wm_RX6_58 wi_yX6_blame wl_yX6_blame dX6_readNumber_85,
   ps_zret dX6_readNumber_88,
   px_Sp.of (ps_aload_n dX6_readNumber_89 rfl),
   px_Sp.of (ps_get kc_X6 (by decide) wf_RX6_34 dX6_readNumber_90),
   px_Sp.of (ps_iload_n dX6_readNumber_93 rfl),
   px_Sp.of (ps_isub dX6_readNumber_94),
   px_Sp.of (ps_iconst dX6_readNumber_95 (by decide)),
   px_Sp.of (ps_icmp_gt dX6_readNumber_96 (by decide)),
   px_Sp.of (ps_iload_n dX6_readNumber_99 rfl),
   px_Sp.of (ps_getsB dX6_readNumber_100),
   px_Sp.of (ps_iload_n dX6_readNumber_103 rfl),
   px_Sp.of (ps_rb dX6_readNumber_104),
   px_Sp.of (ps_icmp_le dX6_readNumber_105 (by decide)),
   px_Sp.of (ps_aload_n dX6_readNumber_108 rfl),
   px_Sp.of (ps_iconst dX6_readNumber_109 (by decide)),
   px_Sp.of (ps_iload_n dX6_readNumber_110 rfl),
   ps_callV (IH 120 (by decide)) (C := RX6) (T := TX6) (N := 7) (ci := 6) rfl rfl (fc_120 _ _) wm_RX6_58 wi_yX6_blame wl_yX6_blame dX6_readNumber_111,
   ps_zret dX6_readNumber_114,
   px_Sp.of (ps_aload_n dX6_readNumber_115 rfl),
   px_Sp.of (ps_get kc_X6 (by decide) wf_RX6_15 dX6_readNumber_116),
   px_Sp.of (ps_iload_n dX6_readNumber_119 rfl),
   px_Sp.of (ps_iload_n dX6_readNumber_120 rfl),
   px_Sp.ofm (ps_iast dX6_readNumber_121),
   px_Sp.of (ps_iconst dX6_readNumber_122 (by decide)),
   ps_zret dX6_readNumber_123, trivial⟩
theorem mt_122 {l : Launch} {d : Nat} (IH : ∀ μ, μ < 196 → px_Met l px_P d μ) : px_Met l px_P (d + 1) 122 := px_met (own := RX6) rfl (by decide +kernel) (ok_122 IH)
