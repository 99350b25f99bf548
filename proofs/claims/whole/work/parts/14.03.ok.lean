/-! ===== tables that are right, 3 ===== -/
theorem dX3_shareText_0 : decode cX3_shareText 0 = .ok (.iconst 0, 1) := by decide +kernel
theorem dX3_shareText_1 : decode cX3_shareText 1 = .ok (.istore_n 3, 1) := by decide +kernel
theorem dX3_shareText_2 : decode cX3_shareText 2 = .ok (.iload_n 3, 1) := by decide +kernel
theorem dX3_shareText_3 : decode cX3_shareText 3 = .ok (.aload_n 0, 1) := by decide +kernel
theorem dX3_shareText_4 : decode cX3_shareText 4 = .ok (.getfield 35, 3) := by decide +kernel
theorem dX3_shareText_7 : decode cX3_shareText 7 = .ok (.getfield 87, 3) := by decide +kernel
theorem dX3_shareText_10 : decode cX3_shareText 10 = .ok (.iload_n 1, 1) := by decide +kernel
theorem dX3_shareText_11 : decode cX3_shareText 11 = .ok (.iaload, 1) := by decide +kernel
theorem dX3_shareText_12 : decode cX3_shareText 12 = .ok (.if_icmp .ge 41, 3) := by decide +kernel
theorem dX3_shareText_15 : decode cX3_shareText 15 = .ok (.aload_n 0, 1) := by decide +kernel
theorem dX3_shareText_16 : decode cX3_shareText 16 = .ok (.iload_n 1, 1) := by decide +kernel
theorem dX3_shareText_17 : decode cX3_shareText 17 = .ok (.iload_n 3, 1) := by decide +kernel
theorem dX3_shareText_18 : decode cX3_shareText 18 = .ok (.invokevirtual 90, 3) := by decide +kernel
theorem dX3_shareText_21 : decode cX3_shareText 21 = .ok (.ifCond .eq 26, 3) := by decide +kernel
theorem dX3_shareText_24 : decode cX3_shareText 24 = .ok (.aload_n 0, 1) := by decide +kernel
theorem dX3_shareText_25 : decode cX3_shareText 25 = .ok (.iload_n 2, 1) := by decide +kernel
theorem dX3_shareText_26 : decode cX3_shareText 26 = .ok (.aload_n 0, 1) := by decide +kernel
theorem dX3_shareText_27 : decode cX3_shareText 27 = .ok (.getfield 35, 3) := by decide +kernel
theorem dX3_shareText_30 : decode cX3_shareText 30 = .ok (.getfield 93, 3) := by decide +kernel
theorem dX3_shareText_33 : decode cX3_shareText 33 = .ok (.iload_n 1, 1) := by decide +kernel
theorem dX3_shareText_34 : decode cX3_shareText 34 = .ok (.iload_n 3, 1) := by decide +kernel
theorem dX3_shareText_35 : decode cX3_shareText 35 = .ok (.invokestatic 73, 3) := by decide +kernel
theorem dX3_shareText_38 : decode cX3_shareText 38 = .ok (.laload, 1) := by decide +kernel
theorem dX3_shareText_39 : decode cX3_shareText 39 = .ok (.invokevirtual 97, 3) := by decide +kernel
theorem dX3_shareText_42 : decode cX3_shareText 42 = .ok (.ifCond .eq 5, 3) := by decide +kernel
theorem dX3_shareText_45 : decode cX3_shareText 45 = .ok (.iconst 1, 1) := by decide +kernel
theorem dX3_shareText_46 : decode cX3_shareText 46 = .ok (.ireturn, 1) := by decide +kernel
theorem dX3_shareText_47 : decode cX3_shareText 47 = .ok (.iinc 3 1, 3) := by decide +kernel
theorem dX3_shareText_50 : decode cX3_shareText 50 = .ok (.goto (-48), 3) := by decide +kernel
theorem dX3_shareText_53 : decode cX3_shareText 53 = .ok (.iconst 0, 1) := by decide +kernel
theorem dX3_shareText_54 : decode cX3_shareText 54 = .ok (.ireturn, 1) := by decide +kernel
set_option maxRecDepth 20000 in
theorem ok_59 {l : Launch} {d : Nat} (IH : ∀ μ, μ < 196 → px_Met l px_P d μ) : px_ok l px_P d RX3 cX3_shareText 4 (some .boolean) tb_59 :=
  ⟨px_Sp.of (ps_iconst dX3_shareText_0 (by decide)),
   px_Sp.of (ps_istore_n dX3_shareText_1 rfl (by decide)),
   px_Sp.of (ps_iload_n dX3_shareText_2 rfl),
   px_Sp.of (ps_aload_n dX3_shareText_3 rfl),
   px_Sp.of (ps_get kc_X3 (by decide) wf_RX3_35 dX3_shareText_4),
   px_Sp.of (ps_get kc_X1 (by decide) wf_RX3_87 dX3_shareText_7),
   px_Sp.of (ps_iload_n dX3_shareText_10 rfl),
   px_Sp.of (ps_iald dX3_shareText_11),
   px_Sp.of (ps_icmp_ge dX3_shareText_12 (by decide)),
   px_Sp.of (ps_aload_n dX3_shareText_15 rfl),
   px_Sp.of (ps_iload_n dX3_shareText_16 rfl),
   px_Sp.of (ps_iload_n dX3_shareText_17 rfl),
   ps_callV (IH 57 (by decide)) (C := RX3) (T := TX3) (N := 10) (ci := 3) rfl rfl (fc_57 _ _) wm_RX3_90 wi_yX3_isOfPiece wl_yX3_isOfPiece dX3_shareText_18,
   px_Sp.of (ps_if_eq dX3_shareText_21 (by decide)),
   px_Sp.of (ps_aload_n dX3_shareText_24 rfl),
   px_Sp.of (ps_iload_n dX3_shareText_25 rfl),
   px_Sp.of (ps_aload_n dX3_shareText_26 rfl),
   px_Sp.of (ps_get kc_X3 (by decide) wf_RX3_35 dX3_shareText_27),
   px_Sp.of (ps_get kc_X1 (by decide) wf_RX3_93 dX3_shareText_30),
   px_Sp.of (ps_iload_n dX3_shareText_33 rfl),
   px_Sp.of (ps_iload_n dX3_shareText_34 rfl),
   ps_callSN (IH 11 (by decide)) (fc_11 _ _) (fun _ _ _ _ h => h.1.2.2.2.1) ws_yX8_spotOf dX3_shareText_35,
   px_Sp.of (ps_lald dX3_shareText_38),
   ps_callV (IH 60 (by decide)) (C := RX3) (T := TX3) (N := 10) (ci := 3) rfl rfl (fc_60 _ _) wm_RX3_97 wi_yX3_pieceHas wl_yX3_pieceHas dX3_shareText_39,
   px_Sp.of (ps_if_eq dX3_shareText_42 (by decide)),
   px_Sp.of (ps_iconst dX3_shareText_45 (by decide)),
   ps_zret dX3_shareText_46,
   px_Sp.of (ps_iinc dX3_shareText_47 (by decide) (by decide)),
   px_Sp.of (ps_goto dX3_shareText_50 (by decide)),
   px_Sp.of (ps_iconst dX3_shareText_53 (by decide)),
   ps_zret dX3_shareText_54, trivial⟩
theorem mt_59 {l : Launch} {d : Nat} (IH : ∀ μ, μ < 196 → px_Met l px_P d μ) : px_Met l px_P (d + 1) 59 := px_met (own := RX3) rfl (by decide +kernel) (ok_59 IH)
theorem dX3_pieceHas_0 : decode cX3_pieceHas 0 = .ok (.iconst 0, 1) := by decide +kernel
theorem dX3_pieceHas_1 : decode cX3_pieceHas 1 = .ok (.istore 4, 2) := by decide +kernel
theorem dX3_pieceHas_3 : decode cX3_pieceHas 3 = .ok (.iload 4, 2) := by decide +kernel
theorem dX3_pieceHas_5 : decode cX3_pieceHas 5 = .ok (.aload_n 0, 1) := by decide +kernel
theorem dX3_pieceHas_6 : decode cX3_pieceHas 6 = .ok (.getfield 35, 3) := by decide +kernel
theorem dX3_pieceHas_9 : decode cX3_pieceHas 9 = .ok (.getfield 87, 3) := by decide +kernel
theorem dX3_pieceHas_12 : decode cX3_pieceHas 12 = .ok (.iload_n 1, 1) := by decide +kernel
theorem dX3_pieceHas_13 : decode cX3_pieceHas 13 = .ok (.iaload, 1) := by decide +kernel
theorem dX3_pieceHas_14 : decode cX3_pieceHas 14 = .ok (.if_icmp .ge 40, 3) := by decide +kernel
theorem dX3_pieceHas_17 : decode cX3_pieceHas 17 = .ok (.aload_n 0, 1) := by decide +kernel
theorem dX3_pieceHas_18 : decode cX3_pieceHas 18 = .ok (.getfield 35, 3) := by decide +kernel
theorem dX3_pieceHas_21 : decode cX3_pieceHas 21 = .ok (.getfield 93, 3) := by decide +kernel
theorem dX3_pieceHas_24 : decode cX3_pieceHas 24 = .ok (.iload_n 1, 1) := by decide +kernel
theorem dX3_pieceHas_25 : decode cX3_pieceHas 25 = .ok (.iload 4, 2) := by decide +kernel
theorem dX3_pieceHas_27 : decode cX3_pieceHas 27 = .ok (.invokestatic 73, 3) := by decide +kernel
theorem dX3_pieceHas_30 : decode cX3_pieceHas 30 = .ok (.laload, 1) := by decide +kernel
theorem dX3_pieceHas_31 : decode cX3_pieceHas 31 = .ok (.lload_n 2, 1) := by decide +kernel
theorem dX3_pieceHas_32 : decode cX3_pieceHas 32 = .ok (.lcmp, 1) := by decide +kernel
theorem dX3_pieceHas_33 : decode cX3_pieceHas 33 = .ok (.ifCond .ne 15, 3) := by decide +kernel
theorem dX3_pieceHas_36 : decode cX3_pieceHas 36 = .ok (.aload_n 0, 1) := by decide +kernel
theorem dX3_pieceHas_37 : decode cX3_pieceHas 37 = .ok (.iload_n 1, 1) := by decide +kernel
theorem dX3_pieceHas_38 : decode cX3_pieceHas 38 = .ok (.iload 4, 2) := by decide +kernel
theorem dX3_pieceHas_40 : decode cX3_pieceHas 40 = .ok (.invokevirtual 90, 3) := by decide +kernel
theorem dX3_pieceHas_43 : decode cX3_pieceHas 43 = .ok (.ifCond .eq 5, 3) := by decide +kernel
theorem dX3_pieceHas_46 : decode cX3_pieceHas 46 = .ok (.iconst 1, 1) := by decide +kernel
theorem dX3_pieceHas_47 : decode cX3_pieceHas 47 = .ok (.ireturn, 1) := by decide +kernel
theorem dX3_pieceHas_48 : decode cX3_pieceHas 48 = .ok (.iinc 4 1, 3) := by decide +kernel
theorem dX3_pieceHas_51 : decode cX3_pieceHas 51 = .ok (.goto (-48), 3) := by decide +kernel
theorem dX3_pieceHas_54 : decode cX3_pieceHas 54 = .ok (.iconst 0, 1) := by decide +kernel
theorem dX3_pieceHas_55 : decode cX3_pieceHas 55 = .ok (.ireturn, 1) := by decide +kernel
set_option maxRecDepth 20000 in
theorem ok_60 {l : Launch} {d : Nat} (IH : ∀ μ, μ < 196 → px_Met l px_P d μ) : px_ok l px_P d RX3 cX3_pieceHas 5 (some .boolean) tb_60 :=
  ⟨px_Sp.of (ps_iconst dX3_pieceHas_0 (by decide)),
   px_Sp.of (ps_istore dX3_pieceHas_1 (by decide)),
   px_Sp.of (ps_iload dX3_pieceHas_3),
   px_Sp.of (ps_aload_n dX3_pieceHas_5 rfl),
   px_Sp.of (ps_get kc_X3 (by decide) wf_RX3_35 dX3_pieceHas_6),
   px_Sp.of (ps_get kc_X1 (by decide) wf_RX3_87 dX3_pieceHas_9),
   px_Sp.of (ps_iload_n dX3_pieceHas_12 rfl),
   px_Sp.of (ps_iald dX3_pieceHas_13),
   px_Sp.of (ps_icmp_ge dX3_pieceHas_14 (by decide)),
   px_Sp.of (ps_aload_n dX3_pieceHas_17 rfl),
   px_Sp.of (ps_get kc_X3 (by decide) wf_RX3_35 dX3_pieceHas_18),
   px_Sp.of (ps_get kc_X1 (by decide) wf_RX3_93 dX3_pieceHas_21),
   px_Sp.of (ps_iload_n dX3_pieceHas_24 rfl),
   px_Sp.of (ps_iload dX3_pieceHas_25),
   ps_callSN (IH 11 (by decide)) (fc_11 _ _) (fun _ _ _ _ h => h.1.2.2.2.1) ws_yX8_spotOf dX3_pieceHas_27,
   px_Sp.of (ps_lald dX3_pieceHas_30),
   px_Sp.of (ps_lload_n dX3_pieceHas_31 rfl),
   px_Sp.of (ps_lcmp dX3_pieceHas_32),
   px_Sp.of (ps_if_ne dX3_pieceHas_33 (by decide)),
   px_Sp.of (ps_aload_n dX3_pieceHas_36 rfl),
   px_Sp.of (ps_iload_n dX3_pieceHas_37 rfl),
   px_Sp.of (ps_iload dX3_pieceHas_38),
   ps_callV (IH 57 (by decide)) (C := RX3) (T := TX3) (N := 10) (ci := 3) rfl rfl (fc_57 _ _) wm_RX3_90 wi_yX3_isOfPiece wl_yX3_isOfPiece dX3_pieceHas_40,
   px_Sp.of (ps_if_eq dX3_pieceHas_43 (by decide)),
   px_Sp.of (ps_iconst dX3_pieceHas_46 (by decide)),
   ps_zret dX3_pieceHas_47,
   px_Sp.of (ps_iinc dX3_pieceHas_48 (by decide) (by decide)),
   px_Sp.of (ps_goto dX3_pieceHas_51 (by decide)),
   px_Sp.of (ps_iconst dX3_pieceHas_54 (by decide)),
   ps_zret dX3_pieceHas_55, trivial⟩
theorem mt_60 {l : Launch} {d : Nat} (IH : ∀ μ, μ < 196 → px_Met l px_P d μ) : px_Met l px_P (d + 1) 60 := px_met (own := RX3) rfl (by decide +kernel) (ok_60 IH)
theorem dX2_quarrels_0 : decode cX2_quarrels 0 = .ok (.iconst 0, 1) := by decide +kernel
theorem dX2_quarrels_1 : decode cX2_quarrels 1 = .ok (.istore_n 1, 1) := by decide +kernel
theorem dX2_quarrels_2 : decode cX2_quarrels 2 = .ok (.iconst 0, 1) := by decide +kernel
theorem dX2_quarrels_3 : decode cX2_quarrels 3 = .ok (.istore_n 2, 1) := by decide +kernel
theorem dX2_quarrels_4 : decode cX2_quarrels 4 = .ok (.iload_n 2, 1) := by decide +kernel
theorem dX2_quarrels_5 : decode cX2_quarrels 5 = .ok (.aload_n 0, 1) := by decide +kernel
theorem dX2_quarrels_6 : decode cX2_quarrels 6 = .ok (.getfield 22, 3) := by decide +kernel
theorem dX2_quarrels_9 : decode cX2_quarrels 9 = .ok (.getfield 41, 3) := by decide +kernel
theorem dX2_quarrels_12 : decode cX2_quarrels 12 = .ok (.if_icmp .ge 20, 3) := by decide +kernel
theorem dX2_quarrels_15 : decode cX2_quarrels 15 = .ok (.aload_n 0, 1) := by decide +kernel
theorem dX2_quarrels_16 : decode cX2_quarrels 16 = .ok (.iload_n 2, 1) := by decide +kernel
theorem dX2_quarrels_17 : decode cX2_quarrels 17 = .ok (.invokevirtual 121, 3) := by decide +kernel
theorem dX2_quarrels_20 : decode cX2_quarrels 20 = .ok (.ifCond .eq 6, 3) := by decide +kernel
theorem dX2_quarrels_23 : decode cX2_quarrels 23 = .ok (.iinc 1 1, 3) := by decide +kernel
theorem dX2_quarrels_26 : decode cX2_quarrels 26 = .ok (.iinc 2 1, 3) := by decide +kernel
theorem dX2_quarrels_29 : decode cX2_quarrels 29 = .ok (.goto (-25), 3) := by decide +kernel
theorem dX2_quarrels_32 : decode cX2_quarrels 32 = .ok (.iload_n 1, 1) := by decide +kernel
theorem dX2_quarrels_33 : decode cX2_quarrels 33 = .ok (.ireturn, 1) := by decide +kernel
set_option maxRecDepth 20000 in
theorem ok_61 {l : Launch} {d : Nat} (IH : ∀ μ, μ < 196 → px_Met l px_P d μ) : px_ok l px_P d RX2 cX2_quarrels 3 (some .int) tb_61 :=
  ⟨px_Sp.of (ps_iconst dX2_quarrels_0 (by decide)),
   px_Sp.of (ps_istore_n dX2_quarrels_1 rfl (by decide)),
   px_Sp.of (ps_iconst dX2_quarrels_2 (by decide)),
   px_Sp.of (ps_istore_n dX2_quarrels_3 rfl (by decide)),
   px_Sp.of (ps_iload_n dX2_quarrels_4 rfl),
   px_Sp.of (ps_aload_n dX2_quarrels_5 rfl),
   px_Sp.of (ps_get kc_X2 (by decide) wf_RX2_22 dX2_quarrels_6),
   px_Sp.of (ps_get kc_X1 (by decide) wf_RX2_41 dX2_quarrels_9),
   px_Sp.of (ps_icmp_ge dX2_quarrels_12 (by decide)),
   px_Sp.of (ps_aload_n dX2_quarrels_15 rfl),
   px_Sp.of (ps_iload_n dX2_quarrels_16 rfl),
   ps_callV (IH 62 (by decide)) (C := RX2) (T := TX2) (N := 8) (ci := 2) rfl rfl (fc_62 _ _) wm_RX2_121 wi_yX2_isQuarrel wl_yX2_isQuarrel dX2_quarrels_17,
   px_Sp.of (ps_if_eq dX2_quarrels_20 (by decide)),
   px_Sp.of (ps_iinc dX2_quarrels_23 (by decide) (by decide)),
   px_Sp.of (ps_iinc dX2_quarrels_26 (by decide) (by decide)),
   px_Sp.of (ps_goto dX2_quarrels_29 (by decide)),
   px_Sp.of (ps_iload_n dX2_quarrels_32 rfl),
   ps_iret dX2_quarrels_33, trivial⟩
theorem mt_61 {l : Launch} {d : Nat} (IH : ∀ μ, μ < 196 → px_Met l px_P d μ) : px_Met l px_P (d + 1) 61 := px_met (own := RX2) rfl (by decide +kernel) (ok_61 IH)
theorem dX2_isQuarrel_0 : decode cX2_isQuarrel 0 = .ok (.aload_n 0, 1) := by decide +kernel
theorem dX2_isQuarrel_1 : decode cX2_isQuarrel 1 = .ok (.getfield 9, 3) := by decide +kernel
theorem dX2_isQuarrel_4 : decode cX2_isQuarrel 4 = .ok (.iload_n 1, 1) := by decide +kernel
theorem dX2_isQuarrel_5 : decode cX2_isQuarrel 5 = .ok (.iaload, 1) := by decide +kernel
theorem dX2_isQuarrel_6 : decode cX2_isQuarrel 6 = .ok (.iconst (-1), 1) := by decide +kernel
theorem dX2_isQuarrel_7 : decode cX2_isQuarrel 7 = .ok (.if_icmp .eq 21, 3) := by decide +kernel
theorem dX2_isQuarrel_10 : decode cX2_isQuarrel 10 = .ok (.aload_n 0, 1) := by decide +kernel
theorem dX2_isQuarrel_11 : decode cX2_isQuarrel 11 = .ok (.aload_n 0, 1) := by decide +kernel
theorem dX2_isQuarrel_12 : decode cX2_isQuarrel 12 = .ok (.getfield 9, 3) := by decide +kernel
theorem dX2_isQuarrel_15 : decode cX2_isQuarrel 15 = .ok (.iload_n 1, 1) := by decide +kernel
theorem dX2_isQuarrel_16 : decode cX2_isQuarrel 16 = .ok (.iaload, 1) := by decide +kernel
theorem dX2_isQuarrel_17 : decode cX2_isQuarrel 17 = .ok (.iload_n 1, 1) := by decide +kernel
theorem dX2_isQuarrel_18 : decode cX2_isQuarrel 18 = .ok (.invokevirtual 74, 3) := by decide +kernel
theorem dX2_isQuarrel_21 : decode cX2_isQuarrel 21 = .ok (.ifCond .eq 7, 3) := by decide +kernel
theorem dX2_isQuarrel_24 : decode cX2_isQuarrel 24 = .ok (.iconst 1, 1) := by decide +kernel
theorem dX2_isQuarrel_25 : decode cX2_isQuarrel 25 = .ok (.goto 4, 3) := by decide +kernel
theorem dX2_isQuarrel_28 : decode cX2_isQuarrel 28 = .ok (.iconst 0, 1) := by decide +kernel
theorem dX2_isQuarrel_29 : decode cX2_isQuarrel 29 = .ok (.ireturn, 1) := by decide +kernel
set_option maxRecDepth 20000 in
theorem ok_62 {l : Launch} {d : Nat} (IH : ∀ μ, μ < 196 → px_Met l px_P d μ) : px_ok l px_P d RX2 cX2_isQuarrel 2 (some .boolean) tb_62 :=
  ⟨px_Sp.of (ps_aload_n dX2_isQuarrel_0 rfl),
   px_Sp.of (ps_get kc_X2 (by decide) wf_RX2_9 dX2_isQuarrel_1),
   px_Sp.of (ps_iload_n dX2_isQuarrel_4 rfl),
   px_Sp.of (ps_iald dX2_isQuarrel_5),
   px_Sp.of (ps_iconst dX2_isQuarrel_6 (by decide)),
   px_Sp.of (ps_icmp_eq dX2_isQuarrel_7 (by decide)),
   px_Sp.of (ps_aload_n dX2_isQuarrel_10 rfl),
   px_Sp.of (ps_aload_n dX2_isQuarrel_11 rfl),
   px_Sp.of (ps_get kc_X2 (by decide) wf_RX2_9 dX2_isQuarrel_12),
   px_Sp.of (ps_iload_n dX2_isQuarrel_15 rfl),
   px_Sp.of (ps_iald dX2_isQuarrel_16),
   px_Sp.of (ps_iload_n dX2_isQuarrel_17 rfl),
   ps_callV (IH 28 (by decide)) (C := RX2) (T := TX2) (N := 8) (ci := 2) rfl rfl (fc_28 _ _) wm_RX2_74 wi_yX2_isAfter wl_yX2_isAfter dX2_isQuarrel_18,
   px_Sp.of (ps_if_eq dX2_isQuarrel_21 (by decide)),
   px_Sp.of (ps_iconst dX2_isQuarrel_24 (by decide)),
   px_Sp.of (ps_goto dX2_isQuarrel_25 (by decide)),
   px_Sp.of (ps_iconst dX2_isQuarrel_28 (by decide)),
   ps_zret dX2_isQuarrel_29, trivial⟩
theorem mt_62 {l : Launch} {d : Nat} (IH : ∀ μ, μ < 196 → px_Met l px_P d μ) : px_Met l px_P (d + 1) 62 := px_met (own := RX2) rfl (by decide +kernel) (ok_62 IH)
theorem dX8_origin_0 : decode cX8_origin 0 = .ok (.aload_n 0, 1) := by decide +kernel
theorem dX8_origin_1 : decode cX8_origin 1 = .ok (.getfield 25, 3) := by decide +kernel
theorem dX8_origin_4 : decode cX8_origin 4 = .ok (.iload_n 1, 1) := by decide +kernel
theorem dX8_origin_5 : decode cX8_origin 5 = .ok (.iload_n 2, 1) := by decide +kernel
theorem dX8_origin_6 : decode cX8_origin 6 = .ok (.invokevirtual 153, 3) := by decide +kernel
theorem dX8_origin_9 : decode cX8_origin 9 = .ok (.ifCond .ne 7, 3) := by decide +kernel
theorem dX8_origin_12 : decode cX8_origin 12 = .ok (.sipush (-1001), 3) := by decide +kernel
theorem dX8_origin_15 : decode cX8_origin 15 = .ok (.ireturn, 1) := by decide +kernel
theorem dX8_origin_16 : decode cX8_origin 16 = .ok (.iload_n 3, 1) := by decide +kernel
theorem dX8_origin_17 : decode cX8_origin 17 = .ok (.ifCond .lt 8, 3) := by decide +kernel
theorem dX8_origin_20 : decode cX8_origin 20 = .ok (.iload_n 3, 1) := by decide +kernel
theorem dX8_origin_21 : decode cX8_origin 21 = .ok (.iconst 2, 1) := by decide +kernel
theorem dX8_origin_22 : decode cX8_origin 22 = .ok (.if_icmp .le 7, 3) := by decide +kernel
theorem dX8_origin_25 : decode cX8_origin 25 = .ok (.sipush (-1002), 3) := by decide +kernel
theorem dX8_origin_28 : decode cX8_origin 28 = .ok (.ireturn, 1) := by decide +kernel
theorem dX8_origin_29 : decode cX8_origin 29 = .ok (.aload_n 0, 1) := by decide +kernel
theorem dX8_origin_30 : decode cX8_origin 30 = .ok (.getfield 25, 3) := by decide +kernel
theorem dX8_origin_33 : decode cX8_origin 33 = .ok (.iload_n 1, 1) := by decide +kernel
theorem dX8_origin_34 : decode cX8_origin 34 = .ok (.invokevirtual 143, 3) := by decide +kernel
theorem dX8_origin_37 : decode cX8_origin 37 = .ok (.ifCond .ne 7, 3) := by decide +kernel
theorem dX8_origin_40 : decode cX8_origin 40 = .ok (.sipush (-1003), 3) := by decide +kernel
theorem dX8_origin_43 : decode cX8_origin 43 = .ok (.ireturn, 1) := by decide +kernel
theorem dX8_origin_44 : decode cX8_origin 44 = .ok (.aload_n 0, 1) := by decide +kernel
theorem dX8_origin_45 : decode cX8_origin 45 = .ok (.getfield 43, 3) := by decide +kernel
theorem dX8_origin_48 : decode cX8_origin 48 = .ok (.iconst (-1), 1) := by decide +kernel
theorem dX8_origin_49 : decode cX8_origin 49 = .ok (.invokevirtual 146, 3) := by decide +kernel
theorem dX8_origin_52 : decode cX8_origin 52 = .ok (.aload_n 0, 1) := by decide +kernel
theorem dX8_origin_53 : decode cX8_origin 53 = .ok (.getfield 43, 3) := by decide +kernel
theorem dX8_origin_56 : decode cX8_origin 56 = .ok (.iload_n 1, 1) := by decide +kernel
theorem dX8_origin_57 : decode cX8_origin 57 = .ok (.iload_n 2, 1) := by decide +kernel
theorem dX8_origin_58 : decode cX8_origin 58 = .ok (.invokestatic 157, 3) := by decide +kernel
theorem dX8_origin_61 : decode cX8_origin 61 = .ok (.invokevirtual 194, 3) := by decide +kernel
theorem dX8_origin_64 : decode cX8_origin 64 = .ok (.istore 4, 2) := by decide +kernel
theorem dX8_origin_66 : decode cX8_origin 66 = .ok (.iload 4, 2) := by decide +kernel
theorem dX8_origin_68 : decode cX8_origin 68 = .ok (.iconst (-1), 1) := by decide +kernel
theorem dX8_origin_69 : decode cX8_origin 69 = .ok (.if_icmp .ne 5, 3) := by decide +kernel
theorem dX8_origin_72 : decode cX8_origin 72 = .ok (.iconst (-1), 1) := by decide +kernel
theorem dX8_origin_73 : decode cX8_origin 73 = .ok (.ireturn, 1) := by decide +kernel
theorem dX8_origin_74 : decode cX8_origin 74 = .ok (.iload 4, 2) := by decide +kernel
theorem dX8_origin_76 : decode cX8_origin 76 = .ok (.bipush 14, 2) := by decide +kernel
theorem dX8_origin_78 : decode cX8_origin 78 = .ok (.idiv, 1) := by decide +kernel
theorem dX8_origin_79 : decode cX8_origin 79 = .ok (.istore 5, 2) := by decide +kernel
theorem dX8_origin_81 : decode cX8_origin 81 = .ok (.iload_n 3, 1) := by decide +kernel
theorem dX8_origin_82 : decode cX8_origin 82 = .ok (.ifCond .ne 6, 3) := by decide +kernel
theorem dX8_origin_85 : decode cX8_origin 85 = .ok (.iload 5, 2) := by decide +kernel
theorem dX8_origin_87 : decode cX8_origin 87 = .ok (.ireturn, 1) := by decide +kernel
theorem dX8_origin_88 : decode cX8_origin 88 = .ok (.iload_n 3, 1) := by decide +kernel
theorem dX8_origin_89 : decode cX8_origin 89 = .ok (.iconst 1, 1) := by decide +kernel
theorem dX8_origin_90 : decode cX8_origin 90 = .ok (.if_icmp .ne 11, 3) := by decide +kernel
theorem dX8_origin_93 : decode cX8_origin 93 = .ok (.iload 4, 2) := by decide +kernel
theorem dX8_origin_95 : decode cX8_origin 95 = .ok (.bipush 14, 2) := by decide +kernel
theorem dX8_origin_97 : decode cX8_origin 97 = .ok (.irem, 1) := by decide +kernel
theorem dX8_origin_98 : decode cX8_origin 98 = .ok (.goto 13, 3) := by decide +kernel
theorem dX8_origin_101 : decode cX8_origin 101 = .ok (.aload_n 0, 1) := by decide +kernel
theorem dX8_origin_102 : decode cX8_origin 102 = .ok (.getfield 25, 3) := by decide +kernel
theorem dX8_origin_105 : decode cX8_origin 105 = .ok (.getfield 131, 3) := by decide +kernel
theorem dX8_origin_108 : decode cX8_origin 108 = .ok (.iload 5, 2) := by decide +kernel
theorem dX8_origin_110 : decode cX8_origin 110 = .ok (.iaload, 1) := by decide +kernel
theorem dX8_origin_111 : decode cX8_origin 111 = .ok (.ireturn, 1) := by decide +kernel
set_option maxRecDepth 20000 in
theorem ok_63 {l : Launch} {d : Nat} (IH : ∀ μ, μ < 196 → px_Met l px_P d μ) : px_ok l px_P d RX8 cX8_origin 6 (some .int) tb_63 :=
  ⟨px_Sp.of (ps_aload_n dX8_origin_0 rfl),
   px_Sp.of (ps_get kc_X8 (by decide) wf_RX8_25 dX8_origin_1),
   px_Sp.of (ps_iload_n dX8_origin_4 rfl),
   px_Sp.of (ps_iload_n dX8_origin_5 rfl),
   ps_callV (IH 43 (by decide)) (C := RX1) (T := TX1) (N := 10) (ci := 1) rfl rfl (fc_43 _ _) wm_RX8_153 wi_yX1_hasLine wl_yX1_hasLine dX8_origin_6,
   px_Sp.of (ps_if_ne dX8_origin_9 (by decide)),
   px_Sp.of (ps_sipush dX8_origin_12 (by decide)),
   ps_iret dX8_origin_15,
   px_Sp.of (ps_iload_n dX8_origin_16 rfl),
   px_Sp.of (ps_if_lt dX8_origin_17 (by decide)),
   px_Sp.of (ps_iload_n dX8_origin_20 rfl),
   px_Sp.of (ps_iconst dX8_origin_21 (by decide)),
   px_Sp.of (ps_icmp_le dX8_origin_22 (by decide)),
   px_Sp.of (ps_sipush dX8_origin_25 (by decide)),
   ps_iret dX8_origin_28,
   px_Sp.of (ps_aload_n dX8_origin_29 rfl),
   px_Sp.of (ps_get kc_X8 (by decide) wf_RX8_25 dX8_origin_30),
   px_Sp.of (ps_iload_n dX8_origin_33 rfl),
   ps_callV (IH 21 (by decide)) (C := RX1) (T := TX1) (N := 10) (ci := 1) rfl rfl (fc_21 _ _) wm_RX8_143 wi_yX1_isSeen wl_yX1_isSeen dX8_origin_34,
   px_Sp.of (ps_if_ne dX8_origin_37 (by decide)),
   px_Sp.of (ps_sipush dX8_origin_40 (by decide)),
   ps_iret dX8_origin_43,
   px_Sp.of (ps_aload_n dX8_origin_44 rfl),
   px_Sp.of (ps_get kc_X8 (by decide) wf_RX8_43 dX8_origin_45),
   px_Sp.of (ps_iconst dX8_origin_48 (by decide)),
   ps_callV (IH 23 (by decide)) (C := RX2) (T := TX2) (N := 8) (ci := 2) rfl rfl (fc_23 _ _) wm_RX8_146 wi_yX2_refresh wl_yX2_refresh dX8_origin_49,
   px_Sp.of (ps_aload_n dX8_origin_52 rfl),
   px_Sp.of (ps_get kc_X8 (by decide) wf_RX8_43 dX8_origin_53),
   px_Sp.of (ps_iload_n dX8_origin_56 rfl),
   px_Sp.of (ps_iload_n dX8_origin_57 rfl),
   ps_callS (IH 11 (by decide)) (fc_11 _ _) wm_RX8_157 ws_yX8_spotOf dX8_origin_58,
   ps_callV (IH 54 (by decide)) (C := RX2) (T := TX2) (N := 8) (ci := 2) rfl rfl (fc_54 _ _) wm_RX8_194 wi_yX2_sourceOf wl_yX2_sourceOf dX8_origin_61,
   px_Sp.of (ps_istore dX8_origin_64 (by decide)),
   px_Sp.of (ps_iload dX8_origin_66),
   px_Sp.of (ps_iconst dX8_origin_68 (by decide)),
   px_Sp.of (ps_icmp_ne dX8_origin_69 (by decide)),
   px_Sp.of (ps_iconst dX8_origin_72 (by decide)),
   ps_iret dX8_origin_73,
   px_Sp.of (ps_iload dX8_origin_74),
   px_Sp.of (ps_bipush dX8_origin_76 (by decide)),
   px_Sp.of (ps_idiv dX8_origin_78),
   px_Sp.of (ps_istore dX8_origin_79 (by decide)),
   px_Sp.of (ps_iload_n dX8_origin_81 rfl),
   px_Sp.of (ps_if_ne dX8_origin_82 (by decide)),
   px_Sp.of (ps_iload dX8_origin_85),
   ps_iret dX8_origin_87,
   px_Sp.of (ps_iload_n dX8_origin_88 rfl),
   px_Sp.of (ps_iconst dX8_origin_89 (by decide)),
   px_Sp.of (ps_icmp_ne dX8_origin_90 (by decide)),
   px_Sp.of (ps_iload dX8_origin_93),
   px_Sp.of (ps_bipush dX8_origin_95 (by decide)),
   px_Sp.of (ps_irem dX8_origin_97),
   px_Sp.of (ps_goto dX8_origin_98 (by decide)),
   px_Sp.of (ps_aload_n dX8_origin_101 rfl),
   px_Sp.of (ps_get kc_X8 (by decide) wf_RX8_25 dX8_origin_102),
   px_Sp.of (ps_get kc_X1 (by decide) wf_RX8_131 dX8_origin_105),
   px_Sp.of (ps_iload dX8_origin_108),
   px_Sp.of (ps_iald dX8_origin_110),
   ps_iret dX8_origin_111, trivial⟩
theorem mt_63 {l : Launch} {d : Nat} (IH : ∀ μ, μ < 196 → px_Met l px_P d μ) : px_Met l px_P (d + 1) 63 := px_met (own := RX8) rfl (by decide +kernel) (ok_63 IH)
theorem dX8_altered_0 : decode cX8_altered 0 = .ok (.aload_n 0, 1) := by decide +kernel
theorem dX8_altered_1 : decode cX8_altered 1 = .ok (.getfield 25, 3) := by decide +kernel
theorem dX8_altered_4 : decode cX8_altered 4 = .ok (.iload_n 1, 1) := by decide +kernel
theorem dX8_altered_5 : decode cX8_altered 5 = .ok (.iload_n 2, 1) := by decide +kernel
theorem dX8_altered_6 : decode cX8_altered 6 = .ok (.invokevirtual 153, 3) := by decide +kernel
theorem dX8_altered_9 : decode cX8_altered 9 = .ok (.ifCond .ne 7, 3) := by decide +kernel
theorem dX8_altered_12 : decode cX8_altered 12 = .ok (.sipush (-1001), 3) := by decide +kernel
theorem dX8_altered_15 : decode cX8_altered 15 = .ok (.ireturn, 1) := by decide +kernel
theorem dX8_altered_16 : decode cX8_altered 16 = .ok (.aload_n 0, 1) := by decide +kernel
theorem dX8_altered_17 : decode cX8_altered 17 = .ok (.getfield 25, 3) := by decide +kernel
theorem dX8_altered_20 : decode cX8_altered 20 = .ok (.iload_n 1, 1) := by decide +kernel
theorem dX8_altered_21 : decode cX8_altered 21 = .ok (.invokevirtual 143, 3) := by decide +kernel
theorem dX8_altered_24 : decode cX8_altered 24 = .ok (.ifCond .ne 7, 3) := by decide +kernel
theorem dX8_altered_27 : decode cX8_altered 27 = .ok (.sipush (-1003), 3) := by decide +kernel
theorem dX8_altered_30 : decode cX8_altered 30 = .ok (.ireturn, 1) := by decide +kernel
theorem dX8_altered_31 : decode cX8_altered 31 = .ok (.aload_n 0, 1) := by decide +kernel
theorem dX8_altered_32 : decode cX8_altered 32 = .ok (.getfield 43, 3) := by decide +kernel
theorem dX8_altered_35 : decode cX8_altered 35 = .ok (.iconst (-1), 1) := by decide +kernel
theorem dX8_altered_36 : decode cX8_altered 36 = .ok (.invokevirtual 146, 3) := by decide +kernel
theorem dX8_altered_39 : decode cX8_altered 39 = .ok (.aload_n 0, 1) := by decide +kernel
theorem dX8_altered_40 : decode cX8_altered 40 = .ok (.getfield 43, 3) := by decide +kernel
theorem dX8_altered_43 : decode cX8_altered 43 = .ok (.iload_n 1, 1) := by decide +kernel
theorem dX8_altered_44 : decode cX8_altered 44 = .ok (.iload_n 2, 1) := by decide +kernel
theorem dX8_altered_45 : decode cX8_altered 45 = .ok (.invokestatic 157, 3) := by decide +kernel
theorem dX8_altered_48 : decode cX8_altered 48 = .ok (.invokevirtual 197, 3) := by decide +kernel
theorem dX8_altered_51 : decode cX8_altered 51 = .ok (.ifCond .eq 7, 3) := by decide +kernel
theorem dX8_altered_54 : decode cX8_altered 54 = .ok (.iconst 1, 1) := by decide +kernel
theorem dX8_altered_55 : decode cX8_altered 55 = .ok (.goto 4, 3) := by decide +kernel
theorem dX8_altered_58 : decode cX8_altered 58 = .ok (.iconst 0, 1) := by decide +kernel
theorem dX8_altered_59 : decode cX8_altered 59 = .ok (.ireturn, 1) := by decide +kernel
set_option maxRecDepth 20000 in
theorem ok_64 {l : Launch} {d : Nat} (IH : ∀ μ, μ < 196 → px_Met l px_P d μ) : px_ok l px_P d RX8 cX8_altered 3 (some .int) tb_64 :=
  ⟨px_Sp.of (ps_aload_n dX8_altered_0 rfl),
   px_Sp.of (ps_get kc_X8 (by decide) wf_RX8_25 dX8_altered_1),
   px_Sp.of (ps_iload_n dX8_altered_4 rfl),
   px_Sp.of (ps_iload_n dX8_altered_5 rfl),
   ps_callV (IH 43 (by decide)) (C := RX1) (T := TX1) (N := 10) (ci := 1) rfl rfl (fc_43 _ _) wm_RX8_153 wi_yX1_hasLine wl_yX1_hasLine dX8_altered_6,
   px_Sp.of (ps_if_ne dX8_altered_9 (by decide)),
   px_Sp.of (ps_sipush dX8_altered_12 (by decide)),
   ps_iret dX8_altered_15,
   px_Sp.of (ps_aload_n dX8_altered_16 rfl),
   px_Sp.of (ps_get kc_X8 (by decide) wf_RX8_25 dX8_altered_17),
   px_Sp.of (ps_iload_n dX8_altered_20 rfl),
   ps_callV (IH 21 (by decide)) (C := RX1) (T := TX1) (N := 10) (ci := 1) rfl rfl (fc_21 _ _) wm_RX8_143 wi_yX1_isSeen wl_yX1_isSeen dX8_altered_21,
   px_Sp.of (ps_if_ne dX8_altered_24 (by decide)),
   px_Sp.of (ps_sipush dX8_altered_27 (by decide)),
   ps_iret dX8_altered_30,
   px_Sp.of (ps_aload_n dX8_altered_31 rfl),
   px_Sp.of (ps_get kc_X8 (by decide) wf_RX8_43 dX8_altered_32),
   px_Sp.of (ps_iconst dX8_altered_35 (by decide)),
   ps_callV (IH 23 (by decide)) (C := RX2) (T := TX2) (N := 8) (ci := 2) rfl rfl (fc_23 _ _) wm_RX8_146 wi_yX2_refresh wl_yX2_refresh dX8_altered_36,
   px_Sp.of (ps_aload_n dX8_altered_39 rfl),
   px_Sp.of (ps_get kc_X8 (by decide) wf_RX8_43 dX8_altered_40),
   px_Sp.of (ps_iload_n dX8_altered_43 rfl),
   px_Sp.of (ps_iload_n dX8_altered_44 rfl),
   ps_callS (IH 11 (by decide)) (fc_11 _ _) wm_RX8_157 ws_yX8_spotOf dX8_altered_45,
   ps_callV (IH 52 (by decide)) (C := RX2) (T := TX2) (N := 8) (ci := 2) rfl rfl (fc_52 _ _) wm_RX8_197 wi_yX2_isAltered wl_yX2_isAltered dX8_altered_48,
   px_Sp.of (ps_if_eq dX8_altered_51 (by decide)),
   px_Sp.of (ps_iconst dX8_altered_54 (by decide)),
   px_Sp.of (ps_goto dX8_altered_55 (by decide)),
   px_Sp.of (ps_iconst dX8_altered_58 (by decide)),
   ps_iret dX8_altered_59, trivial⟩
theorem mt_64 {l : Launch} {d : Nat} (IH : ∀ μ, μ < 196 → px_Met l px_P d μ) : px_Met l px_P (d + 1) 64 := px_met (own := RX8) rfl (by decide +kernel) (ok_64 IH)
theorem dX8_echoes_0 : decode cX8_echoes 0 = .ok (.aload_n 0, 1) := by decide +kernel
theorem dX8_echoes_1 : decode cX8_echoes 1 = .ok (.getfield 25, 3) := by decide +kernel
theorem dX8_echoes_4 : decode cX8_echoes 4 = .ok (.iload_n 1, 1) := by decide +kernel
theorem dX8_echoes_5 : decode cX8_echoes 5 = .ok (.iload_n 2, 1) := by decide +kernel
theorem dX8_echoes_6 : decode cX8_echoes 6 = .ok (.invokevirtual 153, 3) := by decide +kernel
theorem dX8_echoes_9 : decode cX8_echoes 9 = .ok (.ifCond .ne 7, 3) := by decide +kernel
theorem dX8_echoes_12 : decode cX8_echoes 12 = .ok (.sipush (-1001), 3) := by decide +kernel
theorem dX8_echoes_15 : decode cX8_echoes 15 = .ok (.ireturn, 1) := by decide +kernel
theorem dX8_echoes_16 : decode cX8_echoes 16 = .ok (.aload_n 0, 1) := by decide +kernel
theorem dX8_echoes_17 : decode cX8_echoes 17 = .ok (.getfield 43, 3) := by decide +kernel
theorem dX8_echoes_20 : decode cX8_echoes 20 = .ok (.iconst (-1), 1) := by decide +kernel
theorem dX8_echoes_21 : decode cX8_echoes 21 = .ok (.invokevirtual 146, 3) := by decide +kernel
theorem dX8_echoes_24 : decode cX8_echoes 24 = .ok (.aload_n 0, 1) := by decide +kernel
theorem dX8_echoes_25 : decode cX8_echoes 25 = .ok (.getfield 43, 3) := by decide +kernel
theorem dX8_echoes_28 : decode cX8_echoes 28 = .ok (.iload_n 1, 1) := by decide +kernel
theorem dX8_echoes_29 : decode cX8_echoes 29 = .ok (.iload_n 2, 1) := by decide +kernel
theorem dX8_echoes_30 : decode cX8_echoes 30 = .ok (.invokestatic 157, 3) := by decide +kernel
theorem dX8_echoes_33 : decode cX8_echoes 33 = .ok (.invokevirtual 200, 3) := by decide +kernel
theorem dX8_echoes_36 : decode cX8_echoes 36 = .ok (.ireturn, 1) := by decide +kernel
set_option maxRecDepth 20000 in
theorem ok_65 {l : Launch} {d : Nat} (IH : ∀ μ, μ < 196 → px_Met l px_P d μ) : px_ok l px_P d RX8 cX8_echoes 3 (some .int) tb_65 :=
  ⟨px_Sp.of (ps_aload_n dX8_echoes_0 rfl),
   px_Sp.of (ps_get kc_X8 (by decide) wf_RX8_25 dX8_echoes_1),
   px_Sp.of (ps_iload_n dX8_echoes_4 rfl),
   px_Sp.of (ps_iload_n dX8_echoes_5 rfl),
   ps_callV (IH 43 (by decide)) (C := RX1) (T := TX1) (N := 10) (ci := 1) rfl rfl (fc_43 _ _) wm_RX8_153 wi_yX1_hasLine wl_yX1_hasLine dX8_echoes_6,
   px_Sp.of (ps_if_ne dX8_echoes_9 (by decide)),
   px_Sp.of (ps_sipush dX8_echoes_12 (by decide)),
   ps_iret dX8_echoes_15,
   px_Sp.of (ps_aload_n dX8_echoes_16 rfl),
   px_Sp.of (ps_get kc_X8 (by decide) wf_RX8_43 dX8_echoes_17),
   px_Sp.of (ps_iconst dX8_echoes_20 (by decide)),
   ps_callV (IH 23 (by decide)) (C := RX2) (T := TX2) (N := 8) (ci := 2) rfl rfl (fc_23 _ _) wm_RX8_146 wi_yX2_refresh wl_yX2_refresh dX8_echoes_21,
   px_Sp.of (ps_aload_n dX8_echoes_24 rfl),
   px_Sp.of (ps_get kc_X8 (by decide) wf_RX8_43 dX8_echoes_25),
   px_Sp.of (ps_iload_n dX8_echoes_28 rfl),
   px_Sp.of (ps_iload_n dX8_echoes_29 rfl),
   ps_callS (IH 11 (by decide)) (fc_11 _ _) wm_RX8_157 ws_yX8_spotOf dX8_echoes_30,
   ps_callV (IH 53 (by decide)) (C := RX2) (T := TX2) (N := 8) (ci := 2) rfl rfl (fc_53 _ _) wm_RX8_200 wi_yX2_linesFrom wl_yX2_linesFrom dX8_echoes_33,
   ps_iret dX8_echoes_36, trivial⟩
theorem mt_65 {l : Launch} {d : Nat} (IH : ∀ μ, μ < 196 → px_Met l px_P d μ) : px_Met l px_P (d + 1) 65 := px_met (own := RX8) rfl (by decide +kernel) (ok_65 IH)
theorem dX8_group_0 : decode cX8_group 0 = .ok (.aload_n 0, 1) := by decide +kernel
theorem dX8_group_1 : decode cX8_group 1 = .ok (.getfield 25, 3) := by decide +kernel
theorem dX8_group_4 : decode cX8_group 4 = .ok (.iload_n 1, 1) := by decide +kernel
theorem dX8_group_5 : decode cX8_group 5 = .ok (.invokevirtual 87, 3) := by decide +kernel
theorem dX8_group_8 : decode cX8_group 8 = .ok (.ifCond .ne 7, 3) := by decide +kernel
theorem dX8_group_11 : decode cX8_group 11 = .ok (.sipush (-1001), 3) := by decide +kernel
theorem dX8_group_14 : decode cX8_group 14 = .ok (.ireturn, 1) := by decide +kernel
theorem dX8_group_15 : decode cX8_group 15 = .ok (.aload_n 0, 1) := by decide +kernel
theorem dX8_group_16 : decode cX8_group 16 = .ok (.getfield 43, 3) := by decide +kernel
theorem dX8_group_19 : decode cX8_group 19 = .ok (.iconst (-1), 1) := by decide +kernel
theorem dX8_group_20 : decode cX8_group 20 = .ok (.invokevirtual 146, 3) := by decide +kernel
theorem dX8_group_23 : decode cX8_group 23 = .ok (.aload_n 0, 1) := by decide +kernel
theorem dX8_group_24 : decode cX8_group 24 = .ok (.getfield 55, 3) := by decide +kernel
theorem dX8_group_27 : decode cX8_group 27 = .ok (.invokevirtual 203, 3) := by decide +kernel
theorem dX8_group_30 : decode cX8_group 30 = .ok (.aload_n 0, 1) := by decide +kernel
theorem dX8_group_31 : decode cX8_group 31 = .ok (.getfield 55, 3) := by decide +kernel
theorem dX8_group_34 : decode cX8_group 34 = .ok (.getfield 205, 3) := by decide +kernel
theorem dX8_group_37 : decode cX8_group 37 = .ok (.iload_n 1, 1) := by decide +kernel
theorem dX8_group_38 : decode cX8_group 38 = .ok (.iaload, 1) := by decide +kernel
theorem dX8_group_39 : decode cX8_group 39 = .ok (.ireturn, 1) := by decide +kernel
set_option maxRecDepth 20000 in
theorem ok_66 {l : Launch} {d : Nat} (IH : ∀ μ, μ < 196 → px_Met l px_P d μ) : px_ok l px_P d RX8 cX8_group 2 (some .int) tb_66 :=
  ⟨px_Sp.of (ps_aload_n dX8_group_0 rfl),
   px_Sp.of (ps_get kc_X8 (by decide) wf_RX8_25 dX8_group_1),
   px_Sp.of (ps_iload_n dX8_group_4 rfl),
   ps_callV (IH 4 (by decide)) (C := RX1) (T := TX1) (N := 10) (ci := 1) rfl rfl (fc_4 _ _) wm_RX8_87 wi_yX1_has wl_yX1_has dX8_group_5,
   px_Sp.of (ps_if_ne dX8_group_8 (by decide)),
   px_Sp.of (ps_sipush dX8_group_11 (by decide)),
   ps_iret dX8_group_14,
   px_Sp.of (ps_aload_n dX8_group_15 rfl),
   px_Sp.of (ps_get kc_X8 (by decide) wf_RX8_43 dX8_group_16),
   px_Sp.of (ps_iconst dX8_group_19 (by decide)),
   ps_callV (IH 23 (by decide)) (C := RX2) (T := TX2) (N := 8) (ci := 2) rfl rfl (fc_23 _ _) wm_RX8_146 wi_yX2_refresh wl_yX2_refresh dX8_group_20,
   px_Sp.of (ps_aload_n dX8_group_23 rfl),
   px_Sp.of (ps_get kc_X8 (by decide) wf_RX8_55 dX8_group_24),
   ps_callV (IH 55 (by decide)) (C := RX3) (T := TX3) (N := 10) (ci := 3) rfl rfl (fc_55 _ _) wm_RX8_203 wi_yX3_refresh wl_yX3_refresh dX8_group_27,
   px_Sp.of (ps_aload_n dX8_group_30 rfl),
   px_Sp.of (ps_get kc_X8 (by decide) wf_RX8_55 dX8_group_31),
   px_Sp.of (ps_get kc_X3 (by decide) wf_RX8_205 dX8_group_34),
   px_Sp.of (ps_iload_n dX8_group_37 rfl),
   px_Sp.of (ps_iald dX8_group_38),
   ps_iret dX8_group_39, trivial⟩
theorem mt_66 {l : Launch} {d : Nat} (IH : ∀ μ, μ < 196 → px_Met l px_P d μ) : px_Met l px_P (d + 1) 66 := px_met (own := RX8) rfl (by decide +kernel) (ok_66 IH)
theorem dX8_lost_0 : decode cX8_lost 0 = .ok (.aload_n 0, 1) := by decide +kernel
theorem dX8_lost_1 : decode cX8_lost 1 = .ok (.getfield 43, 3) := by decide +kernel
theorem dX8_lost_4 : decode cX8_lost 4 = .ok (.iconst (-1), 1) := by decide +kernel
theorem dX8_lost_5 : decode cX8_lost 5 = .ok (.invokevirtual 146, 3) := by decide +kernel
theorem dX8_lost_8 : decode cX8_lost 8 = .ok (.aload_n 0, 1) := by decide +kernel
theorem dX8_lost_9 : decode cX8_lost 9 = .ok (.getfield 55, 3) := by decide +kernel
theorem dX8_lost_12 : decode cX8_lost 12 = .ok (.invokevirtual 203, 3) := by decide +kernel
theorem dX8_lost_15 : decode cX8_lost 15 = .ok (.aload_n 0, 1) := by decide +kernel
theorem dX8_lost_16 : decode cX8_lost 16 = .ok (.getfield 55, 3) := by decide +kernel
theorem dX8_lost_19 : decode cX8_lost 19 = .ok (.iload_n 1, 1) := by decide +kernel
theorem dX8_lost_20 : decode cX8_lost 20 = .ok (.invokevirtual 208, 3) := by decide +kernel
theorem dX8_lost_23 : decode cX8_lost 23 = .ok (.ifCond .ne 7, 3) := by decide +kernel
theorem dX8_lost_26 : decode cX8_lost 26 = .ok (.sipush (-1001), 3) := by decide +kernel
theorem dX8_lost_29 : decode cX8_lost 29 = .ok (.ireturn, 1) := by decide +kernel
theorem dX8_lost_30 : decode cX8_lost 30 = .ok (.iload_n 2, 1) := by decide +kernel
theorem dX8_lost_31 : decode cX8_lost 31 = .ok (.ifCond .lt 8, 3) := by decide +kernel
theorem dX8_lost_34 : decode cX8_lost 34 = .ok (.iload_n 2, 1) := by decide +kernel
theorem dX8_lost_35 : decode cX8_lost 35 = .ok (.iconst 2, 1) := by decide +kernel
theorem dX8_lost_36 : decode cX8_lost 36 = .ok (.if_icmp .le 7, 3) := by decide +kernel
theorem dX8_lost_39 : decode cX8_lost 39 = .ok (.sipush (-1002), 3) := by decide +kernel
theorem dX8_lost_42 : decode cX8_lost 42 = .ok (.ireturn, 1) := by decide +kernel
theorem dX8_lost_43 : decode cX8_lost 43 = .ok (.iload_n 2, 1) := by decide +kernel
theorem dX8_lost_44 : decode cX8_lost 44 = .ok (.ifCond .ne 13, 3) := by decide +kernel
theorem dX8_lost_47 : decode cX8_lost 47 = .ok (.aload_n 0, 1) := by decide +kernel
theorem dX8_lost_48 : decode cX8_lost 48 = .ok (.getfield 55, 3) := by decide +kernel
theorem dX8_lost_51 : decode cX8_lost 51 = .ok (.getfield 209, 3) := by decide +kernel
theorem dX8_lost_54 : decode cX8_lost 54 = .ok (.iload_n 1, 1) := by decide +kernel
theorem dX8_lost_55 : decode cX8_lost 55 = .ok (.iaload, 1) := by decide +kernel
theorem dX8_lost_56 : decode cX8_lost 56 = .ok (.ireturn, 1) := by decide +kernel
theorem dX8_lost_57 : decode cX8_lost 57 = .ok (.iload_n 2, 1) := by decide +kernel
theorem dX8_lost_58 : decode cX8_lost 58 = .ok (.iconst 1, 1) := by decide +kernel
theorem dX8_lost_59 : decode cX8_lost 59 = .ok (.if_icmp .ne 13, 3) := by decide +kernel
theorem dX8_lost_62 : decode cX8_lost 62 = .ok (.aload_n 0, 1) := by decide +kernel
theorem dX8_lost_63 : decode cX8_lost 63 = .ok (.getfield 55, 3) := by decide +kernel
theorem dX8_lost_66 : decode cX8_lost 66 = .ok (.getfield 212, 3) := by decide +kernel
theorem dX8_lost_69 : decode cX8_lost 69 = .ok (.iload_n 1, 1) := by decide +kernel
theorem dX8_lost_70 : decode cX8_lost 70 = .ok (.iaload, 1) := by decide +kernel
theorem dX8_lost_71 : decode cX8_lost 71 = .ok (.ireturn, 1) := by decide +kernel
theorem dX8_lost_72 : decode cX8_lost 72 = .ok (.aload_n 0, 1) := by decide +kernel
theorem dX8_lost_73 : decode cX8_lost 73 = .ok (.getfield 55, 3) := by decide +kernel
theorem dX8_lost_76 : decode cX8_lost 76 = .ok (.iload_n 1, 1) := by decide +kernel
theorem dX8_lost_77 : decode cX8_lost 77 = .ok (.invokevirtual 215, 3) := by decide +kernel
theorem dX8_lost_80 : decode cX8_lost 80 = .ok (.ifCond .eq 9, 3) := by decide +kernel
theorem dX8_lost_83 : decode cX8_lost 83 = .ok (.sipush (-1005), 3) := by decide +kernel
theorem dX8_lost_86 : decode cX8_lost 86 = .ok (.goto 11, 3) := by decide +kernel
theorem dX8_lost_89 : decode cX8_lost 89 = .ok (.aload_n 0, 1) := by decide +kernel
theorem dX8_lost_90 : decode cX8_lost 90 = .ok (.getfield 55, 3) := by decide +kernel
theorem dX8_lost_93 : decode cX8_lost 93 = .ok (.iload_n 1, 1) := by decide +kernel
theorem dX8_lost_94 : decode cX8_lost 94 = .ok (.invokevirtual 218, 3) := by decide +kernel
theorem dX8_lost_97 : decode cX8_lost 97 = .ok (.ireturn, 1) := by decide +kernel
set_option maxRecDepth 20000 in
theorem ok_67 {l : Launch} {d : Nat} (IH : ∀ μ, μ < 196 → px_Met l px_P d μ) : px_ok l px_P d RX8 cX8_lost 3 (some .int) tb_67 :=
  ⟨px_Sp.of (ps_aload_n dX8_lost_0 rfl),
   px_Sp.of (ps_get kc_X8 (by decide) wf_RX8_43 dX8_lost_1),
   px_Sp.of (ps_iconst dX8_lost_4 (by decide)),
   ps_callV (IH 23 (by decide)) (C := RX2) (T := TX2) (N := 8) (ci := 2) rfl rfl (fc_23 _ _) wm_RX8_146 wi_yX2_refresh wl_yX2_refresh dX8_lost_5,
   px_Sp.of (ps_aload_n dX8_lost_8 rfl),
   px_Sp.of (ps_get kc_X8 (by decide) wf_RX8_55 dX8_lost_9),
   ps_callV (IH 55 (by decide)) (C := RX3) (T := TX3) (N := 10) (ci := 3) rfl rfl (fc_55 _ _) wm_RX8_203 wi_yX3_refresh wl_yX3_refresh dX8_lost_12,
   px_Sp.of (ps_aload_n dX8_lost_15 rfl),
   px_Sp.of (ps_get kc_X8 (by decide) wf_RX8_55 dX8_lost_16),
   px_Sp.of (ps_iload_n dX8_lost_19 rfl),
   ps_callV (IH 68 (by decide)) (C := RX3) (T := TX3) (N := 10) (ci := 3) rfl rfl (fc_68 _ _) wm_RX8_208 wi_yX3_has wl_yX3_has dX8_lost_20,
   px_Sp.of (ps_if_ne dX8_lost_23 (by decide)),
   px_Sp.of (ps_sipush dX8_lost_26 (by decide)),
   ps_iret dX8_lost_29,
   px_Sp.of (ps_iload_n dX8_lost_30 rfl),
   px_Sp.of (ps_if_lt dX8_lost_31 (by decide)),
   px_Sp.of (ps_iload_n dX8_lost_34 rfl),
   px_Sp.of (ps_iconst dX8_lost_35 (by decide)),
   px_Sp.of (ps_icmp_le dX8_lost_36 (by decide)),
   px_Sp.of (ps_sipush dX8_lost_39 (by decide)),
   ps_iret dX8_lost_42,
   px_Sp.of (ps_iload_n dX8_lost_43 rfl),
   px_Sp.of (ps_if_ne dX8_lost_44 (by decide)),
   px_Sp.of (ps_aload_n dX8_lost_47 rfl),
   px_Sp.of (ps_get kc_X8 (by decide) wf_RX8_55 dX8_lost_48),
   px_Sp.of (ps_get kc_X3 (by decide) wf_RX8_209 dX8_lost_51),
   px_Sp.of (ps_iload_n dX8_lost_54 rfl),
   px_Sp.of (ps_iald dX8_lost_55),
   ps_iret dX8_lost_56,
   px_Sp.of (ps_iload_n dX8_lost_57 rfl),
   px_Sp.of (ps_iconst dX8_lost_58 (by decide)),
   px_Sp.of (ps_icmp_ne dX8_lost_59 (by decide)),
   px_Sp.of (ps_aload_n dX8_lost_62 rfl),
   px_Sp.of (ps_get kc_X8 (by decide) wf_RX8_55 dX8_lost_63),
   px_Sp.of (ps_get kc_X3 (by decide) wf_RX8_212 dX8_lost_66),
   px_Sp.of (ps_iload_n dX8_lost_69 rfl),
   px_Sp.of (ps_iald dX8_lost_70),
   ps_iret dX8_lost_71,
   px_Sp.of (ps_aload_n dX8_lost_72 rfl),
   px_Sp.of (ps_get kc_X8 (by decide) wf_RX8_55 dX8_lost_73),
   px_Sp.of (ps_iload_n dX8_lost_76 rfl),
   ps_callV (IH 69 (by decide)) (C := RX3) (T := TX3) (N := 10) (ci := 3) rfl rfl (fc_69 _ _) wm_RX8_215 wi_yX3_isLarge wl_yX3_isLarge dX8_lost_77,
   px_Sp.of (ps_if_eq dX8_lost_80 (by decide)),
   px_Sp.of (ps_sipush dX8_lost_83 (by decide)),
   px_Sp.of (ps_goto dX8_lost_86 (by decide)),
   px_Sp.of (ps_aload_n dX8_lost_89 rfl),
   px_Sp.of (ps_get kc_X8 (by decide) wf_RX8_55 dX8_lost_90),
   px_Sp.of (ps_iload_n dX8_lost_93 rfl),
   ps_callV (IH 70 (by decide)) (C := RX3) (T := TX3) (N := 10) (ci := 3) rfl rfl (fc_70 _ _) wm_RX8_218 wi_yX3_rowLength wl_yX3_rowLength dX8_lost_94,
   ps_iret dX8_lost_97, trivial⟩
theorem mt_67 {l : Launch} {d : Nat} (IH : ∀ μ, μ < 196 → px_Met l px_P d μ) : px_Met l px_P (d + 1) 67 := px_met (own := RX8) rfl (by decide +kernel) (ok_67 IH)
theorem dX3_has_0 : decode cX3_has 0 = .ok (.iload_n 1, 1) := by decide +kernel
theorem dX3_has_1 : decode cX3_has 1 = .ok (.ifCond .lt 15, 3) := by decide +kernel
theorem dX3_has_4 : decode cX3_has 4 = .ok (.iload_n 1, 1) := by decide +kernel
theorem dX3_has_5 : decode cX3_has 5 = .ok (.aload_n 0, 1) := by decide +kernel
theorem dX3_has_6 : decode cX3_has 6 = .ok (.getfield 43, 3) := by decide +kernel
theorem dX3_has_9 : decode cX3_has 9 = .ok (.if_icmp .ge 7, 3) := by decide +kernel
theorem dX3_has_12 : decode cX3_has 12 = .ok (.iconst 1, 1) := by decide +kernel
theorem dX3_has_13 : decode cX3_has 13 = .ok (.goto 4, 3) := by decide +kernel
theorem dX3_has_16 : decode cX3_has 16 = .ok (.iconst 0, 1) := by decide +kernel
theorem dX3_has_17 : decode cX3_has 17 = .ok (.ireturn, 1) := by decide +kernel
set_option maxRecDepth 20000 in
theorem ok_68 {l : Launch} {d : Nat} (IH : ∀ μ, μ < 196 → px_Met l px_P d μ) : px_ok l px_P d RX3 cX3_has 2 (some .boolean) tb_68 :=
  ⟨px_Sp.of (ps_iload_n dX3_has_0 rfl),
   px_Sp.of (ps_if_lt dX3_has_1 (by decide)),
   px_Sp.of (ps_iload_n dX3_has_4 rfl),
   px_Sp.of (ps_aload_n dX3_has_5 rfl),
   px_Sp.of (ps_get kc_X3 (by decide) wf_RX3_43 dX3_has_6),
   px_Sp.of (ps_icmp_ge dX3_has_9 (by decide)),
   px_Sp.of (ps_iconst dX3_has_12 (by decide)),
   px_Sp.of (ps_goto dX3_has_13 (by decide)),
   px_Sp.of (ps_iconst dX3_has_16 (by decide)),
   ps_zret dX3_has_17, trivial⟩
theorem mt_68 {l : Launch} {d : Nat} (IH : ∀ μ, μ < 196 → px_Met l px_P d μ) : px_Met l px_P (d + 1) 68 := px_met (own := RX3) rfl (by decide +kernel) (ok_68 IH)
theorem dX3_isLarge_0 : decode cX3_isLarge 0 = .ok (.aload_n 0, 1) := by decide +kernel
theorem dX3_isLarge_1 : decode cX3_isLarge 1 = .ok (.getfield 22, 3) := by decide +kernel
theorem dX3_isLarge_4 : decode cX3_isLarge 4 = .ok (.iload_n 1, 1) := by decide +kernel
theorem dX3_isLarge_5 : decode cX3_isLarge 5 = .ok (.iaload, 1) := by decide +kernel
theorem dX3_isLarge_6 : decode cX3_isLarge 6 = .ok (.iconst 4, 1) := by decide +kernel
theorem dX3_isLarge_7 : decode cX3_isLarge 7 = .ok (.if_icmp .le 7, 3) := by decide +kernel
theorem dX3_isLarge_10 : decode cX3_isLarge 10 = .ok (.iconst 1, 1) := by decide +kernel
theorem dX3_isLarge_11 : decode cX3_isLarge 11 = .ok (.goto 4, 3) := by decide +kernel
theorem dX3_isLarge_14 : decode cX3_isLarge 14 = .ok (.iconst 0, 1) := by decide +kernel
theorem dX3_isLarge_15 : decode cX3_isLarge 15 = .ok (.ireturn, 1) := by decide +kernel
set_option maxRecDepth 20000 in
theorem ok_69 {l : Launch} {d : Nat} (IH : ∀ μ, μ < 196 → px_Met l px_P d μ) : px_ok l px_P d RX3 cX3_isLarge 2 (some .boolean) tb_69 :=
  ⟨px_Sp.of (ps_aload_n dX3_isLarge_0 rfl),
   px_Sp.of (ps_get kc_X3 (by decide) wf_RX3_22 dX3_isLarge_1),
   px_Sp.of (ps_iload_n dX3_isLarge_4 rfl),
   px_Sp.of (ps_iald dX3_isLarge_5),
   px_Sp.of (ps_iconst dX3_isLarge_6 (by decide)),
   px_Sp.of (ps_icmp_le dX3_isLarge_7 (by decide)),
   px_Sp.of (ps_iconst dX3_isLarge_10 (by decide)),
   px_Sp.of (ps_goto dX3_isLarge_11 (by decide)),
   px_Sp.of (ps_iconst dX3_isLarge_14 (by decide)),
   ps_zret dX3_isLarge_15, trivial⟩
theorem mt_69 {l : Launch} {d : Nat} (IH : ∀ μ, μ < 196 → px_Met l px_P d μ) : px_Met l px_P (d + 1) 69 := px_met (own := RX3) rfl (by decide +kernel) (ok_69 IH)
theorem dX3_rowLength_0 : decode cX3_rowLength 0 = .ok (.aload_n 0, 1) := by decide +kernel
theorem dX3_rowLength_1 : decode cX3_rowLength 1 = .ok (.iload_n 1, 1) := by decide +kernel
theorem dX3_rowLength_2 : decode cX3_rowLength 2 = .ok (.invokevirtual 101, 3) := by decide +kernel
theorem dX3_rowLength_5 : decode cX3_rowLength 5 = .ok (.aload_n 0, 1) := by decide +kernel
theorem dX3_rowLength_6 : decode cX3_rowLength 6 = .ok (.getfield 12, 3) := by decide +kernel
theorem dX3_rowLength_9 : decode cX3_rowLength 9 = .ok (.getfield 105, 3) := by decide +kernel
theorem dX3_rowLength_12 : decode cX3_rowLength 12 = .ok (.ireturn, 1) := by decide +kernel
set_option maxRecDepth 20000 in
theorem ok_70 {l : Launch} {d : Nat} (IH : ∀ μ, μ < 196 → px_Met l px_P d μ) : px_ok l px_P d RX3 cX3_rowLength 2 (some .int) tb_70 :=
  ⟨px_Sp.of (ps_aload_n dX3_rowLength_0 rfl),
   px_Sp.of (ps_iload_n dX3_rowLength_1 rfl),
   ps_callV (IH 71 (by decide)) (C := RX3) (T := TX3) (N := 10) (ci := 3) rfl rfl (fc_71 _ _) wm_RX3_101 wi_yX3_makeRow wl_yX3_makeRow dX3_rowLength_2,
   px_Sp.of (ps_aload_n dX3_rowLength_5 rfl),
   px_Sp.of (ps_get kc_X3 (by decide) wf_RX3_12 dX3_rowLength_6),
   px_Sp.of (ps_get kc_X5 (by decide) wf_RX3_105 dX3_rowLength_9),
   ps_iret dX3_rowLength_12, trivial⟩
theorem mt_70 {l : Launch} {d : Nat} (IH : ∀ μ, μ < 196 → px_Met l px_P d μ) : px_Met l px_P (d + 1) 70 := px_met (own := RX3) rfl (by decide +kernel) (ok_70 IH)
theorem dX3_makeRow_0 : decode cX3_makeRow 0 = .ok (.aload_n 0, 1) := by decide +kernel
theorem dX3_makeRow_1 : decode cX3_makeRow 1 = .ok (.getfield 31, 3) := by decide +kernel
theorem dX3_makeRow_4 : decode cX3_makeRow 4 = .ok (.iload_n 1, 1) := by decide +kernel
theorem dX3_makeRow_5 : decode cX3_makeRow 5 = .ok (.if_icmp .ne 4, 3) := by decide +kernel
theorem dX3_makeRow_8 : decode cX3_makeRow 8 = .ok (.return_, 1) := by decide +kernel
theorem dX3_makeRow_9 : decode cX3_makeRow 9 = .ok (.aload_n 0, 1) := by decide +kernel
theorem dX3_makeRow_10 : decode cX3_makeRow 10 = .ok (.getfield 12, 3) := by decide +kernel
theorem dX3_makeRow_13 : decode cX3_makeRow 13 = .ok (.invokevirtual 113, 3) := by decide +kernel
theorem dX3_makeRow_16 : decode cX3_makeRow 16 = .ok (.iconst 0, 1) := by decide +kernel
theorem dX3_makeRow_17 : decode cX3_makeRow 17 = .ok (.istore_n 2, 1) := by decide +kernel
theorem dX3_makeRow_18 : decode cX3_makeRow 18 = .ok (.iload_n 2, 1) := by decide +kernel
theorem dX3_makeRow_19 : decode cX3_makeRow 19 = .ok (.aload_n 0, 1) := by decide +kernel
theorem dX3_makeRow_20 : decode cX3_makeRow 20 = .ok (.getfield 35, 3) := by decide +kernel
theorem dX3_makeRow_23 : decode cX3_makeRow 23 = .ok (.getfield 56, 3) := by decide +kernel
theorem dX3_makeRow_26 : decode cX3_makeRow 26 = .ok (.if_icmp .ge 24, 3) := by decide +kernel
theorem dX3_makeRow_29 : decode cX3_makeRow 29 = .ok (.aload_n 0, 1) := by decide +kernel
theorem dX3_makeRow_30 : decode cX3_makeRow 30 = .ok (.getfield 18, 3) := by decide +kernel
theorem dX3_makeRow_33 : decode cX3_makeRow 33 = .ok (.iload_n 2, 1) := by decide +kernel
theorem dX3_makeRow_34 : decode cX3_makeRow 34 = .ok (.iaload, 1) := by decide +kernel
theorem dX3_makeRow_35 : decode cX3_makeRow 35 = .ok (.iload_n 1, 1) := by decide +kernel
theorem dX3_makeRow_36 : decode cX3_makeRow 36 = .ok (.if_icmp .ne 8, 3) := by decide +kernel
theorem dX3_makeRow_39 : decode cX3_makeRow 39 = .ok (.aload_n 0, 1) := by decide +kernel
theorem dX3_makeRow_40 : decode cX3_makeRow 40 = .ok (.iload_n 2, 1) := by decide +kernel
theorem dX3_makeRow_41 : decode cX3_makeRow 41 = .ok (.invokevirtual 116, 3) := by decide +kernel
theorem dX3_makeRow_44 : decode cX3_makeRow 44 = .ok (.iinc 2 1, 3) := by decide +kernel
theorem dX3_makeRow_47 : decode cX3_makeRow 47 = .ok (.goto (-29), 3) := by decide +kernel
theorem dX3_makeRow_50 : decode cX3_makeRow 50 = .ok (.aload_n 0, 1) := by decide +kernel
theorem dX3_makeRow_51 : decode cX3_makeRow 51 = .ok (.getfield 12, 3) := by decide +kernel
theorem dX3_makeRow_54 : decode cX3_makeRow 54 = .ok (.invokevirtual 119, 3) := by decide +kernel
theorem dX3_makeRow_57 : decode cX3_makeRow 57 = .ok (.aload_n 0, 1) := by decide +kernel
theorem dX3_makeRow_58 : decode cX3_makeRow 58 = .ok (.iload_n 1, 1) := by decide +kernel
theorem dX3_makeRow_59 : decode cX3_makeRow 59 = .ok (.putfield 31, 3) := by decide +kernel
theorem dX3_makeRow_62 : decode cX3_makeRow 62 = .ok (.return_, 1) := by decide +kernel
set_option maxRecDepth 20000 in
theorem ok_71 {l : Launch} {d : Nat} (IH : ∀ μ, μ < 196 → px_Met l px_P d μ) : px_ok l px_P d RX3 cX3_makeRow 3 (none) tb_71 :=
  ⟨px_Sp.of (ps_aload_n dX3_makeRow_0 rfl),
   px_Sp.of (ps_get kc_X3 (by decide) wf_RX3_31 dX3_makeRow_1),
   px_Sp.of (ps_iload_n dX3_makeRow_4 rfl),
   px_Sp.of (ps_icmp_ne dX3_makeRow_5 (by decide)),
   ps_vret dX3_makeRow_8,
   px_Sp.of (ps_aload_n dX3_makeRow_9 rfl),
   px_Sp.of (ps_get kc_X3 (by decide) wf_RX3_12 dX3_makeRow_10),
   ps_callV (IH 72 (by decide)) (C := RX5) (T := TX5) (N := 7) (ci := 5) rfl rfl (fc_72 _ _) wm_RX3_113 wi_yX5_start wl_yX5_start dX3_makeRow_13,
   px_Sp.of (ps_iconst dX3_makeRow_16 (by decide)),
   px_Sp.of (ps_istore_n dX3_makeRow_17 rfl (by decide)),
   px_Sp.of (ps_iload_n dX3_makeRow_18 rfl),
   px_Sp.of (ps_aload_n dX3_makeRow_19 rfl),
   px_Sp.of (ps_get kc_X3 (by decide) wf_RX3_35 dX3_makeRow_20),
   px_Sp.of (ps_get kc_X1 (by decide) wf_RX3_56 dX3_makeRow_23),
   px_Sp.of (ps_icmp_ge dX3_makeRow_26 (by decide)),
   px_Sp.of (ps_aload_n dX3_makeRow_29 rfl),
   px_Sp.of (ps_get kc_X3 (by decide) wf_RX3_18 dX3_makeRow_30),
   px_Sp.of (ps_iload_n dX3_makeRow_33 rfl),
   px_Sp.of (ps_iald dX3_makeRow_34),
   px_Sp.of (ps_iload_n dX3_makeRow_35 rfl),
   px_Sp.of (ps_icmp_ne dX3_makeRow_36 (by decide)),
   px_Sp.of (ps_aload_n dX3_makeRow_39 rfl),
   px_Sp.of (ps_iload_n dX3_makeRow_40 rfl),
   ps_callV (IH 73 (by decide)) (C := RX3) (T := TX3) (N := 10) (ci := 3) rfl rfl (fc_73 _ _) wm_RX3_116 wi_yX3_handOverPiece wl_yX3_handOverPiece dX3_makeRow_41,
   px_Sp.of (ps_iinc dX3_makeRow_44 (by decide) (by decide)),
   px_Sp.of (ps_goto dX3_makeRow_47 (by decide)),
   px_Sp.of (ps_aload_n dX3_makeRow_50 rfl),
   px_Sp.of (ps_get kc_X3 (by decide) wf_RX3_12 dX3_makeRow_51),
   ps_callV (IH 76 (by decide)) (C := RX5) (T := TX5) (N := 7) (ci := 5) rfl rfl (fc_76 _ _) wm_RX3_119 wi_yX5_findRow wl_yX5_findRow dX3_makeRow_54,
   px_Sp.of (ps_aload_n dX3_makeRow_57 rfl),
   px_Sp.of (ps_iload_n dX3_makeRow_58 rfl),
   px_Sp.ofm (ps_putI kc_X3 (by decide) wf_RX3_31 rfl (by decide +kernel) kp_X3_9 dX3_makeRow_59),
   ps_vret dX3_makeRow_62, trivial⟩
theorem mt_71 {l : Launch} {d : Nat} (IH : ∀ μ, μ < 196 → px_Met l px_P d μ) : px_Met l px_P (d + 1) 71 := px_met (own := RX3) rfl (by decide +kernel) (ok_71 IH)
theorem dX5_start_0 : decode cX5_start 0 = .ok (.aload_n 0, 1) := by decide +kernel
theorem dX5_start_1 : decode cX5_start 1 = .ok (.iconst 0, 1) := by decide +kernel
theorem dX5_start_2 : decode cX5_start 2 = .ok (.putfield 28, 3) := by decide +kernel
theorem dX5_start_5 : decode cX5_start 5 = .ok (.return_, 1) := by decide +kernel
set_option maxRecDepth 20000 in
theorem ok_72 {l : Launch} {d : Nat} (IH : ∀ μ, μ < 196 → px_Met l px_P d μ) : px_ok l px_P d RX5 cX5_start 1 (none) tb_72 :=
  ⟨px_Sp.of (ps_aload_n dX5_start_0 rfl),
   px_Sp.of (ps_iconst dX5_start_1 (by decide)),
   px_Sp.ofm (ps_putI kc_X5 (by decide) wf_RX5_28 rfl (by decide +kernel) kp_X5_5 dX5_start_2),
   ps_vret dX5_start_5, trivial⟩
theorem mt_72 {l : Launch} {d : Nat} (IH : ∀ μ, μ < 196 → px_Met l px_P d μ) : px_Met l px_P (d + 1) 72 := px_met (own := RX5) rfl (by decide +kernel) (ok_72 IH)
theorem dX3_handOverPiece_0 : decode cX3_handOverPiece 0 = .ok (.aload_n 0, 1) := by decide +kernel
theorem dX3_handOverPiece_1 : decode cX3_handOverPiece 1 = .ok (.getfield 12, 3) := by decide +kernel
theorem dX3_handOverPiece_4 : decode cX3_handOverPiece 4 = .ok (.invokevirtual 122, 3) := by decide +kernel
theorem dX3_handOverPiece_7 : decode cX3_handOverPiece 7 = .ok (.iconst 0, 1) := by decide +kernel
theorem dX3_handOverPiece_8 : decode cX3_handOverPiece 8 = .ok (.istore_n 2, 1) := by decide +kernel
theorem dX3_handOverPiece_9 : decode cX3_handOverPiece 9 = .ok (.iload_n 2, 1) := by decide +kernel
theorem dX3_handOverPiece_10 : decode cX3_handOverPiece 10 = .ok (.aload_n 0, 1) := by decide +kernel
theorem dX3_handOverPiece_11 : decode cX3_handOverPiece 11 = .ok (.getfield 35, 3) := by decide +kernel
theorem dX3_handOverPiece_14 : decode cX3_handOverPiece 14 = .ok (.getfield 87, 3) := by decide +kernel
theorem dX3_handOverPiece_17 : decode cX3_handOverPiece 17 = .ok (.iload_n 1, 1) := by decide +kernel
theorem dX3_handOverPiece_18 : decode cX3_handOverPiece 18 = .ok (.iaload, 1) := by decide +kernel
theorem dX3_handOverPiece_19 : decode cX3_handOverPiece 19 = .ok (.if_icmp .ge 38, 3) := by decide +kernel
theorem dX3_handOverPiece_22 : decode cX3_handOverPiece 22 = .ok (.aload_n 0, 1) := by decide +kernel
theorem dX3_handOverPiece_23 : decode cX3_handOverPiece 23 = .ok (.iload_n 1, 1) := by decide +kernel
theorem dX3_handOverPiece_24 : decode cX3_handOverPiece 24 = .ok (.iload_n 2, 1) := by decide +kernel
theorem dX3_handOverPiece_25 : decode cX3_handOverPiece 25 = .ok (.invokevirtual 90, 3) := by decide +kernel
theorem dX3_handOverPiece_28 : decode cX3_handOverPiece 28 = .ok (.ifCond .eq 23, 3) := by decide +kernel
theorem dX3_handOverPiece_31 : decode cX3_handOverPiece 31 = .ok (.aload_n 0, 1) := by decide +kernel
theorem dX3_handOverPiece_32 : decode cX3_handOverPiece 32 = .ok (.getfield 12, 3) := by decide +kernel
theorem dX3_handOverPiece_35 : decode cX3_handOverPiece 35 = .ok (.aload_n 0, 1) := by decide +kernel
theorem dX3_handOverPiece_36 : decode cX3_handOverPiece 36 = .ok (.getfield 35, 3) := by decide +kernel
theorem dX3_handOverPiece_39 : decode cX3_handOverPiece 39 = .ok (.getfield 93, 3) := by decide +kernel
theorem dX3_handOverPiece_42 : decode cX3_handOverPiece 42 = .ok (.iload_n 1, 1) := by decide +kernel
theorem dX3_handOverPiece_43 : decode cX3_handOverPiece 43 = .ok (.iload_n 2, 1) := by decide +kernel
theorem dX3_handOverPiece_44 : decode cX3_handOverPiece 44 = .ok (.invokestatic 73, 3) := by decide +kernel
theorem dX3_handOverPiece_47 : decode cX3_handOverPiece 47 = .ok (.laload, 1) := by decide +kernel
theorem dX3_handOverPiece_48 : decode cX3_handOverPiece 48 = .ok (.invokevirtual 125, 3) := by decide +kernel
theorem dX3_handOverPiece_51 : decode cX3_handOverPiece 51 = .ok (.iinc 2 1, 3) := by decide +kernel
theorem dX3_handOverPiece_54 : decode cX3_handOverPiece 54 = .ok (.goto (-45), 3) := by decide +kernel
theorem dX3_handOverPiece_57 : decode cX3_handOverPiece 57 = .ok (.return_, 1) := by decide +kernel
set_option maxRecDepth 20000 in
theorem ok_73 {l : Launch} {d : Nat} (IH : ∀ μ, μ < 196 → px_Met l px_P d μ) : px_ok l px_P d RX3 cX3_handOverPiece 3 (none) tb_73 :=
  ⟨px_Sp.of (ps_aload_n dX3_handOverPiece_0 rfl),
   px_Sp.of (ps_get kc_X3 (by decide) wf_RX3_12 dX3_handOverPiece_1),
   ps_callV (IH 74 (by decide)) (C := RX5) (T := TX5) (N := 7) (ci := 5) rfl rfl (fc_74 _ _) wm_RX3_122 wi_yX5_addPiece wl_yX5_addPiece dX3_handOverPiece_4,
   px_Sp.of (ps_iconst dX3_handOverPiece_7 (by decide)),
   px_Sp.of (ps_istore_n dX3_handOverPiece_8 rfl (by decide)),
   px_Sp.of (ps_iload_n dX3_handOverPiece_9 rfl),
   px_Sp.of (ps_aload_n dX3_handOverPiece_10 rfl),
   px_Sp.of (ps_get kc_X3 (by decide) wf_RX3_35 dX3_handOverPiece_11),
   px_Sp.of (ps_get kc_X1 (by decide) wf_RX3_87 dX3_handOverPiece_14),
   px_Sp.of (ps_iload_n dX3_handOverPiece_17 rfl),
   px_Sp.of (ps_iald dX3_handOverPiece_18),
   px_Sp.of (ps_icmp_ge dX3_handOverPiece_19 (by decide)),
   px_Sp.of (ps_aload_n dX3_handOverPiece_22 rfl),
   px_Sp.of (ps_iload_n dX3_handOverPiece_23 rfl),
   px_Sp.of (ps_iload_n dX3_handOverPiece_24 rfl),
   ps_callV (IH 57 (by decide)) (C := RX3) (T := TX3) (N := 10) (ci := 3) rfl rfl (fc_57 _ _) wm_RX3_90 wi_yX3_isOfPiece wl_yX3_isOfPiece dX3_handOverPiece_25,
   px_Sp.of (ps_if_eq dX3_handOverPiece_28 (by decide)),
   px_Sp.of (ps_aload_n dX3_handOverPiece_31 rfl),
   px_Sp.of (ps_get kc_X3 (by decide) wf_RX3_12 dX3_handOverPiece_32),
   px_Sp.of (ps_aload_n dX3_handOverPiece_35 rfl),
   px_Sp.of (ps_get kc_X3 (by decide) wf_RX3_35 dX3_handOverPiece_36),
   px_Sp.of (ps_get kc_X1 (by decide) wf_RX3_93 dX3_handOverPiece_39),
   px_Sp.of (ps_iload_n dX3_handOverPiece_42 rfl),
   px_Sp.of (ps_iload_n dX3_handOverPiece_43 rfl),
   ps_callSN (IH 11 (by decide)) (fc_11 _ _) (fun _ _ _ _ h => h.1.2.2.2.1) ws_yX8_spotOf dX3_handOverPiece_44,
   px_Sp.of (ps_lald dX3_handOverPiece_47),
   ps_callV (IH 75 (by decide)) (C := RX5) (T := TX5) (N := 7) (ci := 5) rfl rfl (fc_75 _ _) wm_RX3_125 wi_yX5_addText wl_yX5_addText dX3_handOverPiece_48,
   px_Sp.of (ps_iinc dX3_handOverPiece_51 (by decide) (by decide)),
   px_Sp.of (ps_goto dX3_handOverPiece_54 (by decide)),
   ps_vret dX3_handOverPiece_57, trivial⟩
theorem mt_73 {l : Launch} {d : Nat} (IH : ∀ μ, μ < 196 → px_Met l px_P d μ) : px_Met l px_P (d + 1) 73 := px_met (own := RX3) rfl (by decide +kernel) (ok_73 IH)
theorem dX5_addPiece_0 : decode cX5_addPiece 0 = .ok (.aload_n 0, 1) := by decide +kernel
theorem dX5_addPiece_1 : decode cX5_addPiece 1 = .ok (.getfield 28, 3) := by decide +kernel
theorem dX5_addPiece_4 : decode cX5_addPiece 4 = .ok (.iconst 4, 1) := by decide +kernel
theorem dX5_addPiece_5 : decode cX5_addPiece 5 = .ok (.if_icmp .ge 23, 3) := by decide +kernel
theorem dX5_addPiece_8 : decode cX5_addPiece 8 = .ok (.aload_n 0, 1) := by decide +kernel
theorem dX5_addPiece_9 : decode cX5_addPiece 9 = .ok (.getfield 15, 3) := by decide +kernel
theorem dX5_addPiece_12 : decode cX5_addPiece 12 = .ok (.aload_n 0, 1) := by decide +kernel
theorem dX5_addPiece_13 : decode cX5_addPiece 13 = .ok (.getfield 28, 3) := by decide +kernel
theorem dX5_addPiece_16 : decode cX5_addPiece 16 = .ok (.iconst 0, 1) := by decide +kernel
theorem dX5_addPiece_17 : decode cX5_addPiece 17 = .ok (.iastore, 1) := by decide +kernel
theorem dX5_addPiece_18 : decode cX5_addPiece 18 = .ok (.aload_n 0, 1) := by decide +kernel
theorem dX5_addPiece_19 : decode cX5_addPiece 19 = .ok (.dup, 1) := by decide +kernel
theorem dX5_addPiece_20 : decode cX5_addPiece 20 = .ok (.getfield 28, 3) := by decide +kernel
theorem dX5_addPiece_23 : decode cX5_addPiece 23 = .ok (.iconst 1, 1) := by decide +kernel
theorem dX5_addPiece_24 : decode cX5_addPiece 24 = .ok (.iadd, 1) := by decide +kernel
theorem dX5_addPiece_25 : decode cX5_addPiece 25 = .ok (.putfield 28, 3) := by decide +kernel
theorem dX5_addPiece_28 : decode cX5_addPiece 28 = .ok (.return_, 1) := by decide +kernel
set_option maxRecDepth 20000 in
theorem ok_74 {l : Launch} {d : Nat} (IH : ∀ μ, μ < 196 → px_Met l px_P d μ) : px_ok l px_P d RX5 cX5_addPiece 1 (none) tb_74 :=
  ⟨px_Sp.of (ps_aload_n dX5_addPiece_0 rfl),
   px_Sp.of (ps_get kc_X5 (by decide) wf_RX5_28 dX5_addPiece_1),
   px_Sp.of (ps_iconst dX5_addPiece_4 (by decide)),
   px_Sp.of (ps_icmp_ge dX5_addPiece_5 (by decide)),
   px_Sp.of (ps_aload_n dX5_addPiece_8 rfl),
   px_Sp.of (ps_get kc_X5 (by decide) wf_RX5_15 dX5_addPiece_9),
   px_Sp.of (ps_aload_n dX5_addPiece_12 rfl),
   px_Sp.of (ps_get kc_X5 (by decide) wf_RX5_28 dX5_addPiece_13),
   px_Sp.of (ps_iconst dX5_addPiece_16 (by decide)),
   px_Sp.ofm (ps_iast dX5_addPiece_17),
   px_Sp.of (ps_aload_n dX5_addPiece_18 rfl),
   px_Sp.of (ps_dup dX5_addPiece_19),
   px_Sp.of (ps_get kc_X5 (by decide) wf_RX5_28 dX5_addPiece_20),
   px_Sp.of (ps_iconst dX5_addPiece_23 (by decide)),
   px_Sp.of (ps_iadd dX5_addPiece_24),
   px_Sp.ofm (ps_putI kc_X5 (by decide) wf_RX5_28 rfl (by decide +kernel) kp_X5_5 dX5_addPiece_25),
   ps_vret dX5_addPiece_28, trivial⟩
theorem mt_74 {l : Launch} {d : Nat} (IH : ∀ μ, μ < 196 → px_Met l px_P d μ) : px_Met l px_P (d + 1) 74 := px_met (own := RX5) rfl (by decide +kernel) (ok_74 IH)
theorem dX5_addText_0 : decode cX5_addText 0 = .ok (.aload_n 0, 1) := by decide +kernel
theorem dX5_addText_1 : decode cX5_addText 1 = .ok (.getfield 28, 3) := by decide +kernel
theorem dX5_addText_4 : decode cX5_addText 4 = .ok (.iconst 1, 1) := by decide +kernel
theorem dX5_addText_5 : decode cX5_addText 5 = .ok (.isub, 1) := by decide +kernel
theorem dX5_addText_6 : decode cX5_addText 6 = .ok (.istore_n 3, 1) := by decide +kernel
theorem dX5_addText_7 : decode cX5_addText 7 = .ok (.iload_n 3, 1) := by decide +kernel
theorem dX5_addText_8 : decode cX5_addText 8 = .ok (.ifCond .lt 41, 3) := by decide +kernel
theorem dX5_addText_11 : decode cX5_addText 11 = .ok (.aload_n 0, 1) := by decide +kernel
theorem dX5_addText_12 : decode cX5_addText 12 = .ok (.getfield 15, 3) := by decide +kernel
theorem dX5_addText_15 : decode cX5_addText 15 = .ok (.iload_n 3, 1) := by decide +kernel
theorem dX5_addText_16 : decode cX5_addText 16 = .ok (.iaload, 1) := by decide +kernel
theorem dX5_addText_17 : decode cX5_addText 17 = .ok (.bipush 14, 2) := by decide +kernel
theorem dX5_addText_19 : decode cX5_addText 19 = .ok (.if_icmp .ge 30, 3) := by decide +kernel
theorem dX5_addText_22 : decode cX5_addText 22 = .ok (.aload_n 0, 1) := by decide +kernel
theorem dX5_addText_23 : decode cX5_addText 23 = .ok (.getfield 11, 3) := by decide +kernel
theorem dX5_addText_26 : decode cX5_addText 26 = .ok (.bipush 14, 2) := by decide +kernel
theorem dX5_addText_28 : decode cX5_addText 28 = .ok (.iload_n 3, 1) := by decide +kernel
theorem dX5_addText_29 : decode cX5_addText 29 = .ok (.imul, 1) := by decide +kernel
theorem dX5_addText_30 : decode cX5_addText 30 = .ok (.aload_n 0, 1) := by decide +kernel
theorem dX5_addText_31 : decode cX5_addText 31 = .ok (.getfield 15, 3) := by decide +kernel
theorem dX5_addText_34 : decode cX5_addText 34 = .ok (.iload_n 3, 1) := by decide +kernel
theorem dX5_addText_35 : decode cX5_addText 35 = .ok (.iaload, 1) := by decide +kernel
theorem dX5_addText_36 : decode cX5_addText 36 = .ok (.iadd, 1) := by decide +kernel
theorem dX5_addText_37 : decode cX5_addText 37 = .ok (.lload_n 1, 1) := by decide +kernel
theorem dX5_addText_38 : decode cX5_addText 38 = .ok (.lastore, 1) := by decide +kernel
theorem dX5_addText_39 : decode cX5_addText 39 = .ok (.aload_n 0, 1) := by decide +kernel
theorem dX5_addText_40 : decode cX5_addText 40 = .ok (.getfield 15, 3) := by decide +kernel
theorem dX5_addText_43 : decode cX5_addText 43 = .ok (.iload_n 3, 1) := by decide +kernel
theorem dX5_addText_44 : decode cX5_addText 44 = .ok (.dup2, 1) := by decide +kernel
theorem dX5_addText_45 : decode cX5_addText 45 = .ok (.iaload, 1) := by decide +kernel
theorem dX5_addText_46 : decode cX5_addText 46 = .ok (.iconst 1, 1) := by decide +kernel
theorem dX5_addText_47 : decode cX5_addText 47 = .ok (.iadd, 1) := by decide +kernel
theorem dX5_addText_48 : decode cX5_addText 48 = .ok (.iastore, 1) := by decide +kernel
theorem dX5_addText_49 : decode cX5_addText 49 = .ok (.return_, 1) := by decide +kernel
set_option maxRecDepth 20000 in
theorem ok_75 {l : Launch} {d : Nat} (IH : ∀ μ, μ < 196 → px_Met l px_P d μ) : px_ok l px_P d RX5 cX5_addText 4 (none) tb_75 :=
  ⟨px_Sp.of (ps_aload_n dX5_addText_0 rfl),
   px_Sp.of (ps_get kc_X5 (by decide) wf_RX5_28 dX5_addText_1),
   px_Sp.of (ps_iconst dX5_addText_4 (by decide)),
   px_Sp.of (ps_isub dX5_addText_5),
   px_Sp.of (ps_istore_n dX5_addText_6 rfl (by decide)),
   px_Sp.of (ps_iload_n dX5_addText_7 rfl),
   px_Sp.of (ps_if_lt dX5_addText_8 (by decide)),
   px_Sp.of (ps_aload_n dX5_addText_11 rfl),
   px_Sp.of (ps_get kc_X5 (by decide) wf_RX5_15 dX5_addText_12),
   px_Sp.of (ps_iload_n dX5_addText_15 rfl),
   px_Sp.of (ps_iald dX5_addText_16),
   px_Sp.of (ps_bipush dX5_addText_17 (by decide)),
   px_Sp.of (ps_icmp_ge dX5_addText_19 (by decide)),
   px_Sp.of (ps_aload_n dX5_addText_22 rfl),
   px_Sp.of (ps_get kc_X5 (by decide) wf_RX5_11 dX5_addText_23),
   px_Sp.of (ps_bipush dX5_addText_26 (by decide)),
   px_Sp.of (ps_iload_n dX5_addText_28 rfl),
   px_Sp.of (ps_imul dX5_addText_29),
   px_Sp.of (ps_aload_n dX5_addText_30 rfl),
   px_Sp.of (ps_get kc_X5 (by decide) wf_RX5_15 dX5_addText_31),
   px_Sp.of (ps_iload_n dX5_addText_34 rfl),
   px_Sp.of (ps_iald dX5_addText_35),
   px_Sp.of (ps_iadd dX5_addText_36),
   px_Sp.of (ps_lload_n dX5_addText_37 rfl),
   px_Sp.ofm (ps_last dX5_addText_38),
   px_Sp.of (ps_aload_n dX5_addText_39 rfl),
   px_Sp.of (ps_get kc_X5 (by decide) wf_RX5_15 dX5_addText_40),
   px_Sp.of (ps_iload_n dX5_addText_43 rfl),
   px_Sp.of (ps_dup2 dX5_addText_44),
   px_Sp.of (ps_iald dX5_addText_45),
   px_Sp.of (ps_iconst dX5_addText_46 (by decide)),
   px_Sp.of (ps_iadd dX5_addText_47),
   px_Sp.ofm (ps_iast dX5_addText_48),
   ps_vret dX5_addText_49, trivial⟩
theorem mt_75 {l : Launch} {d : Nat} (IH : ∀ μ, μ < 196 → px_Met l px_P d μ) : px_Met l px_P (d + 1) 75 := px_met (own := RX5) rfl (by decide +kernel) (ok_75 IH)
theorem dX5_findRow_0 : decode cX5_findRow 0 = .ok (.iconst 0, 1) := by decide +kernel
theorem dX5_findRow_1 : decode cX5_findRow 1 = .ok (.istore_n 1, 1) := by decide +kernel
theorem dX5_findRow_2 : decode cX5_findRow 2 = .ok (.iconst 0, 1) := by decide +kernel
theorem dX5_findRow_3 : decode cX5_findRow 3 = .ok (.istore_n 2, 1) := by decide +kernel
theorem dX5_findRow_4 : decode cX5_findRow 4 = .ok (.iload_n 2, 1) := by decide +kernel
theorem dX5_findRow_5 : decode cX5_findRow 5 = .ok (.aload_n 0, 1) := by decide +kernel
theorem dX5_findRow_6 : decode cX5_findRow 6 = .ok (.getfield 28, 3) := by decide +kernel
theorem dX5_findRow_9 : decode cX5_findRow 9 = .ok (.if_icmp .ge 22, 3) := by decide +kernel
theorem dX5_findRow_12 : decode cX5_findRow 12 = .ok (.iload_n 1, 1) := by decide +kernel
theorem dX5_findRow_13 : decode cX5_findRow 13 = .ok (.aload_n 0, 1) := by decide +kernel
theorem dX5_findRow_14 : decode cX5_findRow 14 = .ok (.getfield 15, 3) := by decide +kernel
theorem dX5_findRow_17 : decode cX5_findRow 17 = .ok (.iload_n 2, 1) := by decide +kernel
theorem dX5_findRow_18 : decode cX5_findRow 18 = .ok (.iaload, 1) := by decide +kernel
theorem dX5_findRow_19 : decode cX5_findRow 19 = .ok (.iconst 4, 1) := by decide +kernel
theorem dX5_findRow_20 : decode cX5_findRow 20 = .ok (.iload_n 2, 1) := by decide +kernel
theorem dX5_findRow_21 : decode cX5_findRow 21 = .ok (.imul, 1) := by decide +kernel
theorem dX5_findRow_22 : decode cX5_findRow 22 = .ok (.ishl, 1) := by decide +kernel
theorem dX5_findRow_23 : decode cX5_findRow 23 = .ok (.ior, 1) := by decide +kernel
theorem dX5_findRow_24 : decode cX5_findRow 24 = .ok (.istore_n 1, 1) := by decide +kernel
theorem dX5_findRow_25 : decode cX5_findRow 25 = .ok (.iinc 2 1, 3) := by decide +kernel
theorem dX5_findRow_28 : decode cX5_findRow 28 = .ok (.goto (-24), 3) := by decide +kernel
theorem dX5_findRow_31 : decode cX5_findRow 31 = .ok (.iconst 1, 1) := by decide +kernel
theorem dX5_findRow_32 : decode cX5_findRow 32 = .ok (.iconst 4, 1) := by decide +kernel
theorem dX5_findRow_33 : decode cX5_findRow 33 = .ok (.aload_n 0, 1) := by decide +kernel
theorem dX5_findRow_34 : decode cX5_findRow 34 = .ok (.getfield 28, 3) := by decide +kernel
theorem dX5_findRow_37 : decode cX5_findRow 37 = .ok (.imul, 1) := by decide +kernel
theorem dX5_findRow_38 : decode cX5_findRow 38 = .ok (.ishl, 1) := by decide +kernel
theorem dX5_findRow_39 : decode cX5_findRow 39 = .ok (.istore_n 2, 1) := by decide +kernel
theorem dX5_findRow_40 : decode cX5_findRow 40 = .ok (.aload_n 0, 1) := by decide +kernel
theorem dX5_findRow_41 : decode cX5_findRow 41 = .ok (.getfield 25, 3) := by decide +kernel
theorem dX5_findRow_44 : decode cX5_findRow 44 = .ok (.arraylength, 1) := by decide +kernel
theorem dX5_findRow_45 : decode cX5_findRow 45 = .ok (.iload_n 2, 1) := by decide +kernel
theorem dX5_findRow_46 : decode cX5_findRow 46 = .ok (.if_icmp .ge 10, 3) := by decide +kernel
theorem dX5_findRow_49 : decode cX5_findRow 49 = .ok (.aload_n 0, 1) := by decide +kernel
theorem dX5_findRow_50 : decode cX5_findRow 50 = .ok (.iload_n 2, 1) := by decide +kernel
theorem dX5_findRow_51 : decode cX5_findRow 51 = .ok (.newarray .int, 2) := by decide +kernel
theorem dX5_findRow_53 : decode cX5_findRow 53 = .ok (.putfield 25, 3) := by decide +kernel
theorem dX5_findRow_56 : decode cX5_findRow 56 = .ok (.iconst 0, 1) := by decide +kernel
theorem dX5_findRow_57 : decode cX5_findRow 57 = .ok (.istore_n 3, 1) := by decide +kernel
theorem dX5_findRow_58 : decode cX5_findRow 58 = .ok (.iconst 0, 1) := by decide +kernel
theorem dX5_findRow_59 : decode cX5_findRow 59 = .ok (.istore 4, 2) := by decide +kernel
theorem dX5_findRow_61 : decode cX5_findRow 61 = .ok (.iconst 0, 1) := by decide +kernel
theorem dX5_findRow_62 : decode cX5_findRow 62 = .ok (.istore 5, 2) := by decide +kernel
theorem dX5_findRow_64 : decode cX5_findRow 64 = .ok (.iload 5, 2) := by decide +kernel
theorem dX5_findRow_66 : decode cX5_findRow 66 = .ok (.iload_n 2, 1) := by decide +kernel
theorem dX5_findRow_67 : decode cX5_findRow 67 = .ok (.if_icmp .ge 37, 3) := by decide +kernel
theorem dX5_findRow_70 : decode cX5_findRow 70 = .ok (.aload_n 0, 1) := by decide +kernel
theorem dX5_findRow_71 : decode cX5_findRow 71 = .ok (.getfield 25, 3) := by decide +kernel
theorem dX5_findRow_74 : decode cX5_findRow 74 = .ok (.iload_n 1, 1) := by decide +kernel
theorem dX5_findRow_75 : decode cX5_findRow 75 = .ok (.iaload, 1) := by decide +kernel
theorem dX5_findRow_76 : decode cX5_findRow 76 = .ok (.ifCond .ne 28, 3) := by decide +kernel
theorem dX5_findRow_79 : decode cX5_findRow 79 = .ok (.aload_n 0, 1) := by decide +kernel
theorem dX5_findRow_80 : decode cX5_findRow 80 = .ok (.iload_n 3, 1) := by decide +kernel
theorem dX5_findRow_81 : decode cX5_findRow 81 = .ok (.iload 4, 2) := by decide +kernel
theorem dX5_findRow_83 : decode cX5_findRow 83 = .ok (.invokevirtual 32, 3) := by decide +kernel
theorem dX5_findRow_86 : decode cX5_findRow 86 = .ok (.istore 4, 2) := by decide +kernel
theorem dX5_findRow_88 : decode cX5_findRow 88 = .ok (.aload_n 0, 1) := by decide +kernel
theorem dX5_findRow_89 : decode cX5_findRow 89 = .ok (.getfield 25, 3) := by decide +kernel
theorem dX5_findRow_92 : decode cX5_findRow 92 = .ok (.iload_n 3, 1) := by decide +kernel
theorem dX5_findRow_93 : decode cX5_findRow 93 = .ok (.iaload, 1) := by decide +kernel
theorem dX5_findRow_94 : decode cX5_findRow 94 = .ok (.ldc 36, 2) := by decide +kernel
theorem dX5_findRow_96 : decode cX5_findRow 96 = .ok (.iand, 1) := by decide +kernel
theorem dX5_findRow_97 : decode cX5_findRow 97 = .ok (.istore_n 3, 1) := by decide +kernel
theorem dX5_findRow_98 : decode cX5_findRow 98 = .ok (.iinc 5 1, 3) := by decide +kernel
theorem dX5_findRow_101 : decode cX5_findRow 101 = .ok (.goto (-37), 3) := by decide +kernel
theorem dX5_findRow_104 : decode cX5_findRow 104 = .ok (.aload_n 0, 1) := by decide +kernel
theorem dX5_findRow_105 : decode cX5_findRow 105 = .ok (.iload_n 1, 1) := by decide +kernel
theorem dX5_findRow_106 : decode cX5_findRow 106 = .ok (.invokevirtual 37, 3) := by decide +kernel
theorem dX5_findRow_109 : decode cX5_findRow 109 = .ok (.aload_n 0, 1) := by decide +kernel
theorem dX5_findRow_110 : decode cX5_findRow 110 = .ok (.invokevirtual 41, 3) := by decide +kernel
theorem dX5_findRow_113 : decode cX5_findRow 113 = .ok (.return_, 1) := by decide +kernel
set_option maxRecDepth 20000 in
theorem ok_76 {l : Launch} {d : Nat} (IH : ∀ μ, μ < 196 → px_Met l px_P d μ) : px_ok l px_P d RX5 cX5_findRow 6 (none) tb_76 :=
  ⟨px_Sp.of (ps_iconst dX5_findRow_0 (by decide)),
   px_Sp.of (ps_istore_n dX5_findRow_1 rfl (by decide)),
   px_Sp.of (ps_iconst dX5_findRow_2 (by decide)),
   px_Sp.of (ps_istore_n dX5_findRow_3 rfl (by decide)),
   px_Sp.of (ps_iload_n dX5_findRow_4 rfl),
   px_Sp.of (ps_aload_n dX5_findRow_5 rfl),
   px_Sp.of (ps_get kc_X5 (by decide) wf_RX5_28 dX5_findRow_6),
   px_Sp.of (ps_icmp_ge dX5_findRow_9 (by decide)),
   px_Sp.of (ps_iload_n dX5_findRow_12 rfl),
   px_Sp.of (ps_aload_n dX5_findRow_13 rfl),
   px_Sp.of (ps_get kc_X5 (by decide) wf_RX5_15 dX5_findRow_14),
   px_Sp.of (ps_iload_n dX5_findRow_17 rfl),
   px_Sp.of (ps_iald dX5_findRow_18),
   px_Sp.of (ps_iconst dX5_findRow_19 (by decide)),
   px_Sp.of (ps_iload_n dX5_findRow_20 rfl),
   px_Sp.of (ps_imul dX5_findRow_21),
   px_Sp.of (ps_ishl dX5_findRow_22),
   px_Sp.of (ps_ior dX5_findRow_23),
   px_Sp.of (ps_istore_n dX5_findRow_24 rfl (by decide)),
   px_Sp.of (ps_iinc dX5_findRow_25 (by decide) (by decide)),
   px_Sp.of (ps_goto dX5_findRow_28 (by decide)),
   px_Sp.of (ps_iconst dX5_findRow_31 (by decide)),
   px_Sp.of (ps_iconst dX5_findRow_32 (by decide)),
   px_Sp.of (ps_aload_n dX5_findRow_33 rfl),
   px_Sp.of (ps_get kc_X5 (by decide) wf_RX5_28 dX5_findRow_34),
   px_Sp.of (ps_imul dX5_findRow_37),
   px_Sp.of (ps_ishl dX5_findRow_38),
   px_Sp.of (ps_istore_n dX5_findRow_39 rfl (by decide)),
   px_Sp.of (ps_aload_n dX5_findRow_40 rfl),
   px_Sp.of (ps_get kc_X5 (by decide) wf_RX5_25 dX5_findRow_41),
   px_Sp.of (ps_alen dX5_findRow_44),
   px_Sp.of (ps_iload_n dX5_findRow_45 rfl),
   px_Sp.of (ps_icmp_ge dX5_findRow_46 (by decide)),
   px_Sp.of (ps_aload_n dX5_findRow_49 rfl),
   px_Sp.of (ps_iload_n dX5_findRow_50 rfl),
   ps_newc wa_int kc_X5 wf_RX5_25 dX5_findRow_51 dX5_findRow_53,
   px_Sp.of (ps_iconst dX5_findRow_56 (by decide)),
   px_Sp.of (ps_istore_n dX5_findRow_57 rfl (by decide)),
   px_Sp.of (ps_iconst dX5_findRow_58 (by decide)),
   px_Sp.of (ps_istore dX5_findRow_59 (by decide)),
   px_Sp.of (ps_iconst dX5_findRow_61 (by decide)),
   px_Sp.of (ps_istore dX5_findRow_62 (by decide)),
   px_Sp.of (ps_iload dX5_findRow_64),
   px_Sp.of (ps_iload_n dX5_findRow_66 rfl),
   px_Sp.of (ps_icmp_ge dX5_findRow_67 (by decide)),
   px_Sp.of (ps_aload_n dX5_findRow_70 rfl),
   px_Sp.of (ps_get kc_X5 (by decide) wf_RX5_25 dX5_findRow_71),
   px_Sp.of (ps_iload_n dX5_findRow_74 rfl),
   px_Sp.of (ps_iald dX5_findRow_75),
   px_Sp.of (ps_if_ne dX5_findRow_76 (by decide)),
   px_Sp.of (ps_aload_n dX5_findRow_79 rfl),
   px_Sp.of (ps_iload_n dX5_findRow_80 rfl),
   px_Sp.of (ps_iload dX5_findRow_81),
   ps_callV (IH 77 (by decide)) (C := RX5) (T := TX5) (N := 7) (ci := 5) rfl rfl (fc_77 _ _) wm_RX5_32 wi_yX5_goOn wl_yX5_goOn dX5_findRow_83,
   px_Sp.of (ps_istore dX5_findRow_86 (by decide)),
   px_Sp.of (ps_aload_n dX5_findRow_88 rfl),
   px_Sp.of (ps_get kc_X5 (by decide) wf_RX5_25 dX5_findRow_89),
   px_Sp.of (ps_iload_n dX5_findRow_92 rfl),
   px_Sp.of (ps_iald dX5_findRow_93),
   px_Sp.of (ps_ldc dX5_findRow_94 wk_RX5_36),
   px_Sp.of (ps_iand dX5_findRow_96),
   px_Sp.of (ps_istore_n dX5_findRow_97 rfl (by decide)),
   px_Sp.of (ps_iinc dX5_findRow_98 (by decide) (by decide)),
   px_Sp.of (ps_goto dX5_findRow_101 (by decide)),
   px_Sp.of (ps_aload_n dX5_findRow_104 rfl),
   px_Sp.of (ps_iload_n dX5_findRow_105 rfl),
   ps_callV (IH 81 (by decide)) (C := RX5) (T := TX5) (N := 7) (ci := 5) rfl rfl (fc_81 _ _) wm_RX5_37 wi_yX5_writeRow wl_yX5_writeRow dX5_findRow_106,
   px_Sp.of (ps_aload_n dX5_findRow_109 rfl),
   ps_callV (IH 83 (by decide)) (C := RX5) (T := TX5) (N := 7) (ci := 5) rfl rfl (fc_83 _ _) wm_RX5_41 wi_yX5_wipe wl_yX5_wipe dX5_findRow_110,
   ps_vret dX5_findRow_113, trivial⟩
theorem mt_76 {l : Launch} {d : Nat} (IH : ∀ μ, μ < 196 → px_Met l px_P d μ) : px_Met l px_P (d + 1) 76 := px_met (own := RX5) rfl (by decide +kernel) (ok_76 IH)
theorem dX5_goOn_0 : decode cX5_goOn 0 = .ok (.iconst 0, 1) := by decide +kernel
theorem dX5_goOn_1 : decode cX5_goOn 1 = .ok (.istore_n 3, 1) := by decide +kernel
theorem dX5_goOn_2 : decode cX5_goOn 2 = .ok (.iload_n 3, 1) := by decide +kernel
theorem dX5_goOn_3 : decode cX5_goOn 3 = .ok (.aload_n 0, 1) := by decide +kernel
theorem dX5_goOn_4 : decode cX5_goOn 4 = .ok (.getfield 28, 3) := by decide +kernel
theorem dX5_goOn_7 : decode cX5_goOn 7 = .ok (.if_icmp .ge 51, 3) := by decide +kernel
theorem dX5_goOn_10 : decode cX5_goOn 10 = .ok (.iload_n 1, 1) := by decide +kernel
theorem dX5_goOn_11 : decode cX5_goOn 11 = .ok (.iload_n 3, 1) := by decide +kernel
theorem dX5_goOn_12 : decode cX5_goOn 12 = .ok (.invokestatic 44, 3) := by decide +kernel
theorem dX5_goOn_15 : decode cX5_goOn 15 = .ok (.istore 4, 2) := by decide +kernel
theorem dX5_goOn_17 : decode cX5_goOn 17 = .ok (.aload_n 0, 1) := by decide +kernel
theorem dX5_goOn_18 : decode cX5_goOn 18 = .ok (.getfield 19, 3) := by decide +kernel
theorem dX5_goOn_21 : decode cX5_goOn 21 = .ok (.iload_n 3, 1) := by decide +kernel
theorem dX5_goOn_22 : decode cX5_goOn 22 = .ok (.iload 4, 2) := by decide +kernel
theorem dX5_goOn_24 : decode cX5_goOn 24 = .ok (.aload_n 0, 1) := by decide +kernel
theorem dX5_goOn_25 : decode cX5_goOn 25 = .ok (.getfield 15, 3) := by decide +kernel
theorem dX5_goOn_28 : decode cX5_goOn 28 = .ok (.iload_n 3, 1) := by decide +kernel
theorem dX5_goOn_29 : decode cX5_goOn 29 = .ok (.iaload, 1) := by decide +kernel
theorem dX5_goOn_30 : decode cX5_goOn 30 = .ok (.if_icmp .ge 18, 3) := by decide +kernel
theorem dX5_goOn_33 : decode cX5_goOn 33 = .ok (.aload_n 0, 1) := by decide +kernel
theorem dX5_goOn_34 : decode cX5_goOn 34 = .ok (.getfield 11, 3) := by decide +kernel
theorem dX5_goOn_37 : decode cX5_goOn 37 = .ok (.bipush 14, 2) := by decide +kernel
theorem dX5_goOn_39 : decode cX5_goOn 39 = .ok (.iload_n 3, 1) := by decide +kernel
theorem dX5_goOn_40 : decode cX5_goOn 40 = .ok (.imul, 1) := by decide +kernel
theorem dX5_goOn_41 : decode cX5_goOn 41 = .ok (.iload 4, 2) := by decide +kernel
theorem dX5_goOn_43 : decode cX5_goOn 43 = .ok (.iadd, 1) := by decide +kernel
theorem dX5_goOn_44 : decode cX5_goOn 44 = .ok (.laload, 1) := by decide +kernel
theorem dX5_goOn_45 : decode cX5_goOn 45 = .ok (.goto 6, 3) := by decide +kernel
theorem dX5_goOn_48 : decode cX5_goOn 48 = .ok (.ldc2_w 47, 3) := by decide +kernel
theorem dX5_goOn_51 : decode cX5_goOn 51 = .ok (.lastore, 1) := by decide +kernel
theorem dX5_goOn_52 : decode cX5_goOn 52 = .ok (.iinc 3 1, 3) := by decide +kernel
theorem dX5_goOn_55 : decode cX5_goOn 55 = .ok (.goto (-53), 3) := by decide +kernel
theorem dX5_goOn_58 : decode cX5_goOn 58 = .ok (.iload_n 2, 1) := by decide +kernel
theorem dX5_goOn_59 : decode cX5_goOn 59 = .ok (.istore_n 3, 1) := by decide +kernel
theorem dX5_goOn_60 : decode cX5_goOn 60 = .ok (.aload_n 0, 1) := by decide +kernel
theorem dX5_goOn_61 : decode cX5_goOn 61 = .ok (.ldc2_w 47, 3) := by decide +kernel
theorem dX5_goOn_64 : decode cX5_goOn 64 = .ok (.invokevirtual 49, 3) := by decide +kernel
theorem dX5_goOn_67 : decode cX5_goOn 67 = .ok (.lstore 4, 2) := by decide +kernel
theorem dX5_goOn_69 : decode cX5_goOn 69 = .ok (.iconst 0, 1) := by decide +kernel
theorem dX5_goOn_70 : decode cX5_goOn 70 = .ok (.istore 6, 2) := by decide +kernel
theorem dX5_goOn_72 : decode cX5_goOn 72 = .ok (.iload 6, 2) := by decide +kernel
theorem dX5_goOn_74 : decode cX5_goOn 74 = .ok (.aload_n 0, 1) := by decide +kernel
theorem dX5_goOn_75 : decode cX5_goOn 75 = .ok (.getfield 28, 3) := by decide +kernel
theorem dX5_goOn_78 : decode cX5_goOn 78 = .ok (.if_icmp .ge 86, 3) := by decide +kernel
theorem dX5_goOn_81 : decode cX5_goOn 81 = .ok (.lload 4, 2) := by decide +kernel
theorem dX5_goOn_83 : decode cX5_goOn 83 = .ok (.ldc2_w 47, 3) := by decide +kernel
theorem dX5_goOn_86 : decode cX5_goOn 86 = .ok (.lcmp, 1) := by decide +kernel
theorem dX5_goOn_87 : decode cX5_goOn 87 = .ok (.ifCond .eq 77, 3) := by decide +kernel
theorem dX5_goOn_90 : decode cX5_goOn 90 = .ok (.aload_n 0, 1) := by decide +kernel
theorem dX5_goOn_91 : decode cX5_goOn 91 = .ok (.lload 4, 2) := by decide +kernel
theorem dX5_goOn_93 : decode cX5_goOn 93 = .ok (.invokevirtual 53, 3) := by decide +kernel
theorem dX5_goOn_96 : decode cX5_goOn 96 = .ok (.istore 7, 2) := by decide +kernel
theorem dX5_goOn_98 : decode cX5_goOn 98 = .ok (.iload_n 1, 1) := by decide +kernel
theorem dX5_goOn_99 : decode cX5_goOn 99 = .ok (.iload 7, 2) := by decide +kernel
theorem dX5_goOn_101 : decode cX5_goOn 101 = .ok (.iadd, 1) := by decide +kernel
theorem dX5_goOn_102 : decode cX5_goOn 102 = .ok (.istore 8, 2) := by decide +kernel
theorem dX5_goOn_104 : decode cX5_goOn 104 = .ok (.iload 8, 2) := by decide +kernel
theorem dX5_goOn_106 : decode cX5_goOn 106 = .ok (.aload_n 0, 1) := by decide +kernel
theorem dX5_goOn_107 : decode cX5_goOn 107 = .ok (.getfield 25, 3) := by decide +kernel
theorem dX5_goOn_110 : decode cX5_goOn 110 = .ok (.arraylength, 1) := by decide +kernel
theorem dX5_goOn_111 : decode cX5_goOn 111 = .ok (.if_icmp .ge 39, 3) := by decide +kernel
theorem dX5_goOn_114 : decode cX5_goOn 114 = .ok (.aload_n 0, 1) := by decide +kernel
theorem dX5_goOn_115 : decode cX5_goOn 115 = .ok (.getfield 25, 3) := by decide +kernel
theorem dX5_goOn_118 : decode cX5_goOn 118 = .ok (.iload 8, 2) := by decide +kernel
theorem dX5_goOn_120 : decode cX5_goOn 120 = .ok (.iaload, 1) := by decide +kernel
theorem dX5_goOn_121 : decode cX5_goOn 121 = .ok (.ifCond .ne 29, 3) := by decide +kernel
theorem dX5_goOn_124 : decode cX5_goOn 124 = .ok (.aload_n 0, 1) := by decide +kernel
theorem dX5_goOn_125 : decode cX5_goOn 125 = .ok (.getfield 25, 3) := by decide +kernel
theorem dX5_goOn_128 : decode cX5_goOn 128 = .ok (.iload 8, 2) := by decide +kernel
theorem dX5_goOn_130 : decode cX5_goOn 130 = .ok (.iload 7, 2) := by decide +kernel
theorem dX5_goOn_132 : decode cX5_goOn 132 = .ok (.bipush 16, 2) := by decide +kernel
theorem dX5_goOn_134 : decode cX5_goOn 134 = .ok (.ishl, 1) := by decide +kernel
theorem dX5_goOn_135 : decode cX5_goOn 135 = .ok (.iastore, 1) := by decide +kernel
theorem dX5_goOn_136 : decode cX5_goOn 136 = .ok (.aload_n 0, 1) := by decide +kernel
theorem dX5_goOn_137 : decode cX5_goOn 137 = .ok (.getfield 25, 3) := by decide +kernel
theorem dX5_goOn_140 : decode cX5_goOn 140 = .ok (.iload_n 3, 1) := by decide +kernel
theorem dX5_goOn_141 : decode cX5_goOn 141 = .ok (.dup2, 1) := by decide +kernel
theorem dX5_goOn_142 : decode cX5_goOn 142 = .ok (.iaload, 1) := by decide +kernel
theorem dX5_goOn_143 : decode cX5_goOn 143 = .ok (.iload 8, 2) := by decide +kernel
theorem dX5_goOn_145 : decode cX5_goOn 145 = .ok (.ior, 1) := by decide +kernel
theorem dX5_goOn_146 : decode cX5_goOn 146 = .ok (.iastore, 1) := by decide +kernel
theorem dX5_goOn_147 : decode cX5_goOn 147 = .ok (.iload 8, 2) := by decide +kernel
theorem dX5_goOn_149 : decode cX5_goOn 149 = .ok (.istore_n 3, 1) := by decide +kernel
theorem dX5_goOn_150 : decode cX5_goOn 150 = .ok (.aload_n 0, 1) := by decide +kernel
theorem dX5_goOn_151 : decode cX5_goOn 151 = .ok (.lload 4, 2) := by decide +kernel
theorem dX5_goOn_153 : decode cX5_goOn 153 = .ok (.invokevirtual 49, 3) := by decide +kernel
theorem dX5_goOn_156 : decode cX5_goOn 156 = .ok (.lstore 4, 2) := by decide +kernel
theorem dX5_goOn_158 : decode cX5_goOn 158 = .ok (.iinc 6 1, 3) := by decide +kernel
theorem dX5_goOn_161 : decode cX5_goOn 161 = .ok (.goto (-89), 3) := by decide +kernel
theorem dX5_goOn_164 : decode cX5_goOn 164 = .ok (.iload_n 3, 1) := by decide +kernel
theorem dX5_goOn_165 : decode cX5_goOn 165 = .ok (.ireturn, 1) := by decide +kernel
set_option maxRecDepth 20000 in
theorem ok_77 {l : Launch} {d : Nat} (IH : ∀ μ, μ < 196 → px_Met l px_P d μ) : px_ok l px_P d RX5 cX5_goOn 9 (some .int) tb_77 :=
  ⟨px_Sp.of (ps_iconst dX5_goOn_0 (by decide)),
   px_Sp.of (ps_istore_n dX5_goOn_1 rfl (by decide)),
   px_Sp.of (ps_iload_n dX5_goOn_2 rfl),
   px_Sp.of (ps_aload_n dX5_goOn_3 rfl),
   px_Sp.of (ps_get kc_X5 (by decide) wf_RX5_28 dX5_goOn_4),
   px_Sp.of (ps_icmp_ge dX5_goOn_7 (by decide)),
   px_Sp.of (ps_iload_n dX5_goOn_10 rfl),
   px_Sp.of (ps_iload_n dX5_goOn_11 rfl),
   ps_callS (IH 78 (by decide)) (fc_78 _ _) wm_RX5_44 ws_yX5_positionOf dX5_goOn_12,
   px_Sp.of (ps_istore dX5_goOn_15 (by decide)),
   px_Sp.of (ps_aload_n dX5_goOn_17 rfl),
   px_Sp.of (ps_get kc_X5 (by decide) wf_RX5_19 dX5_goOn_18),
   px_Sp.of (ps_iload_n dX5_goOn_21 rfl),
   px_Sp.of (ps_iload dX5_goOn_22),
   px_Sp.of (ps_aload_n dX5_goOn_24 rfl),
   px_Sp.of (ps_get kc_X5 (by decide) wf_RX5_15 dX5_goOn_25),
   px_Sp.of (ps_iload_n dX5_goOn_28 rfl),
   px_Sp.of (ps_iald dX5_goOn_29),
   px_Sp.of (ps_icmp_ge dX5_goOn_30 (by decide)),
   px_Sp.of (ps_aload_n dX5_goOn_33 rfl),
   px_Sp.of (ps_get kc_X5 (by decide) wf_RX5_11 dX5_goOn_34),
   px_Sp.of (ps_bipush dX5_goOn_37 (by decide)),
   px_Sp.of (ps_iload_n dX5_goOn_39 rfl),
   px_Sp.of (ps_imul dX5_goOn_40),
   px_Sp.of (ps_iload dX5_goOn_41),
   px_Sp.of (ps_iadd dX5_goOn_43),
   px_Sp.of (ps_lald dX5_goOn_44),
   px_Sp.of (ps_goto dX5_goOn_45 (by decide)),
   px_Sp.of (ps_ldc2 dX5_goOn_48 wk_RX5_47),
   px_Sp.ofm (ps_last dX5_goOn_51),
   px_Sp.of (ps_iinc dX5_goOn_52 (by decide) (by decide)),
   px_Sp.of (ps_goto dX5_goOn_55 (by decide)),
   px_Sp.of (ps_iload_n dX5_goOn_58 rfl),
   px_Sp.of (ps_istore_n dX5_goOn_59 rfl (by decide)),
   px_Sp.of (ps_aload_n dX5_goOn_60 rfl),
   px_Sp.of (ps_ldc2 dX5_goOn_61 wk_RX5_47),
   ps_callV (IH 79 (by decide)) (C := RX5) (T := TX5) (N := 7) (ci := 5) rfl rfl (fc_79 _ _) wm_RX5_49 wi_yX5_leastHeadAbove wl_yX5_leastHeadAbove dX5_goOn_64,
   px_Sp.of (ps_lstore dX5_goOn_67 (by decide)),
   px_Sp.of (ps_iconst dX5_goOn_69 (by decide)),
   px_Sp.of (ps_istore dX5_goOn_70 (by decide)),
   px_Sp.of (ps_iload dX5_goOn_72),
   px_Sp.of (ps_aload_n dX5_goOn_74 rfl),
   px_Sp.of (ps_get kc_X5 (by decide) wf_RX5_28 dX5_goOn_75),
   px_Sp.of (ps_icmp_ge dX5_goOn_78 (by decide)),
   px_Sp.of (ps_lload dX5_goOn_81),
   px_Sp.of (ps_ldc2 dX5_goOn_83 wk_RX5_47),
   px_Sp.of (ps_lcmp dX5_goOn_86),
   px_Sp.of (ps_if_eq dX5_goOn_87 (by decide)),
   px_Sp.of (ps_aload_n dX5_goOn_90 rfl),
   px_Sp.of (ps_lload dX5_goOn_91),
   ps_callV (IH 80 (by decide)) (C := RX5) (T := TX5) (N := 7) (ci := 5) rfl rfl (fc_80 _ _) wm_RX5_53 wi_yX5_stepBy wl_yX5_stepBy dX5_goOn_93,
   px_Sp.of (ps_istore dX5_goOn_96 (by decide)),
   px_Sp.of (ps_iload_n dX5_goOn_98 rfl),
   px_Sp.of (ps_iload dX5_goOn_99),
   px_Sp.of (ps_iadd dX5_goOn_101),
   px_Sp.of (ps_istore dX5_goOn_102 (by decide)),
   px_Sp.of (ps_iload dX5_goOn_104),
   px_Sp.of (ps_aload_n dX5_goOn_106 rfl),
   px_Sp.of (ps_get kc_X5 (by decide) wf_RX5_25 dX5_goOn_107),
   px_Sp.of (ps_alen dX5_goOn_110),
   px_Sp.of (ps_icmp_ge dX5_goOn_111 (by decide)),
   px_Sp.of (ps_aload_n dX5_goOn_114 rfl),
   px_Sp.of (ps_get kc_X5 (by decide) wf_RX5_25 dX5_goOn_115),
   px_Sp.of (ps_iload dX5_goOn_118),
   px_Sp.of (ps_iald dX5_goOn_120),
   px_Sp.of (ps_if_ne dX5_goOn_121 (by decide)),
   px_Sp.of (ps_aload_n dX5_goOn_124 rfl),
   px_Sp.of (ps_get kc_X5 (by decide) wf_RX5_25 dX5_goOn_125),
   px_Sp.of (ps_iload dX5_goOn_128),
   px_Sp.of (ps_iload dX5_goOn_130),
   px_Sp.of (ps_bipush dX5_goOn_132 (by decide)),
   px_Sp.of (ps_ishl dX5_goOn_134),
   px_Sp.ofm (ps_iast dX5_goOn_135),
   px_Sp.of (ps_aload_n dX5_goOn_136 rfl),
   px_Sp.of (ps_get kc_X5 (by decide) wf_RX5_25 dX5_goOn_137),
   px_Sp.of (ps_iload_n dX5_goOn_140 rfl),
   px_Sp.of (ps_dup2 dX5_goOn_141),
   px_Sp.of (ps_iald dX5_goOn_142),
   px_Sp.of (ps_iload dX5_goOn_143),
   px_Sp.of (ps_ior dX5_goOn_145),
   px_Sp.ofm (ps_iast dX5_goOn_146),
   px_Sp.of (ps_iload dX5_goOn_147),
   px_Sp.of (ps_istore_n dX5_goOn_149 rfl (by decide)),
   px_Sp.of (ps_aload_n dX5_goOn_150 rfl),
   px_Sp.of (ps_lload dX5_goOn_151),
   ps_callV (IH 79 (by decide)) (C := RX5) (T := TX5) (N := 7) (ci := 5) rfl rfl (fc_79 _ _) wm_RX5_49 wi_yX5_leastHeadAbove wl_yX5_leastHeadAbove dX5_goOn_153,
   px_Sp.of (ps_lstore dX5_goOn_156 (by decide)),
   px_Sp.of (ps_iinc dX5_goOn_158 (by decide) (by decide)),
   px_Sp.of (ps_goto dX5_goOn_161 (by decide)),
   px_Sp.of (ps_iload_n dX5_goOn_164 rfl),
   ps_iret dX5_goOn_165, trivial⟩
theorem mt_77 {l : Launch} {d : Nat} (IH : ∀ μ, μ < 196 → px_Met l px_P d μ) : px_Met l px_P (d + 1) 77 := px_met (own := RX5) rfl (by decide +kernel) (ok_77 IH)
theorem dX5_positionOf_0 : decode cX5_positionOf 0 = .ok (.iload_n 0, 1) := by decide +kernel
theorem dX5_positionOf_1 : decode cX5_positionOf 1 = .ok (.iconst 4, 1) := by decide +kernel
theorem dX5_positionOf_2 : decode cX5_positionOf 2 = .ok (.iload_n 1, 1) := by decide +kernel
theorem dX5_positionOf_3 : decode cX5_positionOf 3 = .ok (.imul, 1) := by decide +kernel
theorem dX5_positionOf_4 : decode cX5_positionOf 4 = .ok (.iushr, 1) := by decide +kernel
theorem dX5_positionOf_5 : decode cX5_positionOf 5 = .ok (.bipush 15, 2) := by decide +kernel
theorem dX5_positionOf_7 : decode cX5_positionOf 7 = .ok (.iand, 1) := by decide +kernel
theorem dX5_positionOf_8 : decode cX5_positionOf 8 = .ok (.ireturn, 1) := by decide +kernel
set_option maxRecDepth 20000 in
theorem ok_78 {l : Launch} {d : Nat} (IH : ∀ μ, μ < 196 → px_Met l px_P d μ) : px_ok l px_P d RX5 cX5_positionOf 2 (some .int) tb_78 :=
  ⟨px_Sp.of (ps_iload_n dX5_positionOf_0 rfl),
   px_Sp.of (ps_iconst dX5_positionOf_1 (by decide)),
   px_Sp.of (ps_iload_n dX5_positionOf_2 rfl),
   px_Sp.of (ps_imul dX5_positionOf_3),
   px_Sp.of (ps_iushr dX5_positionOf_4),
   px_Sp.of (ps_bipush dX5_positionOf_5 (by decide)),
   px_Sp.of (ps_iand dX5_positionOf_7),
   ps_iret dX5_positionOf_8, trivial⟩
theorem mt_78 {l : Launch} {d : Nat} (IH : ∀ μ, μ < 196 → px_Met l px_P d μ) : px_Met l px_P (d + 1) 78 := px_met (own := RX5) rfl (by decide +kernel) (ok_78 IH)
theorem dX5_leastHeadAbove_0 : decode cX5_leastHeadAbove 0 = .ok (.ldc2_w 47, 3) := by decide +kernel
theorem dX5_leastHeadAbove_3 : decode cX5_leastHeadAbove 3 = .ok (.lstore_n 3, 1) := by decide +kernel
theorem dX5_leastHeadAbove_4 : decode cX5_leastHeadAbove 4 = .ok (.iconst 0, 1) := by decide +kernel
theorem dX5_leastHeadAbove_5 : decode cX5_leastHeadAbove 5 = .ok (.istore 5, 2) := by decide +kernel
theorem dX5_leastHeadAbove_7 : decode cX5_leastHeadAbove 7 = .ok (.iload 5, 2) := by decide +kernel
theorem dX5_leastHeadAbove_9 : decode cX5_leastHeadAbove 9 = .ok (.aload_n 0, 1) := by decide +kernel
theorem dX5_leastHeadAbove_10 : decode cX5_leastHeadAbove 10 = .ok (.getfield 28, 3) := by decide +kernel
theorem dX5_leastHeadAbove_13 : decode cX5_leastHeadAbove 13 = .ok (.if_icmp .ge 49, 3) := by decide +kernel
theorem dX5_leastHeadAbove_16 : decode cX5_leastHeadAbove 16 = .ok (.aload_n 0, 1) := by decide +kernel
theorem dX5_leastHeadAbove_17 : decode cX5_leastHeadAbove 17 = .ok (.getfield 19, 3) := by decide +kernel
theorem dX5_leastHeadAbove_20 : decode cX5_leastHeadAbove 20 = .ok (.iload 5, 2) := by decide +kernel
theorem dX5_leastHeadAbove_22 : decode cX5_leastHeadAbove 22 = .ok (.laload, 1) := by decide +kernel
theorem dX5_leastHeadAbove_23 : decode cX5_leastHeadAbove 23 = .ok (.lload_n 1, 1) := by decide +kernel
theorem dX5_leastHeadAbove_24 : decode cX5_leastHeadAbove 24 = .ok (.lcmp, 1) := by decide +kernel
theorem dX5_leastHeadAbove_25 : decode cX5_leastHeadAbove 25 = .ok (.ifCond .le 31, 3) := by decide +kernel
theorem dX5_leastHeadAbove_28 : decode cX5_leastHeadAbove 28 = .ok (.lload_n 3, 1) := by decide +kernel
theorem dX5_leastHeadAbove_29 : decode cX5_leastHeadAbove 29 = .ok (.ldc2_w 47, 3) := by decide +kernel
theorem dX5_leastHeadAbove_32 : decode cX5_leastHeadAbove 32 = .ok (.lcmp, 1) := by decide +kernel
theorem dX5_leastHeadAbove_33 : decode cX5_leastHeadAbove 33 = .ok (.ifCond .eq 15, 3) := by decide +kernel
theorem dX5_leastHeadAbove_36 : decode cX5_leastHeadAbove 36 = .ok (.aload_n 0, 1) := by decide +kernel
theorem dX5_leastHeadAbove_37 : decode cX5_leastHeadAbove 37 = .ok (.getfield 19, 3) := by decide +kernel
theorem dX5_leastHeadAbove_40 : decode cX5_leastHeadAbove 40 = .ok (.iload 5, 2) := by decide +kernel
theorem dX5_leastHeadAbove_42 : decode cX5_leastHeadAbove 42 = .ok (.laload, 1) := by decide +kernel
theorem dX5_leastHeadAbove_43 : decode cX5_leastHeadAbove 43 = .ok (.lload_n 3, 1) := by decide +kernel
theorem dX5_leastHeadAbove_44 : decode cX5_leastHeadAbove 44 = .ok (.lcmp, 1) := by decide +kernel
theorem dX5_leastHeadAbove_45 : decode cX5_leastHeadAbove 45 = .ok (.ifCond .ge 11, 3) := by decide +kernel
theorem dX5_leastHeadAbove_48 : decode cX5_leastHeadAbove 48 = .ok (.aload_n 0, 1) := by decide +kernel
theorem dX5_leastHeadAbove_49 : decode cX5_leastHeadAbove 49 = .ok (.getfield 19, 3) := by decide +kernel
theorem dX5_leastHeadAbove_52 : decode cX5_leastHeadAbove 52 = .ok (.iload 5, 2) := by decide +kernel
theorem dX5_leastHeadAbove_54 : decode cX5_leastHeadAbove 54 = .ok (.laload, 1) := by decide +kernel
theorem dX5_leastHeadAbove_55 : decode cX5_leastHeadAbove 55 = .ok (.lstore_n 3, 1) := by decide +kernel
theorem dX5_leastHeadAbove_56 : decode cX5_leastHeadAbove 56 = .ok (.iinc 5 1, 3) := by decide +kernel
theorem dX5_leastHeadAbove_59 : decode cX5_leastHeadAbove 59 = .ok (.goto (-52), 3) := by decide +kernel
theorem dX5_leastHeadAbove_62 : decode cX5_leastHeadAbove 62 = .ok (.lload_n 3, 1) := by decide +kernel
theorem dX5_leastHeadAbove_63 : decode cX5_leastHeadAbove 63 = .ok (.lreturn, 1) := by decide +kernel
set_option maxRecDepth 20000 in
theorem ok_79 {l : Launch} {d : Nat} (IH : ∀ μ, μ < 196 → px_Met l px_P d μ) : px_ok l px_P d RX5 cX5_leastHeadAbove 6 (some .long) tb_79 :=
  ⟨px_Sp.of (ps_ldc2 dX5_leastHeadAbove_0 wk_RX5_47),
   px_Sp.of (ps_lstore_n dX5_leastHeadAbove_3 rfl (by decide)),
   px_Sp.of (ps_iconst dX5_leastHeadAbove_4 (by decide)),
   px_Sp.of (ps_istore dX5_leastHeadAbove_5 (by decide)),
   px_Sp.of (ps_iload dX5_leastHeadAbove_7),
   px_Sp.of (ps_aload_n dX5_leastHeadAbove_9 rfl),
   px_Sp.of (ps_get kc_X5 (by decide) wf_RX5_28 dX5_leastHeadAbove_10),
   px_Sp.of (ps_icmp_ge dX5_leastHeadAbove_13 (by decide)),
   px_Sp.of (ps_aload_n dX5_leastHeadAbove_16 rfl),
   px_Sp.of (ps_get kc_X5 (by decide) wf_RX5_19 dX5_leastHeadAbove_17),
   px_Sp.of (ps_iload dX5_leastHeadAbove_20),
   px_Sp.of (ps_lald dX5_leastHeadAbove_22),
   px_Sp.of (ps_lload_n dX5_leastHeadAbove_23 rfl),
   px_Sp.of (ps_lcmp dX5_leastHeadAbove_24),
   px_Sp.of (ps_if_le dX5_leastHeadAbove_25 (by decide)),
   px_Sp.of (ps_lload_n dX5_leastHeadAbove_28 rfl),
   px_Sp.of (ps_ldc2 dX5_leastHeadAbove_29 wk_RX5_47),
   px_Sp.of (ps_lcmp dX5_leastHeadAbove_32),
   px_Sp.of (ps_if_eq dX5_leastHeadAbove_33 (by decide)),
   px_Sp.of (ps_aload_n dX5_leastHeadAbove_36 rfl),
   px_Sp.of (ps_get kc_X5 (by decide) wf_RX5_19 dX5_leastHeadAbove_37),
   px_Sp.of (ps_iload dX5_leastHeadAbove_40),
   px_Sp.of (ps_lald dX5_leastHeadAbove_42),
   px_Sp.of (ps_lload_n dX5_leastHeadAbove_43 rfl),
   px_Sp.of (ps_lcmp dX5_leastHeadAbove_44),
   px_Sp.of (ps_if_ge dX5_leastHeadAbove_45 (by decide)),
   px_Sp.of (ps_aload_n dX5_leastHeadAbove_48 rfl),
   px_Sp.of (ps_get kc_X5 (by decide) wf_RX5_19 dX5_leastHeadAbove_49),
   px_Sp.of (ps_iload dX5_leastHeadAbove_52),
   px_Sp.of (ps_lald dX5_leastHeadAbove_54),
   px_Sp.of (ps_lstore_n dX5_leastHeadAbove_55 rfl (by decide)),
   px_Sp.of (ps_iinc dX5_leastHeadAbove_56 (by decide) (by decide)),
   px_Sp.of (ps_goto dX5_leastHeadAbove_59 (by decide)),
   px_Sp.of (ps_lload_n dX5_leastHeadAbove_62 rfl),
   ps_lret dX5_leastHeadAbove_63, trivial⟩
theorem mt_79 {l : Launch} {d : Nat} (IH : ∀ μ, μ < 196 → px_Met l px_P d μ) : px_Met l px_P (d + 1) 79 := px_met (own := RX5) rfl (by decide +kernel) (ok_79 IH)
