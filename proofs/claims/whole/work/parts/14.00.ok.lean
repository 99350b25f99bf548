/-! ===== tables that are right, 0 ===== -/
theorem dJ7_fill_53178_0 : decode cJ7_fill_53178 0 = .ok (.iconst 0, 1) := by decide +kernel
theorem dJ7_fill_53178_1 : decode cJ7_fill_53178 1 = .ok (.istore_n 2, 1) := by decide +kernel
theorem dJ7_fill_53178_2 : decode cJ7_fill_53178 2 = .ok (.aload_n 0, 1) := by decide +kernel
theorem dJ7_fill_53178_3 : decode cJ7_fill_53178 3 = .ok (.arraylength, 1) := by decide +kernel
theorem dJ7_fill_53178_4 : decode cJ7_fill_53178 4 = .ok (.istore_n 3, 1) := by decide +kernel
theorem dJ7_fill_53178_5 : decode cJ7_fill_53178 5 = .ok (.iload_n 2, 1) := by decide +kernel
theorem dJ7_fill_53178_6 : decode cJ7_fill_53178 6 = .ok (.iload_n 3, 1) := by decide +kernel
theorem dJ7_fill_53178_7 : decode cJ7_fill_53178 7 = .ok (.if_icmp .ge 13, 3) := by decide +kernel
theorem dJ7_fill_53178_10 : decode cJ7_fill_53178 10 = .ok (.aload_n 0, 1) := by decide +kernel
theorem dJ7_fill_53178_11 : decode cJ7_fill_53178 11 = .ok (.iload_n 2, 1) := by decide +kernel
theorem dJ7_fill_53178_12 : decode cJ7_fill_53178 12 = .ok (.iload_n 1, 1) := by decide +kernel
theorem dJ7_fill_53178_13 : decode cJ7_fill_53178 13 = .ok (.iastore, 1) := by decide +kernel
theorem dJ7_fill_53178_14 : decode cJ7_fill_53178 14 = .ok (.iinc 2 1, 3) := by decide +kernel
theorem dJ7_fill_53178_17 : decode cJ7_fill_53178 17 = .ok (.goto (-12), 3) := by decide +kernel
theorem dJ7_fill_53178_20 : decode cJ7_fill_53178 20 = .ok (.return_, 1) := by decide +kernel
set_option maxRecDepth 20000 in
theorem ok_0 {l : Launch} {d : Nat} (IH : ∀ μ, μ < 196 → px_Met l px_P d μ) : px_ok l px_P d RJ7 cJ7_fill_53178 4 (none) tb_0 :=
  ⟨px_Sp.of (ps_iconst dJ7_fill_53178_0 (by decide)),
   px_Sp.of (ps_istore_n dJ7_fill_53178_1 rfl (by decide)),
   px_Sp.of (ps_aload_n dJ7_fill_53178_2 rfl),
   px_Sp.of (ps_alen dJ7_fill_53178_3),
   px_Sp.of (ps_istore_n dJ7_fill_53178_4 rfl (by decide)),
   px_Sp.of (ps_iload_n dJ7_fill_53178_5 rfl),
   px_Sp.of (ps_iload_n dJ7_fill_53178_6 rfl),
   px_Sp.of (ps_icmp_ge dJ7_fill_53178_7 (by decide)),
   px_Sp.of (ps_aload_n dJ7_fill_53178_10 rfl),
   px_Sp.of (ps_iload_n dJ7_fill_53178_11 rfl),
   px_Sp.of (ps_iload_n dJ7_fill_53178_12 rfl),
   px_Sp.ofm (ps_iast dJ7_fill_53178_13),
   px_Sp.of (ps_iinc dJ7_fill_53178_14 (by decide) (by decide)),
   px_Sp.of (ps_goto dJ7_fill_53178_17 (by decide)),
   ps_vret dJ7_fill_53178_20, trivial⟩
theorem mt_0 {l : Launch} {d : Nat} (IH : ∀ μ, μ < 196 → px_Met l px_P d μ) : px_Met l px_P (d + 1) 0 := px_met (own := RJ7) rfl (by decide +kernel) (ok_0 IH)
theorem dX8_word_0 : decode cX8_word 0 = .ok (.iload_n 1, 1) := by decide +kernel
theorem dX8_word_1 : decode cX8_word 1 = .ok (.iconst 1, 1) := by decide +kernel
theorem dX8_word_2 : decode cX8_word 2 = .ok (.if_icmp .lt 9, 3) := by decide +kernel
theorem dX8_word_5 : decode cX8_word 5 = .ok (.iload_n 1, 1) := by decide +kernel
theorem dX8_word_6 : decode cX8_word 6 = .ok (.bipush 63, 2) := by decide +kernel
theorem dX8_word_8 : decode cX8_word 8 = .ok (.if_icmp .le 7, 3) := by decide +kernel
theorem dX8_word_11 : decode cX8_word 11 = .ok (.sipush (-1002), 3) := by decide +kernel
theorem dX8_word_14 : decode cX8_word 14 = .ok (.ireturn, 1) := by decide +kernel
theorem dX8_word_15 : decode cX8_word 15 = .ok (.aload_n 0, 1) := by decide +kernel
theorem dX8_word_16 : decode cX8_word 16 = .ok (.getfield 73, 3) := by decide +kernel
theorem dX8_word_19 : decode cX8_word 19 = .ok (.bipush 8, 2) := by decide +kernel
theorem dX8_word_21 : decode cX8_word 21 = .ok (.if_icmp .lt 7, 3) := by decide +kernel
theorem dX8_word_24 : decode cX8_word 24 = .ok (.sipush (-1004), 3) := by decide +kernel
theorem dX8_word_27 : decode cX8_word 27 = .ok (.ireturn, 1) := by decide +kernel
theorem dX8_word_28 : decode cX8_word 28 = .ok (.aload_n 0, 1) := by decide +kernel
theorem dX8_word_29 : decode cX8_word 29 = .ok (.aload_n 0, 1) := by decide +kernel
theorem dX8_word_30 : decode cX8_word 30 = .ok (.getfield 77, 3) := by decide +kernel
theorem dX8_word_33 : decode cX8_word 33 = .ok (.aload_n 0, 1) := by decide +kernel
theorem dX8_word_34 : decode cX8_word 34 = .ok (.getfield 73, 3) := by decide +kernel
theorem dX8_word_37 : decode cX8_word 37 = .ok (.iload_n 1, 1) := by decide +kernel
theorem dX8_word_38 : decode cX8_word 38 = .ok (.invokestatic 81, 3) := by decide +kernel
theorem dX8_word_41 : decode cX8_word 41 = .ok (.putfield 77, 3) := by decide +kernel
theorem dX8_word_44 : decode cX8_word 44 = .ok (.aload_n 0, 1) := by decide +kernel
theorem dX8_word_45 : decode cX8_word 45 = .ok (.dup, 1) := by decide +kernel
theorem dX8_word_46 : decode cX8_word 46 = .ok (.getfield 73, 3) := by decide +kernel
theorem dX8_word_49 : decode cX8_word 49 = .ok (.iconst 1, 1) := by decide +kernel
theorem dX8_word_50 : decode cX8_word 50 = .ok (.iadd, 1) := by decide +kernel
theorem dX8_word_51 : decode cX8_word 51 = .ok (.putfield 73, 3) := by decide +kernel
theorem dX8_word_54 : decode cX8_word 54 = .ok (.aload_n 0, 1) := by decide +kernel
theorem dX8_word_55 : decode cX8_word 55 = .ok (.getfield 73, 3) := by decide +kernel
theorem dX8_word_58 : decode cX8_word 58 = .ok (.ireturn, 1) := by decide +kernel
set_option maxRecDepth 20000 in
theorem ok_1 {l : Launch} {d : Nat} (IH : ∀ μ, μ < 196 → px_Met l px_P d μ) : px_ok l px_P d RX8 cX8_word 2 (some .int) tb_1 :=
  ⟨px_Sp.of (ps_iload_n dX8_word_0 rfl),
   px_Sp.of (ps_iconst dX8_word_1 (by decide)),
   px_Sp.of (ps_icmp_lt dX8_word_2 (by decide)),
   px_Sp.of (ps_iload_n dX8_word_5 rfl),
   px_Sp.of (ps_bipush dX8_word_6 (by decide)),
   px_Sp.of (ps_icmp_le dX8_word_8 (by decide)),
   px_Sp.of (ps_sipush dX8_word_11 (by decide)),
   ps_iret dX8_word_14,
   px_Sp.of (ps_aload_n dX8_word_15 rfl),
   px_Sp.of (ps_get kc_X8 (by decide) wf_RX8_73 dX8_word_16),
   px_Sp.of (ps_bipush dX8_word_19 (by decide)),
   px_Sp.of (ps_icmp_lt dX8_word_21 (by decide)),
   px_Sp.of (ps_sipush dX8_word_24 (by decide)),
   ps_iret dX8_word_27,
   px_Sp.of (ps_aload_n dX8_word_28 rfl),
   px_Sp.of (ps_aload_n dX8_word_29 rfl),
   px_Sp.of (ps_get kc_X8 (by decide) wf_RX8_77 dX8_word_30),
   px_Sp.of (ps_aload_n dX8_word_33 rfl),
   px_Sp.of (ps_get kc_X8 (by decide) wf_RX8_73 dX8_word_34),
   px_Sp.of (ps_iload_n dX8_word_37 rfl),
   ps_callS (IH 2 (by decide)) (fc_2 _ _) wm_RX8_81 ws_yX7_with dX8_word_38,
   px_Sp.ofm (ps_putI kc_X8 (by decide) wf_RX8_77 rfl (by decide +kernel) kp_X8_8 dX8_word_41),
   px_Sp.of (ps_aload_n dX8_word_44 rfl),
   px_Sp.of (ps_dup dX8_word_45),
   px_Sp.of (ps_get kc_X8 (by decide) wf_RX8_73 dX8_word_46),
   px_Sp.of (ps_iconst dX8_word_49 (by decide)),
   px_Sp.of (ps_iadd dX8_word_50),
   px_Sp.ofm (ps_putI kc_X8 (by decide) wf_RX8_73 rfl (by decide +kernel) kp_X8_9 dX8_word_51),
   px_Sp.of (ps_aload_n dX8_word_54 rfl),
   px_Sp.of (ps_get kc_X8 (by decide) wf_RX8_73 dX8_word_55),
   ps_iret dX8_word_58, trivial⟩
theorem mt_1 {l : Launch} {d : Nat} (IH : ∀ μ, μ < 196 → px_Met l px_P d μ) : px_Met l px_P (d + 1) 1 := px_met (own := RX8) rfl (by decide +kernel) (ok_1 IH)
theorem dX7_with_0 : decode cX7_with 0 = .ok (.lload_n 0, 1) := by decide +kernel
theorem dX7_with_1 : decode cX7_with 1 = .ok (.iload_n 3, 1) := by decide +kernel
theorem dX7_with_2 : decode cX7_with 2 = .ok (.i2l, 1) := by decide +kernel
theorem dX7_with_3 : decode cX7_with 3 = .ok (.bipush 6, 2) := by decide +kernel
theorem dX7_with_5 : decode cX7_with 5 = .ok (.bipush 7, 2) := by decide +kernel
theorem dX7_with_7 : decode cX7_with 7 = .ok (.iload_n 2, 1) := by decide +kernel
theorem dX7_with_8 : decode cX7_with 8 = .ok (.isub, 1) := by decide +kernel
theorem dX7_with_9 : decode cX7_with 9 = .ok (.imul, 1) := by decide +kernel
theorem dX7_with_10 : decode cX7_with 10 = .ok (.lshl, 1) := by decide +kernel
theorem dX7_with_11 : decode cX7_with 11 = .ok (.lor, 1) := by decide +kernel
theorem dX7_with_12 : decode cX7_with 12 = .ok (.lreturn, 1) := by decide +kernel
set_option maxRecDepth 20000 in
theorem ok_2 {l : Launch} {d : Nat} (IH : ∀ μ, μ < 196 → px_Met l px_P d μ) : px_ok l px_P d RX7 cX7_with 4 (some .long) tb_2 :=
  ⟨px_Sp.of (ps_lload_n dX7_with_0 rfl),
   px_Sp.of (ps_iload_n dX7_with_1 rfl),
   px_Sp.of (ps_i2l dX7_with_2),
   px_Sp.of (ps_bipush dX7_with_3 (by decide)),
   px_Sp.of (ps_bipush dX7_with_5 (by decide)),
   px_Sp.of (ps_iload_n dX7_with_7 rfl),
   px_Sp.of (ps_isub dX7_with_8),
   px_Sp.of (ps_imul dX7_with_9),
   px_Sp.of (ps_lshl dX7_with_10),
   px_Sp.of (ps_lor dX7_with_11),
   ps_lret dX7_with_12, trivial⟩
theorem mt_2 {l : Launch} {d : Nat} (IH : ∀ μ, μ < 196 → px_Met l px_P d μ) : px_Met l px_P (d + 1) 2 := px_met (own := RX7) rfl (by decide +kernel) (ok_2 IH)
theorem dX8_letter_0 : decode cX8_letter 0 = .ok (.iload_n 3, 1) := by decide +kernel
theorem dX8_letter_1 : decode cX8_letter 1 = .ok (.iconst (-1), 1) := by decide +kernel
theorem dX8_letter_2 : decode cX8_letter 2 = .ok (.if_icmp .eq 18, 3) := by decide +kernel
theorem dX8_letter_5 : decode cX8_letter 5 = .ok (.aload_n 0, 1) := by decide +kernel
theorem dX8_letter_6 : decode cX8_letter 6 = .ok (.getfield 25, 3) := by decide +kernel
theorem dX8_letter_9 : decode cX8_letter 9 = .ok (.iload_n 3, 1) := by decide +kernel
theorem dX8_letter_10 : decode cX8_letter 10 = .ok (.invokevirtual 87, 3) := by decide +kernel
theorem dX8_letter_13 : decode cX8_letter 13 = .ok (.ifCond .ne 7, 3) := by decide +kernel
theorem dX8_letter_16 : decode cX8_letter 16 = .ok (.sipush (-1001), 3) := by decide +kernel
theorem dX8_letter_19 : decode cX8_letter 19 = .ok (.ireturn, 1) := by decide +kernel
theorem dX8_letter_20 : decode cX8_letter 20 = .ok (.iload_n 1, 1) := by decide +kernel
theorem dX8_letter_21 : decode cX8_letter 21 = .ok (.invokestatic 91, 3) := by decide +kernel
theorem dX8_letter_24 : decode cX8_letter 24 = .ok (.ifCond .ne 10, 3) := by decide +kernel
theorem dX8_letter_27 : decode cX8_letter 27 = .ok (.iload_n 2, 1) := by decide +kernel
theorem dX8_letter_28 : decode cX8_letter 28 = .ok (.invokestatic 94, 3) := by decide +kernel
theorem dX8_letter_31 : decode cX8_letter 31 = .ok (.ifCond .eq 7, 3) := by decide +kernel
theorem dX8_letter_34 : decode cX8_letter 34 = .ok (.sipush (-1002), 3) := by decide +kernel
theorem dX8_letter_37 : decode cX8_letter 37 = .ok (.ireturn, 1) := by decide +kernel
theorem dX8_letter_38 : decode cX8_letter 38 = .ok (.aload_n 0, 1) := by decide +kernel
theorem dX8_letter_39 : decode cX8_letter 39 = .ok (.getfield 25, 3) := by decide +kernel
theorem dX8_letter_42 : decode cX8_letter 42 = .ok (.getfield 97, 3) := by decide +kernel
theorem dX8_letter_45 : decode cX8_letter 45 = .ok (.bipush 40, 2) := by decide +kernel
theorem dX8_letter_47 : decode cX8_letter 47 = .ok (.if_icmp .lt 7, 3) := by decide +kernel
theorem dX8_letter_50 : decode cX8_letter 50 = .ok (.sipush (-1004), 3) := by decide +kernel
theorem dX8_letter_53 : decode cX8_letter 53 = .ok (.ireturn, 1) := by decide +kernel
theorem dX8_letter_54 : decode cX8_letter 54 = .ok (.aload_n 0, 1) := by decide +kernel
theorem dX8_letter_55 : decode cX8_letter 55 = .ok (.invokevirtual 100, 3) := by decide +kernel
theorem dX8_letter_58 : decode cX8_letter 58 = .ok (.aload_n 0, 1) := by decide +kernel
theorem dX8_letter_59 : decode cX8_letter 59 = .ok (.getfield 25, 3) := by decide +kernel
theorem dX8_letter_62 : decode cX8_letter 62 = .ok (.iload_n 1, 1) := by decide +kernel
theorem dX8_letter_63 : decode cX8_letter 63 = .ok (.iload_n 2, 1) := by decide +kernel
theorem dX8_letter_64 : decode cX8_letter 64 = .ok (.iload_n 3, 1) := by decide +kernel
theorem dX8_letter_65 : decode cX8_letter 65 = .ok (.invokevirtual 103, 3) := by decide +kernel
theorem dX8_letter_68 : decode cX8_letter 68 = .ok (.ireturn, 1) := by decide +kernel
set_option maxRecDepth 20000 in
theorem ok_3 {l : Launch} {d : Nat} (IH : ∀ μ, μ < 196 → px_Met l px_P d μ) : px_ok l px_P d RX8 cX8_letter 4 (some .int) tb_3 :=
  ⟨px_Sp.of (ps_iload_n dX8_letter_0 rfl),
   px_Sp.of (ps_iconst dX8_letter_1 (by decide)),
   px_Sp.of (ps_icmp_eq dX8_letter_2 (by decide)),
   px_Sp.of (ps_aload_n dX8_letter_5 rfl),
   px_Sp.of (ps_get kc_X8 (by decide) wf_RX8_25 dX8_letter_6),
   px_Sp.of (ps_iload_n dX8_letter_9 rfl),
   ps_callV (IH 4 (by decide)) (C := RX1) (T := TX1) (N := 10) (ci := 1) rfl rfl (fc_4 _ _) wm_RX8_87 wi_yX1_has wl_yX1_has dX8_letter_10,
   px_Sp.of (ps_if_ne dX8_letter_13 (by decide)),
   px_Sp.of (ps_sipush dX8_letter_16 (by decide)),
   ps_iret dX8_letter_19,
   px_Sp.of (ps_iload_n dX8_letter_20 rfl),
   ps_callS (IH 5 (by decide)) (fc_5 _ _) wm_RX8_91 ws_yX8_isWrongWriter dX8_letter_21,
   px_Sp.of (ps_if_ne dX8_letter_24 (by decide)),
   px_Sp.of (ps_iload_n dX8_letter_27 rfl),
   ps_callS (IH 6 (by decide)) (fc_6 _ _) wm_RX8_94 ws_yX8_isWrongDay dX8_letter_28,
   px_Sp.of (ps_if_eq dX8_letter_31 (by decide)),
   px_Sp.of (ps_sipush dX8_letter_34 (by decide)),
   ps_iret dX8_letter_37,
   px_Sp.of (ps_aload_n dX8_letter_38 rfl),
   px_Sp.of (ps_get kc_X8 (by decide) wf_RX8_25 dX8_letter_39),
   px_Sp.of (ps_get kc_X1 (by decide) wf_RX8_97 dX8_letter_42),
   px_Sp.of (ps_bipush dX8_letter_45 (by decide)),
   px_Sp.of (ps_icmp_lt dX8_letter_47 (by decide)),
   px_Sp.of (ps_sipush dX8_letter_50 (by decide)),
   ps_iret dX8_letter_53,
   px_Sp.of (ps_aload_n dX8_letter_54 rfl),
   ps_callV (IH 7 (by decide)) (C := RX8) (T := TX8) (N := 10) (ci := 7) rfl rfl (fc_7 _ _) wm_RX8_100 wi_yX8_forgetFindings wl_yX8_forgetFindings dX8_letter_55,
   px_Sp.of (ps_aload_n dX8_letter_58 rfl),
   px_Sp.of (ps_get kc_X8 (by decide) wf_RX8_25 dX8_letter_59),
   px_Sp.of (ps_iload_n dX8_letter_62 rfl),
   px_Sp.of (ps_iload_n dX8_letter_63 rfl),
   px_Sp.of (ps_iload_n dX8_letter_64 rfl),
   ps_callV (IH 8 (by decide)) (C := RX1) (T := TX1) (N := 10) (ci := 1) rfl rfl (fc_8 _ _) wm_RX8_103 wi_yX1_addLetter wl_yX1_addLetter dX8_letter_65,
   ps_iret dX8_letter_68, trivial⟩
theorem mt_3 {l : Launch} {d : Nat} (IH : ∀ μ, μ < 196 → px_Met l px_P d μ) : px_Met l px_P (d + 1) 3 := px_met (own := RX8) rfl (by decide +kernel) (ok_3 IH)
theorem dX1_has_0 : decode cX1_has 0 = .ok (.iload_n 1, 1) := by decide +kernel
theorem dX1_has_1 : decode cX1_has 1 = .ok (.ifCond .lt 15, 3) := by decide +kernel
theorem dX1_has_4 : decode cX1_has 4 = .ok (.iload_n 1, 1) := by decide +kernel
theorem dX1_has_5 : decode cX1_has 5 = .ok (.aload_n 0, 1) := by decide +kernel
theorem dX1_has_6 : decode cX1_has 6 = .ok (.getfield 38, 3) := by decide +kernel
theorem dX1_has_9 : decode cX1_has 9 = .ok (.if_icmp .ge 7, 3) := by decide +kernel
theorem dX1_has_12 : decode cX1_has 12 = .ok (.iconst 1, 1) := by decide +kernel
theorem dX1_has_13 : decode cX1_has 13 = .ok (.goto 4, 3) := by decide +kernel
theorem dX1_has_16 : decode cX1_has 16 = .ok (.iconst 0, 1) := by decide +kernel
theorem dX1_has_17 : decode cX1_has 17 = .ok (.ireturn, 1) := by decide +kernel
set_option maxRecDepth 20000 in
theorem ok_4 {l : Launch} {d : Nat} (IH : ∀ μ, μ < 196 → px_Met l px_P d μ) : px_ok l px_P d RX1 cX1_has 2 (some .boolean) tb_4 :=
  ⟨px_Sp.of (ps_iload_n dX1_has_0 rfl),
   px_Sp.of (ps_if_lt dX1_has_1 (by decide)),
   px_Sp.of (ps_iload_n dX1_has_4 rfl),
   px_Sp.of (ps_aload_n dX1_has_5 rfl),
   px_Sp.of (ps_get kc_X1 (by decide) wf_RX1_38 dX1_has_6),
   px_Sp.of (ps_icmp_ge dX1_has_9 (by decide)),
   px_Sp.of (ps_iconst dX1_has_12 (by decide)),
   px_Sp.of (ps_goto dX1_has_13 (by decide)),
   px_Sp.of (ps_iconst dX1_has_16 (by decide)),
   ps_zret dX1_has_17, trivial⟩
theorem mt_4 {l : Launch} {d : Nat} (IH : ∀ μ, μ < 196 → px_Met l px_P d μ) : px_Met l px_P (d + 1) 4 := px_met (own := RX1) rfl (by decide +kernel) (ok_4 IH)
theorem dX8_isWrongWriter_0 : decode cX8_isWrongWriter 0 = .ok (.iload_n 0, 1) := by decide +kernel
theorem dX8_isWrongWriter_1 : decode cX8_isWrongWriter 1 = .ok (.ifCond .lt 9, 3) := by decide +kernel
theorem dX8_isWrongWriter_4 : decode cX8_isWrongWriter 4 = .ok (.iload_n 0, 1) := by decide +kernel
theorem dX8_isWrongWriter_5 : decode cX8_isWrongWriter 5 = .ok (.bipush 9, 2) := by decide +kernel
theorem dX8_isWrongWriter_7 : decode cX8_isWrongWriter 7 = .ok (.if_icmp .le 7, 3) := by decide +kernel
theorem dX8_isWrongWriter_10 : decode cX8_isWrongWriter 10 = .ok (.iconst 1, 1) := by decide +kernel
theorem dX8_isWrongWriter_11 : decode cX8_isWrongWriter 11 = .ok (.goto 4, 3) := by decide +kernel
theorem dX8_isWrongWriter_14 : decode cX8_isWrongWriter 14 = .ok (.iconst 0, 1) := by decide +kernel
theorem dX8_isWrongWriter_15 : decode cX8_isWrongWriter 15 = .ok (.ireturn, 1) := by decide +kernel
set_option maxRecDepth 20000 in
theorem ok_5 {l : Launch} {d : Nat} (IH : ∀ μ, μ < 196 → px_Met l px_P d μ) : px_ok l px_P d RX8 cX8_isWrongWriter 1 (some .boolean) tb_5 :=
  ⟨px_Sp.of (ps_iload_n dX8_isWrongWriter_0 rfl),
   px_Sp.of (ps_if_lt dX8_isWrongWriter_1 (by decide)),
   px_Sp.of (ps_iload_n dX8_isWrongWriter_4 rfl),
   px_Sp.of (ps_bipush dX8_isWrongWriter_5 (by decide)),
   px_Sp.of (ps_icmp_le dX8_isWrongWriter_7 (by decide)),
   px_Sp.of (ps_iconst dX8_isWrongWriter_10 (by decide)),
   px_Sp.of (ps_goto dX8_isWrongWriter_11 (by decide)),
   px_Sp.of (ps_iconst dX8_isWrongWriter_14 (by decide)),
   ps_zret dX8_isWrongWriter_15, trivial⟩
theorem mt_5 {l : Launch} {d : Nat} (IH : ∀ μ, μ < 196 → px_Met l px_P d μ) : px_Met l px_P (d + 1) 5 := px_met (own := RX8) rfl (by decide +kernel) (ok_5 IH)
theorem dX8_isWrongDay_0 : decode cX8_isWrongDay 0 = .ok (.iload_n 0, 1) := by decide +kernel
theorem dX8_isWrongDay_1 : decode cX8_isWrongDay 1 = .ok (.iconst (-1), 1) := by decide +kernel
theorem dX8_isWrongDay_2 : decode cX8_isWrongDay 2 = .ok (.if_icmp .lt 10, 3) := by decide +kernel
theorem dX8_isWrongDay_5 : decode cX8_isWrongDay 5 = .ok (.iload_n 0, 1) := by decide +kernel
theorem dX8_isWrongDay_6 : decode cX8_isWrongDay 6 = .ok (.sipush 9999, 3) := by decide +kernel
theorem dX8_isWrongDay_9 : decode cX8_isWrongDay 9 = .ok (.if_icmp .le 7, 3) := by decide +kernel
theorem dX8_isWrongDay_12 : decode cX8_isWrongDay 12 = .ok (.iconst 1, 1) := by decide +kernel
theorem dX8_isWrongDay_13 : decode cX8_isWrongDay 13 = .ok (.goto 4, 3) := by decide +kernel
theorem dX8_isWrongDay_16 : decode cX8_isWrongDay 16 = .ok (.iconst 0, 1) := by decide +kernel
theorem dX8_isWrongDay_17 : decode cX8_isWrongDay 17 = .ok (.ireturn, 1) := by decide +kernel
set_option maxRecDepth 20000 in
theorem ok_6 {l : Launch} {d : Nat} (IH : ∀ μ, μ < 196 → px_Met l px_P d μ) : px_ok l px_P d RX8 cX8_isWrongDay 1 (some .boolean) tb_6 :=
  ⟨px_Sp.of (ps_iload_n dX8_isWrongDay_0 rfl),
   px_Sp.of (ps_iconst dX8_isWrongDay_1 (by decide)),
   px_Sp.of (ps_icmp_lt dX8_isWrongDay_2 (by decide)),
   px_Sp.of (ps_iload_n dX8_isWrongDay_5 rfl),
   px_Sp.of (ps_sipush dX8_isWrongDay_6 (by decide)),
   px_Sp.of (ps_icmp_le dX8_isWrongDay_9 (by decide)),
   px_Sp.of (ps_iconst dX8_isWrongDay_12 (by decide)),
   px_Sp.of (ps_goto dX8_isWrongDay_13 (by decide)),
   px_Sp.of (ps_iconst dX8_isWrongDay_16 (by decide)),
   ps_zret dX8_isWrongDay_17, trivial⟩
theorem mt_6 {l : Launch} {d : Nat} (IH : ∀ μ, μ < 196 → px_Met l px_P d μ) : px_Met l px_P (d + 1) 6 := px_met (own := RX8) rfl (by decide +kernel) (ok_6 IH)
theorem dX8_forgetFindings_0 : decode cX8_forgetFindings 0 = .ok (.aload_n 0, 1) := by decide +kernel
theorem dX8_forgetFindings_1 : decode cX8_forgetFindings 1 = .ok (.getfield 43, 3) := by decide +kernel
theorem dX8_forgetFindings_4 : decode cX8_forgetFindings 4 = .ok (.iconst 0, 1) := by decide +kernel
theorem dX8_forgetFindings_5 : decode cX8_forgetFindings 5 = .ok (.putfield 269, 3) := by decide +kernel
theorem dX8_forgetFindings_8 : decode cX8_forgetFindings 8 = .ok (.aload_n 0, 1) := by decide +kernel
theorem dX8_forgetFindings_9 : decode cX8_forgetFindings 9 = .ok (.getfield 47, 3) := by decide +kernel
theorem dX8_forgetFindings_12 : decode cX8_forgetFindings 12 = .ok (.iconst 0, 1) := by decide +kernel
theorem dX8_forgetFindings_13 : decode cX8_forgetFindings 13 = .ok (.putfield 269, 3) := by decide +kernel
theorem dX8_forgetFindings_16 : decode cX8_forgetFindings 16 = .ok (.aload_n 0, 1) := by decide +kernel
theorem dX8_forgetFindings_17 : decode cX8_forgetFindings 17 = .ok (.getfield 55, 3) := by decide +kernel
theorem dX8_forgetFindings_20 : decode cX8_forgetFindings 20 = .ok (.iconst 0, 1) := by decide +kernel
theorem dX8_forgetFindings_21 : decode cX8_forgetFindings 21 = .ok (.putfield 273, 3) := by decide +kernel
theorem dX8_forgetFindings_24 : decode cX8_forgetFindings 24 = .ok (.return_, 1) := by decide +kernel
set_option maxRecDepth 20000 in
theorem ok_7 {l : Launch} {d : Nat} (IH : ∀ μ, μ < 196 → px_Met l px_P d μ) : px_ok l px_P d RX8 cX8_forgetFindings 1 (none) tb_7 :=
  ⟨px_Sp.of (ps_aload_n dX8_forgetFindings_0 rfl),
   px_Sp.of (ps_get kc_X8 (by decide) wf_RX8_43 dX8_forgetFindings_1),
   px_Sp.of (ps_iconst dX8_forgetFindings_4 (by decide)),
   px_Sp.ofm (ps_putI kc_X2 (by decide) wf_RX8_269 rfl (by decide +kernel) kp_X2_5 dX8_forgetFindings_5),
   px_Sp.of (ps_aload_n dX8_forgetFindings_8 rfl),
   px_Sp.of (ps_get kc_X8 (by decide) wf_RX8_47 dX8_forgetFindings_9),
   px_Sp.of (ps_iconst dX8_forgetFindings_12 (by decide)),
   px_Sp.ofm (ps_putI kc_X2 (by decide) wf_RX8_269 rfl (by decide +kernel) kp_X2_5 dX8_forgetFindings_13),
   px_Sp.of (ps_aload_n dX8_forgetFindings_16 rfl),
   px_Sp.of (ps_get kc_X8 (by decide) wf_RX8_55 dX8_forgetFindings_17),
   px_Sp.of (ps_iconst dX8_forgetFindings_20 (by decide)),
   px_Sp.ofm (ps_putI kc_X3 (by decide) wf_RX8_273 rfl (by decide +kernel) kp_X3_8 dX8_forgetFindings_21),
   ps_vret dX8_forgetFindings_24, trivial⟩
theorem mt_7 {l : Launch} {d : Nat} (IH : ∀ μ, μ < 196 → px_Met l px_P d μ) : px_Met l px_P (d + 1) 7 := px_met (own := RX8) rfl (by decide +kernel) (ok_7 IH)
theorem dX1_addLetter_0 : decode cX1_addLetter 0 = .ok (.aload_n 0, 1) := by decide +kernel
theorem dX1_addLetter_1 : decode cX1_addLetter 1 = .ok (.getfield 38, 3) := by decide +kernel
theorem dX1_addLetter_4 : decode cX1_addLetter 4 = .ok (.istore 4, 2) := by decide +kernel
theorem dX1_addLetter_6 : decode cX1_addLetter 6 = .ok (.iload 4, 2) := by decide +kernel
theorem dX1_addLetter_8 : decode cX1_addLetter 8 = .ok (.bipush 40, 2) := by decide +kernel
theorem dX1_addLetter_10 : decode cX1_addLetter 10 = .ok (.if_icmp .ge 37, 3) := by decide +kernel
theorem dX1_addLetter_13 : decode cX1_addLetter 13 = .ok (.aload_n 0, 1) := by decide +kernel
theorem dX1_addLetter_14 : decode cX1_addLetter 14 = .ok (.getfield 9, 3) := by decide +kernel
theorem dX1_addLetter_17 : decode cX1_addLetter 17 = .ok (.iload 4, 2) := by decide +kernel
theorem dX1_addLetter_19 : decode cX1_addLetter 19 = .ok (.iload_n 1, 1) := by decide +kernel
theorem dX1_addLetter_20 : decode cX1_addLetter 20 = .ok (.iastore, 1) := by decide +kernel
theorem dX1_addLetter_21 : decode cX1_addLetter 21 = .ok (.aload_n 0, 1) := by decide +kernel
theorem dX1_addLetter_22 : decode cX1_addLetter 22 = .ok (.getfield 15, 3) := by decide +kernel
theorem dX1_addLetter_25 : decode cX1_addLetter 25 = .ok (.iload 4, 2) := by decide +kernel
theorem dX1_addLetter_27 : decode cX1_addLetter 27 = .ok (.iload_n 2, 1) := by decide +kernel
theorem dX1_addLetter_28 : decode cX1_addLetter 28 = .ok (.iastore, 1) := by decide +kernel
theorem dX1_addLetter_29 : decode cX1_addLetter 29 = .ok (.aload_n 0, 1) := by decide +kernel
theorem dX1_addLetter_30 : decode cX1_addLetter 30 = .ok (.getfield 18, 3) := by decide +kernel
theorem dX1_addLetter_33 : decode cX1_addLetter 33 = .ok (.iload 4, 2) := by decide +kernel
theorem dX1_addLetter_35 : decode cX1_addLetter 35 = .ok (.iload_n 3, 1) := by decide +kernel
theorem dX1_addLetter_36 : decode cX1_addLetter 36 = .ok (.iastore, 1) := by decide +kernel
theorem dX1_addLetter_37 : decode cX1_addLetter 37 = .ok (.aload_n 0, 1) := by decide +kernel
theorem dX1_addLetter_38 : decode cX1_addLetter 38 = .ok (.dup, 1) := by decide +kernel
theorem dX1_addLetter_39 : decode cX1_addLetter 39 = .ok (.getfield 38, 3) := by decide +kernel
theorem dX1_addLetter_42 : decode cX1_addLetter 42 = .ok (.iconst 1, 1) := by decide +kernel
theorem dX1_addLetter_43 : decode cX1_addLetter 43 = .ok (.iadd, 1) := by decide +kernel
theorem dX1_addLetter_44 : decode cX1_addLetter 44 = .ok (.putfield 38, 3) := by decide +kernel
theorem dX1_addLetter_47 : decode cX1_addLetter 47 = .ok (.iload 4, 2) := by decide +kernel
theorem dX1_addLetter_49 : decode cX1_addLetter 49 = .ok (.ireturn, 1) := by decide +kernel
set_option maxRecDepth 20000 in
theorem ok_8 {l : Launch} {d : Nat} (IH : ∀ μ, μ < 196 → px_Met l px_P d μ) : px_ok l px_P d RX1 cX1_addLetter 5 (some .int) tb_8 :=
  ⟨px_Sp.of (ps_aload_n dX1_addLetter_0 rfl),
   px_Sp.of (ps_get kc_X1 (by decide) wf_RX1_38 dX1_addLetter_1),
   px_Sp.of (ps_istore dX1_addLetter_4 (by decide)),
   px_Sp.of (ps_iload dX1_addLetter_6),
   px_Sp.of (ps_bipush dX1_addLetter_8 (by decide)),
   px_Sp.of (ps_icmp_ge dX1_addLetter_10 (by decide)),
   px_Sp.of (ps_aload_n dX1_addLetter_13 rfl),
   px_Sp.of (ps_get kc_X1 (by decide) wf_RX1_9 dX1_addLetter_14),
   px_Sp.of (ps_iload dX1_addLetter_17),
   px_Sp.of (ps_iload_n dX1_addLetter_19 rfl),
   px_Sp.ofm (ps_iast dX1_addLetter_20),
   px_Sp.of (ps_aload_n dX1_addLetter_21 rfl),
   px_Sp.of (ps_get kc_X1 (by decide) wf_RX1_15 dX1_addLetter_22),
   px_Sp.of (ps_iload dX1_addLetter_25),
   px_Sp.of (ps_iload_n dX1_addLetter_27 rfl),
   px_Sp.ofm (ps_iast dX1_addLetter_28),
   px_Sp.of (ps_aload_n dX1_addLetter_29 rfl),
   px_Sp.of (ps_get kc_X1 (by decide) wf_RX1_18 dX1_addLetter_30),
   px_Sp.of (ps_iload dX1_addLetter_33),
   px_Sp.of (ps_iload_n dX1_addLetter_35 rfl),
   px_Sp.ofm (ps_iast dX1_addLetter_36),
   px_Sp.of (ps_aload_n dX1_addLetter_37 rfl),
   px_Sp.of (ps_dup dX1_addLetter_38),
   px_Sp.of (ps_get kc_X1 (by decide) wf_RX1_38 dX1_addLetter_39),
   px_Sp.of (ps_iconst dX1_addLetter_42 (by decide)),
   px_Sp.of (ps_iadd dX1_addLetter_43),
   px_Sp.ofm (ps_putI kc_X1 (by decide) wf_RX1_38 rfl (by decide +kernel) kp_X1_7 dX1_addLetter_44),
   px_Sp.of (ps_iload dX1_addLetter_47),
   ps_iret dX1_addLetter_49, trivial⟩
theorem mt_8 {l : Launch} {d : Nat} (IH : ∀ μ, μ < 196 → px_Met l px_P d μ) : px_Met l px_P (d + 1) 8 := px_met (own := RX1) rfl (by decide +kernel) (ok_8 IH)
theorem dX8_line_0 : decode cX8_line 0 = .ok (.aload_n 0, 1) := by decide +kernel
theorem dX8_line_1 : decode cX8_line 1 = .ok (.getfield 25, 3) := by decide +kernel
theorem dX8_line_4 : decode cX8_line 4 = .ok (.iload_n 1, 1) := by decide +kernel
theorem dX8_line_5 : decode cX8_line 5 = .ok (.invokevirtual 87, 3) := by decide +kernel
theorem dX8_line_8 : decode cX8_line 8 = .ok (.ifCond .ne 7, 3) := by decide +kernel
theorem dX8_line_11 : decode cX8_line 11 = .ok (.sipush (-1001), 3) := by decide +kernel
theorem dX8_line_14 : decode cX8_line 14 = .ok (.ireturn, 1) := by decide +kernel
theorem dX8_line_15 : decode cX8_line 15 = .ok (.iload_n 2, 1) := by decide +kernel
theorem dX8_line_16 : decode cX8_line 16 = .ok (.ifCond .lt 8, 3) := by decide +kernel
theorem dX8_line_19 : decode cX8_line 19 = .ok (.iload_n 2, 1) := by decide +kernel
theorem dX8_line_20 : decode cX8_line 20 = .ok (.iconst 5, 1) := by decide +kernel
theorem dX8_line_21 : decode cX8_line 21 = .ok (.if_icmp .le 7, 3) := by decide +kernel
theorem dX8_line_24 : decode cX8_line 24 = .ok (.sipush (-1002), 3) := by decide +kernel
theorem dX8_line_27 : decode cX8_line 27 = .ok (.ireturn, 1) := by decide +kernel
theorem dX8_line_28 : decode cX8_line 28 = .ok (.aload_n 0, 1) := by decide +kernel
theorem dX8_line_29 : decode cX8_line 29 = .ok (.getfield 25, 3) := by decide +kernel
theorem dX8_line_32 : decode cX8_line 32 = .ok (.getfield 107, 3) := by decide +kernel
theorem dX8_line_35 : decode cX8_line 35 = .ok (.iload_n 1, 1) := by decide +kernel
theorem dX8_line_36 : decode cX8_line 36 = .ok (.iaload, 1) := by decide +kernel
theorem dX8_line_37 : decode cX8_line 37 = .ok (.bipush 14, 2) := by decide +kernel
theorem dX8_line_39 : decode cX8_line 39 = .ok (.if_icmp .lt 7, 3) := by decide +kernel
theorem dX8_line_42 : decode cX8_line 42 = .ok (.sipush (-1004), 3) := by decide +kernel
theorem dX8_line_45 : decode cX8_line 45 = .ok (.ireturn, 1) := by decide +kernel
theorem dX8_line_46 : decode cX8_line 46 = .ok (.aload_n 0, 1) := by decide +kernel
theorem dX8_line_47 : decode cX8_line 47 = .ok (.getfield 25, 3) := by decide +kernel
theorem dX8_line_50 : decode cX8_line 50 = .ok (.iload_n 1, 1) := by decide +kernel
theorem dX8_line_51 : decode cX8_line 51 = .ok (.iload_n 2, 1) := by decide +kernel
theorem dX8_line_52 : decode cX8_line 52 = .ok (.aload_n 0, 1) := by decide +kernel
theorem dX8_line_53 : decode cX8_line 53 = .ok (.getfield 77, 3) := by decide +kernel
theorem dX8_line_56 : decode cX8_line 56 = .ok (.invokevirtual 110, 3) := by decide +kernel
theorem dX8_line_59 : decode cX8_line 59 = .ok (.istore_n 3, 1) := by decide +kernel
theorem dX8_line_60 : decode cX8_line 60 = .ok (.aload_n 0, 1) := by decide +kernel
theorem dX8_line_61 : decode cX8_line 61 = .ok (.lconst 0, 1) := by decide +kernel
theorem dX8_line_62 : decode cX8_line 62 = .ok (.putfield 77, 3) := by decide +kernel
theorem dX8_line_65 : decode cX8_line 65 = .ok (.aload_n 0, 1) := by decide +kernel
theorem dX8_line_66 : decode cX8_line 66 = .ok (.iconst 0, 1) := by decide +kernel
theorem dX8_line_67 : decode cX8_line 67 = .ok (.putfield 73, 3) := by decide +kernel
theorem dX8_line_70 : decode cX8_line 70 = .ok (.aload_n 0, 1) := by decide +kernel
theorem dX8_line_71 : decode cX8_line 71 = .ok (.getfield 34, 3) := by decide +kernel
theorem dX8_line_74 : decode cX8_line 74 = .ok (.iload_n 1, 1) := by decide +kernel
theorem dX8_line_75 : decode cX8_line 75 = .ok (.invokevirtual 114, 3) := by decide +kernel
theorem dX8_line_78 : decode cX8_line 78 = .ok (.aload_n 0, 1) := by decide +kernel
theorem dX8_line_79 : decode cX8_line 79 = .ok (.invokevirtual 100, 3) := by decide +kernel
theorem dX8_line_82 : decode cX8_line 82 = .ok (.iload_n 3, 1) := by decide +kernel
theorem dX8_line_83 : decode cX8_line 83 = .ok (.ireturn, 1) := by decide +kernel
set_option maxRecDepth 20000 in
theorem ok_9 {l : Launch} {d : Nat} (IH : ∀ μ, μ < 196 → px_Met l px_P d μ) : px_ok l px_P d RX8 cX8_line 4 (some .int) tb_9 :=
  ⟨px_Sp.of (ps_aload_n dX8_line_0 rfl),
   px_Sp.of (ps_get kc_X8 (by decide) wf_RX8_25 dX8_line_1),
   px_Sp.of (ps_iload_n dX8_line_4 rfl),
   ps_callV (IH 4 (by decide)) (C := RX1) (T := TX1) (N := 10) (ci := 1) rfl rfl (fc_4 _ _) wm_RX8_87 wi_yX1_has wl_yX1_has dX8_line_5,
   px_Sp.of (ps_if_ne dX8_line_8 (by decide)),
   px_Sp.of (ps_sipush dX8_line_11 (by decide)),
   ps_iret dX8_line_14,
   px_Sp.of (ps_iload_n dX8_line_15 rfl),
   px_Sp.of (ps_if_lt dX8_line_16 (by decide)),
   px_Sp.of (ps_iload_n dX8_line_19 rfl),
   px_Sp.of (ps_iconst dX8_line_20 (by decide)),
   px_Sp.of (ps_icmp_le dX8_line_21 (by decide)),
   px_Sp.of (ps_sipush dX8_line_24 (by decide)),
   ps_iret dX8_line_27,
   px_Sp.of (ps_aload_n dX8_line_28 rfl),
   px_Sp.of (ps_get kc_X8 (by decide) wf_RX8_25 dX8_line_29),
   px_Sp.of (ps_get kc_X1 (by decide) wf_RX8_107 dX8_line_32),
   px_Sp.of (ps_iload_n dX8_line_35 rfl),
   px_Sp.of (ps_iald dX8_line_36),
   px_Sp.of (ps_bipush dX8_line_37 (by decide)),
   px_Sp.of (ps_icmp_lt dX8_line_39 (by decide)),
   px_Sp.of (ps_sipush dX8_line_42 (by decide)),
   ps_iret dX8_line_45,
   px_Sp.of (ps_aload_n dX8_line_46 rfl),
   px_Sp.of (ps_get kc_X8 (by decide) wf_RX8_25 dX8_line_47),
   px_Sp.of (ps_iload_n dX8_line_50 rfl),
   px_Sp.of (ps_iload_n dX8_line_51 rfl),
   px_Sp.of (ps_aload_n dX8_line_52 rfl),
   px_Sp.of (ps_get kc_X8 (by decide) wf_RX8_77 dX8_line_53),
   ps_callV (IH 10 (by decide)) (C := RX1) (T := TX1) (N := 10) (ci := 1) rfl rfl (fc_10 _ _) wm_RX8_110 wi_yX1_addLine wl_yX1_addLine dX8_line_56,
   px_Sp.of (ps_istore_n dX8_line_59 rfl (by decide)),
   px_Sp.of (ps_aload_n dX8_line_60 rfl),
   px_Sp.of (ps_lconst dX8_line_61 (by decide)),
   px_Sp.ofm (ps_putI kc_X8 (by decide) wf_RX8_77 rfl (by decide +kernel) kp_X8_8 dX8_line_62),
   px_Sp.of (ps_aload_n dX8_line_65 rfl),
   px_Sp.of (ps_iconst dX8_line_66 (by decide)),
   px_Sp.ofm (ps_putI kc_X8 (by decide) wf_RX8_73 rfl (by decide +kernel) kp_X8_9 dX8_line_67),
   px_Sp.of (ps_aload_n dX8_line_70 rfl),
   px_Sp.of (ps_get kc_X8 (by decide) wf_RX8_34 dX8_line_71),
   px_Sp.of (ps_iload_n dX8_line_74 rfl),
   ps_callV (IH 12 (by decide)) (C := RX0) (T := TX0) (N := 5) (ci := 0) rfl rfl (fc_12 _ _) wm_RX8_114 wi_yX0_forgetLetter wl_yX0_forgetLetter dX8_line_75,
   px_Sp.of (ps_aload_n dX8_line_78 rfl),
   ps_callV (IH 7 (by decide)) (C := RX8) (T := TX8) (N := 10) (ci := 7) rfl rfl (fc_7 _ _) wm_RX8_100 wi_yX8_forgetFindings wl_yX8_forgetFindings dX8_line_79,
   px_Sp.of (ps_iload_n dX8_line_82 rfl),
   ps_iret dX8_line_83, trivial⟩
theorem mt_9 {l : Launch} {d : Nat} (IH : ∀ μ, μ < 196 → px_Met l px_P d μ) : px_Met l px_P (d + 1) 9 := px_met (own := RX8) rfl (by decide +kernel) (ok_9 IH)
theorem dX1_addLine_0 : decode cX1_addLine 0 = .ok (.aload_n 0, 1) := by decide +kernel
theorem dX1_addLine_1 : decode cX1_addLine 1 = .ok (.getfield 21, 3) := by decide +kernel
theorem dX1_addLine_4 : decode cX1_addLine 4 = .ok (.iload_n 1, 1) := by decide +kernel
theorem dX1_addLine_5 : decode cX1_addLine 5 = .ok (.iaload, 1) := by decide +kernel
theorem dX1_addLine_6 : decode cX1_addLine 6 = .ok (.istore 5, 2) := by decide +kernel
theorem dX1_addLine_8 : decode cX1_addLine 8 = .ok (.iload 5, 2) := by decide +kernel
theorem dX1_addLine_10 : decode cX1_addLine 10 = .ok (.bipush 14, 2) := by decide +kernel
theorem dX1_addLine_12 : decode cX1_addLine 12 = .ok (.if_icmp .ge 51, 3) := by decide +kernel
theorem dX1_addLine_15 : decode cX1_addLine 15 = .ok (.aload_n 0, 1) := by decide +kernel
theorem dX1_addLine_16 : decode cX1_addLine 16 = .ok (.getfield 27, 3) := by decide +kernel
theorem dX1_addLine_19 : decode cX1_addLine 19 = .ok (.iload_n 1, 1) := by decide +kernel
theorem dX1_addLine_20 : decode cX1_addLine 20 = .ok (.iload 5, 2) := by decide +kernel
theorem dX1_addLine_22 : decode cX1_addLine 22 = .ok (.invokestatic 59, 3) := by decide +kernel
theorem dX1_addLine_25 : decode cX1_addLine 25 = .ok (.iload_n 2, 1) := by decide +kernel
theorem dX1_addLine_26 : decode cX1_addLine 26 = .ok (.iastore, 1) := by decide +kernel
theorem dX1_addLine_27 : decode cX1_addLine 27 = .ok (.aload_n 0, 1) := by decide +kernel
theorem dX1_addLine_28 : decode cX1_addLine 28 = .ok (.getfield 30, 3) := by decide +kernel
theorem dX1_addLine_31 : decode cX1_addLine 31 = .ok (.iload_n 1, 1) := by decide +kernel
theorem dX1_addLine_32 : decode cX1_addLine 32 = .ok (.iload 5, 2) := by decide +kernel
theorem dX1_addLine_34 : decode cX1_addLine 34 = .ok (.invokestatic 59, 3) := by decide +kernel
theorem dX1_addLine_37 : decode cX1_addLine 37 = .ok (.lload_n 3, 1) := by decide +kernel
theorem dX1_addLine_38 : decode cX1_addLine 38 = .ok (.lastore, 1) := by decide +kernel
theorem dX1_addLine_39 : decode cX1_addLine 39 = .ok (.aload_n 0, 1) := by decide +kernel
theorem dX1_addLine_40 : decode cX1_addLine 40 = .ok (.getfield 21, 3) := by decide +kernel
theorem dX1_addLine_43 : decode cX1_addLine 43 = .ok (.iload_n 1, 1) := by decide +kernel
theorem dX1_addLine_44 : decode cX1_addLine 44 = .ok (.dup2, 1) := by decide +kernel
theorem dX1_addLine_45 : decode cX1_addLine 45 = .ok (.iaload, 1) := by decide +kernel
theorem dX1_addLine_46 : decode cX1_addLine 46 = .ok (.iconst 1, 1) := by decide +kernel
theorem dX1_addLine_47 : decode cX1_addLine 47 = .ok (.iadd, 1) := by decide +kernel
theorem dX1_addLine_48 : decode cX1_addLine 48 = .ok (.iastore, 1) := by decide +kernel
theorem dX1_addLine_49 : decode cX1_addLine 49 = .ok (.iload_n 2, 1) := by decide +kernel
theorem dX1_addLine_50 : decode cX1_addLine 50 = .ok (.ifCond .le 13, 3) := by decide +kernel
theorem dX1_addLine_53 : decode cX1_addLine 53 = .ok (.aload_n 0, 1) := by decide +kernel
theorem dX1_addLine_54 : decode cX1_addLine 54 = .ok (.getfield 24, 3) := by decide +kernel
theorem dX1_addLine_57 : decode cX1_addLine 57 = .ok (.iload_n 1, 1) := by decide +kernel
theorem dX1_addLine_58 : decode cX1_addLine 58 = .ok (.dup2, 1) := by decide +kernel
theorem dX1_addLine_59 : decode cX1_addLine 59 = .ok (.iaload, 1) := by decide +kernel
theorem dX1_addLine_60 : decode cX1_addLine 60 = .ok (.iconst 1, 1) := by decide +kernel
theorem dX1_addLine_61 : decode cX1_addLine 61 = .ok (.iadd, 1) := by decide +kernel
theorem dX1_addLine_62 : decode cX1_addLine 62 = .ok (.iastore, 1) := by decide +kernel
theorem dX1_addLine_63 : decode cX1_addLine 63 = .ok (.iload 5, 2) := by decide +kernel
theorem dX1_addLine_65 : decode cX1_addLine 65 = .ok (.ireturn, 1) := by decide +kernel
set_option maxRecDepth 20000 in
theorem ok_10 {l : Launch} {d : Nat} (IH : ∀ μ, μ < 196 → px_Met l px_P d μ) : px_ok l px_P d RX1 cX1_addLine 6 (some .int) tb_10 :=
  ⟨px_Sp.of (ps_aload_n dX1_addLine_0 rfl),
   px_Sp.of (ps_get kc_X1 (by decide) wf_RX1_21 dX1_addLine_1),
   px_Sp.of (ps_iload_n dX1_addLine_4 rfl),
   px_Sp.of (ps_iald dX1_addLine_5),
   px_Sp.of (ps_istore dX1_addLine_6 (by decide)),
   px_Sp.of (ps_iload dX1_addLine_8),
   px_Sp.of (ps_bipush dX1_addLine_10 (by decide)),
   px_Sp.of (ps_icmp_ge dX1_addLine_12 (by decide)),
   px_Sp.of (ps_aload_n dX1_addLine_15 rfl),
   px_Sp.of (ps_get kc_X1 (by decide) wf_RX1_27 dX1_addLine_16),
   px_Sp.of (ps_iload_n dX1_addLine_19 rfl),
   px_Sp.of (ps_iload dX1_addLine_20),
   ps_callSN (IH 11 (by decide)) (fc_11 _ _) (fun _ _ _ _ h => h.1.1) ws_yX8_spotOf dX1_addLine_22,
   px_Sp.of (ps_iload_n dX1_addLine_25 rfl),
   px_Sp.ofm (ps_iast dX1_addLine_26),
   px_Sp.of (ps_aload_n dX1_addLine_27 rfl),
   px_Sp.of (ps_get kc_X1 (by decide) wf_RX1_30 dX1_addLine_28),
   px_Sp.of (ps_iload_n dX1_addLine_31 rfl),
   px_Sp.of (ps_iload dX1_addLine_32),
   ps_callSN (IH 11 (by decide)) (fc_11 _ _) (fun _ _ _ _ h => h.1.1) ws_yX8_spotOf dX1_addLine_34,
   px_Sp.of (ps_lload_n dX1_addLine_37 rfl),
   px_Sp.ofm (ps_last dX1_addLine_38),
   px_Sp.of (ps_aload_n dX1_addLine_39 rfl),
   px_Sp.of (ps_get kc_X1 (by decide) wf_RX1_21 dX1_addLine_40),
   px_Sp.of (ps_iload_n dX1_addLine_43 rfl),
   px_Sp.of (ps_dup2 dX1_addLine_44),
   px_Sp.of (ps_iald dX1_addLine_45),
   px_Sp.of (ps_iconst dX1_addLine_46 (by decide)),
   px_Sp.of (ps_iadd dX1_addLine_47),
   px_Sp.ofm (ps_iast dX1_addLine_48),
   px_Sp.of (ps_iload_n dX1_addLine_49 rfl),
   px_Sp.of (ps_if_le dX1_addLine_50 (by decide)),
   px_Sp.of (ps_aload_n dX1_addLine_53 rfl),
   px_Sp.of (ps_get kc_X1 (by decide) wf_RX1_24 dX1_addLine_54),
   px_Sp.of (ps_iload_n dX1_addLine_57 rfl),
   px_Sp.of (ps_dup2 dX1_addLine_58),
   px_Sp.of (ps_iald dX1_addLine_59),
   px_Sp.of (ps_iconst dX1_addLine_60 (by decide)),
   px_Sp.of (ps_iadd dX1_addLine_61),
   px_Sp.ofm (ps_iast dX1_addLine_62),
   px_Sp.of (ps_iload dX1_addLine_63),
   ps_iret dX1_addLine_65, trivial⟩
theorem mt_10 {l : Launch} {d : Nat} (IH : ∀ μ, μ < 196 → px_Met l px_P d μ) : px_Met l px_P (d + 1) 10 := px_met (own := RX1) rfl (by decide +kernel) (ok_10 IH)
theorem dX8_spotOf_0 : decode cX8_spotOf 0 = .ok (.bipush 14, 2) := by decide +kernel
theorem dX8_spotOf_2 : decode cX8_spotOf 2 = .ok (.iload_n 0, 1) := by decide +kernel
theorem dX8_spotOf_3 : decode cX8_spotOf 3 = .ok (.imul, 1) := by decide +kernel
theorem dX8_spotOf_4 : decode cX8_spotOf 4 = .ok (.iload_n 1, 1) := by decide +kernel
theorem dX8_spotOf_5 : decode cX8_spotOf 5 = .ok (.iadd, 1) := by decide +kernel
theorem dX8_spotOf_6 : decode cX8_spotOf 6 = .ok (.ireturn, 1) := by decide +kernel
set_option maxRecDepth 20000 in
theorem ok_11 {l : Launch} {d : Nat} (IH : ∀ μ, μ < 196 → px_Met l px_P d μ) : px_ok l px_P d RX8 cX8_spotOf 2 (some .int) tb_11 :=
  ⟨px_Sp.of (ps_bipush dX8_spotOf_0 (by decide)),
   px_Sp.of (ps_iload_n dX8_spotOf_2 rfl),
   px_Sp.of (ps_imul dX8_spotOf_3),
   px_Sp.of (ps_iload_n dX8_spotOf_4 rfl),
   px_Sp.of (ps_iadd dX8_spotOf_5),
   ps_iret dX8_spotOf_6, trivial⟩
theorem mt_11 {l : Launch} {d : Nat} (IH : ∀ μ, μ < 196 → px_Met l px_P d μ) : px_Met l px_P (d + 1) 11 := px_met (own := RX8) rfl (by decide +kernel) (ok_11 IH)
theorem dX0_forgetLetter_0 : decode cX0_forgetLetter 0 = .ok (.iconst 0, 1) := by decide +kernel
theorem dX0_forgetLetter_1 : decode cX0_forgetLetter 1 = .ok (.istore_n 2, 1) := by decide +kernel
theorem dX0_forgetLetter_2 : decode cX0_forgetLetter 2 = .ok (.iload_n 2, 1) := by decide +kernel
theorem dX0_forgetLetter_3 : decode cX0_forgetLetter 3 = .ok (.bipush 40, 2) := by decide +kernel
theorem dX0_forgetLetter_5 : decode cX0_forgetLetter 5 = .ok (.if_icmp .ge 33, 3) := by decide +kernel
theorem dX0_forgetLetter_8 : decode cX0_forgetLetter 8 = .ok (.aload_n 0, 1) := by decide +kernel
theorem dX0_forgetLetter_9 : decode cX0_forgetLetter 9 = .ok (.getfield 9, 3) := by decide +kernel
theorem dX0_forgetLetter_12 : decode cX0_forgetLetter 12 = .ok (.bipush 40, 2) := by decide +kernel
theorem dX0_forgetLetter_14 : decode cX0_forgetLetter 14 = .ok (.iload_n 1, 1) := by decide +kernel
theorem dX0_forgetLetter_15 : decode cX0_forgetLetter 15 = .ok (.imul, 1) := by decide +kernel
theorem dX0_forgetLetter_16 : decode cX0_forgetLetter 16 = .ok (.iload_n 2, 1) := by decide +kernel
theorem dX0_forgetLetter_17 : decode cX0_forgetLetter 17 = .ok (.iadd, 1) := by decide +kernel
theorem dX0_forgetLetter_18 : decode cX0_forgetLetter 18 = .ok (.iconst (-1), 1) := by decide +kernel
theorem dX0_forgetLetter_19 : decode cX0_forgetLetter 19 = .ok (.iastore, 1) := by decide +kernel
theorem dX0_forgetLetter_20 : decode cX0_forgetLetter 20 = .ok (.aload_n 0, 1) := by decide +kernel
theorem dX0_forgetLetter_21 : decode cX0_forgetLetter 21 = .ok (.getfield 9, 3) := by decide +kernel
theorem dX0_forgetLetter_24 : decode cX0_forgetLetter 24 = .ok (.bipush 40, 2) := by decide +kernel
theorem dX0_forgetLetter_26 : decode cX0_forgetLetter 26 = .ok (.iload_n 2, 1) := by decide +kernel
theorem dX0_forgetLetter_27 : decode cX0_forgetLetter 27 = .ok (.imul, 1) := by decide +kernel
theorem dX0_forgetLetter_28 : decode cX0_forgetLetter 28 = .ok (.iload_n 1, 1) := by decide +kernel
theorem dX0_forgetLetter_29 : decode cX0_forgetLetter 29 = .ok (.iadd, 1) := by decide +kernel
theorem dX0_forgetLetter_30 : decode cX0_forgetLetter 30 = .ok (.iconst (-1), 1) := by decide +kernel
theorem dX0_forgetLetter_31 : decode cX0_forgetLetter 31 = .ok (.iastore, 1) := by decide +kernel
theorem dX0_forgetLetter_32 : decode cX0_forgetLetter 32 = .ok (.iinc 2 1, 3) := by decide +kernel
theorem dX0_forgetLetter_35 : decode cX0_forgetLetter 35 = .ok (.goto (-33), 3) := by decide +kernel
theorem dX0_forgetLetter_38 : decode cX0_forgetLetter 38 = .ok (.return_, 1) := by decide +kernel
set_option maxRecDepth 20000 in
theorem ok_12 {l : Launch} {d : Nat} (IH : ∀ μ, μ < 196 → px_Met l px_P d μ) : px_ok l px_P d RX0 cX0_forgetLetter 3 (none) tb_12 :=
  ⟨px_Sp.of (ps_iconst dX0_forgetLetter_0 (by decide)),
   px_Sp.of (ps_istore_n dX0_forgetLetter_1 rfl (by decide)),
   px_Sp.of (ps_iload_n dX0_forgetLetter_2 rfl),
   px_Sp.of (ps_bipush dX0_forgetLetter_3 (by decide)),
   px_Sp.of (ps_icmp_ge dX0_forgetLetter_5 (by decide)),
   px_Sp.of (ps_aload_n dX0_forgetLetter_8 rfl),
   px_Sp.of (ps_get kc_X0 (by decide) wf_RX0_9 dX0_forgetLetter_9),
   px_Sp.of (ps_bipush dX0_forgetLetter_12 (by decide)),
   px_Sp.of (ps_iload_n dX0_forgetLetter_14 rfl),
   px_Sp.of (ps_imul dX0_forgetLetter_15),
   px_Sp.of (ps_iload_n dX0_forgetLetter_16 rfl),
   px_Sp.of (ps_iadd dX0_forgetLetter_17),
   px_Sp.of (ps_iconst dX0_forgetLetter_18 (by decide)),
   px_Sp.ofm (ps_iast dX0_forgetLetter_19),
   px_Sp.of (ps_aload_n dX0_forgetLetter_20 rfl),
   px_Sp.of (ps_get kc_X0 (by decide) wf_RX0_9 dX0_forgetLetter_21),
   px_Sp.of (ps_bipush dX0_forgetLetter_24 (by decide)),
   px_Sp.of (ps_iload_n dX0_forgetLetter_26 rfl),
   px_Sp.of (ps_imul dX0_forgetLetter_27),
   px_Sp.of (ps_iload_n dX0_forgetLetter_28 rfl),
   px_Sp.of (ps_iadd dX0_forgetLetter_29),
   px_Sp.of (ps_iconst dX0_forgetLetter_30 (by decide)),
   px_Sp.ofm (ps_iast dX0_forgetLetter_31),
   px_Sp.of (ps_iinc dX0_forgetLetter_32 (by decide) (by decide)),
   px_Sp.of (ps_goto dX0_forgetLetter_35 (by decide)),
   ps_vret dX0_forgetLetter_38, trivial⟩
theorem mt_12 {l : Launch} {d : Nat} (IH : ∀ μ, μ < 196 → px_Met l px_P d μ) : px_Met l px_P (d + 1) 12 := px_met (own := RX0) rfl (by decide +kernel) (ok_12 IH)
theorem dX8_answer_0 : decode cX8_answer 0 = .ok (.aload_n 0, 1) := by decide +kernel
theorem dX8_answer_1 : decode cX8_answer 1 = .ok (.getfield 25, 3) := by decide +kernel
theorem dX8_answer_4 : decode cX8_answer 4 = .ok (.iload_n 1, 1) := by decide +kernel
theorem dX8_answer_5 : decode cX8_answer 5 = .ok (.invokevirtual 87, 3) := by decide +kernel
theorem dX8_answer_8 : decode cX8_answer 8 = .ok (.ifCond .ne 7, 3) := by decide +kernel
theorem dX8_answer_11 : decode cX8_answer 11 = .ok (.sipush (-1001), 3) := by decide +kernel
theorem dX8_answer_14 : decode cX8_answer 14 = .ok (.ireturn, 1) := by decide +kernel
theorem dX8_answer_15 : decode cX8_answer 15 = .ok (.iload_n 2, 1) := by decide +kernel
theorem dX8_answer_16 : decode cX8_answer 16 = .ok (.invokestatic 91, 3) := by decide +kernel
theorem dX8_answer_19 : decode cX8_answer 19 = .ok (.ifCond .ne 10, 3) := by decide +kernel
theorem dX8_answer_22 : decode cX8_answer 22 = .ok (.iload_n 3, 1) := by decide +kernel
theorem dX8_answer_23 : decode cX8_answer 23 = .ok (.invokestatic 94, 3) := by decide +kernel
theorem dX8_answer_26 : decode cX8_answer 26 = .ok (.ifCond .eq 7, 3) := by decide +kernel
theorem dX8_answer_29 : decode cX8_answer 29 = .ok (.sipush (-1002), 3) := by decide +kernel
theorem dX8_answer_32 : decode cX8_answer 32 = .ok (.ireturn, 1) := by decide +kernel
theorem dX8_answer_33 : decode cX8_answer 33 = .ok (.aload_n 0, 1) := by decide +kernel
theorem dX8_answer_34 : decode cX8_answer 34 = .ok (.getfield 25, 3) := by decide +kernel
theorem dX8_answer_37 : decode cX8_answer 37 = .ok (.getfield 97, 3) := by decide +kernel
theorem dX8_answer_40 : decode cX8_answer 40 = .ok (.bipush 40, 2) := by decide +kernel
theorem dX8_answer_42 : decode cX8_answer 42 = .ok (.if_icmp .lt 7, 3) := by decide +kernel
theorem dX8_answer_45 : decode cX8_answer 45 = .ok (.sipush (-1004), 3) := by decide +kernel
theorem dX8_answer_48 : decode cX8_answer 48 = .ok (.ireturn, 1) := by decide +kernel
theorem dX8_answer_49 : decode cX8_answer 49 = .ok (.aload_n 0, 1) := by decide +kernel
theorem dX8_answer_50 : decode cX8_answer 50 = .ok (.getfield 25, 3) := by decide +kernel
theorem dX8_answer_53 : decode cX8_answer 53 = .ok (.iload_n 2, 1) := by decide +kernel
theorem dX8_answer_54 : decode cX8_answer 54 = .ok (.iload_n 3, 1) := by decide +kernel
theorem dX8_answer_55 : decode cX8_answer 55 = .ok (.iload_n 1, 1) := by decide +kernel
theorem dX8_answer_56 : decode cX8_answer 56 = .ok (.invokevirtual 103, 3) := by decide +kernel
theorem dX8_answer_59 : decode cX8_answer 59 = .ok (.istore 4, 2) := by decide +kernel
theorem dX8_answer_61 : decode cX8_answer 61 = .ok (.aload_n 0, 1) := by decide +kernel
theorem dX8_answer_62 : decode cX8_answer 62 = .ok (.getfield 25, 3) := by decide +kernel
theorem dX8_answer_65 : decode cX8_answer 65 = .ok (.iload 4, 2) := by decide +kernel
theorem dX8_answer_67 : decode cX8_answer 67 = .ok (.iload_n 1, 1) := by decide +kernel
theorem dX8_answer_68 : decode cX8_answer 68 = .ok (.aload_n 0, 1) := by decide +kernel
theorem dX8_answer_69 : decode cX8_answer 69 = .ok (.getfield 9, 3) := by decide +kernel
theorem dX8_answer_72 : decode cX8_answer 72 = .ok (.iconst 3, 1) := by decide +kernel
theorem dX8_answer_73 : decode cX8_answer 73 = .ok (.iaload, 1) := by decide +kernel
theorem dX8_answer_74 : decode cX8_answer 74 = .ok (.aload_n 0, 1) := by decide +kernel
theorem dX8_answer_75 : decode cX8_answer 75 = .ok (.getfield 9, 3) := by decide +kernel
theorem dX8_answer_78 : decode cX8_answer 78 = .ok (.iconst 4, 1) := by decide +kernel
theorem dX8_answer_79 : decode cX8_answer 79 = .ok (.iaload, 1) := by decide +kernel
theorem dX8_answer_80 : decode cX8_answer 80 = .ok (.invokevirtual 118, 3) := by decide +kernel
theorem dX8_answer_83 : decode cX8_answer 83 = .ok (.aload_n 0, 1) := by decide +kernel
theorem dX8_answer_84 : decode cX8_answer 84 = .ok (.invokevirtual 100, 3) := by decide +kernel
theorem dX8_answer_87 : decode cX8_answer 87 = .ok (.iload 4, 2) := by decide +kernel
theorem dX8_answer_89 : decode cX8_answer 89 = .ok (.ireturn, 1) := by decide +kernel
set_option maxRecDepth 20000 in
theorem ok_13 {l : Launch} {d : Nat} (IH : ∀ μ, μ < 196 → px_Met l px_P d μ) : px_ok l px_P d RX8 cX8_answer 5 (some .int) tb_13 :=
  ⟨px_Sp.of (ps_aload_n dX8_answer_0 rfl),
   px_Sp.of (ps_get kc_X8 (by decide) wf_RX8_25 dX8_answer_1),
   px_Sp.of (ps_iload_n dX8_answer_4 rfl),
   ps_callV (IH 4 (by decide)) (C := RX1) (T := TX1) (N := 10) (ci := 1) rfl rfl (fc_4 _ _) wm_RX8_87 wi_yX1_has wl_yX1_has dX8_answer_5,
   px_Sp.of (ps_if_ne dX8_answer_8 (by decide)),
   px_Sp.of (ps_sipush dX8_answer_11 (by decide)),
   ps_iret dX8_answer_14,
   px_Sp.of (ps_iload_n dX8_answer_15 rfl),
   ps_callS (IH 5 (by decide)) (fc_5 _ _) wm_RX8_91 ws_yX8_isWrongWriter dX8_answer_16,
   px_Sp.of (ps_if_ne dX8_answer_19 (by decide)),
   px_Sp.of (ps_iload_n dX8_answer_22 rfl),
   ps_callS (IH 6 (by decide)) (fc_6 _ _) wm_RX8_94 ws_yX8_isWrongDay dX8_answer_23,
   px_Sp.of (ps_if_eq dX8_answer_26 (by decide)),
   px_Sp.of (ps_sipush dX8_answer_29 (by decide)),
   ps_iret dX8_answer_32,
   px_Sp.of (ps_aload_n dX8_answer_33 rfl),
   px_Sp.of (ps_get kc_X8 (by decide) wf_RX8_25 dX8_answer_34),
   px_Sp.of (ps_get kc_X1 (by decide) wf_RX8_97 dX8_answer_37),
   px_Sp.of (ps_bipush dX8_answer_40 (by decide)),
   px_Sp.of (ps_icmp_lt dX8_answer_42 (by decide)),
   px_Sp.of (ps_sipush dX8_answer_45 (by decide)),
   ps_iret dX8_answer_48,
   px_Sp.of (ps_aload_n dX8_answer_49 rfl),
   px_Sp.of (ps_get kc_X8 (by decide) wf_RX8_25 dX8_answer_50),
   px_Sp.of (ps_iload_n dX8_answer_53 rfl),
   px_Sp.of (ps_iload_n dX8_answer_54 rfl),
   px_Sp.of (ps_iload_n dX8_answer_55 rfl),
   ps_callV (IH 8 (by decide)) (C := RX1) (T := TX1) (N := 10) (ci := 1) rfl rfl (fc_8 _ _) wm_RX8_103 wi_yX1_addLetter wl_yX1_addLetter dX8_answer_56,
   px_Sp.of (ps_istore dX8_answer_59 (by decide)),
   px_Sp.of (ps_aload_n dX8_answer_61 rfl),
   px_Sp.of (ps_get kc_X8 (by decide) wf_RX8_25 dX8_answer_62),
   px_Sp.of (ps_iload dX8_answer_65),
   px_Sp.of (ps_iload_n dX8_answer_67 rfl),
   px_Sp.of (ps_aload_n dX8_answer_68 rfl),
   px_Sp.of (ps_get kc_X8 (by decide) wf_RX8_9 dX8_answer_69),
   px_Sp.of (ps_iconst dX8_answer_72 (by decide)),
   px_Sp.of (ps_iald dX8_answer_73),
   px_Sp.of (ps_aload_n dX8_answer_74 rfl),
   px_Sp.of (ps_get kc_X8 (by decide) wf_RX8_9 dX8_answer_75),
   px_Sp.of (ps_iconst dX8_answer_78 (by decide)),
   px_Sp.of (ps_iald dX8_answer_79),
   ps_callV (IH 14 (by decide)) (C := RX1) (T := TX1) (N := 10) (ci := 1) rfl rfl (fc_14 _ _) wm_RX8_118 wi_yX1_quoteInto wl_yX1_quoteInto dX8_answer_80,
   px_Sp.of (ps_aload_n dX8_answer_83 rfl),
   ps_callV (IH 7 (by decide)) (C := RX8) (T := TX8) (N := 10) (ci := 7) rfl rfl (fc_7 _ _) wm_RX8_100 wi_yX8_forgetFindings wl_yX8_forgetFindings dX8_answer_84,
   px_Sp.of (ps_iload dX8_answer_87),
   ps_iret dX8_answer_89, trivial⟩
theorem mt_13 {l : Launch} {d : Nat} (IH : ∀ μ, μ < 196 → px_Met l px_P d μ) : px_Met l px_P (d + 1) 13 := px_met (own := RX8) rfl (by decide +kernel) (ok_13 IH)
theorem dX1_quoteInto_0 : decode cX1_quoteInto 0 = .ok (.iload_n 3, 1) := by decide +kernel
theorem dX1_quoteInto_1 : decode cX1_quoteInto 1 = .ok (.ineg, 1) := by decide +kernel
theorem dX1_quoteInto_2 : decode cX1_quoteInto 2 = .ok (.istore 5, 2) := by decide +kernel
theorem dX1_quoteInto_4 : decode cX1_quoteInto 4 = .ok (.iconst 0, 1) := by decide +kernel
theorem dX1_quoteInto_5 : decode cX1_quoteInto 5 = .ok (.istore 6, 2) := by decide +kernel
theorem dX1_quoteInto_7 : decode cX1_quoteInto 7 = .ok (.iload 6, 2) := by decide +kernel
theorem dX1_quoteInto_9 : decode cX1_quoteInto 9 = .ok (.aload_n 0, 1) := by decide +kernel
theorem dX1_quoteInto_10 : decode cX1_quoteInto 10 = .ok (.getfield 21, 3) := by decide +kernel
theorem dX1_quoteInto_13 : decode cX1_quoteInto 13 = .ok (.iload_n 2, 1) := by decide +kernel
theorem dX1_quoteInto_14 : decode cX1_quoteInto 14 = .ok (.iaload, 1) := by decide +kernel
theorem dX1_quoteInto_15 : decode cX1_quoteInto 15 = .ok (.if_icmp .ge 28, 3) := by decide +kernel
theorem dX1_quoteInto_18 : decode cX1_quoteInto 18 = .ok (.aload_n 0, 1) := by decide +kernel
theorem dX1_quoteInto_19 : decode cX1_quoteInto 19 = .ok (.getfield 27, 3) := by decide +kernel
theorem dX1_quoteInto_22 : decode cX1_quoteInto 22 = .ok (.iload_n 2, 1) := by decide +kernel
theorem dX1_quoteInto_23 : decode cX1_quoteInto 23 = .ok (.iload 6, 2) := by decide +kernel
theorem dX1_quoteInto_25 : decode cX1_quoteInto 25 = .ok (.invokestatic 59, 3) := by decide +kernel
theorem dX1_quoteInto_28 : decode cX1_quoteInto 28 = .ok (.iaload, 1) := by decide +kernel
theorem dX1_quoteInto_29 : decode cX1_quoteInto 29 = .ok (.iload 4, 2) := by decide +kernel
theorem dX1_quoteInto_31 : decode cX1_quoteInto 31 = .ok (.if_icmp .ge 6, 3) := by decide +kernel
theorem dX1_quoteInto_34 : decode cX1_quoteInto 34 = .ok (.iinc 5 1, 3) := by decide +kernel
theorem dX1_quoteInto_37 : decode cX1_quoteInto 37 = .ok (.iinc 6 1, 3) := by decide +kernel
theorem dX1_quoteInto_40 : decode cX1_quoteInto 40 = .ok (.goto (-33), 3) := by decide +kernel
theorem dX1_quoteInto_43 : decode cX1_quoteInto 43 = .ok (.iconst 0, 1) := by decide +kernel
theorem dX1_quoteInto_44 : decode cX1_quoteInto 44 = .ok (.istore 6, 2) := by decide +kernel
theorem dX1_quoteInto_46 : decode cX1_quoteInto 46 = .ok (.iload 6, 2) := by decide +kernel
theorem dX1_quoteInto_48 : decode cX1_quoteInto 48 = .ok (.aload_n 0, 1) := by decide +kernel
theorem dX1_quoteInto_49 : decode cX1_quoteInto 49 = .ok (.getfield 21, 3) := by decide +kernel
theorem dX1_quoteInto_52 : decode cX1_quoteInto 52 = .ok (.iload_n 2, 1) := by decide +kernel
theorem dX1_quoteInto_53 : decode cX1_quoteInto 53 = .ok (.iaload, 1) := by decide +kernel
theorem dX1_quoteInto_54 : decode cX1_quoteInto 54 = .ok (.if_icmp .ge 65, 3) := by decide +kernel
theorem dX1_quoteInto_57 : decode cX1_quoteInto 57 = .ok (.iload_n 2, 1) := by decide +kernel
theorem dX1_quoteInto_58 : decode cX1_quoteInto 58 = .ok (.iload 6, 2) := by decide +kernel
theorem dX1_quoteInto_60 : decode cX1_quoteInto 60 = .ok (.invokestatic 59, 3) := by decide +kernel
theorem dX1_quoteInto_63 : decode cX1_quoteInto 63 = .ok (.istore 7, 2) := by decide +kernel
theorem dX1_quoteInto_65 : decode cX1_quoteInto 65 = .ok (.aload_n 0, 1) := by decide +kernel
theorem dX1_quoteInto_66 : decode cX1_quoteInto 66 = .ok (.getfield 27, 3) := by decide +kernel
theorem dX1_quoteInto_69 : decode cX1_quoteInto 69 = .ok (.iload 7, 2) := by decide +kernel
theorem dX1_quoteInto_71 : decode cX1_quoteInto 71 = .ok (.iaload, 1) := by decide +kernel
theorem dX1_quoteInto_72 : decode cX1_quoteInto 72 = .ok (.iload 4, 2) := by decide +kernel
theorem dX1_quoteInto_74 : decode cX1_quoteInto 74 = .ok (.if_icmp .lt 6, 3) := by decide +kernel
theorem dX1_quoteInto_77 : decode cX1_quoteInto 77 = .ok (.goto 36, 3) := by decide +kernel
theorem dX1_quoteInto_80 : decode cX1_quoteInto 80 = .ok (.iload 5, 2) := by decide +kernel
theorem dX1_quoteInto_82 : decode cX1_quoteInto 82 = .ok (.ifCond .le 9, 3) := by decide +kernel
theorem dX1_quoteInto_85 : decode cX1_quoteInto 85 = .ok (.iinc 5 (-1), 3) := by decide +kernel
theorem dX1_quoteInto_88 : decode cX1_quoteInto 88 = .ok (.goto 25, 3) := by decide +kernel
theorem dX1_quoteInto_91 : decode cX1_quoteInto 91 = .ok (.aload_n 0, 1) := by decide +kernel
theorem dX1_quoteInto_92 : decode cX1_quoteInto 92 = .ok (.iload_n 1, 1) := by decide +kernel
theorem dX1_quoteInto_93 : decode cX1_quoteInto 93 = .ok (.aload_n 0, 1) := by decide +kernel
theorem dX1_quoteInto_94 : decode cX1_quoteInto 94 = .ok (.getfield 27, 3) := by decide +kernel
theorem dX1_quoteInto_97 : decode cX1_quoteInto 97 = .ok (.iload 7, 2) := by decide +kernel
theorem dX1_quoteInto_99 : decode cX1_quoteInto 99 = .ok (.iaload, 1) := by decide +kernel
theorem dX1_quoteInto_100 : decode cX1_quoteInto 100 = .ok (.iconst 1, 1) := by decide +kernel
theorem dX1_quoteInto_101 : decode cX1_quoteInto 101 = .ok (.iadd, 1) := by decide +kernel
theorem dX1_quoteInto_102 : decode cX1_quoteInto 102 = .ok (.aload_n 0, 1) := by decide +kernel
theorem dX1_quoteInto_103 : decode cX1_quoteInto 103 = .ok (.getfield 30, 3) := by decide +kernel
theorem dX1_quoteInto_106 : decode cX1_quoteInto 106 = .ok (.iload 7, 2) := by decide +kernel
theorem dX1_quoteInto_108 : decode cX1_quoteInto 108 = .ok (.laload, 1) := by decide +kernel
theorem dX1_quoteInto_109 : decode cX1_quoteInto 109 = .ok (.invokevirtual 63, 3) := by decide +kernel
theorem dX1_quoteInto_112 : decode cX1_quoteInto 112 = .ok (.pop, 1) := by decide +kernel
theorem dX1_quoteInto_113 : decode cX1_quoteInto 113 = .ok (.iinc 6 1, 3) := by decide +kernel
theorem dX1_quoteInto_116 : decode cX1_quoteInto 116 = .ok (.goto (-70), 3) := by decide +kernel
theorem dX1_quoteInto_119 : decode cX1_quoteInto 119 = .ok (.return_, 1) := by decide +kernel
set_option maxRecDepth 20000 in
theorem ok_14 {l : Launch} {d : Nat} (IH : ∀ μ, μ < 196 → px_Met l px_P d μ) : px_ok l px_P d RX1 cX1_quoteInto 8 (none) tb_14 :=
  ⟨px_Sp.of (ps_iload_n dX1_quoteInto_0 rfl),
   px_Sp.of (ps_ineg dX1_quoteInto_1),
   px_Sp.of (ps_istore dX1_quoteInto_2 (by decide)),
   px_Sp.of (ps_iconst dX1_quoteInto_4 (by decide)),
   px_Sp.of (ps_istore dX1_quoteInto_5 (by decide)),
   px_Sp.of (ps_iload dX1_quoteInto_7),
   px_Sp.of (ps_aload_n dX1_quoteInto_9 rfl),
   px_Sp.of (ps_get kc_X1 (by decide) wf_RX1_21 dX1_quoteInto_10),
   px_Sp.of (ps_iload_n dX1_quoteInto_13 rfl),
   px_Sp.of (ps_iald dX1_quoteInto_14),
   px_Sp.of (ps_icmp_ge dX1_quoteInto_15 (by decide)),
   px_Sp.of (ps_aload_n dX1_quoteInto_18 rfl),
   px_Sp.of (ps_get kc_X1 (by decide) wf_RX1_27 dX1_quoteInto_19),
   px_Sp.of (ps_iload_n dX1_quoteInto_22 rfl),
   px_Sp.of (ps_iload dX1_quoteInto_23),
   ps_callSN (IH 11 (by decide)) (fc_11 _ _) (fun _ _ _ _ h => h.1.1) ws_yX8_spotOf dX1_quoteInto_25,
   px_Sp.of (ps_iald dX1_quoteInto_28),
   px_Sp.of (ps_iload dX1_quoteInto_29),
   px_Sp.of (ps_icmp_ge dX1_quoteInto_31 (by decide)),
   px_Sp.of (ps_iinc dX1_quoteInto_34 (by decide) (by decide)),
   px_Sp.of (ps_iinc dX1_quoteInto_37 (by decide) (by decide)),
   px_Sp.of (ps_goto dX1_quoteInto_40 (by decide)),
   px_Sp.of (ps_iconst dX1_quoteInto_43 (by decide)),
   px_Sp.of (ps_istore dX1_quoteInto_44 (by decide)),
   px_Sp.of (ps_iload dX1_quoteInto_46),
   px_Sp.of (ps_aload_n dX1_quoteInto_48 rfl),
   px_Sp.of (ps_get kc_X1 (by decide) wf_RX1_21 dX1_quoteInto_49),
   px_Sp.of (ps_iload_n dX1_quoteInto_52 rfl),
   px_Sp.of (ps_iald dX1_quoteInto_53),
   px_Sp.of (ps_icmp_ge dX1_quoteInto_54 (by decide)),
   px_Sp.of (ps_iload_n dX1_quoteInto_57 rfl),
   px_Sp.of (ps_iload dX1_quoteInto_58),
   ps_callSN (IH 11 (by decide)) (fc_11 _ _) (fun _ _ _ _ h => h.1.1) ws_yX8_spotOf dX1_quoteInto_60,
   px_Sp.of (ps_istore dX1_quoteInto_63 (by decide)),
   px_Sp.of (ps_aload_n dX1_quoteInto_65 rfl),
   px_Sp.of (ps_get kc_X1 (by decide) wf_RX1_27 dX1_quoteInto_66),
   px_Sp.of (ps_iload dX1_quoteInto_69),
   px_Sp.of (ps_iald dX1_quoteInto_71),
   px_Sp.of (ps_iload dX1_quoteInto_72),
   px_Sp.of (ps_icmp_lt dX1_quoteInto_74 (by decide)),
   px_Sp.of (ps_goto dX1_quoteInto_77 (by decide)),
   px_Sp.of (ps_iload dX1_quoteInto_80),
   px_Sp.of (ps_if_le dX1_quoteInto_82 (by decide)),
   px_Sp.of (ps_iinc dX1_quoteInto_85 (by decide) (by decide)),
   px_Sp.of (ps_goto dX1_quoteInto_88 (by decide)),
   px_Sp.of (ps_aload_n dX1_quoteInto_91 rfl),
   px_Sp.of (ps_iload_n dX1_quoteInto_92 rfl),
   px_Sp.of (ps_aload_n dX1_quoteInto_93 rfl),
   px_Sp.of (ps_get kc_X1 (by decide) wf_RX1_27 dX1_quoteInto_94),
   px_Sp.of (ps_iload dX1_quoteInto_97),
   px_Sp.of (ps_iald dX1_quoteInto_99),
   px_Sp.of (ps_iconst dX1_quoteInto_100 (by decide)),
   px_Sp.of (ps_iadd dX1_quoteInto_101),
   px_Sp.of (ps_aload_n dX1_quoteInto_102 rfl),
   px_Sp.of (ps_get kc_X1 (by decide) wf_RX1_30 dX1_quoteInto_103),
   px_Sp.of (ps_iload dX1_quoteInto_106),
   px_Sp.of (ps_lald dX1_quoteInto_108),
   ps_callV (IH 10 (by decide)) (C := RX1) (T := TX1) (N := 10) (ci := 1) rfl rfl (fc_10 _ _) wm_RX1_63 wi_yX1_addLine wl_yX1_addLine dX1_quoteInto_109,
   px_Sp.of (ps_pop dX1_quoteInto_112),
   px_Sp.of (ps_iinc dX1_quoteInto_113 (by decide) (by decide)),
   px_Sp.of (ps_goto dX1_quoteInto_116 (by decide)),
   ps_vret dX1_quoteInto_119, trivial⟩
theorem mt_14 {l : Launch} {d : Nat} (IH : ∀ μ, μ < 196 → px_Met l px_P d μ) : px_Met l px_P (d + 1) 14 := px_met (own := RX1) rfl (by decide +kernel) (ok_14 IH)
theorem dX8_take_0 : decode cX8_take 0 = .ok (.aload_n 0, 1) := by decide +kernel
theorem dX8_take_1 : decode cX8_take 1 = .ok (.getfield 25, 3) := by decide +kernel
theorem dX8_take_4 : decode cX8_take 4 = .ok (.iload_n 1, 1) := by decide +kernel
theorem dX8_take_5 : decode cX8_take 5 = .ok (.invokevirtual 87, 3) := by decide +kernel
theorem dX8_take_8 : decode cX8_take 8 = .ok (.ifCond .ne 7, 3) := by decide +kernel
theorem dX8_take_11 : decode cX8_take 11 = .ok (.sipush (-1001), 3) := by decide +kernel
theorem dX8_take_14 : decode cX8_take 14 = .ok (.ireturn, 1) := by decide +kernel
theorem dX8_take_15 : decode cX8_take 15 = .ok (.aload_n 0, 1) := by decide +kernel
theorem dX8_take_16 : decode cX8_take 16 = .ok (.getfield 25, 3) := by decide +kernel
theorem dX8_take_19 : decode cX8_take 19 = .ok (.iload_n 1, 1) := by decide +kernel
theorem dX8_take_20 : decode cX8_take 20 = .ok (.invokevirtual 122, 3) := by decide +kernel
theorem dX8_take_23 : decode cX8_take 23 = .ok (.ifCond .eq 7, 3) := by decide +kernel
theorem dX8_take_26 : decode cX8_take 26 = .ok (.sipush (-1003), 3) := by decide +kernel
theorem dX8_take_29 : decode cX8_take 29 = .ok (.ireturn, 1) := by decide +kernel
theorem dX8_take_30 : decode cX8_take 30 = .ok (.aload_n 0, 1) := by decide +kernel
theorem dX8_take_31 : decode cX8_take 31 = .ok (.getfield 25, 3) := by decide +kernel
theorem dX8_take_34 : decode cX8_take 34 = .ok (.iload_n 1, 1) := by decide +kernel
theorem dX8_take_35 : decode cX8_take 35 = .ok (.invokevirtual 125, 3) := by decide +kernel
theorem dX8_take_38 : decode cX8_take 38 = .ok (.aload_n 0, 1) := by decide +kernel
theorem dX8_take_39 : decode cX8_take 39 = .ok (.invokevirtual 100, 3) := by decide +kernel
theorem dX8_take_42 : decode cX8_take 42 = .ok (.iconst 1, 1) := by decide +kernel
theorem dX8_take_43 : decode cX8_take 43 = .ok (.ireturn, 1) := by decide +kernel
set_option maxRecDepth 20000 in
theorem ok_15 {l : Launch} {d : Nat} (IH : ∀ μ, μ < 196 → px_Met l px_P d μ) : px_ok l px_P d RX8 cX8_take 2 (some .int) tb_15 :=
  ⟨px_Sp.of (ps_aload_n dX8_take_0 rfl),
   px_Sp.of (ps_get kc_X8 (by decide) wf_RX8_25 dX8_take_1),
   px_Sp.of (ps_iload_n dX8_take_4 rfl),
   ps_callV (IH 4 (by decide)) (C := RX1) (T := TX1) (N := 10) (ci := 1) rfl rfl (fc_4 _ _) wm_RX8_87 wi_yX1_has wl_yX1_has dX8_take_5,
   px_Sp.of (ps_if_ne dX8_take_8 (by decide)),
   px_Sp.of (ps_sipush dX8_take_11 (by decide)),
   ps_iret dX8_take_14,
   px_Sp.of (ps_aload_n dX8_take_15 rfl),
   px_Sp.of (ps_get kc_X8 (by decide) wf_RX8_25 dX8_take_16),
   px_Sp.of (ps_iload_n dX8_take_19 rfl),
   ps_callV (IH 16 (by decide)) (C := RX1) (T := TX1) (N := 10) (ci := 1) rfl rfl (fc_16 _ _) wm_RX8_122 wi_yX1_isTaken wl_yX1_isTaken dX8_take_20,
   px_Sp.of (ps_if_eq dX8_take_23 (by decide)),
   px_Sp.of (ps_sipush dX8_take_26 (by decide)),
   ps_iret dX8_take_29,
   px_Sp.of (ps_aload_n dX8_take_30 rfl),
   px_Sp.of (ps_get kc_X8 (by decide) wf_RX8_25 dX8_take_31),
   px_Sp.of (ps_iload_n dX8_take_34 rfl),
   ps_callV (IH 17 (by decide)) (C := RX1) (T := TX1) (N := 10) (ci := 1) rfl rfl (fc_17 _ _) wm_RX8_125 wi_yX1_turnTaken wl_yX1_turnTaken dX8_take_35,
   px_Sp.of (ps_aload_n dX8_take_38 rfl),
   ps_callV (IH 7 (by decide)) (C := RX8) (T := TX8) (N := 10) (ci := 7) rfl rfl (fc_7 _ _) wm_RX8_100 wi_yX8_forgetFindings wl_yX8_forgetFindings dX8_take_39,
   px_Sp.of (ps_iconst dX8_take_42 (by decide)),
   ps_iret dX8_take_43, trivial⟩
theorem mt_15 {l : Launch} {d : Nat} (IH : ∀ μ, μ < 196 → px_Met l px_P d μ) : px_Met l px_P (d + 1) 15 := px_met (own := RX8) rfl (by decide +kernel) (ok_15 IH)
theorem dX1_isTaken_0 : decode cX1_isTaken 0 = .ok (.aload_n 0, 1) := by decide +kernel
theorem dX1_isTaken_1 : decode cX1_isTaken 1 = .ok (.getfield 45, 3) := by decide +kernel
theorem dX1_isTaken_4 : decode cX1_isTaken 4 = .ok (.iload_n 1, 1) := by decide +kernel
theorem dX1_isTaken_5 : decode cX1_isTaken 5 = .ok (.lushr, 1) := by decide +kernel
theorem dX1_isTaken_6 : decode cX1_isTaken 6 = .ok (.lconst 1, 1) := by decide +kernel
theorem dX1_isTaken_7 : decode cX1_isTaken 7 = .ok (.land, 1) := by decide +kernel
theorem dX1_isTaken_8 : decode cX1_isTaken 8 = .ok (.lconst 0, 1) := by decide +kernel
theorem dX1_isTaken_9 : decode cX1_isTaken 9 = .ok (.lcmp, 1) := by decide +kernel
theorem dX1_isTaken_10 : decode cX1_isTaken 10 = .ok (.ifCond .eq 7, 3) := by decide +kernel
theorem dX1_isTaken_13 : decode cX1_isTaken 13 = .ok (.iconst 1, 1) := by decide +kernel
theorem dX1_isTaken_14 : decode cX1_isTaken 14 = .ok (.goto 4, 3) := by decide +kernel
theorem dX1_isTaken_17 : decode cX1_isTaken 17 = .ok (.iconst 0, 1) := by decide +kernel
theorem dX1_isTaken_18 : decode cX1_isTaken 18 = .ok (.ireturn, 1) := by decide +kernel
set_option maxRecDepth 20000 in
theorem ok_16 {l : Launch} {d : Nat} (IH : ∀ μ, μ < 196 → px_Met l px_P d μ) : px_ok l px_P d RX1 cX1_isTaken 2 (some .boolean) tb_16 :=
  ⟨px_Sp.of (ps_aload_n dX1_isTaken_0 rfl),
   px_Sp.of (ps_get kc_X1 (by decide) wf_RX1_45 dX1_isTaken_1),
   px_Sp.of (ps_iload_n dX1_isTaken_4 rfl),
   px_Sp.of (ps_lushr dX1_isTaken_5),
   px_Sp.of (ps_lconst dX1_isTaken_6 (by decide)),
   px_Sp.of (ps_land dX1_isTaken_7),
   px_Sp.of (ps_lconst dX1_isTaken_8 (by decide)),
   px_Sp.of (ps_lcmp dX1_isTaken_9),
   px_Sp.of (ps_if_eq dX1_isTaken_10 (by decide)),
   px_Sp.of (ps_iconst dX1_isTaken_13 (by decide)),
   px_Sp.of (ps_goto dX1_isTaken_14 (by decide)),
   px_Sp.of (ps_iconst dX1_isTaken_17 (by decide)),
   ps_zret dX1_isTaken_18, trivial⟩
theorem mt_16 {l : Launch} {d : Nat} (IH : ∀ μ, μ < 196 → px_Met l px_P d μ) : px_Met l px_P (d + 1) 16 := px_met (own := RX1) rfl (by decide +kernel) (ok_16 IH)
theorem dX1_turnTaken_0 : decode cX1_turnTaken 0 = .ok (.aload_n 0, 1) := by decide +kernel
theorem dX1_turnTaken_1 : decode cX1_turnTaken 1 = .ok (.dup, 1) := by decide +kernel
theorem dX1_turnTaken_2 : decode cX1_turnTaken 2 = .ok (.getfield 45, 3) := by decide +kernel
theorem dX1_turnTaken_5 : decode cX1_turnTaken 5 = .ok (.lconst 1, 1) := by decide +kernel
theorem dX1_turnTaken_6 : decode cX1_turnTaken 6 = .ok (.iload_n 1, 1) := by decide +kernel
theorem dX1_turnTaken_7 : decode cX1_turnTaken 7 = .ok (.lshl, 1) := by decide +kernel
theorem dX1_turnTaken_8 : decode cX1_turnTaken 8 = .ok (.lxor, 1) := by decide +kernel
theorem dX1_turnTaken_9 : decode cX1_turnTaken 9 = .ok (.putfield 45, 3) := by decide +kernel
theorem dX1_turnTaken_12 : decode cX1_turnTaken 12 = .ok (.return_, 1) := by decide +kernel
set_option maxRecDepth 20000 in
theorem ok_17 {l : Launch} {d : Nat} (IH : ∀ μ, μ < 196 → px_Met l px_P d μ) : px_ok l px_P d RX1 cX1_turnTaken 2 (none) tb_17 :=
  ⟨px_Sp.of (ps_aload_n dX1_turnTaken_0 rfl),
   px_Sp.of (ps_dup dX1_turnTaken_1),
   px_Sp.of (ps_get kc_X1 (by decide) wf_RX1_45 dX1_turnTaken_2),
   px_Sp.of (ps_lconst dX1_turnTaken_5 (by decide)),
   px_Sp.of (ps_iload_n dX1_turnTaken_6 rfl),
   px_Sp.of (ps_lshl dX1_turnTaken_7),
   px_Sp.of (ps_lxor dX1_turnTaken_8),
   px_Sp.ofm (ps_putI kc_X1 (by decide) wf_RX1_45 rfl (by decide +kernel) kp_X1_9 dX1_turnTaken_9),
   ps_vret dX1_turnTaken_12, trivial⟩
theorem mt_17 {l : Launch} {d : Nat} (IH : ∀ μ, μ < 196 → px_Met l px_P d μ) : px_Met l px_P (d + 1) 17 := px_met (own := RX1) rfl (by decide +kernel) (ok_17 IH)
theorem dX8_put_0 : decode cX8_put 0 = .ok (.aload_n 0, 1) := by decide +kernel
theorem dX8_put_1 : decode cX8_put 1 = .ok (.getfield 25, 3) := by decide +kernel
theorem dX8_put_4 : decode cX8_put 4 = .ok (.iload_n 1, 1) := by decide +kernel
theorem dX8_put_5 : decode cX8_put 5 = .ok (.invokevirtual 87, 3) := by decide +kernel
theorem dX8_put_8 : decode cX8_put 8 = .ok (.ifCond .ne 7, 3) := by decide +kernel
theorem dX8_put_11 : decode cX8_put 11 = .ok (.sipush (-1001), 3) := by decide +kernel
theorem dX8_put_14 : decode cX8_put 14 = .ok (.ireturn, 1) := by decide +kernel
theorem dX8_put_15 : decode cX8_put 15 = .ok (.aload_n 0, 1) := by decide +kernel
theorem dX8_put_16 : decode cX8_put 16 = .ok (.getfield 25, 3) := by decide +kernel
theorem dX8_put_19 : decode cX8_put 19 = .ok (.iload_n 1, 1) := by decide +kernel
theorem dX8_put_20 : decode cX8_put 20 = .ok (.invokevirtual 122, 3) := by decide +kernel
theorem dX8_put_23 : decode cX8_put 23 = .ok (.ifCond .ne 7, 3) := by decide +kernel
theorem dX8_put_26 : decode cX8_put 26 = .ok (.sipush (-1003), 3) := by decide +kernel
theorem dX8_put_29 : decode cX8_put 29 = .ok (.ireturn, 1) := by decide +kernel
theorem dX8_put_30 : decode cX8_put 30 = .ok (.aload_n 0, 1) := by decide +kernel
theorem dX8_put_31 : decode cX8_put 31 = .ok (.getfield 25, 3) := by decide +kernel
theorem dX8_put_34 : decode cX8_put 34 = .ok (.iload_n 1, 1) := by decide +kernel
theorem dX8_put_35 : decode cX8_put 35 = .ok (.invokevirtual 125, 3) := by decide +kernel
theorem dX8_put_38 : decode cX8_put 38 = .ok (.aload_n 0, 1) := by decide +kernel
theorem dX8_put_39 : decode cX8_put 39 = .ok (.invokevirtual 100, 3) := by decide +kernel
theorem dX8_put_42 : decode cX8_put 42 = .ok (.iconst 1, 1) := by decide +kernel
theorem dX8_put_43 : decode cX8_put 43 = .ok (.ireturn, 1) := by decide +kernel
set_option maxRecDepth 20000 in
theorem ok_18 {l : Launch} {d : Nat} (IH : ∀ μ, μ < 196 → px_Met l px_P d μ) : px_ok l px_P d RX8 cX8_put 2 (some .int) tb_18 :=
  ⟨px_Sp.of (ps_aload_n dX8_put_0 rfl),
   px_Sp.of (ps_get kc_X8 (by decide) wf_RX8_25 dX8_put_1),
   px_Sp.of (ps_iload_n dX8_put_4 rfl),
   ps_callV (IH 4 (by decide)) (C := RX1) (T := TX1) (N := 10) (ci := 1) rfl rfl (fc_4 _ _) wm_RX8_87 wi_yX1_has wl_yX1_has dX8_put_5,
   px_Sp.of (ps_if_ne dX8_put_8 (by decide)),
   px_Sp.of (ps_sipush dX8_put_11 (by decide)),
   ps_iret dX8_put_14,
   px_Sp.of (ps_aload_n dX8_put_15 rfl),
   px_Sp.of (ps_get kc_X8 (by decide) wf_RX8_25 dX8_put_16),
   px_Sp.of (ps_iload_n dX8_put_19 rfl),
   ps_callV (IH 16 (by decide)) (C := RX1) (T := TX1) (N := 10) (ci := 1) rfl rfl (fc_16 _ _) wm_RX8_122 wi_yX1_isTaken wl_yX1_isTaken dX8_put_20,
   px_Sp.of (ps_if_ne dX8_put_23 (by decide)),
   px_Sp.of (ps_sipush dX8_put_26 (by decide)),
   ps_iret dX8_put_29,
   px_Sp.of (ps_aload_n dX8_put_30 rfl),
   px_Sp.of (ps_get kc_X8 (by decide) wf_RX8_25 dX8_put_31),
   px_Sp.of (ps_iload_n dX8_put_34 rfl),
   ps_callV (IH 17 (by decide)) (C := RX1) (T := TX1) (N := 10) (ci := 1) rfl rfl (fc_17 _ _) wm_RX8_125 wi_yX1_turnTaken wl_yX1_turnTaken dX8_put_35,
   px_Sp.of (ps_aload_n dX8_put_38 rfl),
   ps_callV (IH 7 (by decide)) (C := RX8) (T := TX8) (N := 10) (ci := 7) rfl rfl (fc_7 _ _) wm_RX8_100 wi_yX8_forgetFindings wl_yX8_forgetFindings dX8_put_39,
   px_Sp.of (ps_iconst dX8_put_42 (by decide)),
   ps_iret dX8_put_43, trivial⟩
theorem mt_18 {l : Launch} {d : Nat} (IH : ∀ μ, μ < 196 → px_Met l px_P d μ) : px_Met l px_P (d + 1) 18 := px_met (own := RX8) rfl (by decide +kernel) (ok_18 IH)
theorem dX8_known_0 : decode cX8_known 0 = .ok (.iload_n 1, 1) := by decide +kernel
theorem dX8_known_1 : decode cX8_known 1 = .ok (.iconst (-1), 1) := by decide +kernel
theorem dX8_known_2 : decode cX8_known 2 = .ok (.if_icmp .lt 14, 3) := by decide +kernel
theorem dX8_known_5 : decode cX8_known 5 = .ok (.iload_n 1, 1) := by decide +kernel
theorem dX8_known_6 : decode cX8_known 6 = .ok (.aload_n 0, 1) := by decide +kernel
theorem dX8_known_7 : decode cX8_known 7 = .ok (.getfield 25, 3) := by decide +kernel
theorem dX8_known_10 : decode cX8_known 10 = .ok (.getfield 97, 3) := by decide +kernel
theorem dX8_known_13 : decode cX8_known 13 = .ok (.if_icmp .le 7, 3) := by decide +kernel
theorem dX8_known_16 : decode cX8_known 16 = .ok (.sipush (-1002), 3) := by decide +kernel
theorem dX8_known_19 : decode cX8_known 19 = .ok (.ireturn, 1) := by decide +kernel
theorem dX8_known_20 : decode cX8_known 20 = .ok (.aload_n 0, 1) := by decide +kernel
theorem dX8_known_21 : decode cX8_known 21 = .ok (.getfield 25, 3) := by decide +kernel
theorem dX8_known_24 : decode cX8_known 24 = .ok (.iload_n 1, 1) := by decide +kernel
theorem dX8_known_25 : decode cX8_known 25 = .ok (.putfield 128, 3) := by decide +kernel
theorem dX8_known_28 : decode cX8_known 28 = .ok (.aload_n 0, 1) := by decide +kernel
theorem dX8_known_29 : decode cX8_known 29 = .ok (.invokevirtual 100, 3) := by decide +kernel
theorem dX8_known_32 : decode cX8_known 32 = .ok (.iload_n 1, 1) := by decide +kernel
theorem dX8_known_33 : decode cX8_known 33 = .ok (.ireturn, 1) := by decide +kernel
set_option maxRecDepth 20000 in
theorem ok_19 {l : Launch} {d : Nat} (IH : ∀ μ, μ < 196 → px_Met l px_P d μ) : px_ok l px_P d RX8 cX8_known 2 (some .int) tb_19 :=
  ⟨px_Sp.of (ps_iload_n dX8_known_0 rfl),
   px_Sp.of (ps_iconst dX8_known_1 (by decide)),
   px_Sp.of (ps_icmp_lt dX8_known_2 (by decide)),
   px_Sp.of (ps_iload_n dX8_known_5 rfl),
   px_Sp.of (ps_aload_n dX8_known_6 rfl),
   px_Sp.of (ps_get kc_X8 (by decide) wf_RX8_25 dX8_known_7),
   px_Sp.of (ps_get kc_X1 (by decide) wf_RX8_97 dX8_known_10),
   px_Sp.of (ps_icmp_le dX8_known_13 (by decide)),
   px_Sp.of (ps_sipush dX8_known_16 (by decide)),
   ps_iret dX8_known_19,
   px_Sp.of (ps_aload_n dX8_known_20 rfl),
   px_Sp.of (ps_get kc_X8 (by decide) wf_RX8_25 dX8_known_21),
   px_Sp.of (ps_iload_n dX8_known_24 rfl),
   px_Sp.ofm (ps_putI kc_X1 (by decide) wf_RX8_128 rfl (by decide +kernel) kp_X1_8 dX8_known_25),
   px_Sp.of (ps_aload_n dX8_known_28 rfl),
   ps_callV (IH 7 (by decide)) (C := RX8) (T := TX8) (N := 10) (ci := 7) rfl rfl (fc_7 _ _) wm_RX8_100 wi_yX8_forgetFindings wl_yX8_forgetFindings dX8_known_29,
   px_Sp.of (ps_iload_n dX8_known_32 rfl),
   ps_iret dX8_known_33, trivial⟩
theorem mt_19 {l : Launch} {d : Nat} (IH : ∀ μ, μ < 196 → px_Met l px_P d μ) : px_Met l px_P (d + 1) 19 := px_met (own := RX8) rfl (by decide +kernel) (ok_19 IH)
theorem dX8_about_0 : decode cX8_about 0 = .ok (.aload_n 0, 1) := by decide +kernel
theorem dX8_about_1 : decode cX8_about 1 = .ok (.getfield 25, 3) := by decide +kernel
theorem dX8_about_4 : decode cX8_about 4 = .ok (.iload_n 1, 1) := by decide +kernel
theorem dX8_about_5 : decode cX8_about 5 = .ok (.invokevirtual 87, 3) := by decide +kernel
theorem dX8_about_8 : decode cX8_about 8 = .ok (.ifCond .ne 7, 3) := by decide +kernel
theorem dX8_about_11 : decode cX8_about 11 = .ok (.sipush (-1001), 3) := by decide +kernel
theorem dX8_about_14 : decode cX8_about 14 = .ok (.ireturn, 1) := by decide +kernel
theorem dX8_about_15 : decode cX8_about 15 = .ok (.iload_n 2, 1) := by decide +kernel
theorem dX8_about_16 : decode cX8_about 16 = .ok (.ifCond .lt 9, 3) := by decide +kernel
theorem dX8_about_19 : decode cX8_about 19 = .ok (.iload_n 2, 1) := by decide +kernel
theorem dX8_about_20 : decode cX8_about 20 = .ok (.bipush 11, 2) := by decide +kernel
theorem dX8_about_22 : decode cX8_about 22 = .ok (.if_icmp .le 7, 3) := by decide +kernel
theorem dX8_about_25 : decode cX8_about 25 = .ok (.sipush (-1002), 3) := by decide +kernel
theorem dX8_about_28 : decode cX8_about 28 = .ok (.ireturn, 1) := by decide +kernel
theorem dX8_about_29 : decode cX8_about 29 = .ok (.iload_n 2, 1) := by decide +kernel
theorem dX8_about_30 : decode cX8_about 30 = .ok (.tableswitch 105 0 5 #[38, 48, 58, 68, 78, 88], 38) := by decide +kernel
theorem dX8_about_68 : decode cX8_about 68 = .ok (.aload_n 0, 1) := by decide +kernel
theorem dX8_about_69 : decode cX8_about 69 = .ok (.getfield 25, 3) := by decide +kernel
theorem dX8_about_72 : decode cX8_about 72 = .ok (.getfield 131, 3) := by decide +kernel
theorem dX8_about_75 : decode cX8_about 75 = .ok (.iload_n 1, 1) := by decide +kernel
theorem dX8_about_76 : decode cX8_about 76 = .ok (.iaload, 1) := by decide +kernel
theorem dX8_about_77 : decode cX8_about 77 = .ok (.ireturn, 1) := by decide +kernel
theorem dX8_about_78 : decode cX8_about 78 = .ok (.aload_n 0, 1) := by decide +kernel
theorem dX8_about_79 : decode cX8_about 79 = .ok (.getfield 25, 3) := by decide +kernel
theorem dX8_about_82 : decode cX8_about 82 = .ok (.getfield 134, 3) := by decide +kernel
theorem dX8_about_85 : decode cX8_about 85 = .ok (.iload_n 1, 1) := by decide +kernel
theorem dX8_about_86 : decode cX8_about 86 = .ok (.iaload, 1) := by decide +kernel
theorem dX8_about_87 : decode cX8_about 87 = .ok (.ireturn, 1) := by decide +kernel
theorem dX8_about_88 : decode cX8_about 88 = .ok (.aload_n 0, 1) := by decide +kernel
theorem dX8_about_89 : decode cX8_about 89 = .ok (.getfield 25, 3) := by decide +kernel
theorem dX8_about_92 : decode cX8_about 92 = .ok (.getfield 137, 3) := by decide +kernel
theorem dX8_about_95 : decode cX8_about 95 = .ok (.iload_n 1, 1) := by decide +kernel
theorem dX8_about_96 : decode cX8_about 96 = .ok (.iaload, 1) := by decide +kernel
theorem dX8_about_97 : decode cX8_about 97 = .ok (.ireturn, 1) := by decide +kernel
theorem dX8_about_98 : decode cX8_about 98 = .ok (.aload_n 0, 1) := by decide +kernel
theorem dX8_about_99 : decode cX8_about 99 = .ok (.getfield 25, 3) := by decide +kernel
theorem dX8_about_102 : decode cX8_about 102 = .ok (.getfield 107, 3) := by decide +kernel
theorem dX8_about_105 : decode cX8_about 105 = .ok (.iload_n 1, 1) := by decide +kernel
theorem dX8_about_106 : decode cX8_about 106 = .ok (.iaload, 1) := by decide +kernel
theorem dX8_about_107 : decode cX8_about 107 = .ok (.ireturn, 1) := by decide +kernel
theorem dX8_about_108 : decode cX8_about 108 = .ok (.aload_n 0, 1) := by decide +kernel
theorem dX8_about_109 : decode cX8_about 109 = .ok (.getfield 25, 3) := by decide +kernel
theorem dX8_about_112 : decode cX8_about 112 = .ok (.getfield 140, 3) := by decide +kernel
theorem dX8_about_115 : decode cX8_about 115 = .ok (.iload_n 1, 1) := by decide +kernel
theorem dX8_about_116 : decode cX8_about 116 = .ok (.iaload, 1) := by decide +kernel
theorem dX8_about_117 : decode cX8_about 117 = .ok (.ireturn, 1) := by decide +kernel
theorem dX8_about_118 : decode cX8_about 118 = .ok (.aload_n 0, 1) := by decide +kernel
theorem dX8_about_119 : decode cX8_about 119 = .ok (.getfield 25, 3) := by decide +kernel
theorem dX8_about_122 : decode cX8_about 122 = .ok (.iload_n 1, 1) := by decide +kernel
theorem dX8_about_123 : decode cX8_about 123 = .ok (.invokevirtual 143, 3) := by decide +kernel
theorem dX8_about_126 : decode cX8_about 126 = .ok (.ifCond .eq 7, 3) := by decide +kernel
theorem dX8_about_129 : decode cX8_about 129 = .ok (.iconst 1, 1) := by decide +kernel
theorem dX8_about_130 : decode cX8_about 130 = .ok (.goto 4, 3) := by decide +kernel
theorem dX8_about_133 : decode cX8_about 133 = .ok (.iconst 0, 1) := by decide +kernel
theorem dX8_about_134 : decode cX8_about 134 = .ok (.ireturn, 1) := by decide +kernel
theorem dX8_about_135 : decode cX8_about 135 = .ok (.aload_n 0, 1) := by decide +kernel
theorem dX8_about_136 : decode cX8_about 136 = .ok (.getfield 25, 3) := by decide +kernel
theorem dX8_about_139 : decode cX8_about 139 = .ok (.iload_n 1, 1) := by decide +kernel
theorem dX8_about_140 : decode cX8_about 140 = .ok (.invokevirtual 143, 3) := by decide +kernel
theorem dX8_about_143 : decode cX8_about 143 = .ok (.ifCond .ne 5, 3) := by decide +kernel
theorem dX8_about_146 : decode cX8_about 146 = .ok (.iconst (-1), 1) := by decide +kernel
theorem dX8_about_147 : decode cX8_about 147 = .ok (.ireturn, 1) := by decide +kernel
theorem dX8_about_148 : decode cX8_about 148 = .ok (.aload_n 0, 1) := by decide +kernel
theorem dX8_about_149 : decode cX8_about 149 = .ok (.getfield 43, 3) := by decide +kernel
theorem dX8_about_152 : decode cX8_about 152 = .ok (.iconst (-1), 1) := by decide +kernel
theorem dX8_about_153 : decode cX8_about 153 = .ok (.invokevirtual 146, 3) := by decide +kernel
theorem dX8_about_156 : decode cX8_about 156 = .ok (.aload_n 0, 1) := by decide +kernel
theorem dX8_about_157 : decode cX8_about 157 = .ok (.iload_n 1, 1) := by decide +kernel
theorem dX8_about_158 : decode cX8_about 158 = .ok (.iload_n 2, 1) := by decide +kernel
theorem dX8_about_159 : decode cX8_about 159 = .ok (.invokevirtual 149, 3) := by decide +kernel
theorem dX8_about_162 : decode cX8_about 162 = .ok (.ireturn, 1) := by decide +kernel
set_option maxRecDepth 20000 in
theorem ok_20 {l : Launch} {d : Nat} (IH : ∀ μ, μ < 196 → px_Met l px_P d μ) : px_ok l px_P d RX8 cX8_about 3 (some .int) tb_20 :=
  ⟨px_Sp.of (ps_aload_n dX8_about_0 rfl),
   px_Sp.of (ps_get kc_X8 (by decide) wf_RX8_25 dX8_about_1),
   px_Sp.of (ps_iload_n dX8_about_4 rfl),
   ps_callV (IH 4 (by decide)) (C := RX1) (T := TX1) (N := 10) (ci := 1) rfl rfl (fc_4 _ _) wm_RX8_87 wi_yX1_has wl_yX1_has dX8_about_5,
   px_Sp.of (ps_if_ne dX8_about_8 (by decide)),
   px_Sp.of (ps_sipush dX8_about_11 (by decide)),
   ps_iret dX8_about_14,
   px_Sp.of (ps_iload_n dX8_about_15 rfl),
   px_Sp.of (ps_if_lt dX8_about_16 (by decide)),
   px_Sp.of (ps_iload_n dX8_about_19 rfl),
   px_Sp.of (ps_bipush dX8_about_20 (by decide)),
   px_Sp.of (ps_icmp_le dX8_about_22 (by decide)),
   px_Sp.of (ps_sipush dX8_about_25 (by decide)),
   ps_iret dX8_about_28,
   px_Sp.of (ps_iload_n dX8_about_29 rfl),
   px_Sp.of (ps_tsw dX8_about_30 (by decide) (by decide)),
   px_Sp.of (ps_aload_n dX8_about_68 rfl),
   px_Sp.of (ps_get kc_X8 (by decide) wf_RX8_25 dX8_about_69),
   px_Sp.of (ps_get kc_X1 (by decide) wf_RX8_131 dX8_about_72),
   px_Sp.of (ps_iload_n dX8_about_75 rfl),
   px_Sp.of (ps_iald dX8_about_76),
   ps_iret dX8_about_77,
   px_Sp.of (ps_aload_n dX8_about_78 rfl),
   px_Sp.of (ps_get kc_X8 (by decide) wf_RX8_25 dX8_about_79),
   px_Sp.of (ps_get kc_X1 (by decide) wf_RX8_134 dX8_about_82),
   px_Sp.of (ps_iload_n dX8_about_85 rfl),
   px_Sp.of (ps_iald dX8_about_86),
   ps_iret dX8_about_87,
   px_Sp.of (ps_aload_n dX8_about_88 rfl),
   px_Sp.of (ps_get kc_X8 (by decide) wf_RX8_25 dX8_about_89),
   px_Sp.of (ps_get kc_X1 (by decide) wf_RX8_137 dX8_about_92),
   px_Sp.of (ps_iload_n dX8_about_95 rfl),
   px_Sp.of (ps_iald dX8_about_96),
   ps_iret dX8_about_97,
   px_Sp.of (ps_aload_n dX8_about_98 rfl),
   px_Sp.of (ps_get kc_X8 (by decide) wf_RX8_25 dX8_about_99),
   px_Sp.of (ps_get kc_X1 (by decide) wf_RX8_107 dX8_about_102),
   px_Sp.of (ps_iload_n dX8_about_105 rfl),
   px_Sp.of (ps_iald dX8_about_106),
   ps_iret dX8_about_107,
   px_Sp.of (ps_aload_n dX8_about_108 rfl),
   px_Sp.of (ps_get kc_X8 (by decide) wf_RX8_25 dX8_about_109),
   px_Sp.of (ps_get kc_X1 (by decide) wf_RX8_140 dX8_about_112),
   px_Sp.of (ps_iload_n dX8_about_115 rfl),
   px_Sp.of (ps_iald dX8_about_116),
   ps_iret dX8_about_117,
   px_Sp.of (ps_aload_n dX8_about_118 rfl),
   px_Sp.of (ps_get kc_X8 (by decide) wf_RX8_25 dX8_about_119),
   px_Sp.of (ps_iload_n dX8_about_122 rfl),
   ps_callV (IH 21 (by decide)) (C := RX1) (T := TX1) (N := 10) (ci := 1) rfl rfl (fc_21 _ _) wm_RX8_143 wi_yX1_isSeen wl_yX1_isSeen dX8_about_123,
   px_Sp.of (ps_if_eq dX8_about_126 (by decide)),
   px_Sp.of (ps_iconst dX8_about_129 (by decide)),
   px_Sp.of (ps_goto dX8_about_130 (by decide)),
   px_Sp.of (ps_iconst dX8_about_133 (by decide)),
   ps_iret dX8_about_134,
   px_Sp.of (ps_aload_n dX8_about_135 rfl),
   px_Sp.of (ps_get kc_X8 (by decide) wf_RX8_25 dX8_about_136),
   px_Sp.of (ps_iload_n dX8_about_139 rfl),
   ps_callV (IH 21 (by decide)) (C := RX1) (T := TX1) (N := 10) (ci := 1) rfl rfl (fc_21 _ _) wm_RX8_143 wi_yX1_isSeen wl_yX1_isSeen dX8_about_140,
   px_Sp.of (ps_if_ne dX8_about_143 (by decide)),
   px_Sp.of (ps_iconst dX8_about_146 (by decide)),
   ps_iret dX8_about_147,
   px_Sp.of (ps_aload_n dX8_about_148 rfl),
   px_Sp.of (ps_get kc_X8 (by decide) wf_RX8_43 dX8_about_149),
   px_Sp.of (ps_iconst dX8_about_152 (by decide)),
   ps_callV (IH 23 (by decide)) (C := RX2) (T := TX2) (N := 8) (ci := 2) rfl rfl (fc_23 _ _) wm_RX8_146 wi_yX2_refresh wl_yX2_refresh dX8_about_153,
   px_Sp.of (ps_aload_n dX8_about_156 rfl),
   px_Sp.of (ps_iload_n dX8_about_157 rfl),
   px_Sp.of (ps_iload_n dX8_about_158 rfl),
   ps_callV (IH 37 (by decide)) (C := RX8) (T := TX8) (N := 10) (ci := 7) rfl rfl (fc_37 _ _) wm_RX8_149 wi_yX8_aboutKin wl_yX8_aboutKin dX8_about_159,
   ps_iret dX8_about_162, trivial⟩
theorem mt_20 {l : Launch} {d : Nat} (IH : ∀ μ, μ < 196 → px_Met l px_P d μ) : px_Met l px_P (d + 1) 20 := px_met (own := RX8) rfl (by decide +kernel) (ok_20 IH)
theorem dX1_isSeen_0 : decode cX1_isSeen 0 = .ok (.aload_n 0, 1) := by decide +kernel
theorem dX1_isSeen_1 : decode cX1_isSeen 1 = .ok (.iload_n 1, 1) := by decide +kernel
theorem dX1_isSeen_2 : decode cX1_isSeen 2 = .ok (.iconst (-1), 1) := by decide +kernel
theorem dX1_isSeen_3 : decode cX1_isSeen 3 = .ok (.invokevirtual 49, 3) := by decide +kernel
theorem dX1_isSeen_6 : decode cX1_isSeen 6 = .ok (.ireturn, 1) := by decide +kernel
set_option maxRecDepth 20000 in
theorem ok_21 {l : Launch} {d : Nat} (IH : ∀ μ, μ < 196 → px_Met l px_P d μ) : px_ok l px_P d RX1 cX1_isSeen 2 (some .boolean) tb_21 :=
  ⟨px_Sp.of (ps_aload_n dX1_isSeen_0 rfl),
   px_Sp.of (ps_iload_n dX1_isSeen_1 rfl),
   px_Sp.of (ps_iconst dX1_isSeen_2 (by decide)),
   ps_callV (IH 22 (by decide)) (C := RX1) (T := TX1) (N := 10) (ci := 1) rfl rfl (fc_22 _ _) wm_RX1_49 wi_yX1_isSeenWith wl_yX1_isSeenWith dX1_isSeen_3,
   ps_zret dX1_isSeen_6, trivial⟩
theorem mt_21 {l : Launch} {d : Nat} (IH : ∀ μ, μ < 196 → px_Met l px_P d μ) : px_Met l px_P (d + 1) 21 := px_met (own := RX1) rfl (by decide +kernel) (ok_21 IH)
theorem dX1_isSeenWith_0 : decode cX1_isSeenWith 0 = .ok (.aload_n 0, 1) := by decide +kernel
theorem dX1_isSeenWith_1 : decode cX1_isSeenWith 1 = .ok (.getfield 34, 3) := by decide +kernel
theorem dX1_isSeenWith_4 : decode cX1_isSeenWith 4 = .ok (.iconst (-1), 1) := by decide +kernel
theorem dX1_isSeenWith_5 : decode cX1_isSeenWith 5 = .ok (.if_icmp .eq 11, 3) := by decide +kernel
theorem dX1_isSeenWith_8 : decode cX1_isSeenWith 8 = .ok (.iload_n 1, 1) := by decide +kernel
theorem dX1_isSeenWith_9 : decode cX1_isSeenWith 9 = .ok (.aload_n 0, 1) := by decide +kernel
theorem dX1_isSeenWith_10 : decode cX1_isSeenWith 10 = .ok (.getfield 34, 3) := by decide +kernel
theorem dX1_isSeenWith_13 : decode cX1_isSeenWith 13 = .ok (.if_icmp .ge 20, 3) := by decide +kernel
theorem dX1_isSeenWith_16 : decode cX1_isSeenWith 16 = .ok (.iload_n 1, 1) := by decide +kernel
theorem dX1_isSeenWith_17 : decode cX1_isSeenWith 17 = .ok (.iload_n 2, 1) := by decide +kernel
theorem dX1_isSeenWith_18 : decode cX1_isSeenWith 18 = .ok (.if_icmp .eq 11, 3) := by decide +kernel
theorem dX1_isSeenWith_21 : decode cX1_isSeenWith 21 = .ok (.aload_n 0, 1) := by decide +kernel
theorem dX1_isSeenWith_22 : decode cX1_isSeenWith 22 = .ok (.iload_n 1, 1) := by decide +kernel
theorem dX1_isSeenWith_23 : decode cX1_isSeenWith 23 = .ok (.invokevirtual 53, 3) := by decide +kernel
theorem dX1_isSeenWith_26 : decode cX1_isSeenWith 26 = .ok (.ifCond .ne 7, 3) := by decide +kernel
theorem dX1_isSeenWith_29 : decode cX1_isSeenWith 29 = .ok (.iconst 1, 1) := by decide +kernel
theorem dX1_isSeenWith_30 : decode cX1_isSeenWith 30 = .ok (.goto 4, 3) := by decide +kernel
theorem dX1_isSeenWith_33 : decode cX1_isSeenWith 33 = .ok (.iconst 0, 1) := by decide +kernel
theorem dX1_isSeenWith_34 : decode cX1_isSeenWith 34 = .ok (.ireturn, 1) := by decide +kernel
set_option maxRecDepth 20000 in
theorem ok_22 {l : Launch} {d : Nat} (IH : ∀ μ, μ < 196 → px_Met l px_P d μ) : px_ok l px_P d RX1 cX1_isSeenWith 3 (some .boolean) tb_22 :=
  ⟨px_Sp.of (ps_aload_n dX1_isSeenWith_0 rfl),
   px_Sp.of (ps_get kc_X1 (by decide) wf_RX1_34 dX1_isSeenWith_1),
   px_Sp.of (ps_iconst dX1_isSeenWith_4 (by decide)),
   px_Sp.of (ps_icmp_eq dX1_isSeenWith_5 (by decide)),
   px_Sp.of (ps_iload_n dX1_isSeenWith_8 rfl),
   px_Sp.of (ps_aload_n dX1_isSeenWith_9 rfl),
   px_Sp.of (ps_get kc_X1 (by decide) wf_RX1_34 dX1_isSeenWith_10),
   px_Sp.of (ps_icmp_ge dX1_isSeenWith_13 (by decide)),
   px_Sp.of (ps_iload_n dX1_isSeenWith_16 rfl),
   px_Sp.of (ps_iload_n dX1_isSeenWith_17 rfl),
   px_Sp.of (ps_icmp_eq dX1_isSeenWith_18 (by decide)),
   px_Sp.of (ps_aload_n dX1_isSeenWith_21 rfl),
   px_Sp.of (ps_iload_n dX1_isSeenWith_22 rfl),
   ps_callV (IH 16 (by decide)) (C := RX1) (T := TX1) (N := 10) (ci := 1) rfl rfl (fc_16 _ _) wm_RX1_53 wi_yX1_isTaken wl_yX1_isTaken dX1_isSeenWith_23,
   px_Sp.of (ps_if_ne dX1_isSeenWith_26 (by decide)),
   px_Sp.of (ps_iconst dX1_isSeenWith_29 (by decide)),
   px_Sp.of (ps_goto dX1_isSeenWith_30 (by decide)),
   px_Sp.of (ps_iconst dX1_isSeenWith_33 (by decide)),
   ps_zret dX1_isSeenWith_34, trivial⟩
theorem mt_22 {l : Launch} {d : Nat} (IH : ∀ μ, μ < 196 → px_Met l px_P d μ) : px_Met l px_P (d + 1) 22 := px_met (own := RX1) rfl (by decide +kernel) (ok_22 IH)
theorem dX2_refresh_0 : decode cX2_refresh 0 = .ok (.aload_n 0, 1) := by decide +kernel
theorem dX2_refresh_1 : decode cX2_refresh 1 = .ok (.getfield 33, 3) := by decide +kernel
theorem dX2_refresh_4 : decode cX2_refresh 4 = .ok (.ifCond .eq 12, 3) := by decide +kernel
theorem dX2_refresh_7 : decode cX2_refresh 7 = .ok (.aload_n 0, 1) := by decide +kernel
theorem dX2_refresh_8 : decode cX2_refresh 8 = .ok (.getfield 18, 3) := by decide +kernel
theorem dX2_refresh_11 : decode cX2_refresh 11 = .ok (.iload_n 1, 1) := by decide +kernel
theorem dX2_refresh_12 : decode cX2_refresh 12 = .ok (.if_icmp .ne 4, 3) := by decide +kernel
theorem dX2_refresh_15 : decode cX2_refresh 15 = .ok (.return_, 1) := by decide +kernel
theorem dX2_refresh_16 : decode cX2_refresh 16 = .ok (.aload_n 0, 1) := by decide +kernel
theorem dX2_refresh_17 : decode cX2_refresh 17 = .ok (.lconst 0, 1) := by decide +kernel
theorem dX2_refresh_18 : decode cX2_refresh 18 = .ok (.putfield 37, 3) := by decide +kernel
theorem dX2_refresh_21 : decode cX2_refresh 21 = .ok (.iconst 0, 1) := by decide +kernel
theorem dX2_refresh_22 : decode cX2_refresh 22 = .ok (.istore_n 2, 1) := by decide +kernel
theorem dX2_refresh_23 : decode cX2_refresh 23 = .ok (.iload_n 2, 1) := by decide +kernel
theorem dX2_refresh_24 : decode cX2_refresh 24 = .ok (.aload_n 0, 1) := by decide +kernel
theorem dX2_refresh_25 : decode cX2_refresh 25 = .ok (.getfield 22, 3) := by decide +kernel
theorem dX2_refresh_28 : decode cX2_refresh 28 = .ok (.getfield 41, 3) := by decide +kernel
theorem dX2_refresh_31 : decode cX2_refresh 31 = .ok (.if_icmp .ge 40, 3) := by decide +kernel
theorem dX2_refresh_34 : decode cX2_refresh 34 = .ok (.aload_n 0, 1) := by decide +kernel
theorem dX2_refresh_35 : decode cX2_refresh 35 = .ok (.getfield 9, 3) := by decide +kernel
theorem dX2_refresh_38 : decode cX2_refresh 38 = .ok (.iload_n 2, 1) := by decide +kernel
theorem dX2_refresh_39 : decode cX2_refresh 39 = .ok (.iconst (-1), 1) := by decide +kernel
theorem dX2_refresh_40 : decode cX2_refresh 40 = .ok (.iastore, 1) := by decide +kernel
theorem dX2_refresh_41 : decode cX2_refresh 41 = .ok (.aload_n 0, 1) := by decide +kernel
theorem dX2_refresh_42 : decode cX2_refresh 42 = .ok (.getfield 22, 3) := by decide +kernel
theorem dX2_refresh_45 : decode cX2_refresh 45 = .ok (.iload_n 2, 1) := by decide +kernel
theorem dX2_refresh_46 : decode cX2_refresh 46 = .ok (.iload_n 1, 1) := by decide +kernel
theorem dX2_refresh_47 : decode cX2_refresh 47 = .ok (.invokevirtual 46, 3) := by decide +kernel
theorem dX2_refresh_50 : decode cX2_refresh 50 = .ok (.ifCond .eq 15, 3) := by decide +kernel
theorem dX2_refresh_53 : decode cX2_refresh 53 = .ok (.aload_n 0, 1) := by decide +kernel
theorem dX2_refresh_54 : decode cX2_refresh 54 = .ok (.dup, 1) := by decide +kernel
theorem dX2_refresh_55 : decode cX2_refresh 55 = .ok (.getfield 37, 3) := by decide +kernel
theorem dX2_refresh_58 : decode cX2_refresh 58 = .ok (.lconst 1, 1) := by decide +kernel
theorem dX2_refresh_59 : decode cX2_refresh 59 = .ok (.iload_n 2, 1) := by decide +kernel
theorem dX2_refresh_60 : decode cX2_refresh 60 = .ok (.lshl, 1) := by decide +kernel
theorem dX2_refresh_61 : decode cX2_refresh 61 = .ok (.lor, 1) := by decide +kernel
theorem dX2_refresh_62 : decode cX2_refresh 62 = .ok (.putfield 37, 3) := by decide +kernel
theorem dX2_refresh_65 : decode cX2_refresh 65 = .ok (.iinc 2 1, 3) := by decide +kernel
theorem dX2_refresh_68 : decode cX2_refresh 68 = .ok (.goto (-45), 3) := by decide +kernel
theorem dX2_refresh_71 : decode cX2_refresh 71 = .ok (.iconst 0, 1) := by decide +kernel
theorem dX2_refresh_72 : decode cX2_refresh 72 = .ok (.istore_n 2, 1) := by decide +kernel
theorem dX2_refresh_73 : decode cX2_refresh 73 = .ok (.iload_n 2, 1) := by decide +kernel
theorem dX2_refresh_74 : decode cX2_refresh 74 = .ok (.aload_n 0, 1) := by decide +kernel
theorem dX2_refresh_75 : decode cX2_refresh 75 = .ok (.getfield 22, 3) := by decide +kernel
theorem dX2_refresh_78 : decode cX2_refresh 78 = .ok (.getfield 41, 3) := by decide +kernel
theorem dX2_refresh_81 : decode cX2_refresh 81 = .ok (.if_icmp .ge 32, 3) := by decide +kernel
theorem dX2_refresh_84 : decode cX2_refresh 84 = .ok (.aload_n 0, 1) := by decide +kernel
theorem dX2_refresh_85 : decode cX2_refresh 85 = .ok (.getfield 9, 3) := by decide +kernel
theorem dX2_refresh_88 : decode cX2_refresh 88 = .ok (.iload_n 2, 1) := by decide +kernel
theorem dX2_refresh_89 : decode cX2_refresh 89 = .ok (.aload_n 0, 1) := by decide +kernel
theorem dX2_refresh_90 : decode cX2_refresh 90 = .ok (.iload_n 2, 1) := by decide +kernel
theorem dX2_refresh_91 : decode cX2_refresh 91 = .ok (.invokevirtual 50, 3) := by decide +kernel
theorem dX2_refresh_94 : decode cX2_refresh 94 = .ok (.ifCond .eq 11, 3) := by decide +kernel
theorem dX2_refresh_97 : decode cX2_refresh 97 = .ok (.aload_n 0, 1) := by decide +kernel
theorem dX2_refresh_98 : decode cX2_refresh 98 = .ok (.iload_n 2, 1) := by decide +kernel
theorem dX2_refresh_99 : decode cX2_refresh 99 = .ok (.invokevirtual 54, 3) := by decide +kernel
theorem dX2_refresh_102 : decode cX2_refresh 102 = .ok (.goto 4, 3) := by decide +kernel
theorem dX2_refresh_105 : decode cX2_refresh 105 = .ok (.iconst (-1), 1) := by decide +kernel
theorem dX2_refresh_106 : decode cX2_refresh 106 = .ok (.iastore, 1) := by decide +kernel
theorem dX2_refresh_107 : decode cX2_refresh 107 = .ok (.iinc 2 1, 3) := by decide +kernel
theorem dX2_refresh_110 : decode cX2_refresh 110 = .ok (.goto (-37), 3) := by decide +kernel
theorem dX2_refresh_113 : decode cX2_refresh 113 = .ok (.iconst 0, 1) := by decide +kernel
theorem dX2_refresh_114 : decode cX2_refresh 114 = .ok (.istore_n 2, 1) := by decide +kernel
theorem dX2_refresh_115 : decode cX2_refresh 115 = .ok (.iload_n 2, 1) := by decide +kernel
theorem dX2_refresh_116 : decode cX2_refresh 116 = .ok (.aload_n 0, 1) := by decide +kernel
theorem dX2_refresh_117 : decode cX2_refresh 117 = .ok (.getfield 22, 3) := by decide +kernel
theorem dX2_refresh_120 : decode cX2_refresh 120 = .ok (.getfield 41, 3) := by decide +kernel
theorem dX2_refresh_123 : decode cX2_refresh 123 = .ok (.if_icmp .ge 14, 3) := by decide +kernel
theorem dX2_refresh_126 : decode cX2_refresh 126 = .ok (.aload_n 0, 1) := by decide +kernel
theorem dX2_refresh_127 : decode cX2_refresh 127 = .ok (.iload_n 2, 1) := by decide +kernel
theorem dX2_refresh_128 : decode cX2_refresh 128 = .ok (.invokevirtual 58, 3) := by decide +kernel
theorem dX2_refresh_131 : decode cX2_refresh 131 = .ok (.iinc 2 1, 3) := by decide +kernel
theorem dX2_refresh_134 : decode cX2_refresh 134 = .ok (.goto (-19), 3) := by decide +kernel
theorem dX2_refresh_137 : decode cX2_refresh 137 = .ok (.aload_n 0, 1) := by decide +kernel
theorem dX2_refresh_138 : decode cX2_refresh 138 = .ok (.iload_n 1, 1) := by decide +kernel
theorem dX2_refresh_139 : decode cX2_refresh 139 = .ok (.putfield 18, 3) := by decide +kernel
theorem dX2_refresh_142 : decode cX2_refresh 142 = .ok (.aload_n 0, 1) := by decide +kernel
theorem dX2_refresh_143 : decode cX2_refresh 143 = .ok (.iconst 1, 1) := by decide +kernel
theorem dX2_refresh_144 : decode cX2_refresh 144 = .ok (.putfield 33, 3) := by decide +kernel
theorem dX2_refresh_147 : decode cX2_refresh 147 = .ok (.return_, 1) := by decide +kernel
set_option maxRecDepth 20000 in
theorem ok_23 {l : Launch} {d : Nat} (IH : ∀ μ, μ < 196 → px_Met l px_P d μ) : px_ok l px_P d RX2 cX2_refresh 3 (none) tb_23 :=
  ⟨px_Sp.of (ps_aload_n dX2_refresh_0 rfl),
   px_Sp.of (ps_get kc_X2 (by decide) wf_RX2_33 dX2_refresh_1),
   px_Sp.of (ps_if_eq dX2_refresh_4 (by decide)),
   px_Sp.of (ps_aload_n dX2_refresh_7 rfl),
   px_Sp.of (ps_get kc_X2 (by decide) wf_RX2_18 dX2_refresh_8),
   px_Sp.of (ps_iload_n dX2_refresh_11 rfl),
   px_Sp.of (ps_icmp_ne dX2_refresh_12 (by decide)),
   ps_vret dX2_refresh_15,
   px_Sp.of (ps_aload_n dX2_refresh_16 rfl),
   px_Sp.of (ps_lconst dX2_refresh_17 (by decide)),
   px_Sp.ofm (ps_putI kc_X2 (by decide) wf_RX2_37 rfl (by decide +kernel) kp_X2_7 dX2_refresh_18),
   px_Sp.of (ps_iconst dX2_refresh_21 (by decide)),
   px_Sp.of (ps_istore_n dX2_refresh_22 rfl (by decide)),
   px_Sp.of (ps_iload_n dX2_refresh_23 rfl),
   px_Sp.of (ps_aload_n dX2_refresh_24 rfl),
   px_Sp.of (ps_get kc_X2 (by decide) wf_RX2_22 dX2_refresh_25),
   px_Sp.of (ps_get kc_X1 (by decide) wf_RX2_41 dX2_refresh_28),
   px_Sp.of (ps_icmp_ge dX2_refresh_31 (by decide)),
   px_Sp.of (ps_aload_n dX2_refresh_34 rfl),
   px_Sp.of (ps_get kc_X2 (by decide) wf_RX2_9 dX2_refresh_35),
   px_Sp.of (ps_iload_n dX2_refresh_38 rfl),
   px_Sp.of (ps_iconst dX2_refresh_39 (by decide)),
   px_Sp.ofm (ps_iast dX2_refresh_40),
   px_Sp.of (ps_aload_n dX2_refresh_41 rfl),
   px_Sp.of (ps_get kc_X2 (by decide) wf_RX2_22 dX2_refresh_42),
   px_Sp.of (ps_iload_n dX2_refresh_45 rfl),
   px_Sp.of (ps_iload_n dX2_refresh_46 rfl),
   ps_callV (IH 22 (by decide)) (C := RX1) (T := TX1) (N := 10) (ci := 1) rfl rfl (fc_22 _ _) wm_RX2_46 wi_yX1_isSeenWith wl_yX1_isSeenWith dX2_refresh_47,
   px_Sp.of (ps_if_eq dX2_refresh_50 (by decide)),
   px_Sp.of (ps_aload_n dX2_refresh_53 rfl),
   px_Sp.of (ps_dup dX2_refresh_54),
   px_Sp.of (ps_get kc_X2 (by decide) wf_RX2_37 dX2_refresh_55),
   px_Sp.of (ps_lconst dX2_refresh_58 (by decide)),
   px_Sp.of (ps_iload_n dX2_refresh_59 rfl),
   px_Sp.of (ps_lshl dX2_refresh_60),
   px_Sp.of (ps_lor dX2_refresh_61),
   px_Sp.ofm (ps_putI kc_X2 (by decide) wf_RX2_37 rfl (by decide +kernel) kp_X2_7 dX2_refresh_62),
   px_Sp.of (ps_iinc dX2_refresh_65 (by decide) (by decide)),
   px_Sp.of (ps_goto dX2_refresh_68 (by decide)),
   px_Sp.of (ps_iconst dX2_refresh_71 (by decide)),
   px_Sp.of (ps_istore_n dX2_refresh_72 rfl (by decide)),
   px_Sp.of (ps_iload_n dX2_refresh_73 rfl),
   px_Sp.of (ps_aload_n dX2_refresh_74 rfl),
   px_Sp.of (ps_get kc_X2 (by decide) wf_RX2_22 dX2_refresh_75),
   px_Sp.of (ps_get kc_X1 (by decide) wf_RX2_41 dX2_refresh_78),
   px_Sp.of (ps_icmp_ge dX2_refresh_81 (by decide)),
   px_Sp.of (ps_aload_n dX2_refresh_84 rfl),
   px_Sp.of (ps_get kc_X2 (by decide) wf_RX2_9 dX2_refresh_85),
   px_Sp.of (ps_iload_n dX2_refresh_88 rfl),
   px_Sp.of (ps_aload_n dX2_refresh_89 rfl),
   px_Sp.of (ps_iload_n dX2_refresh_90 rfl),
   ps_callV (IH 24 (by decide)) (C := RX2) (T := TX2) (N := 8) (ci := 2) rfl rfl (fc_24 _ _) wm_RX2_50 wi_yX2_isSeen wl_yX2_isSeen dX2_refresh_91,
   px_Sp.of (ps_if_eq dX2_refresh_94 (by decide)),
   px_Sp.of (ps_aload_n dX2_refresh_97 rfl),
   px_Sp.of (ps_iload_n dX2_refresh_98 rfl),
   ps_callV (IH 25 (by decide)) (C := RX2) (T := TX2) (N := 8) (ci := 2) rfl rfl (fc_25 _ _) wm_RX2_54 wi_yX2_findParent wl_yX2_findParent dX2_refresh_99,
   px_Sp.of (ps_goto dX2_refresh_102 (by decide)),
   px_Sp.of (ps_iconst dX2_refresh_105 (by decide)),
   px_Sp.ofm (ps_iast dX2_refresh_106),
   px_Sp.of (ps_iinc dX2_refresh_107 (by decide) (by decide)),
   px_Sp.of (ps_goto dX2_refresh_110 (by decide)),
   px_Sp.of (ps_iconst dX2_refresh_113 (by decide)),
   px_Sp.of (ps_istore_n dX2_refresh_114 rfl (by decide)),
   px_Sp.of (ps_iload_n dX2_refresh_115 rfl),
   px_Sp.of (ps_aload_n dX2_refresh_116 rfl),
   px_Sp.of (ps_get kc_X2 (by decide) wf_RX2_22 dX2_refresh_117),
   px_Sp.of (ps_get kc_X1 (by decide) wf_RX2_41 dX2_refresh_120),
   px_Sp.of (ps_icmp_ge dX2_refresh_123 (by decide)),
   px_Sp.of (ps_aload_n dX2_refresh_126 rfl),
   px_Sp.of (ps_iload_n dX2_refresh_127 rfl),
   ps_callV (IH 35 (by decide)) (C := RX2) (T := TX2) (N := 8) (ci := 2) rfl rfl (fc_35 _ _) wm_RX2_58 wi_yX2_holdLines wl_yX2_holdLines dX2_refresh_128,
   px_Sp.of (ps_iinc dX2_refresh_131 (by decide) (by decide)),
   px_Sp.of (ps_goto dX2_refresh_134 (by decide)),
   px_Sp.of (ps_aload_n dX2_refresh_137 rfl),
   px_Sp.of (ps_iload_n dX2_refresh_138 rfl),
   px_Sp.ofm (ps_putI kc_X2 (by decide) wf_RX2_18 rfl (by decide +kernel) kp_X2_6 dX2_refresh_139),
   px_Sp.of (ps_aload_n dX2_refresh_142 rfl),
   px_Sp.of (ps_iconst dX2_refresh_143 (by decide)),
   px_Sp.ofm (ps_putI kc_X2 (by decide) wf_RX2_33 rfl (by decide +kernel) kp_X2_5 dX2_refresh_144),
   ps_vret dX2_refresh_147, trivial⟩
theorem mt_23 {l : Launch} {d : Nat} (IH : ∀ μ, μ < 196 → px_Met l px_P d μ) : px_Met l px_P (d + 1) 23 := px_met (own := RX2) rfl (by decide +kernel) (ok_23 IH)
