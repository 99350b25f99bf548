/-! ===== tables that are right, 6 ===== -/
theorem dX6_isFigure_0 : decode cX6_isFigure 0 = .ok (.iload_n 0, 1) := by decide +kernel
theorem dX6_isFigure_1 : decode cX6_isFigure 1 = .ok (.bipush 48, 2) := by decide +kernel
theorem dX6_isFigure_3 : decode cX6_isFigure 3 = .ok (.if_icmp .lt 13, 3) := by decide +kernel
theorem dX6_isFigure_6 : decode cX6_isFigure 6 = .ok (.iload_n 0, 1) := by decide +kernel
theorem dX6_isFigure_7 : decode cX6_isFigure 7 = .ok (.bipush 57, 2) := by decide +kernel
theorem dX6_isFigure_9 : decode cX6_isFigure 9 = .ok (.if_icmp .gt 7, 3) := by decide +kernel
theorem dX6_isFigure_12 : decode cX6_isFigure 12 = .ok (.iconst 1, 1) := by decide +kernel
theorem dX6_isFigure_13 : decode cX6_isFigure 13 = .ok (.goto 4, 3) := by decide +kernel
theorem dX6_isFigure_16 : decode cX6_isFigure 16 = .ok (.iconst 0, 1) := by decide +kernel
theorem dX6_isFigure_17 : decode cX6_isFigure 17 = .ok (.ireturn, 1) := by decide +kernel
set_option maxRecDepth 20000 in
theorem ok_123 {l : Launch} {d : Nat} (IH : ∀ μ, μ < 196 → px_Met l px_P d μ) : px_ok l px_P d RX6 cX6_isFigure 1 (some .boolean) tb_123 :=
  ⟨px_Sp.of (ps_iload_n dX6_isFigure_0 rfl),
   px_Sp.of (ps_bipush dX6_isFigure_1 (by decide)),
   px_Sp.of (ps_icmp_lt dX6_isFigure_3 (by decide)),
   px_Sp.of (ps_iload_n dX6_isFigure_6 rfl),
   px_Sp.of (ps_bipush dX6_isFigure_7 (by decide)),
   px_Sp.of (ps_icmp_gt dX6_isFigure_9 (by decide)),
   px_Sp.of (ps_iconst dX6_isFigure_12 (by decide)),
   px_Sp.of (ps_goto dX6_isFigure_13 (by decide)),
   px_Sp.of (ps_iconst dX6_isFigure_16 (by decide)),
   ps_zret dX6_isFigure_17, trivial⟩
theorem mt_123 {l : Launch} {d : Nat} (IH : ∀ μ, μ < 196 → px_Met l px_P d μ) : px_Met l px_P (d + 1) 123 := px_met (own := RX6) rfl (by decide +kernel) (ok_123 IH)
theorem dX6_readSemicolon_0 : decode cX6_readSemicolon 0 = .ok (.aload_n 0, 1) := by decide +kernel
theorem dX6_readSemicolon_1 : decode cX6_readSemicolon 1 = .ok (.invokevirtual 43, 3) := by decide +kernel
theorem dX6_readSemicolon_4 : decode cX6_readSemicolon 4 = .ok (.aload_n 0, 1) := by decide +kernel
theorem dX6_readSemicolon_5 : decode cX6_readSemicolon 5 = .ok (.getfield 34, 3) := by decide +kernel
theorem dX6_readSemicolon_8 : decode cX6_readSemicolon 8 = .ok (.aload_n 0, 1) := by decide +kernel
theorem dX6_readSemicolon_9 : decode cX6_readSemicolon 9 = .ok (.getfield 22, 3) := by decide +kernel
theorem dX6_readSemicolon_12 : decode cX6_readSemicolon 12 = .ok (.if_icmp .ge 17, 3) := by decide +kernel
theorem dX6_readSemicolon_15 : decode cX6_readSemicolon 15 = .ok (.aload_n 0, 1) := by decide +kernel
theorem dX6_readSemicolon_16 : decode cX6_readSemicolon 16 = .ok (.getfield 9, 3) := by decide +kernel
theorem dX6_readSemicolon_19 : decode cX6_readSemicolon 19 = .ok (.aload_n 0, 1) := by decide +kernel
theorem dX6_readSemicolon_20 : decode cX6_readSemicolon 20 = .ok (.getfield 34, 3) := by decide +kernel
theorem dX6_readSemicolon_23 : decode cX6_readSemicolon 23 = .ok (.iaload, 1) := by decide +kernel
theorem dX6_readSemicolon_24 : decode cX6_readSemicolon 24 = .ok (.bipush 59, 2) := by decide +kernel
theorem dX6_readSemicolon_26 : decode cX6_readSemicolon 26 = .ok (.if_icmp .eq 13, 3) := by decide +kernel
theorem dX6_readSemicolon_29 : decode cX6_readSemicolon 29 = .ok (.aload_n 0, 1) := by decide +kernel
theorem dX6_readSemicolon_30 : decode cX6_readSemicolon 30 = .ok (.iconst 1, 1) := by decide +kernel
theorem dX6_readSemicolon_31 : decode cX6_readSemicolon 31 = .ok (.aload_n 0, 1) := by decide +kernel
theorem dX6_readSemicolon_32 : decode cX6_readSemicolon 32 = .ok (.getfield 34, 3) := by decide +kernel
theorem dX6_readSemicolon_35 : decode cX6_readSemicolon 35 = .ok (.invokevirtual 58, 3) := by decide +kernel
theorem dX6_readSemicolon_38 : decode cX6_readSemicolon 38 = .ok (.ireturn, 1) := by decide +kernel
theorem dX6_readSemicolon_39 : decode cX6_readSemicolon 39 = .ok (.aload_n 0, 1) := by decide +kernel
theorem dX6_readSemicolon_40 : decode cX6_readSemicolon 40 = .ok (.dup, 1) := by decide +kernel
theorem dX6_readSemicolon_41 : decode cX6_readSemicolon 41 = .ok (.getfield 34, 3) := by decide +kernel
theorem dX6_readSemicolon_44 : decode cX6_readSemicolon 44 = .ok (.iconst 1, 1) := by decide +kernel
theorem dX6_readSemicolon_45 : decode cX6_readSemicolon 45 = .ok (.iadd, 1) := by decide +kernel
theorem dX6_readSemicolon_46 : decode cX6_readSemicolon 46 = .ok (.putfield 34, 3) := by decide +kernel
theorem dX6_readSemicolon_49 : decode cX6_readSemicolon 49 = .ok (.iconst 1, 1) := by decide +kernel
theorem dX6_readSemicolon_50 : decode cX6_readSemicolon 50 = .ok (.ireturn, 1) := by decide +kernel
set_option maxRecDepth 20000 in
theorem ok_124 {l : Launch} {d : Nat} (IH : ∀ μ, μ < 196 → px_Met l px_P d μ) : px_ok l px_P d RX6 cX6_readSemicolon 1 (some .boolean) tb_124 :=
  ⟨px_Sp.of (ps_aload_n dX6_readSemicolon_0 rfl),
   ps_callV (IH 107 (by decide)) (C := RX6) (T := TX6) (N := 7) (ci := 6) rfl rfl (fc_107 _ _) wm_RX6_43 wi_yX6_skipBlanks wl_yX6_skipBlanks dX6_readSemicolon_1,
   px_Sp.of (ps_aload_n dX6_readSemicolon_4 rfl),
   px_Sp.of (ps_get kc_X6 (by decide) wf_RX6_34 dX6_readSemicolon_5),
   px_Sp.of (ps_aload_n dX6_readSemicolon_8 rfl),
   px_Sp.of (ps_get kc_X6 (by decide) wf_RX6_22 dX6_readSemicolon_9),
   px_Sp.of (ps_icmp_ge dX6_readSemicolon_12 (by decide)),
   px_Sp.of (ps_aload_n dX6_readSemicolon_15 rfl),
   px_Sp.of (ps_get kc_X6 (by decide) wf_RX6_9 dX6_readSemicolon_16),
   px_Sp.of (ps_aload_n dX6_readSemicolon_19 rfl),
   px_Sp.of (ps_get kc_X6 (by decide) wf_RX6_34 dX6_readSemicolon_20),
   px_Sp.of (ps_iald dX6_readSemicolon_23),
   px_Sp.of (ps_bipush dX6_readSemicolon_24 (by decide)),
   px_Sp.of (ps_icmp_eq dX6_readSemicolon_26 (by decide)),
   px_Sp.of (ps_aload_n dX6_readSemicolon_29 rfl),
   px_Sp.of (ps_iconst dX6_readSemicolon_30 (by decide)),
   px_Sp.of (ps_aload_n dX6_readSemicolon_31 rfl),
   px_Sp.of (ps_get kc_X6 (by decide) wf_RX6_34 dX6_readSemicolon_32),
   ps_callV (IH 120 (by decide)) (C := RX6) (T := TX6) (N := 7) (ci := 6) rfl rfl (fc_120 _ _) wm_RX6_58 wi_yX6_blame wl_yX6_blame dX6_readSemicolon_35,
   ps_zret dX6_readSemicolon_38,
   px_Sp.of (ps_aload_n dX6_readSemicolon_39 rfl),
   px_Sp.of (ps_dup dX6_readSemicolon_40),
   px_Sp.of (ps_get kc_X6 (by decide) wf_RX6_34 dX6_readSemicolon_41),
   px_Sp.of (ps_iconst dX6_readSemicolon_44 (by decide)),
   px_Sp.of (ps_iadd dX6_readSemicolon_45),
   px_Sp.ofm (ps_putI kc_X6 (by decide) wf_RX6_34 rfl (by decide +kernel) kp_X6_5 dX6_readSemicolon_46),
   px_Sp.of (ps_iconst dX6_readSemicolon_49 (by decide)),
   ps_zret dX6_readSemicolon_50, trivial⟩
theorem mt_124 {l : Launch} {d : Nat} (IH : ∀ μ, μ < 196 → px_Met l px_P d μ) : px_Met l px_P (d + 1) 124 := px_met (own := RX6) rfl (by decide +kernel) (ok_124 IH)
theorem dX0_forgetAll_0 : decode cX0_forgetAll 0 = .ok (.aload_n 0, 1) := by decide +kernel
theorem dX0_forgetAll_1 : decode cX0_forgetAll 1 = .ok (.getfield 9, 3) := by decide +kernel
theorem dX0_forgetAll_4 : decode cX0_forgetAll 4 = .ok (.iconst (-1), 1) := by decide +kernel
theorem dX0_forgetAll_5 : decode cX0_forgetAll 5 = .ok (.invokestatic 28, 3) := by decide +kernel
theorem dX0_forgetAll_8 : decode cX0_forgetAll 8 = .ok (.return_, 1) := by decide +kernel
set_option maxRecDepth 20000 in
theorem ok_125 {l : Launch} {d : Nat} (IH : ∀ μ, μ < 196 → px_Met l px_P d μ) : px_ok l px_P d RX0 cX0_forgetAll 1 (none) tb_125 :=
  ⟨px_Sp.of (ps_aload_n dX0_forgetAll_0 rfl),
   px_Sp.of (ps_get kc_X0 (by decide) wf_RX0_9 dX0_forgetAll_1),
   px_Sp.of (ps_iconst dX0_forgetAll_4 (by decide)),
   ps_callS (IH 0 (by decide)) (fc_0 _ _) wm_RX0_28 ws_yJ7_fill_53178 dX0_forgetAll_5,
   ps_vret dX0_forgetAll_8, trivial⟩
theorem mt_125 {l : Launch} {d : Nat} (IH : ∀ μ, μ < 196 → px_Met l px_P d μ) : px_Met l px_P (d + 1) 125 := px_met (own := RX0) rfl (by decide +kernel) (ok_125 IH)
theorem dX8_fault_0 : decode cX8_fault 0 = .ok (.aload_n 0, 1) := by decide +kernel
theorem dX8_fault_1 : decode cX8_fault 1 = .ok (.getfield 69, 3) := by decide +kernel
theorem dX8_fault_4 : decode cX8_fault 4 = .ok (.getfield 257, 3) := by decide +kernel
theorem dX8_fault_7 : decode cX8_fault 7 = .ok (.ireturn, 1) := by decide +kernel
set_option maxRecDepth 20000 in
theorem ok_126 {l : Launch} {d : Nat} (IH : ∀ μ, μ < 196 → px_Met l px_P d μ) : px_ok l px_P d RX8 cX8_fault 1 (some .int) tb_126 :=
  ⟨px_Sp.of (ps_aload_n dX8_fault_0 rfl),
   px_Sp.of (ps_get kc_X8 (by decide) wf_RX8_69 dX8_fault_1),
   px_Sp.of (ps_get kc_X6 (by decide) wf_RX8_257 dX8_fault_4),
   ps_iret dX8_fault_7, trivial⟩
theorem mt_126 {l : Launch} {d : Nat} (IH : ∀ μ, μ < 196 → px_Met l px_P d μ) : px_Met l px_P (d + 1) 126 := px_met (own := RX8) rfl (by decide +kernel) (ok_126 IH)
theorem dX8_rule_0 : decode cX8_rule 0 = .ok (.iload_n 1, 1) := by decide +kernel
theorem dX8_rule_1 : decode cX8_rule 1 = .ok (.ifCond .lt 8, 3) := by decide +kernel
theorem dX8_rule_4 : decode cX8_rule 4 = .ok (.iload_n 1, 1) := by decide +kernel
theorem dX8_rule_5 : decode cX8_rule 5 = .ok (.iconst 5, 1) := by decide +kernel
theorem dX8_rule_6 : decode cX8_rule 6 = .ok (.if_icmp .lt 9, 3) := by decide +kernel
theorem dX8_rule_9 : decode cX8_rule 9 = .ok (.sipush (-1002), 3) := by decide +kernel
theorem dX8_rule_12 : decode cX8_rule 12 = .ok (.goto 9, 3) := by decide +kernel
theorem dX8_rule_15 : decode cX8_rule 15 = .ok (.aload_n 0, 1) := by decide +kernel
theorem dX8_rule_16 : decode cX8_rule 16 = .ok (.getfield 9, 3) := by decide +kernel
theorem dX8_rule_19 : decode cX8_rule 19 = .ok (.iload_n 1, 1) := by decide +kernel
theorem dX8_rule_20 : decode cX8_rule 20 = .ok (.iaload, 1) := by decide +kernel
theorem dX8_rule_21 : decode cX8_rule 21 = .ok (.ireturn, 1) := by decide +kernel
set_option maxRecDepth 20000 in
theorem ok_127 {l : Launch} {d : Nat} (IH : ∀ μ, μ < 196 → px_Met l px_P d μ) : px_ok l px_P d RX8 cX8_rule 2 (some .int) tb_127 :=
  ⟨px_Sp.of (ps_iload_n dX8_rule_0 rfl),
   px_Sp.of (ps_if_lt dX8_rule_1 (by decide)),
   px_Sp.of (ps_iload_n dX8_rule_4 rfl),
   px_Sp.of (ps_iconst dX8_rule_5 (by decide)),
   px_Sp.of (ps_icmp_lt dX8_rule_6 (by decide)),
   px_Sp.of (ps_sipush dX8_rule_9 (by decide)),
   px_Sp.of (ps_goto dX8_rule_12 (by decide)),
   px_Sp.of (ps_aload_n dX8_rule_15 rfl),
   px_Sp.of (ps_get kc_X8 (by decide) wf_RX8_9 dX8_rule_16),
   px_Sp.of (ps_iload_n dX8_rule_19 rfl),
   px_Sp.of (ps_iald dX8_rule_20),
   ps_iret dX8_rule_21, trivial⟩
theorem mt_127 {l : Launch} {d : Nat} (IH : ∀ μ, μ < 196 → px_Met l px_P d μ) : px_Met l px_P (d + 1) 127 := px_met (own := RX8) rfl (by decide +kernel) (ok_127 IH)
theorem dX9_atFirst_0 : decode cX9_atFirst 0 = .ok (.iload_n 0, 1) := by decide +kernel
theorem dX9_atFirst_1 : decode cX9_atFirst 1 = .ok (.iconst 1, 1) := by decide +kernel
theorem dX9_atFirst_2 : decode cX9_atFirst 2 = .ok (.if_icmp .ne 8, 3) := by decide +kernel
theorem dX9_atFirst_5 : decode cX9_atFirst 5 = .ok (.bipush 50, 2) := by decide +kernel
theorem dX9_atFirst_7 : decode cX9_atFirst 7 = .ok (.goto 32, 3) := by decide +kernel
theorem dX9_atFirst_10 : decode cX9_atFirst 10 = .ok (.iload_n 0, 1) := by decide +kernel
theorem dX9_atFirst_11 : decode cX9_atFirst 11 = .ok (.iconst 2, 1) := by decide +kernel
theorem dX9_atFirst_12 : decode cX9_atFirst 12 = .ok (.if_icmp .ne 7, 3) := by decide +kernel
theorem dX9_atFirst_15 : decode cX9_atFirst 15 = .ok (.iconst 1, 1) := by decide +kernel
theorem dX9_atFirst_16 : decode cX9_atFirst 16 = .ok (.goto 23, 3) := by decide +kernel
theorem dX9_atFirst_19 : decode cX9_atFirst 19 = .ok (.iload_n 0, 1) := by decide +kernel
theorem dX9_atFirst_20 : decode cX9_atFirst 20 = .ok (.iconst 3, 1) := by decide +kernel
theorem dX9_atFirst_21 : decode cX9_atFirst 21 = .ok (.if_icmp .ne 8, 3) := by decide +kernel
theorem dX9_atFirst_24 : decode cX9_atFirst 24 = .ok (.bipush 14, 2) := by decide +kernel
theorem dX9_atFirst_26 : decode cX9_atFirst 26 = .ok (.goto 13, 3) := by decide +kernel
theorem dX9_atFirst_29 : decode cX9_atFirst 29 = .ok (.iload_n 0, 1) := by decide +kernel
theorem dX9_atFirst_30 : decode cX9_atFirst 30 = .ok (.iconst 4, 1) := by decide +kernel
theorem dX9_atFirst_31 : decode cX9_atFirst 31 = .ok (.if_icmp .ne 7, 3) := by decide +kernel
theorem dX9_atFirst_34 : decode cX9_atFirst 34 = .ok (.iconst 5, 1) := by decide +kernel
theorem dX9_atFirst_35 : decode cX9_atFirst 35 = .ok (.goto 4, 3) := by decide +kernel
theorem dX9_atFirst_38 : decode cX9_atFirst 38 = .ok (.iconst 0, 1) := by decide +kernel
theorem dX9_atFirst_39 : decode cX9_atFirst 39 = .ok (.ireturn, 1) := by decide +kernel
set_option maxRecDepth 20000 in
theorem ok_128 {l : Launch} {d : Nat} (IH : ∀ μ, μ < 196 → px_Met l px_P d μ) : px_ok l px_P d RX9 cX9_atFirst 1 (some .int) tb_128 :=
  ⟨px_Sp.of (ps_iload_n dX9_atFirst_0 rfl),
   px_Sp.of (ps_iconst dX9_atFirst_1 (by decide)),
   px_Sp.of (ps_icmp_ne dX9_atFirst_2 (by decide)),
   px_Sp.of (ps_bipush dX9_atFirst_5 (by decide)),
   px_Sp.of (ps_goto dX9_atFirst_7 (by decide)),
   px_Sp.of (ps_iload_n dX9_atFirst_10 rfl),
   px_Sp.of (ps_iconst dX9_atFirst_11 (by decide)),
   px_Sp.of (ps_icmp_ne dX9_atFirst_12 (by decide)),
   px_Sp.of (ps_iconst dX9_atFirst_15 (by decide)),
   px_Sp.of (ps_goto dX9_atFirst_16 (by decide)),
   px_Sp.of (ps_iload_n dX9_atFirst_19 rfl),
   px_Sp.of (ps_iconst dX9_atFirst_20 (by decide)),
   px_Sp.of (ps_icmp_ne dX9_atFirst_21 (by decide)),
   px_Sp.of (ps_bipush dX9_atFirst_24 (by decide)),
   px_Sp.of (ps_goto dX9_atFirst_26 (by decide)),
   px_Sp.of (ps_iload_n dX9_atFirst_29 rfl),
   px_Sp.of (ps_iconst dX9_atFirst_30 (by decide)),
   px_Sp.of (ps_icmp_ne dX9_atFirst_31 (by decide)),
   px_Sp.of (ps_iconst dX9_atFirst_34 (by decide)),
   px_Sp.of (ps_goto dX9_atFirst_35 (by decide)),
   px_Sp.of (ps_iconst dX9_atFirst_38 (by decide)),
   ps_iret dX9_atFirst_39, trivial⟩
theorem mt_128 {l : Launch} {d : Nat} (IH : ∀ μ, μ < 196 → px_Met l px_P d μ) : px_Met l px_P (d + 1) 128 := px_met (own := RX9) rfl (by decide +kernel) (ok_128 IH)
theorem dX9_word_0 : decode cX9_word 0 = .ok (.iload_n 1, 1) := by decide +kernel
theorem dX9_word_1 : decode cX9_word 1 = .ok (.i2l, 1) := by decide +kernel
theorem dX9_word_2 : decode cX9_word 2 = .ok (.lconst 1, 1) := by decide +kernel
theorem dX9_word_3 : decode cX9_word 3 = .ok (.ldc2_w 103, 3) := by decide +kernel
theorem dX9_word_6 : decode cX9_word 6 = .ok (.invokestatic 95, 3) := by decide +kernel
theorem dX9_word_9 : decode cX9_word 9 = .ok (.ifCond .ne 7, 3) := by decide +kernel
theorem dX9_word_12 : decode cX9_word 12 = .ok (.sipush (-1002), 3) := by decide +kernel
theorem dX9_word_15 : decode cX9_word 15 = .ok (.ireturn, 1) := by decide +kernel
theorem dX9_word_16 : decode cX9_word 16 = .ok (.aload_n 0, 1) := by decide +kernel
theorem dX9_word_17 : decode cX9_word 17 = .ok (.getfield 105, 3) := by decide +kernel
theorem dX9_word_20 : decode cX9_word 20 = .ok (.bipush 8, 2) := by decide +kernel
theorem dX9_word_22 : decode cX9_word 22 = .ok (.if_icmp .ne 7, 3) := by decide +kernel
theorem dX9_word_25 : decode cX9_word 25 = .ok (.sipush (-1004), 3) := by decide +kernel
theorem dX9_word_28 : decode cX9_word 28 = .ok (.ireturn, 1) := by decide +kernel
theorem dX9_word_29 : decode cX9_word 29 = .ok (.aload_n 0, 1) := by decide +kernel
theorem dX9_word_30 : decode cX9_word 30 = .ok (.getfield 38, 3) := by decide +kernel
theorem dX9_word_33 : decode cX9_word 33 = .ok (.aload_n 0, 1) := by decide +kernel
theorem dX9_word_34 : decode cX9_word 34 = .ok (.getfield 105, 3) := by decide +kernel
theorem dX9_word_37 : decode cX9_word 37 = .ok (.iload_n 1, 1) := by decide +kernel
theorem dX9_word_38 : decode cX9_word 38 = .ok (.iastore, 1) := by decide +kernel
theorem dX9_word_39 : decode cX9_word 39 = .ok (.aload_n 0, 1) := by decide +kernel
theorem dX9_word_40 : decode cX9_word 40 = .ok (.dup, 1) := by decide +kernel
theorem dX9_word_41 : decode cX9_word 41 = .ok (.getfield 105, 3) := by decide +kernel
theorem dX9_word_44 : decode cX9_word 44 = .ok (.iconst 1, 1) := by decide +kernel
theorem dX9_word_45 : decode cX9_word 45 = .ok (.iadd, 1) := by decide +kernel
theorem dX9_word_46 : decode cX9_word 46 = .ok (.putfield 105, 3) := by decide +kernel
theorem dX9_word_49 : decode cX9_word 49 = .ok (.aload_n 0, 1) := by decide +kernel
theorem dX9_word_50 : decode cX9_word 50 = .ok (.getfield 105, 3) := by decide +kernel
theorem dX9_word_53 : decode cX9_word 53 = .ok (.ireturn, 1) := by decide +kernel
set_option maxRecDepth 20000 in
theorem ok_129 {l : Launch} {d : Nat} (IH : ∀ μ, μ < 196 → px_Met l px_P d μ) : px_ok l px_P d RX9 cX9_word 2 (some .int) tb_129 :=
  ⟨px_Sp.of (ps_iload_n dX9_word_0 rfl),
   px_Sp.of (ps_i2l dX9_word_1),
   px_Sp.of (ps_lconst dX9_word_2 (by decide)),
   px_Sp.of (ps_ldc2 dX9_word_3 wk_RX9_103),
   ps_callS (IH 130 (by decide)) (fc_130 _ _) wm_RX9_95 ws_yX9_in dX9_word_6,
   px_Sp.of (ps_if_ne dX9_word_9 (by decide)),
   px_Sp.of (ps_sipush dX9_word_12 (by decide)),
   ps_iret dX9_word_15,
   px_Sp.of (ps_aload_n dX9_word_16 rfl),
   px_Sp.of (ps_get kc_X9 (by decide) wf_RX9_105 dX9_word_17),
   px_Sp.of (ps_bipush dX9_word_20 (by decide)),
   px_Sp.of (ps_icmp_ne dX9_word_22 (by decide)),
   px_Sp.of (ps_sipush dX9_word_25 (by decide)),
   ps_iret dX9_word_28,
   px_Sp.of (ps_aload_n dX9_word_29 rfl),
   px_Sp.of (ps_get kc_X9 (by decide) wf_RX9_38 dX9_word_30),
   px_Sp.of (ps_aload_n dX9_word_33 rfl),
   px_Sp.of (ps_get kc_X9 (by decide) wf_RX9_105 dX9_word_34),
   px_Sp.of (ps_iload_n dX9_word_37 rfl),
   px_Sp.ofm (ps_iast dX9_word_38),
   px_Sp.of (ps_aload_n dX9_word_39 rfl),
   px_Sp.of (ps_dup dX9_word_40),
   px_Sp.of (ps_get kc_X9 (by decide) wf_RX9_105 dX9_word_41),
   px_Sp.of (ps_iconst dX9_word_44 (by decide)),
   px_Sp.of (ps_iadd dX9_word_45),
   px_Sp.ofm (ps_putI kc_X9 (by decide) wf_RX9_105 rfl (by decide +kernel) kp_X9_10 dX9_word_46),
   px_Sp.of (ps_aload_n dX9_word_49 rfl),
   px_Sp.of (ps_get kc_X9 (by decide) wf_RX9_105 dX9_word_50),
   ps_iret dX9_word_53, trivial⟩
theorem mt_129 {l : Launch} {d : Nat} (IH : ∀ μ, μ < 196 → px_Met l px_P d μ) : px_Met l px_P (d + 1) 129 := px_met (own := RX9) rfl (by decide +kernel) (ok_129 IH)
theorem dX9_in_0 : decode cX9_in 0 = .ok (.lload_n 0, 1) := by decide +kernel
theorem dX9_in_1 : decode cX9_in 1 = .ok (.lload_n 2, 1) := by decide +kernel
theorem dX9_in_2 : decode cX9_in 2 = .ok (.lcmp, 1) := by decide +kernel
theorem dX9_in_3 : decode cX9_in 3 = .ok (.ifCond .lt 14, 3) := by decide +kernel
theorem dX9_in_6 : decode cX9_in 6 = .ok (.lload_n 0, 1) := by decide +kernel
theorem dX9_in_7 : decode cX9_in 7 = .ok (.lload 4, 2) := by decide +kernel
theorem dX9_in_9 : decode cX9_in 9 = .ok (.lcmp, 1) := by decide +kernel
theorem dX9_in_10 : decode cX9_in 10 = .ok (.ifCond .gt 7, 3) := by decide +kernel
theorem dX9_in_13 : decode cX9_in 13 = .ok (.iconst 1, 1) := by decide +kernel
theorem dX9_in_14 : decode cX9_in 14 = .ok (.goto 4, 3) := by decide +kernel
theorem dX9_in_17 : decode cX9_in 17 = .ok (.iconst 0, 1) := by decide +kernel
theorem dX9_in_18 : decode cX9_in 18 = .ok (.ireturn, 1) := by decide +kernel
set_option maxRecDepth 20000 in
theorem ok_130 {l : Launch} {d : Nat} (IH : ∀ μ, μ < 196 → px_Met l px_P d μ) : px_ok l px_P d RX9 cX9_in 6 (some .boolean) tb_130 :=
  ⟨px_Sp.of (ps_lload_n dX9_in_0 rfl),
   px_Sp.of (ps_lload_n dX9_in_1 rfl),
   px_Sp.of (ps_lcmp dX9_in_2),
   px_Sp.of (ps_if_lt dX9_in_3 (by decide)),
   px_Sp.of (ps_lload_n dX9_in_6 rfl),
   px_Sp.of (ps_lload dX9_in_7),
   px_Sp.of (ps_lcmp dX9_in_9),
   px_Sp.of (ps_if_gt dX9_in_10 (by decide)),
   px_Sp.of (ps_iconst dX9_in_13 (by decide)),
   px_Sp.of (ps_goto dX9_in_14 (by decide)),
   px_Sp.of (ps_iconst dX9_in_17 (by decide)),
   ps_zret dX9_in_18, trivial⟩
theorem mt_130 {l : Launch} {d : Nat} (IH : ∀ μ, μ < 196 → px_Met l px_P d μ) : px_Met l px_P (d + 1) 130 := px_met (own := RX9) rfl (by decide +kernel) (ok_130 IH)
theorem dX9_letter_0 : decode cX9_letter 0 = .ok (.iload_n 3, 1) := by decide +kernel
theorem dX9_letter_1 : decode cX9_letter 1 = .ok (.iconst (-1), 1) := by decide +kernel
theorem dX9_letter_2 : decode cX9_letter 2 = .ok (.if_icmp .eq 15, 3) := by decide +kernel
theorem dX9_letter_5 : decode cX9_letter 5 = .ok (.aload_n 0, 1) := by decide +kernel
theorem dX9_letter_6 : decode cX9_letter 6 = .ok (.iload_n 3, 1) := by decide +kernel
theorem dX9_letter_7 : decode cX9_letter 7 = .ok (.invokevirtual 99, 3) := by decide +kernel
theorem dX9_letter_10 : decode cX9_letter 10 = .ok (.ifCond .eq 7, 3) := by decide +kernel
theorem dX9_letter_13 : decode cX9_letter 13 = .ok (.sipush (-1001), 3) := by decide +kernel
theorem dX9_letter_16 : decode cX9_letter 16 = .ok (.ireturn, 1) := by decide +kernel
theorem dX9_letter_17 : decode cX9_letter 17 = .ok (.iload_n 1, 1) := by decide +kernel
theorem dX9_letter_18 : decode cX9_letter 18 = .ok (.i2l, 1) := by decide +kernel
theorem dX9_letter_19 : decode cX9_letter 19 = .ok (.lconst 0, 1) := by decide +kernel
theorem dX9_letter_20 : decode cX9_letter 20 = .ok (.ldc2_w 108, 3) := by decide +kernel
theorem dX9_letter_23 : decode cX9_letter 23 = .ok (.invokestatic 95, 3) := by decide +kernel
theorem dX9_letter_26 : decode cX9_letter 26 = .ok (.ifCond .eq 17, 3) := by decide +kernel
theorem dX9_letter_29 : decode cX9_letter 29 = .ok (.iload_n 2, 1) := by decide +kernel
theorem dX9_letter_30 : decode cX9_letter 30 = .ok (.i2l, 1) := by decide +kernel
theorem dX9_letter_31 : decode cX9_letter 31 = .ok (.ldc2_w 110, 3) := by decide +kernel
theorem dX9_letter_34 : decode cX9_letter 34 = .ok (.ldc2_w 112, 3) := by decide +kernel
theorem dX9_letter_37 : decode cX9_letter 37 = .ok (.invokestatic 95, 3) := by decide +kernel
theorem dX9_letter_40 : decode cX9_letter 40 = .ok (.ifCond .ne 7, 3) := by decide +kernel
theorem dX9_letter_43 : decode cX9_letter 43 = .ok (.sipush (-1002), 3) := by decide +kernel
theorem dX9_letter_46 : decode cX9_letter 46 = .ok (.ireturn, 1) := by decide +kernel
theorem dX9_letter_47 : decode cX9_letter 47 = .ok (.aload_n 0, 1) := by decide +kernel
theorem dX9_letter_48 : decode cX9_letter 48 = .ok (.getfield 92, 3) := by decide +kernel
theorem dX9_letter_51 : decode cX9_letter 51 = .ok (.bipush 40, 2) := by decide +kernel
theorem dX9_letter_53 : decode cX9_letter 53 = .ok (.if_icmp .ne 7, 3) := by decide +kernel
theorem dX9_letter_56 : decode cX9_letter 56 = .ok (.sipush (-1004), 3) := by decide +kernel
theorem dX9_letter_59 : decode cX9_letter 59 = .ok (.ireturn, 1) := by decide +kernel
theorem dX9_letter_60 : decode cX9_letter 60 = .ok (.aload_n 0, 1) := by decide +kernel
theorem dX9_letter_61 : decode cX9_letter 61 = .ok (.getfield 13, 3) := by decide +kernel
theorem dX9_letter_64 : decode cX9_letter 64 = .ok (.aload_n 0, 1) := by decide +kernel
theorem dX9_letter_65 : decode cX9_letter 65 = .ok (.getfield 92, 3) := by decide +kernel
theorem dX9_letter_68 : decode cX9_letter 68 = .ok (.iload_n 1, 1) := by decide +kernel
theorem dX9_letter_69 : decode cX9_letter 69 = .ok (.iastore, 1) := by decide +kernel
theorem dX9_letter_70 : decode cX9_letter 70 = .ok (.aload_n 0, 1) := by decide +kernel
theorem dX9_letter_71 : decode cX9_letter 71 = .ok (.getfield 16, 3) := by decide +kernel
theorem dX9_letter_74 : decode cX9_letter 74 = .ok (.aload_n 0, 1) := by decide +kernel
theorem dX9_letter_75 : decode cX9_letter 75 = .ok (.getfield 92, 3) := by decide +kernel
theorem dX9_letter_78 : decode cX9_letter 78 = .ok (.iload_n 2, 1) := by decide +kernel
theorem dX9_letter_79 : decode cX9_letter 79 = .ok (.iastore, 1) := by decide +kernel
theorem dX9_letter_80 : decode cX9_letter 80 = .ok (.aload_n 0, 1) := by decide +kernel
theorem dX9_letter_81 : decode cX9_letter 81 = .ok (.getfield 19, 3) := by decide +kernel
theorem dX9_letter_84 : decode cX9_letter 84 = .ok (.aload_n 0, 1) := by decide +kernel
theorem dX9_letter_85 : decode cX9_letter 85 = .ok (.getfield 92, 3) := by decide +kernel
theorem dX9_letter_88 : decode cX9_letter 88 = .ok (.iload_n 3, 1) := by decide +kernel
theorem dX9_letter_89 : decode cX9_letter 89 = .ok (.iastore, 1) := by decide +kernel
theorem dX9_letter_90 : decode cX9_letter 90 = .ok (.aload_n 0, 1) := by decide +kernel
theorem dX9_letter_91 : decode cX9_letter 91 = .ok (.getfield 22, 3) := by decide +kernel
theorem dX9_letter_94 : decode cX9_letter 94 = .ok (.aload_n 0, 1) := by decide +kernel
theorem dX9_letter_95 : decode cX9_letter 95 = .ok (.getfield 92, 3) := by decide +kernel
theorem dX9_letter_98 : decode cX9_letter 98 = .ok (.iconst 0, 1) := by decide +kernel
theorem dX9_letter_99 : decode cX9_letter 99 = .ok (.iastore, 1) := by decide +kernel
theorem dX9_letter_100 : decode cX9_letter 100 = .ok (.aload_n 0, 1) := by decide +kernel
theorem dX9_letter_101 : decode cX9_letter 101 = .ok (.getfield 25, 3) := by decide +kernel
theorem dX9_letter_104 : decode cX9_letter 104 = .ok (.aload_n 0, 1) := by decide +kernel
theorem dX9_letter_105 : decode cX9_letter 105 = .ok (.getfield 92, 3) := by decide +kernel
theorem dX9_letter_108 : decode cX9_letter 108 = .ok (.iconst 0, 1) := by decide +kernel
theorem dX9_letter_109 : decode cX9_letter 109 = .ok (.bastore, 1) := by decide +kernel
theorem dX9_letter_110 : decode cX9_letter 110 = .ok (.aload_n 0, 1) := by decide +kernel
theorem dX9_letter_111 : decode cX9_letter 111 = .ok (.dup, 1) := by decide +kernel
theorem dX9_letter_112 : decode cX9_letter 112 = .ok (.getfield 92, 3) := by decide +kernel
theorem dX9_letter_115 : decode cX9_letter 115 = .ok (.iconst 1, 1) := by decide +kernel
theorem dX9_letter_116 : decode cX9_letter 116 = .ok (.iadd, 1) := by decide +kernel
theorem dX9_letter_117 : decode cX9_letter 117 = .ok (.putfield 92, 3) := by decide +kernel
theorem dX9_letter_120 : decode cX9_letter 120 = .ok (.aload_n 0, 1) := by decide +kernel
theorem dX9_letter_121 : decode cX9_letter 121 = .ok (.getfield 92, 3) := by decide +kernel
theorem dX9_letter_124 : decode cX9_letter 124 = .ok (.iconst 1, 1) := by decide +kernel
theorem dX9_letter_125 : decode cX9_letter 125 = .ok (.isub, 1) := by decide +kernel
theorem dX9_letter_126 : decode cX9_letter 126 = .ok (.ireturn, 1) := by decide +kernel
set_option maxRecDepth 20000 in
theorem ok_131 {l : Launch} {d : Nat} (IH : ∀ μ, μ < 196 → px_Met l px_P d μ) : px_ok l px_P d RX9 cX9_letter 4 (some .int) tb_131 :=
  ⟨px_Sp.of (ps_iload_n dX9_letter_0 rfl),
   px_Sp.of (ps_iconst dX9_letter_1 (by decide)),
   px_Sp.of (ps_icmp_eq dX9_letter_2 (by decide)),
   px_Sp.of (ps_aload_n dX9_letter_5 rfl),
   px_Sp.of (ps_iload_n dX9_letter_6 rfl),
   ps_callV (IH 132 (by decide)) (C := RX9) (T := TX9) (N := 36) (ci := 8) rfl rfl (fc_132 _ _) wm_RX9_99 wi_yX9_noLetter wl_yX9_noLetter dX9_letter_7,
   px_Sp.of (ps_if_eq dX9_letter_10 (by decide)),
   px_Sp.of (ps_sipush dX9_letter_13 (by decide)),
   ps_iret dX9_letter_16,
   px_Sp.of (ps_iload_n dX9_letter_17 rfl),
   px_Sp.of (ps_i2l dX9_letter_18),
   px_Sp.of (ps_lconst dX9_letter_19 (by decide)),
   px_Sp.of (ps_ldc2 dX9_letter_20 wk_RX9_108),
   ps_callS (IH 130 (by decide)) (fc_130 _ _) wm_RX9_95 ws_yX9_in dX9_letter_23,
   px_Sp.of (ps_if_eq dX9_letter_26 (by decide)),
   px_Sp.of (ps_iload_n dX9_letter_29 rfl),
   px_Sp.of (ps_i2l dX9_letter_30),
   px_Sp.of (ps_ldc2 dX9_letter_31 wk_RX9_110),
   px_Sp.of (ps_ldc2 dX9_letter_34 wk_RX9_112),
   ps_callS (IH 130 (by decide)) (fc_130 _ _) wm_RX9_95 ws_yX9_in dX9_letter_37,
   px_Sp.of (ps_if_ne dX9_letter_40 (by decide)),
   px_Sp.of (ps_sipush dX9_letter_43 (by decide)),
   ps_iret dX9_letter_46,
   px_Sp.of (ps_aload_n dX9_letter_47 rfl),
   px_Sp.of (ps_get kc_X9 (by decide) wf_RX9_92 dX9_letter_48),
   px_Sp.of (ps_bipush dX9_letter_51 (by decide)),
   px_Sp.of (ps_icmp_ne dX9_letter_53 (by decide)),
   px_Sp.of (ps_sipush dX9_letter_56 (by decide)),
   ps_iret dX9_letter_59,
   px_Sp.of (ps_aload_n dX9_letter_60 rfl),
   px_Sp.of (ps_get kc_X9 (by decide) wf_RX9_13 dX9_letter_61),
   px_Sp.of (ps_aload_n dX9_letter_64 rfl),
   px_Sp.of (ps_get kc_X9 (by decide) wf_RX9_92 dX9_letter_65),
   px_Sp.of (ps_iload_n dX9_letter_68 rfl),
   px_Sp.ofm (ps_iast dX9_letter_69),
   px_Sp.of (ps_aload_n dX9_letter_70 rfl),
   px_Sp.of (ps_get kc_X9 (by decide) wf_RX9_16 dX9_letter_71),
   px_Sp.of (ps_aload_n dX9_letter_74 rfl),
   px_Sp.of (ps_get kc_X9 (by decide) wf_RX9_92 dX9_letter_75),
   px_Sp.of (ps_iload_n dX9_letter_78 rfl),
   px_Sp.ofm (ps_iast dX9_letter_79),
   px_Sp.of (ps_aload_n dX9_letter_80 rfl),
   px_Sp.of (ps_get kc_X9 (by decide) wf_RX9_19 dX9_letter_81),
   px_Sp.of (ps_aload_n dX9_letter_84 rfl),
   px_Sp.of (ps_get kc_X9 (by decide) wf_RX9_92 dX9_letter_85),
   px_Sp.of (ps_iload_n dX9_letter_88 rfl),
   px_Sp.ofm (ps_iast dX9_letter_89),
   px_Sp.of (ps_aload_n dX9_letter_90 rfl),
   px_Sp.of (ps_get kc_X9 (by decide) wf_RX9_22 dX9_letter_91),
   px_Sp.of (ps_aload_n dX9_letter_94 rfl),
   px_Sp.of (ps_get kc_X9 (by decide) wf_RX9_92 dX9_letter_95),
   px_Sp.of (ps_iconst dX9_letter_98 (by decide)),
   px_Sp.ofm (ps_iast dX9_letter_99),
   px_Sp.of (ps_aload_n dX9_letter_100 rfl),
   px_Sp.of (ps_get kc_X9 (by decide) wf_RX9_25 dX9_letter_101),
   px_Sp.of (ps_aload_n dX9_letter_104 rfl),
   px_Sp.of (ps_get kc_X9 (by decide) wf_RX9_92 dX9_letter_105),
   px_Sp.of (ps_iconst dX9_letter_108 (by decide)),
   px_Sp.ofm (ps_zast dX9_letter_109),
   px_Sp.of (ps_aload_n dX9_letter_110 rfl),
   px_Sp.of (ps_dup dX9_letter_111),
   px_Sp.of (ps_get kc_X9 (by decide) wf_RX9_92 dX9_letter_112),
   px_Sp.of (ps_iconst dX9_letter_115 (by decide)),
   px_Sp.of (ps_iadd dX9_letter_116),
   px_Sp.ofm (ps_putI kc_X9 (by decide) wf_RX9_92 rfl (by decide +kernel) kp_X9_1 dX9_letter_117),
   px_Sp.of (ps_aload_n dX9_letter_120 rfl),
   px_Sp.of (ps_get kc_X9 (by decide) wf_RX9_92 dX9_letter_121),
   px_Sp.of (ps_iconst dX9_letter_124 (by decide)),
   px_Sp.of (ps_isub dX9_letter_125),
   ps_iret dX9_letter_126, trivial⟩
theorem mt_131 {l : Launch} {d : Nat} (IH : ∀ μ, μ < 196 → px_Met l px_P d μ) : px_Met l px_P (d + 1) 131 := px_met (own := RX9) rfl (by decide +kernel) (ok_131 IH)
theorem dX9_noLetter_0 : decode cX9_noLetter 0 = .ok (.iload_n 1, 1) := by decide +kernel
theorem dX9_noLetter_1 : decode cX9_noLetter 1 = .ok (.i2l, 1) := by decide +kernel
theorem dX9_noLetter_2 : decode cX9_noLetter 2 = .ok (.lconst 0, 1) := by decide +kernel
theorem dX9_noLetter_3 : decode cX9_noLetter 3 = .ok (.aload_n 0, 1) := by decide +kernel
theorem dX9_noLetter_4 : decode cX9_noLetter 4 = .ok (.getfield 92, 3) := by decide +kernel
theorem dX9_noLetter_7 : decode cX9_noLetter 7 = .ok (.iconst 1, 1) := by decide +kernel
theorem dX9_noLetter_8 : decode cX9_noLetter 8 = .ok (.isub, 1) := by decide +kernel
theorem dX9_noLetter_9 : decode cX9_noLetter 9 = .ok (.i2l, 1) := by decide +kernel
theorem dX9_noLetter_10 : decode cX9_noLetter 10 = .ok (.invokestatic 95, 3) := by decide +kernel
theorem dX9_noLetter_13 : decode cX9_noLetter 13 = .ok (.ifCond .ne 7, 3) := by decide +kernel
theorem dX9_noLetter_16 : decode cX9_noLetter 16 = .ok (.iconst 1, 1) := by decide +kernel
theorem dX9_noLetter_17 : decode cX9_noLetter 17 = .ok (.goto 4, 3) := by decide +kernel
theorem dX9_noLetter_20 : decode cX9_noLetter 20 = .ok (.iconst 0, 1) := by decide +kernel
theorem dX9_noLetter_21 : decode cX9_noLetter 21 = .ok (.ireturn, 1) := by decide +kernel
set_option maxRecDepth 20000 in
theorem ok_132 {l : Launch} {d : Nat} (IH : ∀ μ, μ < 196 → px_Met l px_P d μ) : px_ok l px_P d RX9 cX9_noLetter 2 (some .boolean) tb_132 :=
  ⟨px_Sp.of (ps_iload_n dX9_noLetter_0 rfl),
   px_Sp.of (ps_i2l dX9_noLetter_1),
   px_Sp.of (ps_lconst dX9_noLetter_2 (by decide)),
   px_Sp.of (ps_aload_n dX9_noLetter_3 rfl),
   px_Sp.of (ps_get kc_X9 (by decide) wf_RX9_92 dX9_noLetter_4),
   px_Sp.of (ps_iconst dX9_noLetter_7 (by decide)),
   px_Sp.of (ps_isub dX9_noLetter_8),
   px_Sp.of (ps_i2l dX9_noLetter_9),
   ps_callS (IH 130 (by decide)) (fc_130 _ _) wm_RX9_95 ws_yX9_in dX9_noLetter_10,
   px_Sp.of (ps_if_ne dX9_noLetter_13 (by decide)),
   px_Sp.of (ps_iconst dX9_noLetter_16 (by decide)),
   px_Sp.of (ps_goto dX9_noLetter_17 (by decide)),
   px_Sp.of (ps_iconst dX9_noLetter_20 (by decide)),
   ps_zret dX9_noLetter_21, trivial⟩
theorem mt_132 {l : Launch} {d : Nat} (IH : ∀ μ, μ < 196 → px_Met l px_P d μ) : px_Met l px_P (d + 1) 132 := px_met (own := RX9) rfl (by decide +kernel) (ok_132 IH)
theorem dX9_line_0 : decode cX9_line 0 = .ok (.aload_n 0, 1) := by decide +kernel
theorem dX9_line_1 : decode cX9_line 1 = .ok (.iload_n 1, 1) := by decide +kernel
theorem dX9_line_2 : decode cX9_line 2 = .ok (.invokevirtual 99, 3) := by decide +kernel
theorem dX9_line_5 : decode cX9_line 5 = .ok (.ifCond .eq 7, 3) := by decide +kernel
theorem dX9_line_8 : decode cX9_line 8 = .ok (.sipush (-1001), 3) := by decide +kernel
theorem dX9_line_11 : decode cX9_line 11 = .ok (.ireturn, 1) := by decide +kernel
theorem dX9_line_12 : decode cX9_line 12 = .ok (.iload_n 2, 1) := by decide +kernel
theorem dX9_line_13 : decode cX9_line 13 = .ok (.i2l, 1) := by decide +kernel
theorem dX9_line_14 : decode cX9_line 14 = .ok (.lconst 0, 1) := by decide +kernel
theorem dX9_line_15 : decode cX9_line 15 = .ok (.ldc2_w 114, 3) := by decide +kernel
theorem dX9_line_18 : decode cX9_line 18 = .ok (.invokestatic 95, 3) := by decide +kernel
theorem dX9_line_21 : decode cX9_line 21 = .ok (.ifCond .ne 7, 3) := by decide +kernel
theorem dX9_line_24 : decode cX9_line 24 = .ok (.sipush (-1002), 3) := by decide +kernel
theorem dX9_line_27 : decode cX9_line 27 = .ok (.ireturn, 1) := by decide +kernel
theorem dX9_line_28 : decode cX9_line 28 = .ok (.aload_n 0, 1) := by decide +kernel
theorem dX9_line_29 : decode cX9_line 29 = .ok (.getfield 22, 3) := by decide +kernel
theorem dX9_line_32 : decode cX9_line 32 = .ok (.iload_n 1, 1) := by decide +kernel
theorem dX9_line_33 : decode cX9_line 33 = .ok (.iaload, 1) := by decide +kernel
theorem dX9_line_34 : decode cX9_line 34 = .ok (.bipush 14, 2) := by decide +kernel
theorem dX9_line_36 : decode cX9_line 36 = .ok (.if_icmp .ne 7, 3) := by decide +kernel
theorem dX9_line_39 : decode cX9_line 39 = .ok (.sipush (-1004), 3) := by decide +kernel
theorem dX9_line_42 : decode cX9_line 42 = .ok (.ireturn, 1) := by decide +kernel
theorem dX9_line_43 : decode cX9_line 43 = .ok (.bipush 14, 2) := by decide +kernel
theorem dX9_line_45 : decode cX9_line 45 = .ok (.iload_n 1, 1) := by decide +kernel
theorem dX9_line_46 : decode cX9_line 46 = .ok (.imul, 1) := by decide +kernel
theorem dX9_line_47 : decode cX9_line 47 = .ok (.aload_n 0, 1) := by decide +kernel
theorem dX9_line_48 : decode cX9_line 48 = .ok (.getfield 22, 3) := by decide +kernel
theorem dX9_line_51 : decode cX9_line 51 = .ok (.iload_n 1, 1) := by decide +kernel
theorem dX9_line_52 : decode cX9_line 52 = .ok (.iaload, 1) := by decide +kernel
theorem dX9_line_53 : decode cX9_line 53 = .ok (.iadd, 1) := by decide +kernel
theorem dX9_line_54 : decode cX9_line 54 = .ok (.istore_n 3, 1) := by decide +kernel
theorem dX9_line_55 : decode cX9_line 55 = .ok (.aload_n 0, 1) := by decide +kernel
theorem dX9_line_56 : decode cX9_line 56 = .ok (.getfield 29, 3) := by decide +kernel
theorem dX9_line_59 : decode cX9_line 59 = .ok (.iload_n 3, 1) := by decide +kernel
theorem dX9_line_60 : decode cX9_line 60 = .ok (.iload_n 2, 1) := by decide +kernel
theorem dX9_line_61 : decode cX9_line 61 = .ok (.iastore, 1) := by decide +kernel
theorem dX9_line_62 : decode cX9_line 62 = .ok (.aload_n 0, 1) := by decide +kernel
theorem dX9_line_63 : decode cX9_line 63 = .ok (.getfield 32, 3) := by decide +kernel
theorem dX9_line_66 : decode cX9_line 66 = .ok (.iload_n 3, 1) := by decide +kernel
theorem dX9_line_67 : decode cX9_line 67 = .ok (.aload_n 0, 1) := by decide +kernel
theorem dX9_line_68 : decode cX9_line 68 = .ok (.getfield 105, 3) := by decide +kernel
theorem dX9_line_71 : decode cX9_line 71 = .ok (.iastore, 1) := by decide +kernel
theorem dX9_line_72 : decode cX9_line 72 = .ok (.iconst 0, 1) := by decide +kernel
theorem dX9_line_73 : decode cX9_line 73 = .ok (.istore 4, 2) := by decide +kernel
theorem dX9_line_75 : decode cX9_line 75 = .ok (.iload 4, 2) := by decide +kernel
theorem dX9_line_77 : decode cX9_line 77 = .ok (.aload_n 0, 1) := by decide +kernel
theorem dX9_line_78 : decode cX9_line 78 = .ok (.getfield 105, 3) := by decide +kernel
theorem dX9_line_81 : decode cX9_line 81 = .ok (.if_icmp .ge 28, 3) := by decide +kernel
theorem dX9_line_84 : decode cX9_line 84 = .ok (.aload_n 0, 1) := by decide +kernel
theorem dX9_line_85 : decode cX9_line 85 = .ok (.getfield 35, 3) := by decide +kernel
theorem dX9_line_88 : decode cX9_line 88 = .ok (.bipush 8, 2) := by decide +kernel
theorem dX9_line_90 : decode cX9_line 90 = .ok (.iload_n 3, 1) := by decide +kernel
theorem dX9_line_91 : decode cX9_line 91 = .ok (.imul, 1) := by decide +kernel
theorem dX9_line_92 : decode cX9_line 92 = .ok (.iload 4, 2) := by decide +kernel
theorem dX9_line_94 : decode cX9_line 94 = .ok (.iadd, 1) := by decide +kernel
theorem dX9_line_95 : decode cX9_line 95 = .ok (.aload_n 0, 1) := by decide +kernel
theorem dX9_line_96 : decode cX9_line 96 = .ok (.getfield 38, 3) := by decide +kernel
theorem dX9_line_99 : decode cX9_line 99 = .ok (.iload 4, 2) := by decide +kernel
theorem dX9_line_101 : decode cX9_line 101 = .ok (.iaload, 1) := by decide +kernel
theorem dX9_line_102 : decode cX9_line 102 = .ok (.iastore, 1) := by decide +kernel
theorem dX9_line_103 : decode cX9_line 103 = .ok (.iinc 4 1, 3) := by decide +kernel
theorem dX9_line_106 : decode cX9_line 106 = .ok (.goto (-31), 3) := by decide +kernel
theorem dX9_line_109 : decode cX9_line 109 = .ok (.aload_n 0, 1) := by decide +kernel
theorem dX9_line_110 : decode cX9_line 110 = .ok (.iconst 0, 1) := by decide +kernel
theorem dX9_line_111 : decode cX9_line 111 = .ok (.putfield 105, 3) := by decide +kernel
theorem dX9_line_114 : decode cX9_line 114 = .ok (.aload_n 0, 1) := by decide +kernel
theorem dX9_line_115 : decode cX9_line 115 = .ok (.getfield 22, 3) := by decide +kernel
theorem dX9_line_118 : decode cX9_line 118 = .ok (.iload_n 1, 1) := by decide +kernel
theorem dX9_line_119 : decode cX9_line 119 = .ok (.dup2, 1) := by decide +kernel
theorem dX9_line_120 : decode cX9_line 120 = .ok (.iaload, 1) := by decide +kernel
theorem dX9_line_121 : decode cX9_line 121 = .ok (.iconst 1, 1) := by decide +kernel
theorem dX9_line_122 : decode cX9_line 122 = .ok (.iadd, 1) := by decide +kernel
theorem dX9_line_123 : decode cX9_line 123 = .ok (.iastore, 1) := by decide +kernel
theorem dX9_line_124 : decode cX9_line 124 = .ok (.aload_n 0, 1) := by decide +kernel
theorem dX9_line_125 : decode cX9_line 125 = .ok (.getfield 22, 3) := by decide +kernel
theorem dX9_line_128 : decode cX9_line 128 = .ok (.iload_n 1, 1) := by decide +kernel
theorem dX9_line_129 : decode cX9_line 129 = .ok (.iaload, 1) := by decide +kernel
theorem dX9_line_130 : decode cX9_line 130 = .ok (.iconst 1, 1) := by decide +kernel
theorem dX9_line_131 : decode cX9_line 131 = .ok (.isub, 1) := by decide +kernel
theorem dX9_line_132 : decode cX9_line 132 = .ok (.ireturn, 1) := by decide +kernel
set_option maxRecDepth 20000 in
theorem ok_133 {l : Launch} {d : Nat} (IH : ∀ μ, μ < 196 → px_Met l px_P d μ) : px_ok l px_P d RX9 cX9_line 5 (some .int) tb_133 :=
  ⟨px_Sp.of (ps_aload_n dX9_line_0 rfl),
   px_Sp.of (ps_iload_n dX9_line_1 rfl),
   ps_callV (IH 132 (by decide)) (C := RX9) (T := TX9) (N := 36) (ci := 8) rfl rfl (fc_132 _ _) wm_RX9_99 wi_yX9_noLetter wl_yX9_noLetter dX9_line_2,
   px_Sp.of (ps_if_eq dX9_line_5 (by decide)),
   px_Sp.of (ps_sipush dX9_line_8 (by decide)),
   ps_iret dX9_line_11,
   px_Sp.of (ps_iload_n dX9_line_12 rfl),
   px_Sp.of (ps_i2l dX9_line_13),
   px_Sp.of (ps_lconst dX9_line_14 (by decide)),
   px_Sp.of (ps_ldc2 dX9_line_15 wk_RX9_114),
   ps_callS (IH 130 (by decide)) (fc_130 _ _) wm_RX9_95 ws_yX9_in dX9_line_18,
   px_Sp.of (ps_if_ne dX9_line_21 (by decide)),
   px_Sp.of (ps_sipush dX9_line_24 (by decide)),
   ps_iret dX9_line_27,
   px_Sp.of (ps_aload_n dX9_line_28 rfl),
   px_Sp.of (ps_get kc_X9 (by decide) wf_RX9_22 dX9_line_29),
   px_Sp.of (ps_iload_n dX9_line_32 rfl),
   px_Sp.of (ps_iald dX9_line_33),
   px_Sp.of (ps_bipush dX9_line_34 (by decide)),
   px_Sp.of (ps_icmp_ne dX9_line_36 (by decide)),
   px_Sp.of (ps_sipush dX9_line_39 (by decide)),
   ps_iret dX9_line_42,
   px_Sp.of (ps_bipush dX9_line_43 (by decide)),
   px_Sp.of (ps_iload_n dX9_line_45 rfl),
   px_Sp.of (ps_imul dX9_line_46),
   px_Sp.of (ps_aload_n dX9_line_47 rfl),
   px_Sp.of (ps_get kc_X9 (by decide) wf_RX9_22 dX9_line_48),
   px_Sp.of (ps_iload_n dX9_line_51 rfl),
   px_Sp.of (ps_iald dX9_line_52),
   px_Sp.of (ps_iadd dX9_line_53),
   px_Sp.of (ps_istore_n dX9_line_54 rfl (by decide)),
   px_Sp.of (ps_aload_n dX9_line_55 rfl),
   px_Sp.of (ps_get kc_X9 (by decide) wf_RX9_29 dX9_line_56),
   px_Sp.of (ps_iload_n dX9_line_59 rfl),
   px_Sp.of (ps_iload_n dX9_line_60 rfl),
   px_Sp.ofm (ps_iast dX9_line_61),
   px_Sp.of (ps_aload_n dX9_line_62 rfl),
   px_Sp.of (ps_get kc_X9 (by decide) wf_RX9_32 dX9_line_63),
   px_Sp.of (ps_iload_n dX9_line_66 rfl),
   px_Sp.of (ps_aload_n dX9_line_67 rfl),
   px_Sp.of (ps_get kc_X9 (by decide) wf_RX9_105 dX9_line_68),
   px_Sp.ofm (ps_iast dX9_line_71),
   px_Sp.of (ps_iconst dX9_line_72 (by decide)),
   px_Sp.of (ps_istore dX9_line_73 (by decide)),
   px_Sp.of (ps_iload dX9_line_75),
   px_Sp.of (ps_aload_n dX9_line_77 rfl),
   px_Sp.of (ps_get kc_X9 (by decide) wf_RX9_105 dX9_line_78),
   px_Sp.of (ps_icmp_ge dX9_line_81 (by decide)),
   px_Sp.of (ps_aload_n dX9_line_84 rfl),
   px_Sp.of (ps_get kc_X9 (by decide) wf_RX9_35 dX9_line_85),
   px_Sp.of (ps_bipush dX9_line_88 (by decide)),
   px_Sp.of (ps_iload_n dX9_line_90 rfl),
   px_Sp.of (ps_imul dX9_line_91),
   px_Sp.of (ps_iload dX9_line_92),
   px_Sp.of (ps_iadd dX9_line_94),
   px_Sp.of (ps_aload_n dX9_line_95 rfl),
   px_Sp.of (ps_get kc_X9 (by decide) wf_RX9_38 dX9_line_96),
   px_Sp.of (ps_iload dX9_line_99),
   px_Sp.of (ps_iald dX9_line_101),
   px_Sp.ofm (ps_iast dX9_line_102),
   px_Sp.of (ps_iinc dX9_line_103 (by decide) (by decide)),
   px_Sp.of (ps_goto dX9_line_106 (by decide)),
   px_Sp.of (ps_aload_n dX9_line_109 rfl),
   px_Sp.of (ps_iconst dX9_line_110 (by decide)),
   px_Sp.ofm (ps_putI kc_X9 (by decide) wf_RX9_105 rfl (by decide +kernel) kp_X9_10 dX9_line_111),
   px_Sp.of (ps_aload_n dX9_line_114 rfl),
   px_Sp.of (ps_get kc_X9 (by decide) wf_RX9_22 dX9_line_115),
   px_Sp.of (ps_iload_n dX9_line_118 rfl),
   px_Sp.of (ps_dup2 dX9_line_119),
   px_Sp.of (ps_iald dX9_line_120),
   px_Sp.of (ps_iconst dX9_line_121 (by decide)),
   px_Sp.of (ps_iadd dX9_line_122),
   px_Sp.ofm (ps_iast dX9_line_123),
   px_Sp.of (ps_aload_n dX9_line_124 rfl),
   px_Sp.of (ps_get kc_X9 (by decide) wf_RX9_22 dX9_line_125),
   px_Sp.of (ps_iload_n dX9_line_128 rfl),
   px_Sp.of (ps_iald dX9_line_129),
   px_Sp.of (ps_iconst dX9_line_130 (by decide)),
   px_Sp.of (ps_isub dX9_line_131),
   ps_iret dX9_line_132, trivial⟩
theorem mt_133 {l : Launch} {d : Nat} (IH : ∀ μ, μ < 196 → px_Met l px_P d μ) : px_Met l px_P (d + 1) 133 := px_met (own := RX9) rfl (by decide +kernel) (ok_133 IH)
theorem dX9_answer_0 : decode cX9_answer 0 = .ok (.aload_n 0, 1) := by decide +kernel
theorem dX9_answer_1 : decode cX9_answer 1 = .ok (.iload_n 1, 1) := by decide +kernel
theorem dX9_answer_2 : decode cX9_answer 2 = .ok (.invokevirtual 99, 3) := by decide +kernel
theorem dX9_answer_5 : decode cX9_answer 5 = .ok (.ifCond .eq 7, 3) := by decide +kernel
theorem dX9_answer_8 : decode cX9_answer 8 = .ok (.sipush (-1001), 3) := by decide +kernel
theorem dX9_answer_11 : decode cX9_answer 11 = .ok (.ireturn, 1) := by decide +kernel
theorem dX9_answer_12 : decode cX9_answer 12 = .ok (.aload_n 0, 1) := by decide +kernel
theorem dX9_answer_13 : decode cX9_answer 13 = .ok (.iload_n 2, 1) := by decide +kernel
theorem dX9_answer_14 : decode cX9_answer 14 = .ok (.iload_n 3, 1) := by decide +kernel
theorem dX9_answer_15 : decode cX9_answer 15 = .ok (.iload_n 1, 1) := by decide +kernel
theorem dX9_answer_16 : decode cX9_answer 16 = .ok (.invokevirtual 116, 3) := by decide +kernel
theorem dX9_answer_19 : decode cX9_answer 19 = .ok (.istore 4, 2) := by decide +kernel
theorem dX9_answer_21 : decode cX9_answer 21 = .ok (.iload 4, 2) := by decide +kernel
theorem dX9_answer_23 : decode cX9_answer 23 = .ok (.ifCond .ge 6, 3) := by decide +kernel
theorem dX9_answer_26 : decode cX9_answer 26 = .ok (.iload 4, 2) := by decide +kernel
theorem dX9_answer_28 : decode cX9_answer 28 = .ok (.ireturn, 1) := by decide +kernel
theorem dX9_answer_29 : decode cX9_answer 29 = .ok (.iconst 0, 1) := by decide +kernel
theorem dX9_answer_30 : decode cX9_answer 30 = .ok (.istore 5, 2) := by decide +kernel
theorem dX9_answer_32 : decode cX9_answer 32 = .ok (.iconst 0, 1) := by decide +kernel
theorem dX9_answer_33 : decode cX9_answer 33 = .ok (.istore 6, 2) := by decide +kernel
theorem dX9_answer_35 : decode cX9_answer 35 = .ok (.iload 6, 2) := by decide +kernel
theorem dX9_answer_37 : decode cX9_answer 37 = .ok (.aload_n 0, 1) := by decide +kernel
theorem dX9_answer_38 : decode cX9_answer 38 = .ok (.getfield 22, 3) := by decide +kernel
theorem dX9_answer_41 : decode cX9_answer 41 = .ok (.iload_n 1, 1) := by decide +kernel
theorem dX9_answer_42 : decode cX9_answer 42 = .ok (.iaload, 1) := by decide +kernel
theorem dX9_answer_43 : decode cX9_answer 43 = .ok (.if_icmp .ge 43, 3) := by decide +kernel
theorem dX9_answer_46 : decode cX9_answer 46 = .ok (.iload 5, 2) := by decide +kernel
theorem dX9_answer_48 : decode cX9_answer 48 = .ok (.aload_n 0, 1) := by decide +kernel
theorem dX9_answer_49 : decode cX9_answer 49 = .ok (.getfield 29, 3) := by decide +kernel
theorem dX9_answer_52 : decode cX9_answer 52 = .ok (.bipush 14, 2) := by decide +kernel
theorem dX9_answer_54 : decode cX9_answer 54 = .ok (.iload_n 1, 1) := by decide +kernel
theorem dX9_answer_55 : decode cX9_answer 55 = .ok (.imul, 1) := by decide +kernel
theorem dX9_answer_56 : decode cX9_answer 56 = .ok (.iload 6, 2) := by decide +kernel
theorem dX9_answer_58 : decode cX9_answer 58 = .ok (.iadd, 1) := by decide +kernel
theorem dX9_answer_59 : decode cX9_answer 59 = .ok (.iaload, 1) := by decide +kernel
theorem dX9_answer_60 : decode cX9_answer 60 = .ok (.aload_n 0, 1) := by decide +kernel
theorem dX9_answer_61 : decode cX9_answer 61 = .ok (.getfield 7, 3) := by decide +kernel
theorem dX9_answer_64 : decode cX9_answer 64 = .ok (.iconst 4, 1) := by decide +kernel
theorem dX9_answer_65 : decode cX9_answer 65 = .ok (.iaload, 1) := by decide +kernel
theorem dX9_answer_66 : decode cX9_answer 66 = .ok (.if_icmp .ge 7, 3) := by decide +kernel
theorem dX9_answer_69 : decode cX9_answer 69 = .ok (.iconst 1, 1) := by decide +kernel
theorem dX9_answer_70 : decode cX9_answer 70 = .ok (.goto 4, 3) := by decide +kernel
theorem dX9_answer_73 : decode cX9_answer 73 = .ok (.iconst 0, 1) := by decide +kernel
theorem dX9_answer_74 : decode cX9_answer 74 = .ok (.invokestatic 120, 3) := by decide +kernel
theorem dX9_answer_77 : decode cX9_answer 77 = .ok (.iadd, 1) := by decide +kernel
theorem dX9_answer_78 : decode cX9_answer 78 = .ok (.istore 5, 2) := by decide +kernel
theorem dX9_answer_80 : decode cX9_answer 80 = .ok (.iinc 6 1, 3) := by decide +kernel
theorem dX9_answer_83 : decode cX9_answer 83 = .ok (.goto (-48), 3) := by decide +kernel
theorem dX9_answer_86 : decode cX9_answer 86 = .ok (.iload 5, 2) := by decide +kernel
theorem dX9_answer_88 : decode cX9_answer 88 = .ok (.aload_n 0, 1) := by decide +kernel
theorem dX9_answer_89 : decode cX9_answer 89 = .ok (.getfield 7, 3) := by decide +kernel
theorem dX9_answer_92 : decode cX9_answer 92 = .ok (.iconst 3, 1) := by decide +kernel
theorem dX9_answer_93 : decode cX9_answer 93 = .ok (.iaload, 1) := by decide +kernel
theorem dX9_answer_94 : decode cX9_answer 94 = .ok (.if_icmp .le 15, 3) := by decide +kernel
theorem dX9_answer_97 : decode cX9_answer 97 = .ok (.iload 5, 2) := by decide +kernel
theorem dX9_answer_99 : decode cX9_answer 99 = .ok (.aload_n 0, 1) := by decide +kernel
theorem dX9_answer_100 : decode cX9_answer 100 = .ok (.getfield 7, 3) := by decide +kernel
theorem dX9_answer_103 : decode cX9_answer 103 = .ok (.iconst 3, 1) := by decide +kernel
theorem dX9_answer_104 : decode cX9_answer 104 = .ok (.iaload, 1) := by decide +kernel
theorem dX9_answer_105 : decode cX9_answer 105 = .ok (.isub, 1) := by decide +kernel
theorem dX9_answer_106 : decode cX9_answer 106 = .ok (.goto 4, 3) := by decide +kernel
theorem dX9_answer_109 : decode cX9_answer 109 = .ok (.iconst 0, 1) := by decide +kernel
theorem dX9_answer_110 : decode cX9_answer 110 = .ok (.istore 6, 2) := by decide +kernel
theorem dX9_answer_112 : decode cX9_answer 112 = .ok (.iconst 0, 1) := by decide +kernel
theorem dX9_answer_113 : decode cX9_answer 113 = .ok (.istore 7, 2) := by decide +kernel
theorem dX9_answer_115 : decode cX9_answer 115 = .ok (.iload 7, 2) := by decide +kernel
theorem dX9_answer_117 : decode cX9_answer 117 = .ok (.aload_n 0, 1) := by decide +kernel
theorem dX9_answer_118 : decode cX9_answer 118 = .ok (.getfield 22, 3) := by decide +kernel
theorem dX9_answer_121 : decode cX9_answer 121 = .ok (.iload_n 1, 1) := by decide +kernel
theorem dX9_answer_122 : decode cX9_answer 122 = .ok (.iaload, 1) := by decide +kernel
theorem dX9_answer_123 : decode cX9_answer 123 = .ok (.if_icmp .ge 143, 3) := by decide +kernel
theorem dX9_answer_126 : decode cX9_answer 126 = .ok (.bipush 14, 2) := by decide +kernel
theorem dX9_answer_128 : decode cX9_answer 128 = .ok (.iload_n 1, 1) := by decide +kernel
theorem dX9_answer_129 : decode cX9_answer 129 = .ok (.imul, 1) := by decide +kernel
theorem dX9_answer_130 : decode cX9_answer 130 = .ok (.iload 7, 2) := by decide +kernel
theorem dX9_answer_132 : decode cX9_answer 132 = .ok (.iadd, 1) := by decide +kernel
theorem dX9_answer_133 : decode cX9_answer 133 = .ok (.istore 8, 2) := by decide +kernel
theorem dX9_answer_135 : decode cX9_answer 135 = .ok (.aload_n 0, 1) := by decide +kernel
theorem dX9_answer_136 : decode cX9_answer 136 = .ok (.getfield 29, 3) := by decide +kernel
theorem dX9_answer_139 : decode cX9_answer 139 = .ok (.iload 8, 2) := by decide +kernel
theorem dX9_answer_141 : decode cX9_answer 141 = .ok (.iaload, 1) := by decide +kernel
theorem dX9_answer_142 : decode cX9_answer 142 = .ok (.aload_n 0, 1) := by decide +kernel
theorem dX9_answer_143 : decode cX9_answer 143 = .ok (.getfield 7, 3) := by decide +kernel
theorem dX9_answer_146 : decode cX9_answer 146 = .ok (.iconst 4, 1) := by decide +kernel
theorem dX9_answer_147 : decode cX9_answer 147 = .ok (.iaload, 1) := by decide +kernel
theorem dX9_answer_148 : decode cX9_answer 148 = .ok (.if_icmp .ge 112, 3) := by decide +kernel
theorem dX9_answer_151 : decode cX9_answer 151 = .ok (.iload 6, 2) := by decide +kernel
theorem dX9_answer_153 : decode cX9_answer 153 = .ok (.ifCond .le 9, 3) := by decide +kernel
theorem dX9_answer_156 : decode cX9_answer 156 = .ok (.iinc 6 (-1), 3) := by decide +kernel
theorem dX9_answer_159 : decode cX9_answer 159 = .ok (.goto 101, 3) := by decide +kernel
theorem dX9_answer_162 : decode cX9_answer 162 = .ok (.bipush 14, 2) := by decide +kernel
theorem dX9_answer_164 : decode cX9_answer 164 = .ok (.iload 4, 2) := by decide +kernel
theorem dX9_answer_166 : decode cX9_answer 166 = .ok (.imul, 1) := by decide +kernel
theorem dX9_answer_167 : decode cX9_answer 167 = .ok (.aload_n 0, 1) := by decide +kernel
theorem dX9_answer_168 : decode cX9_answer 168 = .ok (.getfield 22, 3) := by decide +kernel
theorem dX9_answer_171 : decode cX9_answer 171 = .ok (.iload 4, 2) := by decide +kernel
theorem dX9_answer_173 : decode cX9_answer 173 = .ok (.iaload, 1) := by decide +kernel
theorem dX9_answer_174 : decode cX9_answer 174 = .ok (.iadd, 1) := by decide +kernel
theorem dX9_answer_175 : decode cX9_answer 175 = .ok (.istore 9, 2) := by decide +kernel
theorem dX9_answer_177 : decode cX9_answer 177 = .ok (.aload_n 0, 1) := by decide +kernel
theorem dX9_answer_178 : decode cX9_answer 178 = .ok (.getfield 29, 3) := by decide +kernel
theorem dX9_answer_181 : decode cX9_answer 181 = .ok (.iload 9, 2) := by decide +kernel
theorem dX9_answer_183 : decode cX9_answer 183 = .ok (.aload_n 0, 1) := by decide +kernel
theorem dX9_answer_184 : decode cX9_answer 184 = .ok (.getfield 29, 3) := by decide +kernel
theorem dX9_answer_187 : decode cX9_answer 187 = .ok (.iload 8, 2) := by decide +kernel
theorem dX9_answer_189 : decode cX9_answer 189 = .ok (.iaload, 1) := by decide +kernel
theorem dX9_answer_190 : decode cX9_answer 190 = .ok (.iconst 1, 1) := by decide +kernel
theorem dX9_answer_191 : decode cX9_answer 191 = .ok (.iadd, 1) := by decide +kernel
theorem dX9_answer_192 : decode cX9_answer 192 = .ok (.iastore, 1) := by decide +kernel
theorem dX9_answer_193 : decode cX9_answer 193 = .ok (.aload_n 0, 1) := by decide +kernel
theorem dX9_answer_194 : decode cX9_answer 194 = .ok (.getfield 32, 3) := by decide +kernel
theorem dX9_answer_197 : decode cX9_answer 197 = .ok (.iload 9, 2) := by decide +kernel
theorem dX9_answer_199 : decode cX9_answer 199 = .ok (.aload_n 0, 1) := by decide +kernel
theorem dX9_answer_200 : decode cX9_answer 200 = .ok (.getfield 32, 3) := by decide +kernel
theorem dX9_answer_203 : decode cX9_answer 203 = .ok (.iload 8, 2) := by decide +kernel
theorem dX9_answer_205 : decode cX9_answer 205 = .ok (.iaload, 1) := by decide +kernel
theorem dX9_answer_206 : decode cX9_answer 206 = .ok (.iastore, 1) := by decide +kernel
theorem dX9_answer_207 : decode cX9_answer 207 = .ok (.iconst 0, 1) := by decide +kernel
theorem dX9_answer_208 : decode cX9_answer 208 = .ok (.istore 10, 2) := by decide +kernel
theorem dX9_answer_210 : decode cX9_answer 210 = .ok (.iload 10, 2) := by decide +kernel
theorem dX9_answer_212 : decode cX9_answer 212 = .ok (.bipush 8, 2) := by decide +kernel
theorem dX9_answer_214 : decode cX9_answer 214 = .ok (.if_icmp .ge 35, 3) := by decide +kernel
theorem dX9_answer_217 : decode cX9_answer 217 = .ok (.aload_n 0, 1) := by decide +kernel
theorem dX9_answer_218 : decode cX9_answer 218 = .ok (.getfield 35, 3) := by decide +kernel
theorem dX9_answer_221 : decode cX9_answer 221 = .ok (.bipush 8, 2) := by decide +kernel
theorem dX9_answer_223 : decode cX9_answer 223 = .ok (.iload 9, 2) := by decide +kernel
theorem dX9_answer_225 : decode cX9_answer 225 = .ok (.imul, 1) := by decide +kernel
theorem dX9_answer_226 : decode cX9_answer 226 = .ok (.iload 10, 2) := by decide +kernel
theorem dX9_answer_228 : decode cX9_answer 228 = .ok (.iadd, 1) := by decide +kernel
theorem dX9_answer_229 : decode cX9_answer 229 = .ok (.aload_n 0, 1) := by decide +kernel
theorem dX9_answer_230 : decode cX9_answer 230 = .ok (.getfield 35, 3) := by decide +kernel
theorem dX9_answer_233 : decode cX9_answer 233 = .ok (.bipush 8, 2) := by decide +kernel
theorem dX9_answer_235 : decode cX9_answer 235 = .ok (.iload 8, 2) := by decide +kernel
theorem dX9_answer_237 : decode cX9_answer 237 = .ok (.imul, 1) := by decide +kernel
theorem dX9_answer_238 : decode cX9_answer 238 = .ok (.iload 10, 2) := by decide +kernel
theorem dX9_answer_240 : decode cX9_answer 240 = .ok (.iadd, 1) := by decide +kernel
theorem dX9_answer_241 : decode cX9_answer 241 = .ok (.iaload, 1) := by decide +kernel
theorem dX9_answer_242 : decode cX9_answer 242 = .ok (.iastore, 1) := by decide +kernel
theorem dX9_answer_243 : decode cX9_answer 243 = .ok (.iinc 10 1, 3) := by decide +kernel
theorem dX9_answer_246 : decode cX9_answer 246 = .ok (.goto (-36), 3) := by decide +kernel
theorem dX9_answer_249 : decode cX9_answer 249 = .ok (.aload_n 0, 1) := by decide +kernel
theorem dX9_answer_250 : decode cX9_answer 250 = .ok (.getfield 22, 3) := by decide +kernel
theorem dX9_answer_253 : decode cX9_answer 253 = .ok (.iload 4, 2) := by decide +kernel
theorem dX9_answer_255 : decode cX9_answer 255 = .ok (.dup2, 1) := by decide +kernel
theorem dX9_answer_256 : decode cX9_answer 256 = .ok (.iaload, 1) := by decide +kernel
theorem dX9_answer_257 : decode cX9_answer 257 = .ok (.iconst 1, 1) := by decide +kernel
theorem dX9_answer_258 : decode cX9_answer 258 = .ok (.iadd, 1) := by decide +kernel
theorem dX9_answer_259 : decode cX9_answer 259 = .ok (.iastore, 1) := by decide +kernel
theorem dX9_answer_260 : decode cX9_answer 260 = .ok (.iinc 7 1, 3) := by decide +kernel
theorem dX9_answer_263 : decode cX9_answer 263 = .ok (.goto (-148), 3) := by decide +kernel
theorem dX9_answer_266 : decode cX9_answer 266 = .ok (.iload 4, 2) := by decide +kernel
theorem dX9_answer_268 : decode cX9_answer 268 = .ok (.ireturn, 1) := by decide +kernel
set_option maxRecDepth 20000 in
theorem ok_134 {l : Launch} {d : Nat} (IH : ∀ μ, μ < 196 → px_Met l px_P d μ) : px_ok l px_P d RX9 cX9_answer 11 (some .int) tb_134 :=
  ⟨px_Sp.of (ps_aload_n dX9_answer_0 rfl),
   px_Sp.of (ps_iload_n dX9_answer_1 rfl),
   ps_callV (IH 132 (by decide)) (C := RX9) (T := TX9) (N := 36) (ci := 8) rfl rfl (fc_132 _ _) wm_RX9_99 wi_yX9_noLetter wl_yX9_noLetter dX9_answer_2,
   px_Sp.of (ps_if_eq dX9_answer_5 (by decide)),
   px_Sp.of (ps_sipush dX9_answer_8 (by decide)),
   ps_iret dX9_answer_11,
   px_Sp.of (ps_aload_n dX9_answer_12 rfl),
   px_Sp.of (ps_iload_n dX9_answer_13 rfl),
   px_Sp.of (ps_iload_n dX9_answer_14 rfl),
   px_Sp.of (ps_iload_n dX9_answer_15 rfl),
   ps_callV (IH 131 (by decide)) (C := RX9) (T := TX9) (N := 36) (ci := 8) rfl rfl (fc_131 _ _) wm_RX9_116 wi_yX9_letter wl_yX9_letter dX9_answer_16,
   px_Sp.of (ps_istore dX9_answer_19 (by decide)),
   px_Sp.of (ps_iload dX9_answer_21),
   px_Sp.of (ps_if_ge dX9_answer_23 (by decide)),
   px_Sp.of (ps_iload dX9_answer_26),
   ps_iret dX9_answer_28,
   px_Sp.of (ps_iconst dX9_answer_29 (by decide)),
   px_Sp.of (ps_istore dX9_answer_30 (by decide)),
   px_Sp.of (ps_iconst dX9_answer_32 (by decide)),
   px_Sp.of (ps_istore dX9_answer_33 (by decide)),
   px_Sp.of (ps_iload dX9_answer_35),
   px_Sp.of (ps_aload_n dX9_answer_37 rfl),
   px_Sp.of (ps_get kc_X9 (by decide) wf_RX9_22 dX9_answer_38),
   px_Sp.of (ps_iload_n dX9_answer_41 rfl),
   px_Sp.of (ps_iald dX9_answer_42),
   px_Sp.of (ps_icmp_ge dX9_answer_43 (by decide)),
   px_Sp.of (ps_iload dX9_answer_46),
   px_Sp.of (ps_aload_n dX9_answer_48 rfl),
   px_Sp.of (ps_get kc_X9 (by decide) wf_RX9_29 dX9_answer_49),
   px_Sp.of (ps_bipush dX9_answer_52 (by decide)),
   px_Sp.of (ps_iload_n dX9_answer_54 rfl),
   px_Sp.of (ps_imul dX9_answer_55),
   px_Sp.of (ps_iload dX9_answer_56),
   px_Sp.of (ps_iadd dX9_answer_58),
   px_Sp.of (ps_iald dX9_answer_59),
   px_Sp.of (ps_aload_n dX9_answer_60 rfl),
   px_Sp.of (ps_get kc_X9 (by decide) wf_RX9_7 dX9_answer_61),
   px_Sp.of (ps_iconst dX9_answer_64 (by decide)),
   px_Sp.of (ps_iald dX9_answer_65),
   px_Sp.of (ps_icmp_ge dX9_answer_66 (by decide)),
   px_Sp.of (ps_iconst dX9_answer_69 (by decide)),
   px_Sp.of (ps_goto dX9_answer_70 (by decide)),
   px_Sp.of (ps_iconst dX9_answer_73 (by decide)),
   ps_callS (IH 135 (by decide)) (fc_135 _ _) wm_RX9_120 ws_yX9_one dX9_answer_74,
   px_Sp.of (ps_iadd dX9_answer_77),
   px_Sp.of (ps_istore dX9_answer_78 (by decide)),
   px_Sp.of (ps_iinc dX9_answer_80 (by decide) (by decide)),
   px_Sp.of (ps_goto dX9_answer_83 (by decide)),
   px_Sp.of (ps_iload dX9_answer_86),
   px_Sp.of (ps_aload_n dX9_answer_88 rfl),
   px_Sp.of (ps_get kc_X9 (by decide) wf_RX9_7 dX9_answer_89),
   px_Sp.of (ps_iconst dX9_answer_92 (by decide)),
   px_Sp.of (ps_iald dX9_answer_93),
   px_Sp.of (ps_icmp_le dX9_answer_94 (by decide)),
   px_Sp.of (ps_iload dX9_answer_97),
   px_Sp.of (ps_aload_n dX9_answer_99 rfl),
   px_Sp.of (ps_get kc_X9 (by decide) wf_RX9_7 dX9_answer_100),
   px_Sp.of (ps_iconst dX9_answer_103 (by decide)),
   px_Sp.of (ps_iald dX9_answer_104),
   px_Sp.of (ps_isub dX9_answer_105),
   px_Sp.of (ps_goto dX9_answer_106 (by decide)),
   px_Sp.of (ps_iconst dX9_answer_109 (by decide)),
   px_Sp.of (ps_istore dX9_answer_110 (by decide)),
   px_Sp.of (ps_iconst dX9_answer_112 (by decide)),
   px_Sp.of (ps_istore dX9_answer_113 (by decide)),
   px_Sp.of (ps_iload dX9_answer_115),
   px_Sp.of (ps_aload_n dX9_answer_117 rfl),
   px_Sp.of (ps_get kc_X9 (by decide) wf_RX9_22 dX9_answer_118),
   px_Sp.of (ps_iload_n dX9_answer_121 rfl),
   px_Sp.of (ps_iald dX9_answer_122),
   px_Sp.of (ps_icmp_ge dX9_answer_123 (by decide)),
   px_Sp.of (ps_bipush dX9_answer_126 (by decide)),
   px_Sp.of (ps_iload_n dX9_answer_128 rfl),
   px_Sp.of (ps_imul dX9_answer_129),
   px_Sp.of (ps_iload dX9_answer_130),
   px_Sp.of (ps_iadd dX9_answer_132),
   px_Sp.of (ps_istore dX9_answer_133 (by decide)),
   px_Sp.of (ps_aload_n dX9_answer_135 rfl),
   px_Sp.of (ps_get kc_X9 (by decide) wf_RX9_29 dX9_answer_136),
   px_Sp.of (ps_iload dX9_answer_139),
   px_Sp.of (ps_iald dX9_answer_141),
   px_Sp.of (ps_aload_n dX9_answer_142 rfl),
   px_Sp.of (ps_get kc_X9 (by decide) wf_RX9_7 dX9_answer_143),
   px_Sp.of (ps_iconst dX9_answer_146 (by decide)),
   px_Sp.of (ps_iald dX9_answer_147),
   px_Sp.of (ps_icmp_ge dX9_answer_148 (by decide)),
   px_Sp.of (ps_iload dX9_answer_151),
   px_Sp.of (ps_if_le dX9_answer_153 (by decide)),
   px_Sp.of (ps_iinc dX9_answer_156 (by decide) (by decide)),
   px_Sp.of (ps_goto dX9_answer_159 (by decide)),
   px_Sp.of (ps_bipush dX9_answer_162 (by decide)),
   px_Sp.of (ps_iload dX9_answer_164),
   px_Sp.of (ps_imul dX9_answer_166),
   px_Sp.of (ps_aload_n dX9_answer_167 rfl),
   px_Sp.of (ps_get kc_X9 (by decide) wf_RX9_22 dX9_answer_168),
   px_Sp.of (ps_iload dX9_answer_171),
   px_Sp.of (ps_iald dX9_answer_173),
   px_Sp.of (ps_iadd dX9_answer_174),
   px_Sp.of (ps_istore dX9_answer_175 (by decide)),
   px_Sp.of (ps_aload_n dX9_answer_177 rfl),
   px_Sp.of (ps_get kc_X9 (by decide) wf_RX9_29 dX9_answer_178),
   px_Sp.of (ps_iload dX9_answer_181),
   px_Sp.of (ps_aload_n dX9_answer_183 rfl),
   px_Sp.of (ps_get kc_X9 (by decide) wf_RX9_29 dX9_answer_184),
   px_Sp.of (ps_iload dX9_answer_187),
   px_Sp.of (ps_iald dX9_answer_189),
   px_Sp.of (ps_iconst dX9_answer_190 (by decide)),
   px_Sp.of (ps_iadd dX9_answer_191),
   px_Sp.ofm (ps_iast dX9_answer_192),
   px_Sp.of (ps_aload_n dX9_answer_193 rfl),
   px_Sp.of (ps_get kc_X9 (by decide) wf_RX9_32 dX9_answer_194),
   px_Sp.of (ps_iload dX9_answer_197),
   px_Sp.of (ps_aload_n dX9_answer_199 rfl),
   px_Sp.of (ps_get kc_X9 (by decide) wf_RX9_32 dX9_answer_200),
   px_Sp.of (ps_iload dX9_answer_203),
   px_Sp.of (ps_iald dX9_answer_205),
   px_Sp.ofm (ps_iast dX9_answer_206),
   px_Sp.of (ps_iconst dX9_answer_207 (by decide)),
   px_Sp.of (ps_istore dX9_answer_208 (by decide)),
   px_Sp.of (ps_iload dX9_answer_210),
   px_Sp.of (ps_bipush dX9_answer_212 (by decide)),
   px_Sp.of (ps_icmp_ge dX9_answer_214 (by decide)),
   px_Sp.of (ps_aload_n dX9_answer_217 rfl),
   px_Sp.of (ps_get kc_X9 (by decide) wf_RX9_35 dX9_answer_218),
   px_Sp.of (ps_bipush dX9_answer_221 (by decide)),
   px_Sp.of (ps_iload dX9_answer_223),
   px_Sp.of (ps_imul dX9_answer_225),
   px_Sp.of (ps_iload dX9_answer_226),
   px_Sp.of (ps_iadd dX9_answer_228),
   px_Sp.of (ps_aload_n dX9_answer_229 rfl),
   px_Sp.of (ps_get kc_X9 (by decide) wf_RX9_35 dX9_answer_230),
   px_Sp.of (ps_bipush dX9_answer_233 (by decide)),
   px_Sp.of (ps_iload dX9_answer_235),
   px_Sp.of (ps_imul dX9_answer_237),
   px_Sp.of (ps_iload dX9_answer_238),
   px_Sp.of (ps_iadd dX9_answer_240),
   px_Sp.of (ps_iald dX9_answer_241),
   px_Sp.ofm (ps_iast dX9_answer_242),
   px_Sp.of (ps_iinc dX9_answer_243 (by decide) (by decide)),
   px_Sp.of (ps_goto dX9_answer_246 (by decide)),
   px_Sp.of (ps_aload_n dX9_answer_249 rfl),
   px_Sp.of (ps_get kc_X9 (by decide) wf_RX9_22 dX9_answer_250),
   px_Sp.of (ps_iload dX9_answer_253),
   px_Sp.of (ps_dup2 dX9_answer_255),
   px_Sp.of (ps_iald dX9_answer_256),
   px_Sp.of (ps_iconst dX9_answer_257 (by decide)),
   px_Sp.of (ps_iadd dX9_answer_258),
   px_Sp.ofm (ps_iast dX9_answer_259),
   px_Sp.of (ps_iinc dX9_answer_260 (by decide) (by decide)),
   px_Sp.of (ps_goto dX9_answer_263 (by decide)),
   px_Sp.of (ps_iload dX9_answer_266),
   ps_iret dX9_answer_268, trivial⟩
theorem mt_134 {l : Launch} {d : Nat} (IH : ∀ μ, μ < 196 → px_Met l px_P d μ) : px_Met l px_P (d + 1) 134 := px_met (own := RX9) rfl (by decide +kernel) (ok_134 IH)
theorem dX9_one_0 : decode cX9_one 0 = .ok (.iload_n 0, 1) := by decide +kernel
theorem dX9_one_1 : decode cX9_one 1 = .ok (.ifCond .eq 7, 3) := by decide +kernel
theorem dX9_one_4 : decode cX9_one 4 = .ok (.iconst 1, 1) := by decide +kernel
theorem dX9_one_5 : decode cX9_one 5 = .ok (.goto 4, 3) := by decide +kernel
theorem dX9_one_8 : decode cX9_one 8 = .ok (.iconst 0, 1) := by decide +kernel
theorem dX9_one_9 : decode cX9_one 9 = .ok (.ireturn, 1) := by decide +kernel
set_option maxRecDepth 20000 in
theorem ok_135 {l : Launch} {d : Nat} (IH : ∀ μ, μ < 196 → px_Met l px_P d μ) : px_ok l px_P d RX9 cX9_one 1 (some .int) tb_135 :=
  ⟨px_Sp.of (ps_iload_n dX9_one_0 rfl),
   px_Sp.of (ps_if_eq dX9_one_1 (by decide)),
   px_Sp.of (ps_iconst dX9_one_4 (by decide)),
   px_Sp.of (ps_goto dX9_one_5 (by decide)),
   px_Sp.of (ps_iconst dX9_one_8 (by decide)),
   ps_iret dX9_one_9, trivial⟩
theorem mt_135 {l : Launch} {d : Nat} (IH : ∀ μ, μ < 196 → px_Met l px_P d μ) : px_Met l px_P (d + 1) 135 := px_met (own := RX9) rfl (by decide +kernel) (ok_135 IH)
theorem dX9_take_0 : decode cX9_take 0 = .ok (.aload_n 0, 1) := by decide +kernel
theorem dX9_take_1 : decode cX9_take 1 = .ok (.iload_n 1, 1) := by decide +kernel
theorem dX9_take_2 : decode cX9_take 2 = .ok (.invokevirtual 99, 3) := by decide +kernel
theorem dX9_take_5 : decode cX9_take 5 = .ok (.ifCond .eq 7, 3) := by decide +kernel
theorem dX9_take_8 : decode cX9_take 8 = .ok (.sipush (-1001), 3) := by decide +kernel
theorem dX9_take_11 : decode cX9_take 11 = .ok (.ireturn, 1) := by decide +kernel
theorem dX9_take_12 : decode cX9_take 12 = .ok (.aload_n 0, 1) := by decide +kernel
theorem dX9_take_13 : decode cX9_take 13 = .ok (.getfield 25, 3) := by decide +kernel
theorem dX9_take_16 : decode cX9_take 16 = .ok (.iload_n 1, 1) := by decide +kernel
theorem dX9_take_17 : decode cX9_take 17 = .ok (.baload, 1) := by decide +kernel
theorem dX9_take_18 : decode cX9_take 18 = .ok (.ifCond .eq 7, 3) := by decide +kernel
theorem dX9_take_21 : decode cX9_take 21 = .ok (.sipush (-1003), 3) := by decide +kernel
theorem dX9_take_24 : decode cX9_take 24 = .ok (.ireturn, 1) := by decide +kernel
theorem dX9_take_25 : decode cX9_take 25 = .ok (.aload_n 0, 1) := by decide +kernel
theorem dX9_take_26 : decode cX9_take 26 = .ok (.getfield 25, 3) := by decide +kernel
theorem dX9_take_29 : decode cX9_take 29 = .ok (.iload_n 1, 1) := by decide +kernel
theorem dX9_take_30 : decode cX9_take 30 = .ok (.iconst 1, 1) := by decide +kernel
theorem dX9_take_31 : decode cX9_take 31 = .ok (.bastore, 1) := by decide +kernel
theorem dX9_take_32 : decode cX9_take 32 = .ok (.iconst 1, 1) := by decide +kernel
theorem dX9_take_33 : decode cX9_take 33 = .ok (.ireturn, 1) := by decide +kernel
set_option maxRecDepth 20000 in
theorem ok_136 {l : Launch} {d : Nat} (IH : ∀ μ, μ < 196 → px_Met l px_P d μ) : px_ok l px_P d RX9 cX9_take 2 (some .int) tb_136 :=
  ⟨px_Sp.of (ps_aload_n dX9_take_0 rfl),
   px_Sp.of (ps_iload_n dX9_take_1 rfl),
   ps_callV (IH 132 (by decide)) (C := RX9) (T := TX9) (N := 36) (ci := 8) rfl rfl (fc_132 _ _) wm_RX9_99 wi_yX9_noLetter wl_yX9_noLetter dX9_take_2,
   px_Sp.of (ps_if_eq dX9_take_5 (by decide)),
   px_Sp.of (ps_sipush dX9_take_8 (by decide)),
   ps_iret dX9_take_11,
   px_Sp.of (ps_aload_n dX9_take_12 rfl),
   px_Sp.of (ps_get kc_X9 (by decide) wf_RX9_25 dX9_take_13),
   px_Sp.of (ps_iload_n dX9_take_16 rfl),
   px_Sp.of (ps_zald dX9_take_17),
   px_Sp.of (ps_if_eq dX9_take_18 (by decide)),
   px_Sp.of (ps_sipush dX9_take_21 (by decide)),
   ps_iret dX9_take_24,
   px_Sp.of (ps_aload_n dX9_take_25 rfl),
   px_Sp.of (ps_get kc_X9 (by decide) wf_RX9_25 dX9_take_26),
   px_Sp.of (ps_iload_n dX9_take_29 rfl),
   px_Sp.of (ps_iconst dX9_take_30 (by decide)),
   px_Sp.ofm (ps_zast dX9_take_31),
   px_Sp.of (ps_iconst dX9_take_32 (by decide)),
   ps_iret dX9_take_33, trivial⟩
theorem mt_136 {l : Launch} {d : Nat} (IH : ∀ μ, μ < 196 → px_Met l px_P d μ) : px_Met l px_P (d + 1) 136 := px_met (own := RX9) rfl (by decide +kernel) (ok_136 IH)
theorem dX9_put_0 : decode cX9_put 0 = .ok (.aload_n 0, 1) := by decide +kernel
theorem dX9_put_1 : decode cX9_put 1 = .ok (.iload_n 1, 1) := by decide +kernel
theorem dX9_put_2 : decode cX9_put 2 = .ok (.invokevirtual 99, 3) := by decide +kernel
theorem dX9_put_5 : decode cX9_put 5 = .ok (.ifCond .eq 7, 3) := by decide +kernel
theorem dX9_put_8 : decode cX9_put 8 = .ok (.sipush (-1001), 3) := by decide +kernel
theorem dX9_put_11 : decode cX9_put 11 = .ok (.ireturn, 1) := by decide +kernel
theorem dX9_put_12 : decode cX9_put 12 = .ok (.aload_n 0, 1) := by decide +kernel
theorem dX9_put_13 : decode cX9_put 13 = .ok (.getfield 25, 3) := by decide +kernel
theorem dX9_put_16 : decode cX9_put 16 = .ok (.iload_n 1, 1) := by decide +kernel
theorem dX9_put_17 : decode cX9_put 17 = .ok (.baload, 1) := by decide +kernel
theorem dX9_put_18 : decode cX9_put 18 = .ok (.ifCond .ne 7, 3) := by decide +kernel
theorem dX9_put_21 : decode cX9_put 21 = .ok (.sipush (-1003), 3) := by decide +kernel
theorem dX9_put_24 : decode cX9_put 24 = .ok (.ireturn, 1) := by decide +kernel
theorem dX9_put_25 : decode cX9_put 25 = .ok (.aload_n 0, 1) := by decide +kernel
theorem dX9_put_26 : decode cX9_put 26 = .ok (.getfield 25, 3) := by decide +kernel
theorem dX9_put_29 : decode cX9_put 29 = .ok (.iload_n 1, 1) := by decide +kernel
theorem dX9_put_30 : decode cX9_put 30 = .ok (.iconst 0, 1) := by decide +kernel
theorem dX9_put_31 : decode cX9_put 31 = .ok (.bastore, 1) := by decide +kernel
theorem dX9_put_32 : decode cX9_put 32 = .ok (.iconst 1, 1) := by decide +kernel
theorem dX9_put_33 : decode cX9_put 33 = .ok (.ireturn, 1) := by decide +kernel
set_option maxRecDepth 20000 in
theorem ok_137 {l : Launch} {d : Nat} (IH : ∀ μ, μ < 196 → px_Met l px_P d μ) : px_ok l px_P d RX9 cX9_put 2 (some .int) tb_137 :=
  ⟨px_Sp.of (ps_aload_n dX9_put_0 rfl),
   px_Sp.of (ps_iload_n dX9_put_1 rfl),
   ps_callV (IH 132 (by decide)) (C := RX9) (T := TX9) (N := 36) (ci := 8) rfl rfl (fc_132 _ _) wm_RX9_99 wi_yX9_noLetter wl_yX9_noLetter dX9_put_2,
   px_Sp.of (ps_if_eq dX9_put_5 (by decide)),
   px_Sp.of (ps_sipush dX9_put_8 (by decide)),
   ps_iret dX9_put_11,
   px_Sp.of (ps_aload_n dX9_put_12 rfl),
   px_Sp.of (ps_get kc_X9 (by decide) wf_RX9_25 dX9_put_13),
   px_Sp.of (ps_iload_n dX9_put_16 rfl),
   px_Sp.of (ps_zald dX9_put_17),
   px_Sp.of (ps_if_ne dX9_put_18 (by decide)),
   px_Sp.of (ps_sipush dX9_put_21 (by decide)),
   ps_iret dX9_put_24,
   px_Sp.of (ps_aload_n dX9_put_25 rfl),
   px_Sp.of (ps_get kc_X9 (by decide) wf_RX9_25 dX9_put_26),
   px_Sp.of (ps_iload_n dX9_put_29 rfl),
   px_Sp.of (ps_iconst dX9_put_30 (by decide)),
   px_Sp.ofm (ps_zast dX9_put_31),
   px_Sp.of (ps_iconst dX9_put_32 (by decide)),
   ps_iret dX9_put_33, trivial⟩
theorem mt_137 {l : Launch} {d : Nat} (IH : ∀ μ, μ < 196 → px_Met l px_P d μ) : px_Met l px_P (d + 1) 137 := px_met (own := RX9) rfl (by decide +kernel) (ok_137 IH)
theorem dX9_known_0 : decode cX9_known 0 = .ok (.iload_n 1, 1) := by decide +kernel
theorem dX9_known_1 : decode cX9_known 1 = .ok (.i2l, 1) := by decide +kernel
theorem dX9_known_2 : decode cX9_known 2 = .ok (.ldc2_w 110, 3) := by decide +kernel
theorem dX9_known_5 : decode cX9_known 5 = .ok (.aload_n 0, 1) := by decide +kernel
theorem dX9_known_6 : decode cX9_known 6 = .ok (.getfield 92, 3) := by decide +kernel
theorem dX9_known_9 : decode cX9_known 9 = .ok (.i2l, 1) := by decide +kernel
theorem dX9_known_10 : decode cX9_known 10 = .ok (.invokestatic 95, 3) := by decide +kernel
theorem dX9_known_13 : decode cX9_known 13 = .ok (.ifCond .ne 7, 3) := by decide +kernel
theorem dX9_known_16 : decode cX9_known 16 = .ok (.sipush (-1002), 3) := by decide +kernel
theorem dX9_known_19 : decode cX9_known 19 = .ok (.ireturn, 1) := by decide +kernel
theorem dX9_known_20 : decode cX9_known 20 = .ok (.aload_n 0, 1) := by decide +kernel
theorem dX9_known_21 : decode cX9_known 21 = .ok (.iload_n 1, 1) := by decide +kernel
theorem dX9_known_22 : decode cX9_known 22 = .ok (.putfield 41, 3) := by decide +kernel
theorem dX9_known_25 : decode cX9_known 25 = .ok (.iload_n 1, 1) := by decide +kernel
theorem dX9_known_26 : decode cX9_known 26 = .ok (.ireturn, 1) := by decide +kernel
set_option maxRecDepth 20000 in
theorem ok_138 {l : Launch} {d : Nat} (IH : ∀ μ, μ < 196 → px_Met l px_P d μ) : px_ok l px_P d RX9 cX9_known 2 (some .int) tb_138 :=
  ⟨px_Sp.of (ps_iload_n dX9_known_0 rfl),
   px_Sp.of (ps_i2l dX9_known_1),
   px_Sp.of (ps_ldc2 dX9_known_2 wk_RX9_110),
   px_Sp.of (ps_aload_n dX9_known_5 rfl),
   px_Sp.of (ps_get kc_X9 (by decide) wf_RX9_92 dX9_known_6),
   px_Sp.of (ps_i2l dX9_known_9),
   ps_callS (IH 130 (by decide)) (fc_130 _ _) wm_RX9_95 ws_yX9_in dX9_known_10,
   px_Sp.of (ps_if_ne dX9_known_13 (by decide)),
   px_Sp.of (ps_sipush dX9_known_16 (by decide)),
   ps_iret dX9_known_19,
   px_Sp.of (ps_aload_n dX9_known_20 rfl),
   px_Sp.of (ps_iload_n dX9_known_21 rfl),
   px_Sp.ofm (ps_putI kc_X9 (by decide) wf_RX9_41 rfl (by decide +kernel) kp_X9_12 dX9_known_22),
   px_Sp.of (ps_iload_n dX9_known_25 rfl),
   ps_iret dX9_known_26, trivial⟩
theorem mt_138 {l : Launch} {d : Nat} (IH : ∀ μ, μ < 196 → px_Met l px_P d μ) : px_Met l px_P (d + 1) 138 := px_met (own := RX9) rfl (by decide +kernel) (ok_138 IH)
theorem dX9_differ_0 : decode cX9_differ 0 = .ok (.aload_n 0, 1) := by decide +kernel
theorem dX9_differ_1 : decode cX9_differ 1 = .ok (.iload_n 1, 1) := by decide +kernel
theorem dX9_differ_2 : decode cX9_differ 2 = .ok (.iload_n 2, 1) := by decide +kernel
theorem dX9_differ_3 : decode cX9_differ 3 = .ok (.invokevirtual 128, 3) := by decide +kernel
theorem dX9_differ_6 : decode cX9_differ 6 = .ok (.ifCond .ne 13, 3) := by decide +kernel
theorem dX9_differ_9 : decode cX9_differ 9 = .ok (.aload_n 0, 1) := by decide +kernel
theorem dX9_differ_10 : decode cX9_differ 10 = .ok (.iload_n 3, 1) := by decide +kernel
theorem dX9_differ_11 : decode cX9_differ 11 = .ok (.iload 4, 2) := by decide +kernel
theorem dX9_differ_13 : decode cX9_differ 13 = .ok (.invokevirtual 128, 3) := by decide +kernel
theorem dX9_differ_16 : decode cX9_differ 16 = .ok (.ifCond .eq 9, 3) := by decide +kernel
theorem dX9_differ_19 : decode cX9_differ 19 = .ok (.sipush (-1001), 3) := by decide +kernel
theorem dX9_differ_22 : decode cX9_differ 22 = .ok (.goto 20, 3) := by decide +kernel
theorem dX9_differ_25 : decode cX9_differ 25 = .ok (.aload_n 0, 1) := by decide +kernel
theorem dX9_differ_26 : decode cX9_differ 26 = .ok (.bipush 14, 2) := by decide +kernel
theorem dX9_differ_28 : decode cX9_differ 28 = .ok (.iload_n 1, 1) := by decide +kernel
theorem dX9_differ_29 : decode cX9_differ 29 = .ok (.imul, 1) := by decide +kernel
theorem dX9_differ_30 : decode cX9_differ 30 = .ok (.iload_n 2, 1) := by decide +kernel
theorem dX9_differ_31 : decode cX9_differ 31 = .ok (.iadd, 1) := by decide +kernel
theorem dX9_differ_32 : decode cX9_differ 32 = .ok (.bipush 14, 2) := by decide +kernel
theorem dX9_differ_34 : decode cX9_differ 34 = .ok (.iload_n 3, 1) := by decide +kernel
theorem dX9_differ_35 : decode cX9_differ 35 = .ok (.imul, 1) := by decide +kernel
theorem dX9_differ_36 : decode cX9_differ 36 = .ok (.iload 4, 2) := by decide +kernel
theorem dX9_differ_38 : decode cX9_differ 38 = .ok (.iadd, 1) := by decide +kernel
theorem dX9_differ_39 : decode cX9_differ 39 = .ok (.invokevirtual 124, 3) := by decide +kernel
theorem dX9_differ_42 : decode cX9_differ 42 = .ok (.ireturn, 1) := by decide +kernel
set_option maxRecDepth 20000 in
theorem ok_139 {l : Launch} {d : Nat} (IH : ∀ μ, μ < 196 → px_Met l px_P d μ) : px_ok l px_P d RX9 cX9_differ 5 (some .int) tb_139 :=
  ⟨px_Sp.of (ps_aload_n dX9_differ_0 rfl),
   px_Sp.of (ps_iload_n dX9_differ_1 rfl),
   px_Sp.of (ps_iload_n dX9_differ_2 rfl),
   ps_callV (IH 140 (by decide)) (C := RX9) (T := TX9) (N := 36) (ci := 8) rfl rfl (fc_140 _ _) wm_RX9_128 wi_yX9_noLine wl_yX9_noLine dX9_differ_3,
   px_Sp.of (ps_if_ne dX9_differ_6 (by decide)),
   px_Sp.of (ps_aload_n dX9_differ_9 rfl),
   px_Sp.of (ps_iload_n dX9_differ_10 rfl),
   px_Sp.of (ps_iload dX9_differ_11),
   ps_callV (IH 140 (by decide)) (C := RX9) (T := TX9) (N := 36) (ci := 8) rfl rfl (fc_140 _ _) wm_RX9_128 wi_yX9_noLine wl_yX9_noLine dX9_differ_13,
   px_Sp.of (ps_if_eq dX9_differ_16 (by decide)),
   px_Sp.of (ps_sipush dX9_differ_19 (by decide)),
   px_Sp.of (ps_goto dX9_differ_22 (by decide)),
   px_Sp.of (ps_aload_n dX9_differ_25 rfl),
   px_Sp.of (ps_bipush dX9_differ_26 (by decide)),
   px_Sp.of (ps_iload_n dX9_differ_28 rfl),
   px_Sp.of (ps_imul dX9_differ_29),
   px_Sp.of (ps_iload_n dX9_differ_30 rfl),
   px_Sp.of (ps_iadd dX9_differ_31),
   px_Sp.of (ps_bipush dX9_differ_32 (by decide)),
   px_Sp.of (ps_iload_n dX9_differ_34 rfl),
   px_Sp.of (ps_imul dX9_differ_35),
   px_Sp.of (ps_iload dX9_differ_36),
   px_Sp.of (ps_iadd dX9_differ_38),
   ps_callV (IH 141 (by decide)) (C := RX9) (T := TX9) (N := 36) (ci := 8) rfl rfl (fc_141 _ _) wm_RX9_124 wi_yX9_differBy wl_yX9_differBy dX9_differ_39,
   ps_iret dX9_differ_42, trivial⟩
theorem mt_139 {l : Launch} {d : Nat} (IH : ∀ μ, μ < 196 → px_Met l px_P d μ) : px_Met l px_P (d + 1) 139 := px_met (own := RX9) rfl (by decide +kernel) (ok_139 IH)
theorem dX9_noLine_0 : decode cX9_noLine 0 = .ok (.aload_n 0, 1) := by decide +kernel
theorem dX9_noLine_1 : decode cX9_noLine 1 = .ok (.iload_n 1, 1) := by decide +kernel
theorem dX9_noLine_2 : decode cX9_noLine 2 = .ok (.invokevirtual 99, 3) := by decide +kernel
theorem dX9_noLine_5 : decode cX9_noLine 5 = .ok (.ifCond .ne 21, 3) := by decide +kernel
theorem dX9_noLine_8 : decode cX9_noLine 8 = .ok (.iload_n 2, 1) := by decide +kernel
theorem dX9_noLine_9 : decode cX9_noLine 9 = .ok (.i2l, 1) := by decide +kernel
theorem dX9_noLine_10 : decode cX9_noLine 10 = .ok (.lconst 0, 1) := by decide +kernel
theorem dX9_noLine_11 : decode cX9_noLine 11 = .ok (.aload_n 0, 1) := by decide +kernel
theorem dX9_noLine_12 : decode cX9_noLine 12 = .ok (.getfield 22, 3) := by decide +kernel
theorem dX9_noLine_15 : decode cX9_noLine 15 = .ok (.iload_n 1, 1) := by decide +kernel
theorem dX9_noLine_16 : decode cX9_noLine 16 = .ok (.iaload, 1) := by decide +kernel
theorem dX9_noLine_17 : decode cX9_noLine 17 = .ok (.iconst 1, 1) := by decide +kernel
theorem dX9_noLine_18 : decode cX9_noLine 18 = .ok (.isub, 1) := by decide +kernel
theorem dX9_noLine_19 : decode cX9_noLine 19 = .ok (.i2l, 1) := by decide +kernel
theorem dX9_noLine_20 : decode cX9_noLine 20 = .ok (.invokestatic 95, 3) := by decide +kernel
theorem dX9_noLine_23 : decode cX9_noLine 23 = .ok (.ifCond .ne 7, 3) := by decide +kernel
theorem dX9_noLine_26 : decode cX9_noLine 26 = .ok (.iconst 1, 1) := by decide +kernel
theorem dX9_noLine_27 : decode cX9_noLine 27 = .ok (.goto 4, 3) := by decide +kernel
theorem dX9_noLine_30 : decode cX9_noLine 30 = .ok (.iconst 0, 1) := by decide +kernel
theorem dX9_noLine_31 : decode cX9_noLine 31 = .ok (.ireturn, 1) := by decide +kernel
set_option maxRecDepth 20000 in
theorem ok_140 {l : Launch} {d : Nat} (IH : ∀ μ, μ < 196 → px_Met l px_P d μ) : px_ok l px_P d RX9 cX9_noLine 3 (some .boolean) tb_140 :=
  ⟨px_Sp.of (ps_aload_n dX9_noLine_0 rfl),
   px_Sp.of (ps_iload_n dX9_noLine_1 rfl),
   ps_callV (IH 132 (by decide)) (C := RX9) (T := TX9) (N := 36) (ci := 8) rfl rfl (fc_132 _ _) wm_RX9_99 wi_yX9_noLetter wl_yX9_noLetter dX9_noLine_2,
   px_Sp.of (ps_if_ne dX9_noLine_5 (by decide)),
   px_Sp.of (ps_iload_n dX9_noLine_8 rfl),
   px_Sp.of (ps_i2l dX9_noLine_9),
   px_Sp.of (ps_lconst dX9_noLine_10 (by decide)),
   px_Sp.of (ps_aload_n dX9_noLine_11 rfl),
   px_Sp.of (ps_get kc_X9 (by decide) wf_RX9_22 dX9_noLine_12),
   px_Sp.of (ps_iload_n dX9_noLine_15 rfl),
   px_Sp.of (ps_iald dX9_noLine_16),
   px_Sp.of (ps_iconst dX9_noLine_17 (by decide)),
   px_Sp.of (ps_isub dX9_noLine_18),
   px_Sp.of (ps_i2l dX9_noLine_19),
   ps_callS (IH 130 (by decide)) (fc_130 _ _) wm_RX9_95 ws_yX9_in dX9_noLine_20,
   px_Sp.of (ps_if_ne dX9_noLine_23 (by decide)),
   px_Sp.of (ps_iconst dX9_noLine_26 (by decide)),
   px_Sp.of (ps_goto dX9_noLine_27 (by decide)),
   px_Sp.of (ps_iconst dX9_noLine_30 (by decide)),
   ps_zret dX9_noLine_31, trivial⟩
theorem mt_140 {l : Launch} {d : Nat} (IH : ∀ μ, μ < 196 → px_Met l px_P d μ) : px_Met l px_P (d + 1) 140 := px_met (own := RX9) rfl (by decide +kernel) (ok_140 IH)
theorem dX9_differBy_0 : decode cX9_differBy 0 = .ok (.iconst 0, 1) := by decide +kernel
theorem dX9_differBy_1 : decode cX9_differBy 1 = .ok (.istore_n 3, 1) := by decide +kernel
theorem dX9_differBy_2 : decode cX9_differBy 2 = .ok (.iload_n 3, 1) := by decide +kernel
theorem dX9_differBy_3 : decode cX9_differBy 3 = .ok (.aload_n 0, 1) := by decide +kernel
theorem dX9_differBy_4 : decode cX9_differBy 4 = .ok (.getfield 32, 3) := by decide +kernel
theorem dX9_differBy_7 : decode cX9_differBy 7 = .ok (.iload_n 1, 1) := by decide +kernel
theorem dX9_differBy_8 : decode cX9_differBy 8 = .ok (.iaload, 1) := by decide +kernel
theorem dX9_differBy_9 : decode cX9_differBy 9 = .ok (.if_icmp .gt 183, 3) := by decide +kernel
theorem dX9_differBy_12 : decode cX9_differBy 12 = .ok (.iconst 0, 1) := by decide +kernel
theorem dX9_differBy_13 : decode cX9_differBy 13 = .ok (.istore 4, 2) := by decide +kernel
theorem dX9_differBy_15 : decode cX9_differBy 15 = .ok (.iload 4, 2) := by decide +kernel
theorem dX9_differBy_17 : decode cX9_differBy 17 = .ok (.aload_n 0, 1) := by decide +kernel
theorem dX9_differBy_18 : decode cX9_differBy 18 = .ok (.getfield 32, 3) := by decide +kernel
theorem dX9_differBy_21 : decode cX9_differBy 21 = .ok (.iload_n 2, 1) := by decide +kernel
theorem dX9_differBy_22 : decode cX9_differBy 22 = .ok (.iaload, 1) := by decide +kernel
theorem dX9_differBy_23 : decode cX9_differBy 23 = .ok (.if_icmp .gt 163, 3) := by decide +kernel
theorem dX9_differBy_26 : decode cX9_differBy 26 = .ok (.iload_n 3, 1) := by decide +kernel
theorem dX9_differBy_27 : decode cX9_differBy 27 = .ok (.iload 4, 2) := by decide +kernel
theorem dX9_differBy_29 : decode cX9_differBy 29 = .ok (.iadd, 1) := by decide +kernel
theorem dX9_differBy_30 : decode cX9_differBy 30 = .ok (.istore 5, 2) := by decide +kernel
theorem dX9_differBy_32 : decode cX9_differBy 32 = .ok (.iload_n 3, 1) := by decide +kernel
theorem dX9_differBy_33 : decode cX9_differBy 33 = .ok (.ifCond .le 133, 3) := by decide +kernel
theorem dX9_differBy_36 : decode cX9_differBy 36 = .ok (.iload 4, 2) := by decide +kernel
theorem dX9_differBy_38 : decode cX9_differBy 38 = .ok (.ifCond .le 128, 3) := by decide +kernel
theorem dX9_differBy_41 : decode cX9_differBy 41 = .ok (.aload_n 0, 1) := by decide +kernel
theorem dX9_differBy_42 : decode cX9_differBy 42 = .ok (.getfield 48, 3) := by decide +kernel
theorem dX9_differBy_45 : decode cX9_differBy 45 = .ok (.bipush 9, 2) := by decide +kernel
theorem dX9_differBy_47 : decode cX9_differBy 47 = .ok (.iload_n 3, 1) := by decide +kernel
theorem dX9_differBy_48 : decode cX9_differBy 48 = .ok (.iconst 1, 1) := by decide +kernel
theorem dX9_differBy_49 : decode cX9_differBy 49 = .ok (.isub, 1) := by decide +kernel
theorem dX9_differBy_50 : decode cX9_differBy 50 = .ok (.imul, 1) := by decide +kernel
theorem dX9_differBy_51 : decode cX9_differBy 51 = .ok (.iload 4, 2) := by decide +kernel
theorem dX9_differBy_53 : decode cX9_differBy 53 = .ok (.iadd, 1) := by decide +kernel
theorem dX9_differBy_54 : decode cX9_differBy 54 = .ok (.iaload, 1) := by decide +kernel
theorem dX9_differBy_55 : decode cX9_differBy 55 = .ok (.iconst 1, 1) := by decide +kernel
theorem dX9_differBy_56 : decode cX9_differBy 56 = .ok (.iadd, 1) := by decide +kernel
theorem dX9_differBy_57 : decode cX9_differBy 57 = .ok (.istore 6, 2) := by decide +kernel
theorem dX9_differBy_59 : decode cX9_differBy 59 = .ok (.aload_n 0, 1) := by decide +kernel
theorem dX9_differBy_60 : decode cX9_differBy 60 = .ok (.getfield 48, 3) := by decide +kernel
theorem dX9_differBy_63 : decode cX9_differBy 63 = .ok (.bipush 9, 2) := by decide +kernel
theorem dX9_differBy_65 : decode cX9_differBy 65 = .ok (.iload_n 3, 1) := by decide +kernel
theorem dX9_differBy_66 : decode cX9_differBy 66 = .ok (.imul, 1) := by decide +kernel
theorem dX9_differBy_67 : decode cX9_differBy 67 = .ok (.iload 4, 2) := by decide +kernel
theorem dX9_differBy_69 : decode cX9_differBy 69 = .ok (.iadd, 1) := by decide +kernel
theorem dX9_differBy_70 : decode cX9_differBy 70 = .ok (.iconst 1, 1) := by decide +kernel
theorem dX9_differBy_71 : decode cX9_differBy 71 = .ok (.isub, 1) := by decide +kernel
theorem dX9_differBy_72 : decode cX9_differBy 72 = .ok (.iaload, 1) := by decide +kernel
theorem dX9_differBy_73 : decode cX9_differBy 73 = .ok (.iconst 1, 1) := by decide +kernel
theorem dX9_differBy_74 : decode cX9_differBy 74 = .ok (.iadd, 1) := by decide +kernel
theorem dX9_differBy_75 : decode cX9_differBy 75 = .ok (.istore 7, 2) := by decide +kernel
theorem dX9_differBy_77 : decode cX9_differBy 77 = .ok (.aload_n 0, 1) := by decide +kernel
theorem dX9_differBy_78 : decode cX9_differBy 78 = .ok (.getfield 48, 3) := by decide +kernel
theorem dX9_differBy_81 : decode cX9_differBy 81 = .ok (.bipush 9, 2) := by decide +kernel
theorem dX9_differBy_83 : decode cX9_differBy 83 = .ok (.iload_n 3, 1) := by decide +kernel
theorem dX9_differBy_84 : decode cX9_differBy 84 = .ok (.iconst 1, 1) := by decide +kernel
theorem dX9_differBy_85 : decode cX9_differBy 85 = .ok (.isub, 1) := by decide +kernel
theorem dX9_differBy_86 : decode cX9_differBy 86 = .ok (.imul, 1) := by decide +kernel
theorem dX9_differBy_87 : decode cX9_differBy 87 = .ok (.iload 4, 2) := by decide +kernel
theorem dX9_differBy_89 : decode cX9_differBy 89 = .ok (.iadd, 1) := by decide +kernel
theorem dX9_differBy_90 : decode cX9_differBy 90 = .ok (.iconst 1, 1) := by decide +kernel
theorem dX9_differBy_91 : decode cX9_differBy 91 = .ok (.isub, 1) := by decide +kernel
theorem dX9_differBy_92 : decode cX9_differBy 92 = .ok (.iaload, 1) := by decide +kernel
theorem dX9_differBy_93 : decode cX9_differBy 93 = .ok (.aload_n 0, 1) := by decide +kernel
theorem dX9_differBy_94 : decode cX9_differBy 94 = .ok (.getfield 35, 3) := by decide +kernel
theorem dX9_differBy_97 : decode cX9_differBy 97 = .ok (.bipush 8, 2) := by decide +kernel
theorem dX9_differBy_99 : decode cX9_differBy 99 = .ok (.iload_n 1, 1) := by decide +kernel
theorem dX9_differBy_100 : decode cX9_differBy 100 = .ok (.imul, 1) := by decide +kernel
theorem dX9_differBy_101 : decode cX9_differBy 101 = .ok (.iload_n 3, 1) := by decide +kernel
theorem dX9_differBy_102 : decode cX9_differBy 102 = .ok (.iadd, 1) := by decide +kernel
theorem dX9_differBy_103 : decode cX9_differBy 103 = .ok (.iconst 1, 1) := by decide +kernel
theorem dX9_differBy_104 : decode cX9_differBy 104 = .ok (.isub, 1) := by decide +kernel
theorem dX9_differBy_105 : decode cX9_differBy 105 = .ok (.iaload, 1) := by decide +kernel
theorem dX9_differBy_106 : decode cX9_differBy 106 = .ok (.aload_n 0, 1) := by decide +kernel
theorem dX9_differBy_107 : decode cX9_differBy 107 = .ok (.getfield 35, 3) := by decide +kernel
theorem dX9_differBy_110 : decode cX9_differBy 110 = .ok (.bipush 8, 2) := by decide +kernel
theorem dX9_differBy_112 : decode cX9_differBy 112 = .ok (.iload_n 2, 1) := by decide +kernel
theorem dX9_differBy_113 : decode cX9_differBy 113 = .ok (.imul, 1) := by decide +kernel
theorem dX9_differBy_114 : decode cX9_differBy 114 = .ok (.iload 4, 2) := by decide +kernel
theorem dX9_differBy_116 : decode cX9_differBy 116 = .ok (.iadd, 1) := by decide +kernel
theorem dX9_differBy_117 : decode cX9_differBy 117 = .ok (.iconst 1, 1) := by decide +kernel
theorem dX9_differBy_118 : decode cX9_differBy 118 = .ok (.isub, 1) := by decide +kernel
theorem dX9_differBy_119 : decode cX9_differBy 119 = .ok (.iaload, 1) := by decide +kernel
theorem dX9_differBy_120 : decode cX9_differBy 120 = .ok (.if_icmp .eq 7, 3) := by decide +kernel
theorem dX9_differBy_123 : decode cX9_differBy 123 = .ok (.iconst 1, 1) := by decide +kernel
theorem dX9_differBy_124 : decode cX9_differBy 124 = .ok (.goto 4, 3) := by decide +kernel
theorem dX9_differBy_127 : decode cX9_differBy 127 = .ok (.iconst 0, 1) := by decide +kernel
theorem dX9_differBy_128 : decode cX9_differBy 128 = .ok (.invokestatic 120, 3) := by decide +kernel
theorem dX9_differBy_131 : decode cX9_differBy 131 = .ok (.iadd, 1) := by decide +kernel
theorem dX9_differBy_132 : decode cX9_differBy 132 = .ok (.istore 8, 2) := by decide +kernel
theorem dX9_differBy_134 : decode cX9_differBy 134 = .ok (.iload 6, 2) := by decide +kernel
theorem dX9_differBy_136 : decode cX9_differBy 136 = .ok (.iload 7, 2) := by decide +kernel
theorem dX9_differBy_138 : decode cX9_differBy 138 = .ok (.if_icmp .ge 8, 3) := by decide +kernel
theorem dX9_differBy_141 : decode cX9_differBy 141 = .ok (.iload 6, 2) := by decide +kernel
theorem dX9_differBy_143 : decode cX9_differBy 143 = .ok (.goto 5, 3) := by decide +kernel
theorem dX9_differBy_146 : decode cX9_differBy 146 = .ok (.iload 7, 2) := by decide +kernel
theorem dX9_differBy_148 : decode cX9_differBy 148 = .ok (.istore 5, 2) := by decide +kernel
theorem dX9_differBy_150 : decode cX9_differBy 150 = .ok (.iload 8, 2) := by decide +kernel
theorem dX9_differBy_152 : decode cX9_differBy 152 = .ok (.iload 5, 2) := by decide +kernel
theorem dX9_differBy_154 : decode cX9_differBy 154 = .ok (.if_icmp .ge 8, 3) := by decide +kernel
theorem dX9_differBy_157 : decode cX9_differBy 157 = .ok (.iload 8, 2) := by decide +kernel
theorem dX9_differBy_159 : decode cX9_differBy 159 = .ok (.goto 5, 3) := by decide +kernel
theorem dX9_differBy_162 : decode cX9_differBy 162 = .ok (.iload 5, 2) := by decide +kernel
theorem dX9_differBy_164 : decode cX9_differBy 164 = .ok (.istore 5, 2) := by decide +kernel
theorem dX9_differBy_166 : decode cX9_differBy 166 = .ok (.aload_n 0, 1) := by decide +kernel
theorem dX9_differBy_167 : decode cX9_differBy 167 = .ok (.getfield 48, 3) := by decide +kernel
theorem dX9_differBy_170 : decode cX9_differBy 170 = .ok (.bipush 9, 2) := by decide +kernel
theorem dX9_differBy_172 : decode cX9_differBy 172 = .ok (.iload_n 3, 1) := by decide +kernel
theorem dX9_differBy_173 : decode cX9_differBy 173 = .ok (.imul, 1) := by decide +kernel
theorem dX9_differBy_174 : decode cX9_differBy 174 = .ok (.iload 4, 2) := by decide +kernel
theorem dX9_differBy_176 : decode cX9_differBy 176 = .ok (.iadd, 1) := by decide +kernel
theorem dX9_differBy_177 : decode cX9_differBy 177 = .ok (.iload 5, 2) := by decide +kernel
theorem dX9_differBy_179 : decode cX9_differBy 179 = .ok (.iastore, 1) := by decide +kernel
theorem dX9_differBy_180 : decode cX9_differBy 180 = .ok (.iinc 4 1, 3) := by decide +kernel
theorem dX9_differBy_183 : decode cX9_differBy 183 = .ok (.goto (-168), 3) := by decide +kernel
theorem dX9_differBy_186 : decode cX9_differBy 186 = .ok (.iinc 3 1, 3) := by decide +kernel
theorem dX9_differBy_189 : decode cX9_differBy 189 = .ok (.goto (-187), 3) := by decide +kernel
theorem dX9_differBy_192 : decode cX9_differBy 192 = .ok (.aload_n 0, 1) := by decide +kernel
theorem dX9_differBy_193 : decode cX9_differBy 193 = .ok (.getfield 48, 3) := by decide +kernel
theorem dX9_differBy_196 : decode cX9_differBy 196 = .ok (.bipush 9, 2) := by decide +kernel
theorem dX9_differBy_198 : decode cX9_differBy 198 = .ok (.aload_n 0, 1) := by decide +kernel
theorem dX9_differBy_199 : decode cX9_differBy 199 = .ok (.getfield 32, 3) := by decide +kernel
theorem dX9_differBy_202 : decode cX9_differBy 202 = .ok (.iload_n 1, 1) := by decide +kernel
theorem dX9_differBy_203 : decode cX9_differBy 203 = .ok (.iaload, 1) := by decide +kernel
theorem dX9_differBy_204 : decode cX9_differBy 204 = .ok (.imul, 1) := by decide +kernel
theorem dX9_differBy_205 : decode cX9_differBy 205 = .ok (.aload_n 0, 1) := by decide +kernel
theorem dX9_differBy_206 : decode cX9_differBy 206 = .ok (.getfield 32, 3) := by decide +kernel
theorem dX9_differBy_209 : decode cX9_differBy 209 = .ok (.iload_n 2, 1) := by decide +kernel
theorem dX9_differBy_210 : decode cX9_differBy 210 = .ok (.iaload, 1) := by decide +kernel
theorem dX9_differBy_211 : decode cX9_differBy 211 = .ok (.iadd, 1) := by decide +kernel
theorem dX9_differBy_212 : decode cX9_differBy 212 = .ok (.iaload, 1) := by decide +kernel
theorem dX9_differBy_213 : decode cX9_differBy 213 = .ok (.ireturn, 1) := by decide +kernel
set_option maxRecDepth 20000 in
theorem ok_141 {l : Launch} {d : Nat} (IH : ∀ μ, μ < 196 → px_Met l px_P d μ) : px_ok l px_P d RX9 cX9_differBy 9 (some .int) tb_141 :=
  ⟨px_Sp.of (ps_iconst dX9_differBy_0 (by decide)),
   px_Sp.of (ps_istore_n dX9_differBy_1 rfl (by decide)),
   px_Sp.of (ps_iload_n dX9_differBy_2 rfl),
   px_Sp.of (ps_aload_n dX9_differBy_3 rfl),
   px_Sp.of (ps_get kc_X9 (by decide) wf_RX9_32 dX9_differBy_4),
   px_Sp.of (ps_iload_n dX9_differBy_7 rfl),
   px_Sp.of (ps_iald dX9_differBy_8),
   px_Sp.of (ps_icmp_gt dX9_differBy_9 (by decide)),
   px_Sp.of (ps_iconst dX9_differBy_12 (by decide)),
   px_Sp.of (ps_istore dX9_differBy_13 (by decide)),
   px_Sp.of (ps_iload dX9_differBy_15),
   px_Sp.of (ps_aload_n dX9_differBy_17 rfl),
   px_Sp.of (ps_get kc_X9 (by decide) wf_RX9_32 dX9_differBy_18),
   px_Sp.of (ps_iload_n dX9_differBy_21 rfl),
   px_Sp.of (ps_iald dX9_differBy_22),
   px_Sp.of (ps_icmp_gt dX9_differBy_23 (by decide)),
   px_Sp.of (ps_iload_n dX9_differBy_26 rfl),
   px_Sp.of (ps_iload dX9_differBy_27),
   px_Sp.of (ps_iadd dX9_differBy_29),
   px_Sp.of (ps_istore dX9_differBy_30 (by decide)),
   px_Sp.of (ps_iload_n dX9_differBy_32 rfl),
   px_Sp.of (ps_if_le dX9_differBy_33 (by decide)),
   px_Sp.of (ps_iload dX9_differBy_36),
   px_Sp.of (ps_if_le dX9_differBy_38 (by decide)),
   px_Sp.of (ps_aload_n dX9_differBy_41 rfl),
   px_Sp.of (ps_get kc_X9 (by decide) wf_RX9_48 dX9_differBy_42),
   px_Sp.of (ps_bipush dX9_differBy_45 (by decide)),
   px_Sp.of (ps_iload_n dX9_differBy_47 rfl),
   px_Sp.of (ps_iconst dX9_differBy_48 (by decide)),
   px_Sp.of (ps_isub dX9_differBy_49),
   px_Sp.of (ps_imul dX9_differBy_50),
   px_Sp.of (ps_iload dX9_differBy_51),
   px_Sp.of (ps_iadd dX9_differBy_53),
   px_Sp.of (ps_iald dX9_differBy_54),
   px_Sp.of (ps_iconst dX9_differBy_55 (by decide)),
   px_Sp.of (ps_iadd dX9_differBy_56),
   px_Sp.of (ps_istore dX9_differBy_57 (by decide)),
   px_Sp.of (ps_aload_n dX9_differBy_59 rfl),
   px_Sp.of (ps_get kc_X9 (by decide) wf_RX9_48 dX9_differBy_60),
   px_Sp.of (ps_bipush dX9_differBy_63 (by decide)),
   px_Sp.of (ps_iload_n dX9_differBy_65 rfl),
   px_Sp.of (ps_imul dX9_differBy_66),
   px_Sp.of (ps_iload dX9_differBy_67),
   px_Sp.of (ps_iadd dX9_differBy_69),
   px_Sp.of (ps_iconst dX9_differBy_70 (by decide)),
   px_Sp.of (ps_isub dX9_differBy_71),
   px_Sp.of (ps_iald dX9_differBy_72),
   px_Sp.of (ps_iconst dX9_differBy_73 (by decide)),
   px_Sp.of (ps_iadd dX9_differBy_74),
   px_Sp.of (ps_istore dX9_differBy_75 (by decide)),
   px_Sp.of (ps_aload_n dX9_differBy_77 rfl),
   px_Sp.of (ps_get kc_X9 (by decide) wf_RX9_48 dX9_differBy_78),
   px_Sp.of (ps_bipush dX9_differBy_81 (by decide)),
   px_Sp.of (ps_iload_n dX9_differBy_83 rfl),
   px_Sp.of (ps_iconst dX9_differBy_84 (by decide)),
   px_Sp.of (ps_isub dX9_differBy_85),
   px_Sp.of (ps_imul dX9_differBy_86),
   px_Sp.of (ps_iload dX9_differBy_87),
   px_Sp.of (ps_iadd dX9_differBy_89),
   px_Sp.of (ps_iconst dX9_differBy_90 (by decide)),
   px_Sp.of (ps_isub dX9_differBy_91),
   px_Sp.of (ps_iald dX9_differBy_92),
   px_Sp.of (ps_aload_n dX9_differBy_93 rfl),
   px_Sp.of (ps_get kc_X9 (by decide) wf_RX9_35 dX9_differBy_94),
   px_Sp.of (ps_bipush dX9_differBy_97 (by decide)),
   px_Sp.of (ps_iload_n dX9_differBy_99 rfl),
   px_Sp.of (ps_imul dX9_differBy_100),
   px_Sp.of (ps_iload_n dX9_differBy_101 rfl),
   px_Sp.of (ps_iadd dX9_differBy_102),
   px_Sp.of (ps_iconst dX9_differBy_103 (by decide)),
   px_Sp.of (ps_isub dX9_differBy_104),
   px_Sp.of (ps_iald dX9_differBy_105),
   px_Sp.of (ps_aload_n dX9_differBy_106 rfl),
   px_Sp.of (ps_get kc_X9 (by decide) wf_RX9_35 dX9_differBy_107),
   px_Sp.of (ps_bipush dX9_differBy_110 (by decide)),
   px_Sp.of (ps_iload_n dX9_differBy_112 rfl),
   px_Sp.of (ps_imul dX9_differBy_113),
   px_Sp.of (ps_iload dX9_differBy_114),
   px_Sp.of (ps_iadd dX9_differBy_116),
   px_Sp.of (ps_iconst dX9_differBy_117 (by decide)),
   px_Sp.of (ps_isub dX9_differBy_118),
   px_Sp.of (ps_iald dX9_differBy_119),
   px_Sp.of (ps_icmp_eq dX9_differBy_120 (by decide)),
   px_Sp.of (ps_iconst dX9_differBy_123 (by decide)),
   px_Sp.of (ps_goto dX9_differBy_124 (by decide)),
   px_Sp.of (ps_iconst dX9_differBy_127 (by decide)),
   ps_callS (IH 135 (by decide)) (fc_135 _ _) wm_RX9_120 ws_yX9_one dX9_differBy_128,
   px_Sp.of (ps_iadd dX9_differBy_131),
   px_Sp.of (ps_istore dX9_differBy_132 (by decide)),
   px_Sp.of (ps_iload dX9_differBy_134),
   px_Sp.of (ps_iload dX9_differBy_136),
   px_Sp.of (ps_icmp_ge dX9_differBy_138 (by decide)),
   px_Sp.of (ps_iload dX9_differBy_141),
   px_Sp.of (ps_goto dX9_differBy_143 (by decide)),
   px_Sp.of (ps_iload dX9_differBy_146),
   px_Sp.of (ps_istore dX9_differBy_148 (by decide)),
   px_Sp.of (ps_iload dX9_differBy_150),
   px_Sp.of (ps_iload dX9_differBy_152),
   px_Sp.of (ps_icmp_ge dX9_differBy_154 (by decide)),
   px_Sp.of (ps_iload dX9_differBy_157),
   px_Sp.of (ps_goto dX9_differBy_159 (by decide)),
   px_Sp.of (ps_iload dX9_differBy_162),
   px_Sp.of (ps_istore dX9_differBy_164 (by decide)),
   px_Sp.of (ps_aload_n dX9_differBy_166 rfl),
   px_Sp.of (ps_get kc_X9 (by decide) wf_RX9_48 dX9_differBy_167),
   px_Sp.of (ps_bipush dX9_differBy_170 (by decide)),
   px_Sp.of (ps_iload_n dX9_differBy_172 rfl),
   px_Sp.of (ps_imul dX9_differBy_173),
   px_Sp.of (ps_iload dX9_differBy_174),
   px_Sp.of (ps_iadd dX9_differBy_176),
   px_Sp.of (ps_iload dX9_differBy_177),
   px_Sp.ofm (ps_iast dX9_differBy_179),
   px_Sp.of (ps_iinc dX9_differBy_180 (by decide) (by decide)),
   px_Sp.of (ps_goto dX9_differBy_183 (by decide)),
   px_Sp.of (ps_iinc dX9_differBy_186 (by decide) (by decide)),
   px_Sp.of (ps_goto dX9_differBy_189 (by decide)),
   px_Sp.of (ps_aload_n dX9_differBy_192 rfl),
   px_Sp.of (ps_get kc_X9 (by decide) wf_RX9_48 dX9_differBy_193),
   px_Sp.of (ps_bipush dX9_differBy_196 (by decide)),
   px_Sp.of (ps_aload_n dX9_differBy_198 rfl),
   px_Sp.of (ps_get kc_X9 (by decide) wf_RX9_32 dX9_differBy_199),
   px_Sp.of (ps_iload_n dX9_differBy_202 rfl),
   px_Sp.of (ps_iald dX9_differBy_203),
   px_Sp.of (ps_imul dX9_differBy_204),
   px_Sp.of (ps_aload_n dX9_differBy_205 rfl),
   px_Sp.of (ps_get kc_X9 (by decide) wf_RX9_32 dX9_differBy_206),
   px_Sp.of (ps_iload_n dX9_differBy_209 rfl),
   px_Sp.of (ps_iald dX9_differBy_210),
   px_Sp.of (ps_iadd dX9_differBy_211),
   px_Sp.of (ps_iald dX9_differBy_212),
   ps_iret dX9_differBy_213, trivial⟩
theorem mt_141 {l : Launch} {d : Nat} (IH : ∀ μ, μ < 196 → px_Met l px_P d μ) : px_Met l px_P (d + 1) 141 := px_met (own := RX9) rfl (by decide +kernel) (ok_141 IH)
