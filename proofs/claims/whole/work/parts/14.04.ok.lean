/-! ===== tables that are right, 4 ===== -/
theorem dX5_stepBy_0 : decode cX5_stepBy 0 = .ok (.iconst 0, 1) := by decide +kernel
theorem dX5_stepBy_1 : decode cX5_stepBy 1 = .ok (.istore_n 3, 1) := by decide +kernel
theorem dX5_stepBy_2 : decode cX5_stepBy 2 = .ok (.iconst 0, 1) := by decide +kernel
theorem dX5_stepBy_3 : decode cX5_stepBy 3 = .ok (.istore 4, 2) := by decide +kernel
theorem dX5_stepBy_5 : decode cX5_stepBy 5 = .ok (.iload 4, 2) := by decide +kernel
theorem dX5_stepBy_7 : decode cX5_stepBy 7 = .ok (.aload_n 0, 1) := by decide +kernel
theorem dX5_stepBy_8 : decode cX5_stepBy 8 = .ok (.getfield 28, 3) := by decide +kernel
theorem dX5_stepBy_11 : decode cX5_stepBy 11 = .ok (.if_icmp .ge 30, 3) := by decide +kernel
theorem dX5_stepBy_14 : decode cX5_stepBy 14 = .ok (.aload_n 0, 1) := by decide +kernel
theorem dX5_stepBy_15 : decode cX5_stepBy 15 = .ok (.getfield 19, 3) := by decide +kernel
theorem dX5_stepBy_18 : decode cX5_stepBy 18 = .ok (.iload 4, 2) := by decide +kernel
theorem dX5_stepBy_20 : decode cX5_stepBy 20 = .ok (.laload, 1) := by decide +kernel
theorem dX5_stepBy_21 : decode cX5_stepBy 21 = .ok (.lload_n 1, 1) := by decide +kernel
theorem dX5_stepBy_22 : decode cX5_stepBy 22 = .ok (.lcmp, 1) := by decide +kernel
theorem dX5_stepBy_23 : decode cX5_stepBy 23 = .ok (.ifCond .ne 12, 3) := by decide +kernel
theorem dX5_stepBy_26 : decode cX5_stepBy 26 = .ok (.iload_n 3, 1) := by decide +kernel
theorem dX5_stepBy_27 : decode cX5_stepBy 27 = .ok (.iconst 1, 1) := by decide +kernel
theorem dX5_stepBy_28 : decode cX5_stepBy 28 = .ok (.iconst 4, 1) := by decide +kernel
theorem dX5_stepBy_29 : decode cX5_stepBy 29 = .ok (.iload 4, 2) := by decide +kernel
theorem dX5_stepBy_31 : decode cX5_stepBy 31 = .ok (.imul, 1) := by decide +kernel
theorem dX5_stepBy_32 : decode cX5_stepBy 32 = .ok (.ishl, 1) := by decide +kernel
theorem dX5_stepBy_33 : decode cX5_stepBy 33 = .ok (.ior, 1) := by decide +kernel
theorem dX5_stepBy_34 : decode cX5_stepBy 34 = .ok (.istore_n 3, 1) := by decide +kernel
theorem dX5_stepBy_35 : decode cX5_stepBy 35 = .ok (.iinc 4 1, 3) := by decide +kernel
theorem dX5_stepBy_38 : decode cX5_stepBy 38 = .ok (.goto (-33), 3) := by decide +kernel
theorem dX5_stepBy_41 : decode cX5_stepBy 41 = .ok (.iload_n 3, 1) := by decide +kernel
theorem dX5_stepBy_42 : decode cX5_stepBy 42 = .ok (.ireturn, 1) := by decide +kernel
set_option maxRecDepth 20000 in
theorem ok_80 {l : Launch} {d : Nat} (IH : ∀ μ, μ < 196 → px_Met l px_P d μ) : px_ok l px_P d RX5 cX5_stepBy 5 (some .int) tb_80 :=
  ⟨px_Sp.of (ps_iconst dX5_stepBy_0 (by decide)),
   px_Sp.of (ps_istore_n dX5_stepBy_1 rfl (by decide)),
   px_Sp.of (ps_iconst dX5_stepBy_2 (by decide)),
   px_Sp.of (ps_istore dX5_stepBy_3 (by decide)),
   px_Sp.of (ps_iload dX5_stepBy_5),
   px_Sp.of (ps_aload_n dX5_stepBy_7 rfl),
   px_Sp.of (ps_get kc_X5 (by decide) wf_RX5_28 dX5_stepBy_8),
   px_Sp.of (ps_icmp_ge dX5_stepBy_11 (by decide)),
   px_Sp.of (ps_aload_n dX5_stepBy_14 rfl),
   px_Sp.of (ps_get kc_X5 (by decide) wf_RX5_19 dX5_stepBy_15),
   px_Sp.of (ps_iload dX5_stepBy_18),
   px_Sp.of (ps_lald dX5_stepBy_20),
   px_Sp.of (ps_lload_n dX5_stepBy_21 rfl),
   px_Sp.of (ps_lcmp dX5_stepBy_22),
   px_Sp.of (ps_if_ne dX5_stepBy_23 (by decide)),
   px_Sp.of (ps_iload_n dX5_stepBy_26 rfl),
   px_Sp.of (ps_iconst dX5_stepBy_27 (by decide)),
   px_Sp.of (ps_iconst dX5_stepBy_28 (by decide)),
   px_Sp.of (ps_iload dX5_stepBy_29),
   px_Sp.of (ps_imul dX5_stepBy_31),
   px_Sp.of (ps_ishl dX5_stepBy_32),
   px_Sp.of (ps_ior dX5_stepBy_33),
   px_Sp.of (ps_istore_n dX5_stepBy_34 rfl (by decide)),
   px_Sp.of (ps_iinc dX5_stepBy_35 (by decide) (by decide)),
   px_Sp.of (ps_goto dX5_stepBy_38 (by decide)),
   px_Sp.of (ps_iload_n dX5_stepBy_41 rfl),
   ps_iret dX5_stepBy_42, trivial⟩
theorem mt_80 {l : Launch} {d : Nat} (IH : ∀ μ, μ < 196 → px_Met l px_P d μ) : px_Met l px_P (d + 1) 80 := px_met (own := RX5) rfl (by decide +kernel) (ok_80 IH)
theorem dX5_writeRow_0 : decode cX5_writeRow 0 = .ok (.aload_n 0, 1) := by decide +kernel
theorem dX5_writeRow_1 : decode cX5_writeRow 1 = .ok (.iconst 0, 1) := by decide +kernel
theorem dX5_writeRow_2 : decode cX5_writeRow 2 = .ok (.putfield 57, 3) := by decide +kernel
theorem dX5_writeRow_5 : decode cX5_writeRow 5 = .ok (.iload_n 1, 1) := by decide +kernel
theorem dX5_writeRow_6 : decode cX5_writeRow 6 = .ok (.istore_n 2, 1) := by decide +kernel
theorem dX5_writeRow_7 : decode cX5_writeRow 7 = .ok (.iload_n 2, 1) := by decide +kernel
theorem dX5_writeRow_8 : decode cX5_writeRow 8 = .ok (.ifCond .le 37, 3) := by decide +kernel
theorem dX5_writeRow_11 : decode cX5_writeRow 11 = .ok (.aload_n 0, 1) := by decide +kernel
theorem dX5_writeRow_12 : decode cX5_writeRow 12 = .ok (.getfield 57, 3) := by decide +kernel
theorem dX5_writeRow_15 : decode cX5_writeRow 15 = .ok (.bipush 56, 2) := by decide +kernel
theorem dX5_writeRow_17 : decode cX5_writeRow 17 = .ok (.if_icmp .ge 28, 3) := by decide +kernel
theorem dX5_writeRow_20 : decode cX5_writeRow 20 = .ok (.aload_n 0, 1) := by decide +kernel
theorem dX5_writeRow_21 : decode cX5_writeRow 21 = .ok (.dup, 1) := by decide +kernel
theorem dX5_writeRow_22 : decode cX5_writeRow 22 = .ok (.getfield 57, 3) := by decide +kernel
theorem dX5_writeRow_25 : decode cX5_writeRow 25 = .ok (.iconst 1, 1) := by decide +kernel
theorem dX5_writeRow_26 : decode cX5_writeRow 26 = .ok (.iadd, 1) := by decide +kernel
theorem dX5_writeRow_27 : decode cX5_writeRow 27 = .ok (.putfield 57, 3) := by decide +kernel
theorem dX5_writeRow_30 : decode cX5_writeRow 30 = .ok (.iload_n 2, 1) := by decide +kernel
theorem dX5_writeRow_31 : decode cX5_writeRow 31 = .ok (.aload_n 0, 1) := by decide +kernel
theorem dX5_writeRow_32 : decode cX5_writeRow 32 = .ok (.getfield 25, 3) := by decide +kernel
theorem dX5_writeRow_35 : decode cX5_writeRow 35 = .ok (.iload_n 2, 1) := by decide +kernel
theorem dX5_writeRow_36 : decode cX5_writeRow 36 = .ok (.iaload, 1) := by decide +kernel
theorem dX5_writeRow_37 : decode cX5_writeRow 37 = .ok (.bipush 16, 2) := by decide +kernel
theorem dX5_writeRow_39 : decode cX5_writeRow 39 = .ok (.iushr, 1) := by decide +kernel
theorem dX5_writeRow_40 : decode cX5_writeRow 40 = .ok (.isub, 1) := by decide +kernel
theorem dX5_writeRow_41 : decode cX5_writeRow 41 = .ok (.istore_n 2, 1) := by decide +kernel
theorem dX5_writeRow_42 : decode cX5_writeRow 42 = .ok (.goto (-35), 3) := by decide +kernel
theorem dX5_writeRow_45 : decode cX5_writeRow 45 = .ok (.iload_n 1, 1) := by decide +kernel
theorem dX5_writeRow_46 : decode cX5_writeRow 46 = .ok (.istore_n 2, 1) := by decide +kernel
theorem dX5_writeRow_47 : decode cX5_writeRow 47 = .ok (.aload_n 0, 1) := by decide +kernel
theorem dX5_writeRow_48 : decode cX5_writeRow 48 = .ok (.getfield 57, 3) := by decide +kernel
theorem dX5_writeRow_51 : decode cX5_writeRow 51 = .ok (.iconst 1, 1) := by decide +kernel
theorem dX5_writeRow_52 : decode cX5_writeRow 52 = .ok (.isub, 1) := by decide +kernel
theorem dX5_writeRow_53 : decode cX5_writeRow 53 = .ok (.istore_n 3, 1) := by decide +kernel
theorem dX5_writeRow_54 : decode cX5_writeRow 54 = .ok (.iload_n 3, 1) := by decide +kernel
theorem dX5_writeRow_55 : decode cX5_writeRow 55 = .ok (.ifCond .lt 42, 3) := by decide +kernel
theorem dX5_writeRow_58 : decode cX5_writeRow 58 = .ok (.iload_n 2, 1) := by decide +kernel
theorem dX5_writeRow_59 : decode cX5_writeRow 59 = .ok (.ifCond .le 38, 3) := by decide +kernel
theorem dX5_writeRow_62 : decode cX5_writeRow 62 = .ok (.aload_n 0, 1) := by decide +kernel
theorem dX5_writeRow_63 : decode cX5_writeRow 63 = .ok (.getfield 25, 3) := by decide +kernel
theorem dX5_writeRow_66 : decode cX5_writeRow 66 = .ok (.iload_n 2, 1) := by decide +kernel
theorem dX5_writeRow_67 : decode cX5_writeRow 67 = .ok (.iaload, 1) := by decide +kernel
theorem dX5_writeRow_68 : decode cX5_writeRow 68 = .ok (.bipush 16, 2) := by decide +kernel
theorem dX5_writeRow_70 : decode cX5_writeRow 70 = .ok (.iushr, 1) := by decide +kernel
theorem dX5_writeRow_71 : decode cX5_writeRow 71 = .ok (.istore 4, 2) := by decide +kernel
theorem dX5_writeRow_73 : decode cX5_writeRow 73 = .ok (.iload_n 2, 1) := by decide +kernel
theorem dX5_writeRow_74 : decode cX5_writeRow 74 = .ok (.iload 4, 2) := by decide +kernel
theorem dX5_writeRow_76 : decode cX5_writeRow 76 = .ok (.isub, 1) := by decide +kernel
theorem dX5_writeRow_77 : decode cX5_writeRow 77 = .ok (.istore_n 2, 1) := by decide +kernel
theorem dX5_writeRow_78 : decode cX5_writeRow 78 = .ok (.aload_n 0, 1) := by decide +kernel
theorem dX5_writeRow_79 : decode cX5_writeRow 79 = .ok (.getfield 22, 3) := by decide +kernel
theorem dX5_writeRow_82 : decode cX5_writeRow 82 = .ok (.iload_n 3, 1) := by decide +kernel
theorem dX5_writeRow_83 : decode cX5_writeRow 83 = .ok (.aload_n 0, 1) := by decide +kernel
theorem dX5_writeRow_84 : decode cX5_writeRow 84 = .ok (.iload_n 2, 1) := by decide +kernel
theorem dX5_writeRow_85 : decode cX5_writeRow 85 = .ok (.iload 4, 2) := by decide +kernel
theorem dX5_writeRow_87 : decode cX5_writeRow 87 = .ok (.invokevirtual 60, 3) := by decide +kernel
theorem dX5_writeRow_90 : decode cX5_writeRow 90 = .ok (.lastore, 1) := by decide +kernel
theorem dX5_writeRow_91 : decode cX5_writeRow 91 = .ok (.iinc 3 (-1), 3) := by decide +kernel
theorem dX5_writeRow_94 : decode cX5_writeRow 94 = .ok (.goto (-40), 3) := by decide +kernel
theorem dX5_writeRow_97 : decode cX5_writeRow 97 = .ok (.return_, 1) := by decide +kernel
set_option maxRecDepth 20000 in
theorem ok_81 {l : Launch} {d : Nat} (IH : ∀ μ, μ < 196 → px_Met l px_P d μ) : px_ok l px_P d RX5 cX5_writeRow 5 (none) tb_81 :=
  ⟨px_Sp.of (ps_aload_n dX5_writeRow_0 rfl),
   px_Sp.of (ps_iconst dX5_writeRow_1 (by decide)),
   px_Sp.ofm (ps_putI kc_X5 (by decide) wf_RX5_57 rfl (by decide +kernel) kp_X5_4 dX5_writeRow_2),
   px_Sp.of (ps_iload_n dX5_writeRow_5 rfl),
   px_Sp.of (ps_istore_n dX5_writeRow_6 rfl (by decide)),
   px_Sp.of (ps_iload_n dX5_writeRow_7 rfl),
   px_Sp.of (ps_if_le dX5_writeRow_8 (by decide)),
   px_Sp.of (ps_aload_n dX5_writeRow_11 rfl),
   px_Sp.of (ps_get kc_X5 (by decide) wf_RX5_57 dX5_writeRow_12),
   px_Sp.of (ps_bipush dX5_writeRow_15 (by decide)),
   px_Sp.of (ps_icmp_ge dX5_writeRow_17 (by decide)),
   px_Sp.of (ps_aload_n dX5_writeRow_20 rfl),
   px_Sp.of (ps_dup dX5_writeRow_21),
   px_Sp.of (ps_get kc_X5 (by decide) wf_RX5_57 dX5_writeRow_22),
   px_Sp.of (ps_iconst dX5_writeRow_25 (by decide)),
   px_Sp.of (ps_iadd dX5_writeRow_26),
   px_Sp.ofm (ps_putI kc_X5 (by decide) wf_RX5_57 rfl (by decide +kernel) kp_X5_4 dX5_writeRow_27),
   px_Sp.of (ps_iload_n dX5_writeRow_30 rfl),
   px_Sp.of (ps_aload_n dX5_writeRow_31 rfl),
   px_Sp.of (ps_get kc_X5 (by decide) wf_RX5_25 dX5_writeRow_32),
   px_Sp.of (ps_iload_n dX5_writeRow_35 rfl),
   px_Sp.of (ps_iald dX5_writeRow_36),
   px_Sp.of (ps_bipush dX5_writeRow_37 (by decide)),
   px_Sp.of (ps_iushr dX5_writeRow_39),
   px_Sp.of (ps_isub dX5_writeRow_40),
   px_Sp.of (ps_istore_n dX5_writeRow_41 rfl (by decide)),
   px_Sp.of (ps_goto dX5_writeRow_42 (by decide)),
   px_Sp.of (ps_iload_n dX5_writeRow_45 rfl),
   px_Sp.of (ps_istore_n dX5_writeRow_46 rfl (by decide)),
   px_Sp.of (ps_aload_n dX5_writeRow_47 rfl),
   px_Sp.of (ps_get kc_X5 (by decide) wf_RX5_57 dX5_writeRow_48),
   px_Sp.of (ps_iconst dX5_writeRow_51 (by decide)),
   px_Sp.of (ps_isub dX5_writeRow_52),
   px_Sp.of (ps_istore_n dX5_writeRow_53 rfl (by decide)),
   px_Sp.of (ps_iload_n dX5_writeRow_54 rfl),
   px_Sp.of (ps_if_lt dX5_writeRow_55 (by decide)),
   px_Sp.of (ps_iload_n dX5_writeRow_58 rfl),
   px_Sp.of (ps_if_le dX5_writeRow_59 (by decide)),
   px_Sp.of (ps_aload_n dX5_writeRow_62 rfl),
   px_Sp.of (ps_get kc_X5 (by decide) wf_RX5_25 dX5_writeRow_63),
   px_Sp.of (ps_iload_n dX5_writeRow_66 rfl),
   px_Sp.of (ps_iald dX5_writeRow_67),
   px_Sp.of (ps_bipush dX5_writeRow_68 (by decide)),
   px_Sp.of (ps_iushr dX5_writeRow_70),
   px_Sp.of (ps_istore dX5_writeRow_71 (by decide)),
   px_Sp.of (ps_iload_n dX5_writeRow_73 rfl),
   px_Sp.of (ps_iload dX5_writeRow_74),
   px_Sp.of (ps_isub dX5_writeRow_76),
   px_Sp.of (ps_istore_n dX5_writeRow_77 rfl (by decide)),
   px_Sp.of (ps_aload_n dX5_writeRow_78 rfl),
   px_Sp.of (ps_get kc_X5 (by decide) wf_RX5_22 dX5_writeRow_79),
   px_Sp.of (ps_iload_n dX5_writeRow_82 rfl),
   px_Sp.of (ps_aload_n dX5_writeRow_83 rfl),
   px_Sp.of (ps_iload_n dX5_writeRow_84 rfl),
   px_Sp.of (ps_iload dX5_writeRow_85),
   ps_callV (IH 82 (by decide)) (C := RX5) (T := TX5) (N := 7) (ci := 5) rfl rfl (fc_82 _ _) wm_RX5_60 wi_yX5_textOfStep wl_yX5_textOfStep dX5_writeRow_87,
   px_Sp.ofm (ps_last dX5_writeRow_90),
   px_Sp.of (ps_iinc dX5_writeRow_91 (by decide) (by decide)),
   px_Sp.of (ps_goto dX5_writeRow_94 (by decide)),
   ps_vret dX5_writeRow_97, trivial⟩
theorem mt_81 {l : Launch} {d : Nat} (IH : ∀ μ, μ < 196 → px_Met l px_P d μ) : px_Met l px_P (d + 1) 81 := px_met (own := RX5) rfl (by decide +kernel) (ok_81 IH)
theorem dX5_textOfStep_0 : decode cX5_textOfStep 0 = .ok (.iconst 0, 1) := by decide +kernel
theorem dX5_textOfStep_1 : decode cX5_textOfStep 1 = .ok (.istore_n 3, 1) := by decide +kernel
theorem dX5_textOfStep_2 : decode cX5_textOfStep 2 = .ok (.iload_n 3, 1) := by decide +kernel
theorem dX5_textOfStep_3 : decode cX5_textOfStep 3 = .ok (.aload_n 0, 1) := by decide +kernel
theorem dX5_textOfStep_4 : decode cX5_textOfStep 4 = .ok (.getfield 28, 3) := by decide +kernel
theorem dX5_textOfStep_7 : decode cX5_textOfStep 7 = .ok (.if_icmp .ge 49, 3) := by decide +kernel
theorem dX5_textOfStep_10 : decode cX5_textOfStep 10 = .ok (.iload_n 1, 1) := by decide +kernel
theorem dX5_textOfStep_11 : decode cX5_textOfStep 11 = .ok (.iload_n 3, 1) := by decide +kernel
theorem dX5_textOfStep_12 : decode cX5_textOfStep 12 = .ok (.invokestatic 44, 3) := by decide +kernel
theorem dX5_textOfStep_15 : decode cX5_textOfStep 15 = .ok (.istore 4, 2) := by decide +kernel
theorem dX5_textOfStep_17 : decode cX5_textOfStep 17 = .ok (.iload_n 2, 1) := by decide +kernel
theorem dX5_textOfStep_18 : decode cX5_textOfStep 18 = .ok (.iload_n 3, 1) := by decide +kernel
theorem dX5_textOfStep_19 : decode cX5_textOfStep 19 = .ok (.invokestatic 44, 3) := by decide +kernel
theorem dX5_textOfStep_22 : decode cX5_textOfStep 22 = .ok (.iconst 1, 1) := by decide +kernel
theorem dX5_textOfStep_23 : decode cX5_textOfStep 23 = .ok (.if_icmp .ne 27, 3) := by decide +kernel
theorem dX5_textOfStep_26 : decode cX5_textOfStep 26 = .ok (.iload 4, 2) := by decide +kernel
theorem dX5_textOfStep_28 : decode cX5_textOfStep 28 = .ok (.aload_n 0, 1) := by decide +kernel
theorem dX5_textOfStep_29 : decode cX5_textOfStep 29 = .ok (.getfield 15, 3) := by decide +kernel
theorem dX5_textOfStep_32 : decode cX5_textOfStep 32 = .ok (.iload_n 3, 1) := by decide +kernel
theorem dX5_textOfStep_33 : decode cX5_textOfStep 33 = .ok (.iaload, 1) := by decide +kernel
theorem dX5_textOfStep_34 : decode cX5_textOfStep 34 = .ok (.if_icmp .ge 16, 3) := by decide +kernel
theorem dX5_textOfStep_37 : decode cX5_textOfStep 37 = .ok (.aload_n 0, 1) := by decide +kernel
theorem dX5_textOfStep_38 : decode cX5_textOfStep 38 = .ok (.getfield 11, 3) := by decide +kernel
theorem dX5_textOfStep_41 : decode cX5_textOfStep 41 = .ok (.bipush 14, 2) := by decide +kernel
theorem dX5_textOfStep_43 : decode cX5_textOfStep 43 = .ok (.iload_n 3, 1) := by decide +kernel
theorem dX5_textOfStep_44 : decode cX5_textOfStep 44 = .ok (.imul, 1) := by decide +kernel
theorem dX5_textOfStep_45 : decode cX5_textOfStep 45 = .ok (.iload 4, 2) := by decide +kernel
theorem dX5_textOfStep_47 : decode cX5_textOfStep 47 = .ok (.iadd, 1) := by decide +kernel
theorem dX5_textOfStep_48 : decode cX5_textOfStep 48 = .ok (.laload, 1) := by decide +kernel
theorem dX5_textOfStep_49 : decode cX5_textOfStep 49 = .ok (.lreturn, 1) := by decide +kernel
theorem dX5_textOfStep_50 : decode cX5_textOfStep 50 = .ok (.iinc 3 1, 3) := by decide +kernel
theorem dX5_textOfStep_53 : decode cX5_textOfStep 53 = .ok (.goto (-51), 3) := by decide +kernel
theorem dX5_textOfStep_56 : decode cX5_textOfStep 56 = .ok (.lconst 0, 1) := by decide +kernel
theorem dX5_textOfStep_57 : decode cX5_textOfStep 57 = .ok (.lreturn, 1) := by decide +kernel
set_option maxRecDepth 20000 in
theorem ok_82 {l : Launch} {d : Nat} (IH : ∀ μ, μ < 196 → px_Met l px_P d μ) : px_ok l px_P d RX5 cX5_textOfStep 5 (some .long) tb_82 :=
  ⟨px_Sp.of (ps_iconst dX5_textOfStep_0 (by decide)),
   px_Sp.of (ps_istore_n dX5_textOfStep_1 rfl (by decide)),
   px_Sp.of (ps_iload_n dX5_textOfStep_2 rfl),
   px_Sp.of (ps_aload_n dX5_textOfStep_3 rfl),
   px_Sp.of (ps_get kc_X5 (by decide) wf_RX5_28 dX5_textOfStep_4),
   px_Sp.of (ps_icmp_ge dX5_textOfStep_7 (by decide)),
   px_Sp.of (ps_iload_n dX5_textOfStep_10 rfl),
   px_Sp.of (ps_iload_n dX5_textOfStep_11 rfl),
   ps_callS (IH 78 (by decide)) (fc_78 _ _) wm_RX5_44 ws_yX5_positionOf dX5_textOfStep_12,
   px_Sp.of (ps_istore dX5_textOfStep_15 (by decide)),
   px_Sp.of (ps_iload_n dX5_textOfStep_17 rfl),
   px_Sp.of (ps_iload_n dX5_textOfStep_18 rfl),
   ps_callS (IH 78 (by decide)) (fc_78 _ _) wm_RX5_44 ws_yX5_positionOf dX5_textOfStep_19,
   px_Sp.of (ps_iconst dX5_textOfStep_22 (by decide)),
   px_Sp.of (ps_icmp_ne dX5_textOfStep_23 (by decide)),
   px_Sp.of (ps_iload dX5_textOfStep_26),
   px_Sp.of (ps_aload_n dX5_textOfStep_28 rfl),
   px_Sp.of (ps_get kc_X5 (by decide) wf_RX5_15 dX5_textOfStep_29),
   px_Sp.of (ps_iload_n dX5_textOfStep_32 rfl),
   px_Sp.of (ps_iald dX5_textOfStep_33),
   px_Sp.of (ps_icmp_ge dX5_textOfStep_34 (by decide)),
   px_Sp.of (ps_aload_n dX5_textOfStep_37 rfl),
   px_Sp.of (ps_get kc_X5 (by decide) wf_RX5_11 dX5_textOfStep_38),
   px_Sp.of (ps_bipush dX5_textOfStep_41 (by decide)),
   px_Sp.of (ps_iload_n dX5_textOfStep_43 rfl),
   px_Sp.of (ps_imul dX5_textOfStep_44),
   px_Sp.of (ps_iload dX5_textOfStep_45),
   px_Sp.of (ps_iadd dX5_textOfStep_47),
   px_Sp.of (ps_lald dX5_textOfStep_48),
   ps_lret dX5_textOfStep_49,
   px_Sp.of (ps_iinc dX5_textOfStep_50 (by decide) (by decide)),
   px_Sp.of (ps_goto dX5_textOfStep_53 (by decide)),
   px_Sp.of (ps_lconst dX5_textOfStep_56 (by decide)),
   ps_lret dX5_textOfStep_57, trivial⟩
theorem mt_82 {l : Launch} {d : Nat} (IH : ∀ μ, μ < 196 → px_Met l px_P d μ) : px_Met l px_P (d + 1) 82 := px_met (own := RX5) rfl (by decide +kernel) (ok_82 IH)
theorem dX5_wipe_0 : decode cX5_wipe 0 = .ok (.iconst 0, 1) := by decide +kernel
theorem dX5_wipe_1 : decode cX5_wipe 1 = .ok (.istore_n 1, 1) := by decide +kernel
theorem dX5_wipe_2 : decode cX5_wipe 2 = .ok (.iconst 0, 1) := by decide +kernel
theorem dX5_wipe_3 : decode cX5_wipe 3 = .ok (.istore_n 2, 1) := by decide +kernel
theorem dX5_wipe_4 : decode cX5_wipe 4 = .ok (.iload_n 2, 1) := by decide +kernel
theorem dX5_wipe_5 : decode cX5_wipe 5 = .ok (.aload_n 0, 1) := by decide +kernel
theorem dX5_wipe_6 : decode cX5_wipe 6 = .ok (.getfield 25, 3) := by decide +kernel
theorem dX5_wipe_9 : decode cX5_wipe 9 = .ok (.arraylength, 1) := by decide +kernel
theorem dX5_wipe_10 : decode cX5_wipe 10 = .ok (.if_icmp .ge 33, 3) := by decide +kernel
theorem dX5_wipe_13 : decode cX5_wipe 13 = .ok (.aload_n 0, 1) := by decide +kernel
theorem dX5_wipe_14 : decode cX5_wipe 14 = .ok (.getfield 25, 3) := by decide +kernel
theorem dX5_wipe_17 : decode cX5_wipe 17 = .ok (.iload_n 1, 1) := by decide +kernel
theorem dX5_wipe_18 : decode cX5_wipe 18 = .ok (.iaload, 1) := by decide +kernel
theorem dX5_wipe_19 : decode cX5_wipe 19 = .ok (.ldc 36, 2) := by decide +kernel
theorem dX5_wipe_21 : decode cX5_wipe 21 = .ok (.iand, 1) := by decide +kernel
theorem dX5_wipe_22 : decode cX5_wipe 22 = .ok (.istore_n 3, 1) := by decide +kernel
theorem dX5_wipe_23 : decode cX5_wipe 23 = .ok (.aload_n 0, 1) := by decide +kernel
theorem dX5_wipe_24 : decode cX5_wipe 24 = .ok (.getfield 25, 3) := by decide +kernel
theorem dX5_wipe_27 : decode cX5_wipe 27 = .ok (.iload_n 1, 1) := by decide +kernel
theorem dX5_wipe_28 : decode cX5_wipe 28 = .ok (.iconst 0, 1) := by decide +kernel
theorem dX5_wipe_29 : decode cX5_wipe 29 = .ok (.iastore, 1) := by decide +kernel
theorem dX5_wipe_30 : decode cX5_wipe 30 = .ok (.iload_n 3, 1) := by decide +kernel
theorem dX5_wipe_31 : decode cX5_wipe 31 = .ok (.ifCond .ne 4, 3) := by decide +kernel
theorem dX5_wipe_34 : decode cX5_wipe 34 = .ok (.return_, 1) := by decide +kernel
theorem dX5_wipe_35 : decode cX5_wipe 35 = .ok (.iload_n 3, 1) := by decide +kernel
theorem dX5_wipe_36 : decode cX5_wipe 36 = .ok (.istore_n 1, 1) := by decide +kernel
theorem dX5_wipe_37 : decode cX5_wipe 37 = .ok (.iinc 2 1, 3) := by decide +kernel
theorem dX5_wipe_40 : decode cX5_wipe 40 = .ok (.goto (-36), 3) := by decide +kernel
theorem dX5_wipe_43 : decode cX5_wipe 43 = .ok (.return_, 1) := by decide +kernel
set_option maxRecDepth 20000 in
theorem ok_83 {l : Launch} {d : Nat} (IH : ∀ μ, μ < 196 → px_Met l px_P d μ) : px_ok l px_P d RX5 cX5_wipe 4 (none) tb_83 :=
  ⟨px_Sp.of (ps_iconst dX5_wipe_0 (by decide)),
   px_Sp.of (ps_istore_n dX5_wipe_1 rfl (by decide)),
   px_Sp.of (ps_iconst dX5_wipe_2 (by decide)),
   px_Sp.of (ps_istore_n dX5_wipe_3 rfl (by decide)),
   px_Sp.of (ps_iload_n dX5_wipe_4 rfl),
   px_Sp.of (ps_aload_n dX5_wipe_5 rfl),
   px_Sp.of (ps_get kc_X5 (by decide) wf_RX5_25 dX5_wipe_6),
   px_Sp.of (ps_alen dX5_wipe_9),
   px_Sp.of (ps_icmp_ge dX5_wipe_10 (by decide)),
   px_Sp.of (ps_aload_n dX5_wipe_13 rfl),
   px_Sp.of (ps_get kc_X5 (by decide) wf_RX5_25 dX5_wipe_14),
   px_Sp.of (ps_iload_n dX5_wipe_17 rfl),
   px_Sp.of (ps_iald dX5_wipe_18),
   px_Sp.of (ps_ldc dX5_wipe_19 wk_RX5_36),
   px_Sp.of (ps_iand dX5_wipe_21),
   px_Sp.of (ps_istore_n dX5_wipe_22 rfl (by decide)),
   px_Sp.of (ps_aload_n dX5_wipe_23 rfl),
   px_Sp.of (ps_get kc_X5 (by decide) wf_RX5_25 dX5_wipe_24),
   px_Sp.of (ps_iload_n dX5_wipe_27 rfl),
   px_Sp.of (ps_iconst dX5_wipe_28 (by decide)),
   px_Sp.ofm (ps_iast dX5_wipe_29),
   px_Sp.of (ps_iload_n dX5_wipe_30 rfl),
   px_Sp.of (ps_if_ne dX5_wipe_31 (by decide)),
   ps_vret dX5_wipe_34,
   px_Sp.of (ps_iload_n dX5_wipe_35 rfl),
   px_Sp.of (ps_istore_n dX5_wipe_36 rfl (by decide)),
   px_Sp.of (ps_iinc dX5_wipe_37 (by decide) (by decide)),
   px_Sp.of (ps_goto dX5_wipe_40 (by decide)),
   ps_vret dX5_wipe_43, trivial⟩
theorem mt_83 {l : Launch} {d : Nat} (IH : ∀ μ, μ < 196 → px_Met l px_P d μ) : px_Met l px_P (d + 1) 83 := px_met (own := RX5) rfl (by decide +kernel) (ok_83 IH)
theorem dX8_lostWord_0 : decode cX8_lostWord 0 = .ok (.aload_n 0, 1) := by decide +kernel
theorem dX8_lostWord_1 : decode cX8_lostWord 1 = .ok (.getfield 43, 3) := by decide +kernel
theorem dX8_lostWord_4 : decode cX8_lostWord 4 = .ok (.iconst (-1), 1) := by decide +kernel
theorem dX8_lostWord_5 : decode cX8_lostWord 5 = .ok (.invokevirtual 146, 3) := by decide +kernel
theorem dX8_lostWord_8 : decode cX8_lostWord 8 = .ok (.aload_n 0, 1) := by decide +kernel
theorem dX8_lostWord_9 : decode cX8_lostWord 9 = .ok (.getfield 55, 3) := by decide +kernel
theorem dX8_lostWord_12 : decode cX8_lostWord 12 = .ok (.invokevirtual 203, 3) := by decide +kernel
theorem dX8_lostWord_15 : decode cX8_lostWord 15 = .ok (.aload_n 0, 1) := by decide +kernel
theorem dX8_lostWord_16 : decode cX8_lostWord 16 = .ok (.getfield 55, 3) := by decide +kernel
theorem dX8_lostWord_19 : decode cX8_lostWord 19 = .ok (.iload_n 1, 1) := by decide +kernel
theorem dX8_lostWord_20 : decode cX8_lostWord 20 = .ok (.invokevirtual 208, 3) := by decide +kernel
theorem dX8_lostWord_23 : decode cX8_lostWord 23 = .ok (.ifCond .ne 7, 3) := by decide +kernel
theorem dX8_lostWord_26 : decode cX8_lostWord 26 = .ok (.sipush (-1001), 3) := by decide +kernel
theorem dX8_lostWord_29 : decode cX8_lostWord 29 = .ok (.ireturn, 1) := by decide +kernel
theorem dX8_lostWord_30 : decode cX8_lostWord 30 = .ok (.aload_n 0, 1) := by decide +kernel
theorem dX8_lostWord_31 : decode cX8_lostWord 31 = .ok (.getfield 55, 3) := by decide +kernel
theorem dX8_lostWord_34 : decode cX8_lostWord 34 = .ok (.iload_n 1, 1) := by decide +kernel
theorem dX8_lostWord_35 : decode cX8_lostWord 35 = .ok (.invokevirtual 215, 3) := by decide +kernel
theorem dX8_lostWord_38 : decode cX8_lostWord 38 = .ok (.ifCond .eq 7, 3) := by decide +kernel
theorem dX8_lostWord_41 : decode cX8_lostWord 41 = .ok (.sipush (-1005), 3) := by decide +kernel
theorem dX8_lostWord_44 : decode cX8_lostWord 44 = .ok (.ireturn, 1) := by decide +kernel
theorem dX8_lostWord_45 : decode cX8_lostWord 45 = .ok (.iload_n 2, 1) := by decide +kernel
theorem dX8_lostWord_46 : decode cX8_lostWord 46 = .ok (.ifCond .lt 15, 3) := by decide +kernel
theorem dX8_lostWord_49 : decode cX8_lostWord 49 = .ok (.iload_n 2, 1) := by decide +kernel
theorem dX8_lostWord_50 : decode cX8_lostWord 50 = .ok (.aload_n 0, 1) := by decide +kernel
theorem dX8_lostWord_51 : decode cX8_lostWord 51 = .ok (.getfield 55, 3) := by decide +kernel
theorem dX8_lostWord_54 : decode cX8_lostWord 54 = .ok (.iload_n 1, 1) := by decide +kernel
theorem dX8_lostWord_55 : decode cX8_lostWord 55 = .ok (.invokevirtual 218, 3) := by decide +kernel
theorem dX8_lostWord_58 : decode cX8_lostWord 58 = .ok (.if_icmp .lt 5, 3) := by decide +kernel
theorem dX8_lostWord_61 : decode cX8_lostWord 61 = .ok (.iconst (-1), 1) := by decide +kernel
theorem dX8_lostWord_62 : decode cX8_lostWord 62 = .ok (.ireturn, 1) := by decide +kernel
theorem dX8_lostWord_63 : decode cX8_lostWord 63 = .ok (.aload_n 0, 1) := by decide +kernel
theorem dX8_lostWord_64 : decode cX8_lostWord 64 = .ok (.getfield 55, 3) := by decide +kernel
theorem dX8_lostWord_67 : decode cX8_lostWord 67 = .ok (.iload_n 1, 1) := by decide +kernel
theorem dX8_lostWord_68 : decode cX8_lostWord 68 = .ok (.iload_n 2, 1) := by decide +kernel
theorem dX8_lostWord_69 : decode cX8_lostWord 69 = .ok (.invokevirtual 221, 3) := by decide +kernel
theorem dX8_lostWord_72 : decode cX8_lostWord 72 = .ok (.lstore 4, 2) := by decide +kernel
theorem dX8_lostWord_74 : decode cX8_lostWord 74 = .ok (.iload_n 3, 1) := by decide +kernel
theorem dX8_lostWord_75 : decode cX8_lostWord 75 = .ok (.iconst (-1), 1) := by decide +kernel
theorem dX8_lostWord_76 : decode cX8_lostWord 76 = .ok (.if_icmp .ne 11, 3) := by decide +kernel
theorem dX8_lostWord_79 : decode cX8_lostWord 79 = .ok (.lload 4, 2) := by decide +kernel
theorem dX8_lostWord_81 : decode cX8_lostWord 81 = .ok (.invokestatic 167, 3) := by decide +kernel
theorem dX8_lostWord_84 : decode cX8_lostWord 84 = .ok (.goto 9, 3) := by decide +kernel
theorem dX8_lostWord_87 : decode cX8_lostWord 87 = .ok (.lload 4, 2) := by decide +kernel
theorem dX8_lostWord_89 : decode cX8_lostWord 89 = .ok (.iload_n 3, 1) := by decide +kernel
theorem dX8_lostWord_90 : decode cX8_lostWord 90 = .ok (.invokestatic 171, 3) := by decide +kernel
theorem dX8_lostWord_93 : decode cX8_lostWord 93 = .ok (.ireturn, 1) := by decide +kernel
set_option maxRecDepth 20000 in
theorem ok_84 {l : Launch} {d : Nat} (IH : ∀ μ, μ < 196 → px_Met l px_P d μ) : px_ok l px_P d RX8 cX8_lostWord 6 (some .int) tb_84 :=
  ⟨px_Sp.of (ps_aload_n dX8_lostWord_0 rfl),
   px_Sp.of (ps_get kc_X8 (by decide) wf_RX8_43 dX8_lostWord_1),
   px_Sp.of (ps_iconst dX8_lostWord_4 (by decide)),
   ps_callV (IH 23 (by decide)) (C := RX2) (T := TX2) (N := 8) (ci := 2) rfl rfl (fc_23 _ _) wm_RX8_146 wi_yX2_refresh wl_yX2_refresh dX8_lostWord_5,
   px_Sp.of (ps_aload_n dX8_lostWord_8 rfl),
   px_Sp.of (ps_get kc_X8 (by decide) wf_RX8_55 dX8_lostWord_9),
   ps_callV (IH 55 (by decide)) (C := RX3) (T := TX3) (N := 10) (ci := 3) rfl rfl (fc_55 _ _) wm_RX8_203 wi_yX3_refresh wl_yX3_refresh dX8_lostWord_12,
   px_Sp.of (ps_aload_n dX8_lostWord_15 rfl),
   px_Sp.of (ps_get kc_X8 (by decide) wf_RX8_55 dX8_lostWord_16),
   px_Sp.of (ps_iload_n dX8_lostWord_19 rfl),
   ps_callV (IH 68 (by decide)) (C := RX3) (T := TX3) (N := 10) (ci := 3) rfl rfl (fc_68 _ _) wm_RX8_208 wi_yX3_has wl_yX3_has dX8_lostWord_20,
   px_Sp.of (ps_if_ne dX8_lostWord_23 (by decide)),
   px_Sp.of (ps_sipush dX8_lostWord_26 (by decide)),
   ps_iret dX8_lostWord_29,
   px_Sp.of (ps_aload_n dX8_lostWord_30 rfl),
   px_Sp.of (ps_get kc_X8 (by decide) wf_RX8_55 dX8_lostWord_31),
   px_Sp.of (ps_iload_n dX8_lostWord_34 rfl),
   ps_callV (IH 69 (by decide)) (C := RX3) (T := TX3) (N := 10) (ci := 3) rfl rfl (fc_69 _ _) wm_RX8_215 wi_yX3_isLarge wl_yX3_isLarge dX8_lostWord_35,
   px_Sp.of (ps_if_eq dX8_lostWord_38 (by decide)),
   px_Sp.of (ps_sipush dX8_lostWord_41 (by decide)),
   ps_iret dX8_lostWord_44,
   px_Sp.of (ps_iload_n dX8_lostWord_45 rfl),
   px_Sp.of (ps_if_lt dX8_lostWord_46 (by decide)),
   px_Sp.of (ps_iload_n dX8_lostWord_49 rfl),
   px_Sp.of (ps_aload_n dX8_lostWord_50 rfl),
   px_Sp.of (ps_get kc_X8 (by decide) wf_RX8_55 dX8_lostWord_51),
   px_Sp.of (ps_iload_n dX8_lostWord_54 rfl),
   ps_callV (IH 70 (by decide)) (C := RX3) (T := TX3) (N := 10) (ci := 3) rfl rfl (fc_70 _ _) wm_RX8_218 wi_yX3_rowLength wl_yX3_rowLength dX8_lostWord_55,
   px_Sp.of (ps_icmp_lt dX8_lostWord_58 (by decide)),
   px_Sp.of (ps_iconst dX8_lostWord_61 (by decide)),
   ps_iret dX8_lostWord_62,
   px_Sp.of (ps_aload_n dX8_lostWord_63 rfl),
   px_Sp.of (ps_get kc_X8 (by decide) wf_RX8_55 dX8_lostWord_64),
   px_Sp.of (ps_iload_n dX8_lostWord_67 rfl),
   px_Sp.of (ps_iload_n dX8_lostWord_68 rfl),
   ps_callV (IH 85 (by decide)) (C := RX3) (T := TX3) (N := 10) (ci := 3) rfl rfl (fc_85 _ _) wm_RX8_221 wi_yX3_rowText wl_yX3_rowText dX8_lostWord_69,
   px_Sp.of (ps_lstore dX8_lostWord_72 (by decide)),
   px_Sp.of (ps_iload_n dX8_lostWord_74 rfl),
   px_Sp.of (ps_iconst dX8_lostWord_75 (by decide)),
   px_Sp.of (ps_icmp_ne dX8_lostWord_76 (by decide)),
   px_Sp.of (ps_lload dX8_lostWord_79),
   ps_callS (IH 33 (by decide)) (fc_33 _ _) wm_RX8_167 ws_yX7_wordsIn dX8_lostWord_81,
   px_Sp.of (ps_goto dX8_lostWord_84 (by decide)),
   px_Sp.of (ps_lload dX8_lostWord_87),
   px_Sp.of (ps_iload_n dX8_lostWord_89 rfl),
   ps_callS (IH 44 (by decide)) (fc_44 _ _) wm_RX8_171 ws_yX7_wordOrNone dX8_lostWord_90,
   ps_iret dX8_lostWord_93, trivial⟩
theorem mt_84 {l : Launch} {d : Nat} (IH : ∀ μ, μ < 196 → px_Met l px_P d μ) : px_Met l px_P (d + 1) 84 := px_met (own := RX8) rfl (by decide +kernel) (ok_84 IH)
theorem dX3_rowText_0 : decode cX3_rowText 0 = .ok (.aload_n 0, 1) := by decide +kernel
theorem dX3_rowText_1 : decode cX3_rowText 1 = .ok (.iload_n 1, 1) := by decide +kernel
theorem dX3_rowText_2 : decode cX3_rowText 2 = .ok (.invokevirtual 101, 3) := by decide +kernel
theorem dX3_rowText_5 : decode cX3_rowText 5 = .ok (.iload_n 2, 1) := by decide +kernel
theorem dX3_rowText_6 : decode cX3_rowText 6 = .ok (.ifCond .lt 26, 3) := by decide +kernel
theorem dX3_rowText_9 : decode cX3_rowText 9 = .ok (.iload_n 2, 1) := by decide +kernel
theorem dX3_rowText_10 : decode cX3_rowText 10 = .ok (.aload_n 0, 1) := by decide +kernel
theorem dX3_rowText_11 : decode cX3_rowText 11 = .ok (.getfield 12, 3) := by decide +kernel
theorem dX3_rowText_14 : decode cX3_rowText 14 = .ok (.getfield 105, 3) := by decide +kernel
theorem dX3_rowText_17 : decode cX3_rowText 17 = .ok (.if_icmp .ge 15, 3) := by decide +kernel
theorem dX3_rowText_20 : decode cX3_rowText 20 = .ok (.aload_n 0, 1) := by decide +kernel
theorem dX3_rowText_21 : decode cX3_rowText 21 = .ok (.getfield 12, 3) := by decide +kernel
theorem dX3_rowText_24 : decode cX3_rowText 24 = .ok (.getfield 108, 3) := by decide +kernel
theorem dX3_rowText_27 : decode cX3_rowText 27 = .ok (.iload_n 2, 1) := by decide +kernel
theorem dX3_rowText_28 : decode cX3_rowText 28 = .ok (.laload, 1) := by decide +kernel
theorem dX3_rowText_29 : decode cX3_rowText 29 = .ok (.goto 4, 3) := by decide +kernel
theorem dX3_rowText_32 : decode cX3_rowText 32 = .ok (.lconst 0, 1) := by decide +kernel
theorem dX3_rowText_33 : decode cX3_rowText 33 = .ok (.lreturn, 1) := by decide +kernel
set_option maxRecDepth 20000 in
theorem ok_85 {l : Launch} {d : Nat} (IH : ∀ μ, μ < 196 → px_Met l px_P d μ) : px_ok l px_P d RX3 cX3_rowText 3 (some .long) tb_85 :=
  ⟨px_Sp.of (ps_aload_n dX3_rowText_0 rfl),
   px_Sp.of (ps_iload_n dX3_rowText_1 rfl),
   ps_callV (IH 71 (by decide)) (C := RX3) (T := TX3) (N := 10) (ci := 3) rfl rfl (fc_71 _ _) wm_RX3_101 wi_yX3_makeRow wl_yX3_makeRow dX3_rowText_2,
   px_Sp.of (ps_iload_n dX3_rowText_5 rfl),
   px_Sp.of (ps_if_lt dX3_rowText_6 (by decide)),
   px_Sp.of (ps_iload_n dX3_rowText_9 rfl),
   px_Sp.of (ps_aload_n dX3_rowText_10 rfl),
   px_Sp.of (ps_get kc_X3 (by decide) wf_RX3_12 dX3_rowText_11),
   px_Sp.of (ps_get kc_X5 (by decide) wf_RX3_105 dX3_rowText_14),
   px_Sp.of (ps_icmp_ge dX3_rowText_17 (by decide)),
   px_Sp.of (ps_aload_n dX3_rowText_20 rfl),
   px_Sp.of (ps_get kc_X3 (by decide) wf_RX3_12 dX3_rowText_21),
   px_Sp.of (ps_get kc_X5 (by decide) wf_RX3_108 dX3_rowText_24),
   px_Sp.of (ps_iload_n dX3_rowText_27 rfl),
   px_Sp.of (ps_lald dX3_rowText_28),
   px_Sp.of (ps_goto dX3_rowText_29 (by decide)),
   px_Sp.of (ps_lconst dX3_rowText_32 (by decide)),
   ps_lret dX3_rowText_33, trivial⟩
theorem mt_85 {l : Launch} {d : Nat} (IH : ∀ μ, μ < 196 → px_Met l px_P d μ) : px_Met l px_P (d + 1) 85 := px_met (own := RX3) rfl (by decide +kernel) (ok_85 IH)
theorem dX8_order_0 : decode cX8_order 0 = .ok (.iload_n 1, 1) := by decide +kernel
theorem dX8_order_1 : decode cX8_order 1 = .ok (.ifCond .lt 14, 3) := by decide +kernel
theorem dX8_order_4 : decode cX8_order 4 = .ok (.iload_n 1, 1) := by decide +kernel
theorem dX8_order_5 : decode cX8_order 5 = .ok (.aload_n 0, 1) := by decide +kernel
theorem dX8_order_6 : decode cX8_order 6 = .ok (.getfield 25, 3) := by decide +kernel
theorem dX8_order_9 : decode cX8_order 9 = .ok (.getfield 97, 3) := by decide +kernel
theorem dX8_order_12 : decode cX8_order 12 = .ok (.if_icmp .lt 5, 3) := by decide +kernel
theorem dX8_order_15 : decode cX8_order 15 = .ok (.iconst (-1), 1) := by decide +kernel
theorem dX8_order_16 : decode cX8_order 16 = .ok (.ireturn, 1) := by decide +kernel
theorem dX8_order_17 : decode cX8_order 17 = .ok (.aload_n 0, 1) := by decide +kernel
theorem dX8_order_18 : decode cX8_order 18 = .ok (.getfield 43, 3) := by decide +kernel
theorem dX8_order_21 : decode cX8_order 21 = .ok (.iconst (-1), 1) := by decide +kernel
theorem dX8_order_22 : decode cX8_order 22 = .ok (.invokevirtual 146, 3) := by decide +kernel
theorem dX8_order_25 : decode cX8_order 25 = .ok (.aload_n 0, 1) := by decide +kernel
theorem dX8_order_26 : decode cX8_order 26 = .ok (.getfield 43, 3) := by decide +kernel
theorem dX8_order_29 : decode cX8_order 29 = .ok (.iload_n 1, 1) := by decide +kernel
theorem dX8_order_30 : decode cX8_order 30 = .ok (.invokevirtual 225, 3) := by decide +kernel
theorem dX8_order_33 : decode cX8_order 33 = .ok (.ireturn, 1) := by decide +kernel
set_option maxRecDepth 20000 in
theorem ok_86 {l : Launch} {d : Nat} (IH : ∀ μ, μ < 196 → px_Met l px_P d μ) : px_ok l px_P d RX8 cX8_order 2 (some .int) tb_86 :=
  ⟨px_Sp.of (ps_iload_n dX8_order_0 rfl),
   px_Sp.of (ps_if_lt dX8_order_1 (by decide)),
   px_Sp.of (ps_iload_n dX8_order_4 rfl),
   px_Sp.of (ps_aload_n dX8_order_5 rfl),
   px_Sp.of (ps_get kc_X8 (by decide) wf_RX8_25 dX8_order_6),
   px_Sp.of (ps_get kc_X1 (by decide) wf_RX8_97 dX8_order_9),
   px_Sp.of (ps_icmp_lt dX8_order_12 (by decide)),
   px_Sp.of (ps_iconst dX8_order_15 (by decide)),
   ps_iret dX8_order_16,
   px_Sp.of (ps_aload_n dX8_order_17 rfl),
   px_Sp.of (ps_get kc_X8 (by decide) wf_RX8_43 dX8_order_18),
   px_Sp.of (ps_iconst dX8_order_21 (by decide)),
   ps_callV (IH 23 (by decide)) (C := RX2) (T := TX2) (N := 8) (ci := 2) rfl rfl (fc_23 _ _) wm_RX8_146 wi_yX2_refresh wl_yX2_refresh dX8_order_22,
   px_Sp.of (ps_aload_n dX8_order_25 rfl),
   px_Sp.of (ps_get kc_X8 (by decide) wf_RX8_43 dX8_order_26),
   px_Sp.of (ps_iload_n dX8_order_29 rfl),
   ps_callV (IH 87 (by decide)) (C := RX2) (T := TX2) (N := 8) (ci := 2) rfl rfl (fc_87 _ _) wm_RX8_225 wi_yX2_writtenAt wl_yX2_writtenAt dX8_order_30,
   ps_iret dX8_order_33, trivial⟩
theorem mt_86 {l : Launch} {d : Nat} (IH : ∀ μ, μ < 196 → px_Met l px_P d μ) : px_Met l px_P (d + 1) 86 := px_met (own := RX8) rfl (by decide +kernel) (ok_86 IH)
theorem dX2_writtenAt_0 : decode cX2_writtenAt 0 = .ok (.lconst 0, 1) := by decide +kernel
theorem dX2_writtenAt_1 : decode cX2_writtenAt 1 = .ok (.lstore_n 2, 1) := by decide +kernel
theorem dX2_writtenAt_2 : decode cX2_writtenAt 2 = .ok (.iconst (-1), 1) := by decide +kernel
theorem dX2_writtenAt_3 : decode cX2_writtenAt 3 = .ok (.istore 4, 2) := by decide +kernel
theorem dX2_writtenAt_5 : decode cX2_writtenAt 5 = .ok (.iconst 0, 1) := by decide +kernel
theorem dX2_writtenAt_6 : decode cX2_writtenAt 6 = .ok (.istore 5, 2) := by decide +kernel
theorem dX2_writtenAt_8 : decode cX2_writtenAt 8 = .ok (.iload 5, 2) := by decide +kernel
theorem dX2_writtenAt_10 : decode cX2_writtenAt 10 = .ok (.iload_n 1, 1) := by decide +kernel
theorem dX2_writtenAt_11 : decode cX2_writtenAt 11 = .ok (.if_icmp .gt 38, 3) := by decide +kernel
theorem dX2_writtenAt_14 : decode cX2_writtenAt 14 = .ok (.iload 5, 2) := by decide +kernel
theorem dX2_writtenAt_16 : decode cX2_writtenAt 16 = .ok (.bipush 40, 2) := by decide +kernel
theorem dX2_writtenAt_18 : decode cX2_writtenAt 18 = .ok (.if_icmp .ge 31, 3) := by decide +kernel
theorem dX2_writtenAt_21 : decode cX2_writtenAt 21 = .ok (.aload_n 0, 1) := by decide +kernel
theorem dX2_writtenAt_22 : decode cX2_writtenAt 22 = .ok (.lload_n 2, 1) := by decide +kernel
theorem dX2_writtenAt_23 : decode cX2_writtenAt 23 = .ok (.invokevirtual 117, 3) := by decide +kernel
theorem dX2_writtenAt_26 : decode cX2_writtenAt 26 = .ok (.istore 4, 2) := by decide +kernel
theorem dX2_writtenAt_28 : decode cX2_writtenAt 28 = .ok (.iload 4, 2) := by decide +kernel
theorem dX2_writtenAt_30 : decode cX2_writtenAt 30 = .ok (.iconst (-1), 1) := by decide +kernel
theorem dX2_writtenAt_31 : decode cX2_writtenAt 31 = .ok (.if_icmp .ne 5, 3) := by decide +kernel
theorem dX2_writtenAt_34 : decode cX2_writtenAt 34 = .ok (.iconst (-1), 1) := by decide +kernel
theorem dX2_writtenAt_35 : decode cX2_writtenAt 35 = .ok (.ireturn, 1) := by decide +kernel
theorem dX2_writtenAt_36 : decode cX2_writtenAt 36 = .ok (.lload_n 2, 1) := by decide +kernel
theorem dX2_writtenAt_37 : decode cX2_writtenAt 37 = .ok (.lconst 1, 1) := by decide +kernel
theorem dX2_writtenAt_38 : decode cX2_writtenAt 38 = .ok (.iload 4, 2) := by decide +kernel
theorem dX2_writtenAt_40 : decode cX2_writtenAt 40 = .ok (.lshl, 1) := by decide +kernel
theorem dX2_writtenAt_41 : decode cX2_writtenAt 41 = .ok (.lor, 1) := by decide +kernel
theorem dX2_writtenAt_42 : decode cX2_writtenAt 42 = .ok (.lstore_n 2, 1) := by decide +kernel
theorem dX2_writtenAt_43 : decode cX2_writtenAt 43 = .ok (.iinc 5 1, 3) := by decide +kernel
theorem dX2_writtenAt_46 : decode cX2_writtenAt 46 = .ok (.goto (-38), 3) := by decide +kernel
theorem dX2_writtenAt_49 : decode cX2_writtenAt 49 = .ok (.iload 4, 2) := by decide +kernel
theorem dX2_writtenAt_51 : decode cX2_writtenAt 51 = .ok (.ireturn, 1) := by decide +kernel
set_option maxRecDepth 20000 in
theorem ok_87 {l : Launch} {d : Nat} (IH : ∀ μ, μ < 196 → px_Met l px_P d μ) : px_ok l px_P d RX2 cX2_writtenAt 6 (some .int) tb_87 :=
  ⟨px_Sp.of (ps_lconst dX2_writtenAt_0 (by decide)),
   px_Sp.of (ps_lstore_n dX2_writtenAt_1 rfl (by decide)),
   px_Sp.of (ps_iconst dX2_writtenAt_2 (by decide)),
   px_Sp.of (ps_istore dX2_writtenAt_3 (by decide)),
   px_Sp.of (ps_iconst dX2_writtenAt_5 (by decide)),
   px_Sp.of (ps_istore dX2_writtenAt_6 (by decide)),
   px_Sp.of (ps_iload dX2_writtenAt_8),
   px_Sp.of (ps_iload_n dX2_writtenAt_10 rfl),
   px_Sp.of (ps_icmp_gt dX2_writtenAt_11 (by decide)),
   px_Sp.of (ps_iload dX2_writtenAt_14),
   px_Sp.of (ps_bipush dX2_writtenAt_16 (by decide)),
   px_Sp.of (ps_icmp_ge dX2_writtenAt_18 (by decide)),
   px_Sp.of (ps_aload_n dX2_writtenAt_21 rfl),
   px_Sp.of (ps_lload_n dX2_writtenAt_22 rfl),
   ps_callV (IH 88 (by decide)) (C := RX2) (T := TX2) (N := 8) (ci := 2) rfl rfl (fc_88 _ _) wm_RX2_117 wi_yX2_nextToWrite wl_yX2_nextToWrite dX2_writtenAt_23,
   px_Sp.of (ps_istore dX2_writtenAt_26 (by decide)),
   px_Sp.of (ps_iload dX2_writtenAt_28),
   px_Sp.of (ps_iconst dX2_writtenAt_30 (by decide)),
   px_Sp.of (ps_icmp_ne dX2_writtenAt_31 (by decide)),
   px_Sp.of (ps_iconst dX2_writtenAt_34 (by decide)),
   ps_iret dX2_writtenAt_35,
   px_Sp.of (ps_lload_n dX2_writtenAt_36 rfl),
   px_Sp.of (ps_lconst dX2_writtenAt_37 (by decide)),
   px_Sp.of (ps_iload dX2_writtenAt_38),
   px_Sp.of (ps_lshl dX2_writtenAt_40),
   px_Sp.of (ps_lor dX2_writtenAt_41),
   px_Sp.of (ps_lstore_n dX2_writtenAt_42 rfl (by decide)),
   px_Sp.of (ps_iinc dX2_writtenAt_43 (by decide) (by decide)),
   px_Sp.of (ps_goto dX2_writtenAt_46 (by decide)),
   px_Sp.of (ps_iload dX2_writtenAt_49),
   ps_iret dX2_writtenAt_51, trivial⟩
theorem mt_87 {l : Launch} {d : Nat} (IH : ∀ μ, μ < 196 → px_Met l px_P d μ) : px_Met l px_P (d + 1) 87 := px_met (own := RX2) rfl (by decide +kernel) (ok_87 IH)
theorem dX2_nextToWrite_0 : decode cX2_nextToWrite 0 = .ok (.iconst 0, 1) := by decide +kernel
theorem dX2_nextToWrite_1 : decode cX2_nextToWrite 1 = .ok (.istore_n 3, 1) := by decide +kernel
theorem dX2_nextToWrite_2 : decode cX2_nextToWrite 2 = .ok (.iload_n 3, 1) := by decide +kernel
theorem dX2_nextToWrite_3 : decode cX2_nextToWrite 3 = .ok (.aload_n 0, 1) := by decide +kernel
theorem dX2_nextToWrite_4 : decode cX2_nextToWrite 4 = .ok (.getfield 22, 3) := by decide +kernel
theorem dX2_nextToWrite_7 : decode cX2_nextToWrite 7 = .ok (.getfield 41, 3) := by decide +kernel
theorem dX2_nextToWrite_10 : decode cX2_nextToWrite 10 = .ok (.if_icmp .ge 78, 3) := by decide +kernel
theorem dX2_nextToWrite_13 : decode cX2_nextToWrite 13 = .ok (.lload_n 1, 1) := by decide +kernel
theorem dX2_nextToWrite_14 : decode cX2_nextToWrite 14 = .ok (.iload_n 3, 1) := by decide +kernel
theorem dX2_nextToWrite_15 : decode cX2_nextToWrite 15 = .ok (.lushr, 1) := by decide +kernel
theorem dX2_nextToWrite_16 : decode cX2_nextToWrite 16 = .ok (.lconst 1, 1) := by decide +kernel
theorem dX2_nextToWrite_17 : decode cX2_nextToWrite 17 = .ok (.land, 1) := by decide +kernel
theorem dX2_nextToWrite_18 : decode cX2_nextToWrite 18 = .ok (.lconst 0, 1) := by decide +kernel
theorem dX2_nextToWrite_19 : decode cX2_nextToWrite 19 = .ok (.lcmp, 1) := by decide +kernel
theorem dX2_nextToWrite_20 : decode cX2_nextToWrite 20 = .ok (.ifCond .eq 7, 3) := by decide +kernel
theorem dX2_nextToWrite_23 : decode cX2_nextToWrite 23 = .ok (.iconst 1, 1) := by decide +kernel
theorem dX2_nextToWrite_24 : decode cX2_nextToWrite 24 = .ok (.goto 4, 3) := by decide +kernel
theorem dX2_nextToWrite_27 : decode cX2_nextToWrite 27 = .ok (.iconst 0, 1) := by decide +kernel
theorem dX2_nextToWrite_28 : decode cX2_nextToWrite 28 = .ok (.istore 4, 2) := by decide +kernel
theorem dX2_nextToWrite_30 : decode cX2_nextToWrite 30 = .ok (.aload_n 0, 1) := by decide +kernel
theorem dX2_nextToWrite_31 : decode cX2_nextToWrite 31 = .ok (.getfield 9, 3) := by decide +kernel
theorem dX2_nextToWrite_34 : decode cX2_nextToWrite 34 = .ok (.iload_n 3, 1) := by decide +kernel
theorem dX2_nextToWrite_35 : decode cX2_nextToWrite 35 = .ok (.iaload, 1) := by decide +kernel
theorem dX2_nextToWrite_36 : decode cX2_nextToWrite 36 = .ok (.iconst (-1), 1) := by decide +kernel
theorem dX2_nextToWrite_37 : decode cX2_nextToWrite 37 = .ok (.if_icmp .eq 18, 3) := by decide +kernel
theorem dX2_nextToWrite_40 : decode cX2_nextToWrite 40 = .ok (.lload_n 1, 1) := by decide +kernel
theorem dX2_nextToWrite_41 : decode cX2_nextToWrite 41 = .ok (.aload_n 0, 1) := by decide +kernel
theorem dX2_nextToWrite_42 : decode cX2_nextToWrite 42 = .ok (.getfield 9, 3) := by decide +kernel
theorem dX2_nextToWrite_45 : decode cX2_nextToWrite 45 = .ok (.iload_n 3, 1) := by decide +kernel
theorem dX2_nextToWrite_46 : decode cX2_nextToWrite 46 = .ok (.iaload, 1) := by decide +kernel
theorem dX2_nextToWrite_47 : decode cX2_nextToWrite 47 = .ok (.lushr, 1) := by decide +kernel
theorem dX2_nextToWrite_48 : decode cX2_nextToWrite 48 = .ok (.lconst 1, 1) := by decide +kernel
theorem dX2_nextToWrite_49 : decode cX2_nextToWrite 49 = .ok (.land, 1) := by decide +kernel
theorem dX2_nextToWrite_50 : decode cX2_nextToWrite 50 = .ok (.lconst 0, 1) := by decide +kernel
theorem dX2_nextToWrite_51 : decode cX2_nextToWrite 51 = .ok (.lcmp, 1) := by decide +kernel
theorem dX2_nextToWrite_52 : decode cX2_nextToWrite 52 = .ok (.ifCond .eq 7, 3) := by decide +kernel
theorem dX2_nextToWrite_55 : decode cX2_nextToWrite 55 = .ok (.iconst 1, 1) := by decide +kernel
theorem dX2_nextToWrite_56 : decode cX2_nextToWrite 56 = .ok (.goto 4, 3) := by decide +kernel
theorem dX2_nextToWrite_59 : decode cX2_nextToWrite 59 = .ok (.iconst 0, 1) := by decide +kernel
theorem dX2_nextToWrite_60 : decode cX2_nextToWrite 60 = .ok (.istore 5, 2) := by decide +kernel
theorem dX2_nextToWrite_62 : decode cX2_nextToWrite 62 = .ok (.aload_n 0, 1) := by decide +kernel
theorem dX2_nextToWrite_63 : decode cX2_nextToWrite 63 = .ok (.iload_n 3, 1) := by decide +kernel
theorem dX2_nextToWrite_64 : decode cX2_nextToWrite 64 = .ok (.invokevirtual 50, 3) := by decide +kernel
theorem dX2_nextToWrite_67 : decode cX2_nextToWrite 67 = .ok (.ifCond .eq 15, 3) := by decide +kernel
theorem dX2_nextToWrite_70 : decode cX2_nextToWrite 70 = .ok (.iload 4, 2) := by decide +kernel
theorem dX2_nextToWrite_72 : decode cX2_nextToWrite 72 = .ok (.ifCond .ne 10, 3) := by decide +kernel
theorem dX2_nextToWrite_75 : decode cX2_nextToWrite 75 = .ok (.iload 5, 2) := by decide +kernel
theorem dX2_nextToWrite_77 : decode cX2_nextToWrite 77 = .ok (.ifCond .eq 5, 3) := by decide +kernel
theorem dX2_nextToWrite_80 : decode cX2_nextToWrite 80 = .ok (.iload_n 3, 1) := by decide +kernel
theorem dX2_nextToWrite_81 : decode cX2_nextToWrite 81 = .ok (.ireturn, 1) := by decide +kernel
theorem dX2_nextToWrite_82 : decode cX2_nextToWrite 82 = .ok (.iinc 3 1, 3) := by decide +kernel
theorem dX2_nextToWrite_85 : decode cX2_nextToWrite 85 = .ok (.goto (-83), 3) := by decide +kernel
theorem dX2_nextToWrite_88 : decode cX2_nextToWrite 88 = .ok (.iconst (-1), 1) := by decide +kernel
theorem dX2_nextToWrite_89 : decode cX2_nextToWrite 89 = .ok (.ireturn, 1) := by decide +kernel
set_option maxRecDepth 20000 in
theorem ok_88 {l : Launch} {d : Nat} (IH : ∀ μ, μ < 196 → px_Met l px_P d μ) : px_ok l px_P d RX2 cX2_nextToWrite 6 (some .int) tb_88 :=
  ⟨px_Sp.of (ps_iconst dX2_nextToWrite_0 (by decide)),
   px_Sp.of (ps_istore_n dX2_nextToWrite_1 rfl (by decide)),
   px_Sp.of (ps_iload_n dX2_nextToWrite_2 rfl),
   px_Sp.of (ps_aload_n dX2_nextToWrite_3 rfl),
   px_Sp.of (ps_get kc_X2 (by decide) wf_RX2_22 dX2_nextToWrite_4),
   px_Sp.of (ps_get kc_X1 (by decide) wf_RX2_41 dX2_nextToWrite_7),
   px_Sp.of (ps_icmp_ge dX2_nextToWrite_10 (by decide)),
   px_Sp.of (ps_lload_n dX2_nextToWrite_13 rfl),
   px_Sp.of (ps_iload_n dX2_nextToWrite_14 rfl),
   px_Sp.of (ps_lushr dX2_nextToWrite_15),
   px_Sp.of (ps_lconst dX2_nextToWrite_16 (by decide)),
   px_Sp.of (ps_land dX2_nextToWrite_17),
   px_Sp.of (ps_lconst dX2_nextToWrite_18 (by decide)),
   px_Sp.of (ps_lcmp dX2_nextToWrite_19),
   px_Sp.of (ps_if_eq dX2_nextToWrite_20 (by decide)),
   px_Sp.of (ps_iconst dX2_nextToWrite_23 (by decide)),
   px_Sp.of (ps_goto dX2_nextToWrite_24 (by decide)),
   px_Sp.of (ps_iconst dX2_nextToWrite_27 (by decide)),
   px_Sp.of (ps_istore dX2_nextToWrite_28 (by decide)),
   px_Sp.of (ps_aload_n dX2_nextToWrite_30 rfl),
   px_Sp.of (ps_get kc_X2 (by decide) wf_RX2_9 dX2_nextToWrite_31),
   px_Sp.of (ps_iload_n dX2_nextToWrite_34 rfl),
   px_Sp.of (ps_iald dX2_nextToWrite_35),
   px_Sp.of (ps_iconst dX2_nextToWrite_36 (by decide)),
   px_Sp.of (ps_icmp_eq dX2_nextToWrite_37 (by decide)),
   px_Sp.of (ps_lload_n dX2_nextToWrite_40 rfl),
   px_Sp.of (ps_aload_n dX2_nextToWrite_41 rfl),
   px_Sp.of (ps_get kc_X2 (by decide) wf_RX2_9 dX2_nextToWrite_42),
   px_Sp.of (ps_iload_n dX2_nextToWrite_45 rfl),
   px_Sp.of (ps_iald dX2_nextToWrite_46),
   px_Sp.of (ps_lushr dX2_nextToWrite_47),
   px_Sp.of (ps_lconst dX2_nextToWrite_48 (by decide)),
   px_Sp.of (ps_land dX2_nextToWrite_49),
   px_Sp.of (ps_lconst dX2_nextToWrite_50 (by decide)),
   px_Sp.of (ps_lcmp dX2_nextToWrite_51),
   px_Sp.of (ps_if_eq dX2_nextToWrite_52 (by decide)),
   px_Sp.of (ps_iconst dX2_nextToWrite_55 (by decide)),
   px_Sp.of (ps_goto dX2_nextToWrite_56 (by decide)),
   px_Sp.of (ps_iconst dX2_nextToWrite_59 (by decide)),
   px_Sp.of (ps_istore dX2_nextToWrite_60 (by decide)),
   px_Sp.of (ps_aload_n dX2_nextToWrite_62 rfl),
   px_Sp.of (ps_iload_n dX2_nextToWrite_63 rfl),
   ps_callV (IH 24 (by decide)) (C := RX2) (T := TX2) (N := 8) (ci := 2) rfl rfl (fc_24 _ _) wm_RX2_50 wi_yX2_isSeen wl_yX2_isSeen dX2_nextToWrite_64,
   px_Sp.of (ps_if_eq dX2_nextToWrite_67 (by decide)),
   px_Sp.of (ps_iload dX2_nextToWrite_70),
   px_Sp.of (ps_if_ne dX2_nextToWrite_72 (by decide)),
   px_Sp.of (ps_iload dX2_nextToWrite_75),
   px_Sp.of (ps_if_eq dX2_nextToWrite_77 (by decide)),
   px_Sp.of (ps_iload_n dX2_nextToWrite_80 rfl),
   ps_iret dX2_nextToWrite_81,
   px_Sp.of (ps_iinc dX2_nextToWrite_82 (by decide) (by decide)),
   px_Sp.of (ps_goto dX2_nextToWrite_85 (by decide)),
   px_Sp.of (ps_iconst dX2_nextToWrite_88 (by decide)),
   ps_iret dX2_nextToWrite_89, trivial⟩
theorem mt_88 {l : Launch} {d : Nat} (IH : ∀ μ, μ < 196 → px_Met l px_P d μ) : px_Met l px_P (d + 1) 88 := px_met (own := RX2) rfl (by decide +kernel) (ok_88 IH)
theorem dX8_quarrel_0 : decode cX8_quarrel 0 = .ok (.iload_n 1, 1) := by decide +kernel
theorem dX8_quarrel_1 : decode cX8_quarrel 1 = .ok (.ifCond .lt 14, 3) := by decide +kernel
theorem dX8_quarrel_4 : decode cX8_quarrel 4 = .ok (.iload_n 1, 1) := by decide +kernel
theorem dX8_quarrel_5 : decode cX8_quarrel 5 = .ok (.aload_n 0, 1) := by decide +kernel
theorem dX8_quarrel_6 : decode cX8_quarrel 6 = .ok (.getfield 25, 3) := by decide +kernel
theorem dX8_quarrel_9 : decode cX8_quarrel 9 = .ok (.getfield 97, 3) := by decide +kernel
theorem dX8_quarrel_12 : decode cX8_quarrel 12 = .ok (.if_icmp .lt 5, 3) := by decide +kernel
theorem dX8_quarrel_15 : decode cX8_quarrel 15 = .ok (.iconst (-1), 1) := by decide +kernel
theorem dX8_quarrel_16 : decode cX8_quarrel 16 = .ok (.ireturn, 1) := by decide +kernel
theorem dX8_quarrel_17 : decode cX8_quarrel 17 = .ok (.aload_n 0, 1) := by decide +kernel
theorem dX8_quarrel_18 : decode cX8_quarrel 18 = .ok (.getfield 43, 3) := by decide +kernel
theorem dX8_quarrel_21 : decode cX8_quarrel 21 = .ok (.iconst (-1), 1) := by decide +kernel
theorem dX8_quarrel_22 : decode cX8_quarrel 22 = .ok (.invokevirtual 146, 3) := by decide +kernel
theorem dX8_quarrel_25 : decode cX8_quarrel 25 = .ok (.aload_n 0, 1) := by decide +kernel
theorem dX8_quarrel_26 : decode cX8_quarrel 26 = .ok (.getfield 43, 3) := by decide +kernel
theorem dX8_quarrel_29 : decode cX8_quarrel 29 = .ok (.iload_n 1, 1) := by decide +kernel
theorem dX8_quarrel_30 : decode cX8_quarrel 30 = .ok (.invokevirtual 228, 3) := by decide +kernel
theorem dX8_quarrel_33 : decode cX8_quarrel 33 = .ok (.ireturn, 1) := by decide +kernel
set_option maxRecDepth 20000 in
theorem ok_89 {l : Launch} {d : Nat} (IH : ∀ μ, μ < 196 → px_Met l px_P d μ) : px_ok l px_P d RX8 cX8_quarrel 2 (some .int) tb_89 :=
  ⟨px_Sp.of (ps_iload_n dX8_quarrel_0 rfl),
   px_Sp.of (ps_if_lt dX8_quarrel_1 (by decide)),
   px_Sp.of (ps_iload_n dX8_quarrel_4 rfl),
   px_Sp.of (ps_aload_n dX8_quarrel_5 rfl),
   px_Sp.of (ps_get kc_X8 (by decide) wf_RX8_25 dX8_quarrel_6),
   px_Sp.of (ps_get kc_X1 (by decide) wf_RX8_97 dX8_quarrel_9),
   px_Sp.of (ps_icmp_lt dX8_quarrel_12 (by decide)),
   px_Sp.of (ps_iconst dX8_quarrel_15 (by decide)),
   ps_iret dX8_quarrel_16,
   px_Sp.of (ps_aload_n dX8_quarrel_17 rfl),
   px_Sp.of (ps_get kc_X8 (by decide) wf_RX8_43 dX8_quarrel_18),
   px_Sp.of (ps_iconst dX8_quarrel_21 (by decide)),
   ps_callV (IH 23 (by decide)) (C := RX2) (T := TX2) (N := 8) (ci := 2) rfl rfl (fc_23 _ _) wm_RX8_146 wi_yX2_refresh wl_yX2_refresh dX8_quarrel_22,
   px_Sp.of (ps_aload_n dX8_quarrel_25 rfl),
   px_Sp.of (ps_get kc_X8 (by decide) wf_RX8_43 dX8_quarrel_26),
   px_Sp.of (ps_iload_n dX8_quarrel_29 rfl),
   ps_callV (IH 90 (by decide)) (C := RX2) (T := TX2) (N := 8) (ci := 2) rfl rfl (fc_90 _ _) wm_RX8_228 wi_yX2_quarrelAt wl_yX2_quarrelAt dX8_quarrel_30,
   ps_iret dX8_quarrel_33, trivial⟩
theorem mt_89 {l : Launch} {d : Nat} (IH : ∀ μ, μ < 196 → px_Met l px_P d μ) : px_Met l px_P (d + 1) 89 := px_met (own := RX8) rfl (by decide +kernel) (ok_89 IH)
theorem dX2_quarrelAt_0 : decode cX2_quarrelAt 0 = .ok (.iconst 0, 1) := by decide +kernel
theorem dX2_quarrelAt_1 : decode cX2_quarrelAt 1 = .ok (.istore_n 2, 1) := by decide +kernel
theorem dX2_quarrelAt_2 : decode cX2_quarrelAt 2 = .ok (.iconst 0, 1) := by decide +kernel
theorem dX2_quarrelAt_3 : decode cX2_quarrelAt 3 = .ok (.istore_n 3, 1) := by decide +kernel
theorem dX2_quarrelAt_4 : decode cX2_quarrelAt 4 = .ok (.iload_n 3, 1) := by decide +kernel
theorem dX2_quarrelAt_5 : decode cX2_quarrelAt 5 = .ok (.aload_n 0, 1) := by decide +kernel
theorem dX2_quarrelAt_6 : decode cX2_quarrelAt 6 = .ok (.getfield 22, 3) := by decide +kernel
theorem dX2_quarrelAt_9 : decode cX2_quarrelAt 9 = .ok (.getfield 41, 3) := by decide +kernel
theorem dX2_quarrelAt_12 : decode cX2_quarrelAt 12 = .ok (.if_icmp .ge 30, 3) := by decide +kernel
theorem dX2_quarrelAt_15 : decode cX2_quarrelAt 15 = .ok (.aload_n 0, 1) := by decide +kernel
theorem dX2_quarrelAt_16 : decode cX2_quarrelAt 16 = .ok (.iload_n 3, 1) := by decide +kernel
theorem dX2_quarrelAt_17 : decode cX2_quarrelAt 17 = .ok (.invokevirtual 121, 3) := by decide +kernel
theorem dX2_quarrelAt_20 : decode cX2_quarrelAt 20 = .ok (.ifCond .ne 6, 3) := by decide +kernel
theorem dX2_quarrelAt_23 : decode cX2_quarrelAt 23 = .ok (.goto 13, 3) := by decide +kernel
theorem dX2_quarrelAt_26 : decode cX2_quarrelAt 26 = .ok (.iload_n 2, 1) := by decide +kernel
theorem dX2_quarrelAt_27 : decode cX2_quarrelAt 27 = .ok (.iload_n 1, 1) := by decide +kernel
theorem dX2_quarrelAt_28 : decode cX2_quarrelAt 28 = .ok (.if_icmp .ne 5, 3) := by decide +kernel
theorem dX2_quarrelAt_31 : decode cX2_quarrelAt 31 = .ok (.iload_n 3, 1) := by decide +kernel
theorem dX2_quarrelAt_32 : decode cX2_quarrelAt 32 = .ok (.ireturn, 1) := by decide +kernel
theorem dX2_quarrelAt_33 : decode cX2_quarrelAt 33 = .ok (.iinc 2 1, 3) := by decide +kernel
theorem dX2_quarrelAt_36 : decode cX2_quarrelAt 36 = .ok (.iinc 3 1, 3) := by decide +kernel
theorem dX2_quarrelAt_39 : decode cX2_quarrelAt 39 = .ok (.goto (-35), 3) := by decide +kernel
theorem dX2_quarrelAt_42 : decode cX2_quarrelAt 42 = .ok (.iconst (-1), 1) := by decide +kernel
theorem dX2_quarrelAt_43 : decode cX2_quarrelAt 43 = .ok (.ireturn, 1) := by decide +kernel
set_option maxRecDepth 20000 in
theorem ok_90 {l : Launch} {d : Nat} (IH : ∀ μ, μ < 196 → px_Met l px_P d μ) : px_ok l px_P d RX2 cX2_quarrelAt 4 (some .int) tb_90 :=
  ⟨px_Sp.of (ps_iconst dX2_quarrelAt_0 (by decide)),
   px_Sp.of (ps_istore_n dX2_quarrelAt_1 rfl (by decide)),
   px_Sp.of (ps_iconst dX2_quarrelAt_2 (by decide)),
   px_Sp.of (ps_istore_n dX2_quarrelAt_3 rfl (by decide)),
   px_Sp.of (ps_iload_n dX2_quarrelAt_4 rfl),
   px_Sp.of (ps_aload_n dX2_quarrelAt_5 rfl),
   px_Sp.of (ps_get kc_X2 (by decide) wf_RX2_22 dX2_quarrelAt_6),
   px_Sp.of (ps_get kc_X1 (by decide) wf_RX2_41 dX2_quarrelAt_9),
   px_Sp.of (ps_icmp_ge dX2_quarrelAt_12 (by decide)),
   px_Sp.of (ps_aload_n dX2_quarrelAt_15 rfl),
   px_Sp.of (ps_iload_n dX2_quarrelAt_16 rfl),
   ps_callV (IH 62 (by decide)) (C := RX2) (T := TX2) (N := 8) (ci := 2) rfl rfl (fc_62 _ _) wm_RX2_121 wi_yX2_isQuarrel wl_yX2_isQuarrel dX2_quarrelAt_17,
   px_Sp.of (ps_if_ne dX2_quarrelAt_20 (by decide)),
   px_Sp.of (ps_goto dX2_quarrelAt_23 (by decide)),
   px_Sp.of (ps_iload_n dX2_quarrelAt_26 rfl),
   px_Sp.of (ps_iload_n dX2_quarrelAt_27 rfl),
   px_Sp.of (ps_icmp_ne dX2_quarrelAt_28 (by decide)),
   px_Sp.of (ps_iload_n dX2_quarrelAt_31 rfl),
   ps_iret dX2_quarrelAt_32,
   px_Sp.of (ps_iinc dX2_quarrelAt_33 (by decide) (by decide)),
   px_Sp.of (ps_iinc dX2_quarrelAt_36 (by decide) (by decide)),
   px_Sp.of (ps_goto dX2_quarrelAt_39 (by decide)),
   px_Sp.of (ps_iconst dX2_quarrelAt_42 (by decide)),
   ps_iret dX2_quarrelAt_43, trivial⟩
theorem mt_90 {l : Launch} {d : Nat} (IH : ∀ μ, μ < 196 → px_Met l px_P d μ) : px_Met l px_P (d + 1) 90 := px_met (own := RX2) rfl (by decide +kernel) (ok_90 IH)
theorem dX8_span_0 : decode cX8_span 0 = .ok (.aload_n 0, 1) := by decide +kernel
theorem dX8_span_1 : decode cX8_span 1 = .ok (.getfield 25, 3) := by decide +kernel
theorem dX8_span_4 : decode cX8_span 4 = .ok (.iload_n 1, 1) := by decide +kernel
theorem dX8_span_5 : decode cX8_span 5 = .ok (.invokevirtual 87, 3) := by decide +kernel
theorem dX8_span_8 : decode cX8_span 8 = .ok (.ifCond .ne 7, 3) := by decide +kernel
theorem dX8_span_11 : decode cX8_span 11 = .ok (.sipush (-1001), 3) := by decide +kernel
theorem dX8_span_14 : decode cX8_span 14 = .ok (.ireturn, 1) := by decide +kernel
theorem dX8_span_15 : decode cX8_span 15 = .ok (.iload_n 2, 1) := by decide +kernel
theorem dX8_span_16 : decode cX8_span 16 = .ok (.ifCond .lt 8, 3) := by decide +kernel
theorem dX8_span_19 : decode cX8_span 19 = .ok (.iload_n 2, 1) := by decide +kernel
theorem dX8_span_20 : decode cX8_span 20 = .ok (.iconst 1, 1) := by decide +kernel
theorem dX8_span_21 : decode cX8_span 21 = .ok (.if_icmp .le 7, 3) := by decide +kernel
theorem dX8_span_24 : decode cX8_span 24 = .ok (.sipush (-1002), 3) := by decide +kernel
theorem dX8_span_27 : decode cX8_span 27 = .ok (.ireturn, 1) := by decide +kernel
theorem dX8_span_28 : decode cX8_span 28 = .ok (.aload_n 0, 1) := by decide +kernel
theorem dX8_span_29 : decode cX8_span 29 = .ok (.getfield 25, 3) := by decide +kernel
theorem dX8_span_32 : decode cX8_span 32 = .ok (.iload_n 1, 1) := by decide +kernel
theorem dX8_span_33 : decode cX8_span 33 = .ok (.invokevirtual 143, 3) := by decide +kernel
theorem dX8_span_36 : decode cX8_span 36 = .ok (.ifCond .ne 7, 3) := by decide +kernel
theorem dX8_span_39 : decode cX8_span 39 = .ok (.sipush (-1003), 3) := by decide +kernel
theorem dX8_span_42 : decode cX8_span 42 = .ok (.ireturn, 1) := by decide +kernel
theorem dX8_span_43 : decode cX8_span 43 = .ok (.aload_n 0, 1) := by decide +kernel
theorem dX8_span_44 : decode cX8_span 44 = .ok (.getfield 25, 3) := by decide +kernel
theorem dX8_span_47 : decode cX8_span 47 = .ok (.getfield 134, 3) := by decide +kernel
theorem dX8_span_50 : decode cX8_span 50 = .ok (.iload_n 1, 1) := by decide +kernel
theorem dX8_span_51 : decode cX8_span 51 = .ok (.iaload, 1) := by decide +kernel
theorem dX8_span_52 : decode cX8_span 52 = .ok (.iconst (-1), 1) := by decide +kernel
theorem dX8_span_53 : decode cX8_span 53 = .ok (.if_icmp .eq 13, 3) := by decide +kernel
theorem dX8_span_56 : decode cX8_span 56 = .ok (.aload_n 0, 1) := by decide +kernel
theorem dX8_span_57 : decode cX8_span 57 = .ok (.getfield 25, 3) := by decide +kernel
theorem dX8_span_60 : decode cX8_span 60 = .ok (.getfield 134, 3) := by decide +kernel
theorem dX8_span_63 : decode cX8_span 63 = .ok (.iload_n 1, 1) := by decide +kernel
theorem dX8_span_64 : decode cX8_span 64 = .ok (.iaload, 1) := by decide +kernel
theorem dX8_span_65 : decode cX8_span 65 = .ok (.ireturn, 1) := by decide +kernel
theorem dX8_span_66 : decode cX8_span 66 = .ok (.aload_n 0, 1) := by decide +kernel
theorem dX8_span_67 : decode cX8_span 67 = .ok (.getfield 43, 3) := by decide +kernel
theorem dX8_span_70 : decode cX8_span 70 = .ok (.iconst (-1), 1) := by decide +kernel
theorem dX8_span_71 : decode cX8_span 71 = .ok (.invokevirtual 146, 3) := by decide +kernel
theorem dX8_span_74 : decode cX8_span 74 = .ok (.iload_n 2, 1) := by decide +kernel
theorem dX8_span_75 : decode cX8_span 75 = .ok (.ifCond .ne 14, 3) := by decide +kernel
theorem dX8_span_78 : decode cX8_span 78 = .ok (.aload_n 0, 1) := by decide +kernel
theorem dX8_span_79 : decode cX8_span 79 = .ok (.getfield 43, 3) := by decide +kernel
theorem dX8_span_82 : decode cX8_span 82 = .ok (.iload_n 1, 1) := by decide +kernel
theorem dX8_span_83 : decode cX8_span 83 = .ok (.invokevirtual 231, 3) := by decide +kernel
theorem dX8_span_86 : decode cX8_span 86 = .ok (.goto 11, 3) := by decide +kernel
theorem dX8_span_89 : decode cX8_span 89 = .ok (.aload_n 0, 1) := by decide +kernel
theorem dX8_span_90 : decode cX8_span 90 = .ok (.getfield 43, 3) := by decide +kernel
theorem dX8_span_93 : decode cX8_span 93 = .ok (.iload_n 1, 1) := by decide +kernel
theorem dX8_span_94 : decode cX8_span 94 = .ok (.invokevirtual 234, 3) := by decide +kernel
theorem dX8_span_97 : decode cX8_span 97 = .ok (.ireturn, 1) := by decide +kernel
set_option maxRecDepth 20000 in
theorem ok_91 {l : Launch} {d : Nat} (IH : ∀ μ, μ < 196 → px_Met l px_P d μ) : px_ok l px_P d RX8 cX8_span 3 (some .int) tb_91 :=
  ⟨px_Sp.of (ps_aload_n dX8_span_0 rfl),
   px_Sp.of (ps_get kc_X8 (by decide) wf_RX8_25 dX8_span_1),
   px_Sp.of (ps_iload_n dX8_span_4 rfl),
   ps_callV (IH 4 (by decide)) (C := RX1) (T := TX1) (N := 10) (ci := 1) rfl rfl (fc_4 _ _) wm_RX8_87 wi_yX1_has wl_yX1_has dX8_span_5,
   px_Sp.of (ps_if_ne dX8_span_8 (by decide)),
   px_Sp.of (ps_sipush dX8_span_11 (by decide)),
   ps_iret dX8_span_14,
   px_Sp.of (ps_iload_n dX8_span_15 rfl),
   px_Sp.of (ps_if_lt dX8_span_16 (by decide)),
   px_Sp.of (ps_iload_n dX8_span_19 rfl),
   px_Sp.of (ps_iconst dX8_span_20 (by decide)),
   px_Sp.of (ps_icmp_le dX8_span_21 (by decide)),
   px_Sp.of (ps_sipush dX8_span_24 (by decide)),
   ps_iret dX8_span_27,
   px_Sp.of (ps_aload_n dX8_span_28 rfl),
   px_Sp.of (ps_get kc_X8 (by decide) wf_RX8_25 dX8_span_29),
   px_Sp.of (ps_iload_n dX8_span_32 rfl),
   ps_callV (IH 21 (by decide)) (C := RX1) (T := TX1) (N := 10) (ci := 1) rfl rfl (fc_21 _ _) wm_RX8_143 wi_yX1_isSeen wl_yX1_isSeen dX8_span_33,
   px_Sp.of (ps_if_ne dX8_span_36 (by decide)),
   px_Sp.of (ps_sipush dX8_span_39 (by decide)),
   ps_iret dX8_span_42,
   px_Sp.of (ps_aload_n dX8_span_43 rfl),
   px_Sp.of (ps_get kc_X8 (by decide) wf_RX8_25 dX8_span_44),
   px_Sp.of (ps_get kc_X1 (by decide) wf_RX8_134 dX8_span_47),
   px_Sp.of (ps_iload_n dX8_span_50 rfl),
   px_Sp.of (ps_iald dX8_span_51),
   px_Sp.of (ps_iconst dX8_span_52 (by decide)),
   px_Sp.of (ps_icmp_eq dX8_span_53 (by decide)),
   px_Sp.of (ps_aload_n dX8_span_56 rfl),
   px_Sp.of (ps_get kc_X8 (by decide) wf_RX8_25 dX8_span_57),
   px_Sp.of (ps_get kc_X1 (by decide) wf_RX8_134 dX8_span_60),
   px_Sp.of (ps_iload_n dX8_span_63 rfl),
   px_Sp.of (ps_iald dX8_span_64),
   ps_iret dX8_span_65,
   px_Sp.of (ps_aload_n dX8_span_66 rfl),
   px_Sp.of (ps_get kc_X8 (by decide) wf_RX8_43 dX8_span_67),
   px_Sp.of (ps_iconst dX8_span_70 (by decide)),
   ps_callV (IH 23 (by decide)) (C := RX2) (T := TX2) (N := 8) (ci := 2) rfl rfl (fc_23 _ _) wm_RX8_146 wi_yX2_refresh wl_yX2_refresh dX8_span_71,
   px_Sp.of (ps_iload_n dX8_span_74 rfl),
   px_Sp.of (ps_if_ne dX8_span_75 (by decide)),
   px_Sp.of (ps_aload_n dX8_span_78 rfl),
   px_Sp.of (ps_get kc_X8 (by decide) wf_RX8_43 dX8_span_79),
   px_Sp.of (ps_iload_n dX8_span_82 rfl),
   ps_callV (IH 92 (by decide)) (C := RX2) (T := TX2) (N := 8) (ci := 2) rfl rfl (fc_92 _ _) wm_RX8_231 wi_yX2_greatestDayAbove wl_yX2_greatestDayAbove dX8_span_83,
   px_Sp.of (ps_goto dX8_span_86 (by decide)),
   px_Sp.of (ps_aload_n dX8_span_89 rfl),
   px_Sp.of (ps_get kc_X8 (by decide) wf_RX8_43 dX8_span_90),
   px_Sp.of (ps_iload_n dX8_span_93 rfl),
   ps_callV (IH 93 (by decide)) (C := RX2) (T := TX2) (N := 8) (ci := 2) rfl rfl (fc_93 _ _) wm_RX8_234 wi_yX2_leastDayBelow wl_yX2_leastDayBelow dX8_span_94,
   ps_iret dX8_span_97, trivial⟩
theorem mt_91 {l : Launch} {d : Nat} (IH : ∀ μ, μ < 196 → px_Met l px_P d μ) : px_Met l px_P (d + 1) 91 := px_met (own := RX8) rfl (by decide +kernel) (ok_91 IH)
theorem dX2_greatestDayAbove_0 : decode cX2_greatestDayAbove 0 = .ok (.iconst 0, 1) := by decide +kernel
theorem dX2_greatestDayAbove_1 : decode cX2_greatestDayAbove 1 = .ok (.istore_n 2, 1) := by decide +kernel
theorem dX2_greatestDayAbove_2 : decode cX2_greatestDayAbove 2 = .ok (.aload_n 0, 1) := by decide +kernel
theorem dX2_greatestDayAbove_3 : decode cX2_greatestDayAbove 3 = .ok (.getfield 9, 3) := by decide +kernel
theorem dX2_greatestDayAbove_6 : decode cX2_greatestDayAbove 6 = .ok (.iload_n 1, 1) := by decide +kernel
theorem dX2_greatestDayAbove_7 : decode cX2_greatestDayAbove 7 = .ok (.iaload, 1) := by decide +kernel
theorem dX2_greatestDayAbove_8 : decode cX2_greatestDayAbove 8 = .ok (.istore_n 3, 1) := by decide +kernel
theorem dX2_greatestDayAbove_9 : decode cX2_greatestDayAbove 9 = .ok (.iconst 0, 1) := by decide +kernel
theorem dX2_greatestDayAbove_10 : decode cX2_greatestDayAbove 10 = .ok (.istore 4, 2) := by decide +kernel
theorem dX2_greatestDayAbove_12 : decode cX2_greatestDayAbove 12 = .ok (.iload 4, 2) := by decide +kernel
theorem dX2_greatestDayAbove_14 : decode cX2_greatestDayAbove 14 = .ok (.bipush 40, 2) := by decide +kernel
theorem dX2_greatestDayAbove_16 : decode cX2_greatestDayAbove 16 = .ok (.if_icmp .ge 35, 3) := by decide +kernel
theorem dX2_greatestDayAbove_19 : decode cX2_greatestDayAbove 19 = .ok (.iload_n 3, 1) := by decide +kernel
theorem dX2_greatestDayAbove_20 : decode cX2_greatestDayAbove 20 = .ok (.iconst (-1), 1) := by decide +kernel
theorem dX2_greatestDayAbove_21 : decode cX2_greatestDayAbove 21 = .ok (.if_icmp .eq 30, 3) := by decide +kernel
theorem dX2_greatestDayAbove_24 : decode cX2_greatestDayAbove 24 = .ok (.iload_n 2, 1) := by decide +kernel
theorem dX2_greatestDayAbove_25 : decode cX2_greatestDayAbove 25 = .ok (.aload_n 0, 1) := by decide +kernel
theorem dX2_greatestDayAbove_26 : decode cX2_greatestDayAbove 26 = .ok (.getfield 22, 3) := by decide +kernel
theorem dX2_greatestDayAbove_29 : decode cX2_greatestDayAbove 29 = .ok (.getfield 86, 3) := by decide +kernel
theorem dX2_greatestDayAbove_32 : decode cX2_greatestDayAbove 32 = .ok (.iload_n 3, 1) := by decide +kernel
theorem dX2_greatestDayAbove_33 : decode cX2_greatestDayAbove 33 = .ok (.iaload, 1) := by decide +kernel
theorem dX2_greatestDayAbove_34 : decode cX2_greatestDayAbove 34 = .ok (.invokestatic 124, 3) := by decide +kernel
theorem dX2_greatestDayAbove_37 : decode cX2_greatestDayAbove 37 = .ok (.istore_n 2, 1) := by decide +kernel
theorem dX2_greatestDayAbove_38 : decode cX2_greatestDayAbove 38 = .ok (.aload_n 0, 1) := by decide +kernel
theorem dX2_greatestDayAbove_39 : decode cX2_greatestDayAbove 39 = .ok (.getfield 9, 3) := by decide +kernel
theorem dX2_greatestDayAbove_42 : decode cX2_greatestDayAbove 42 = .ok (.iload_n 3, 1) := by decide +kernel
theorem dX2_greatestDayAbove_43 : decode cX2_greatestDayAbove 43 = .ok (.iaload, 1) := by decide +kernel
theorem dX2_greatestDayAbove_44 : decode cX2_greatestDayAbove 44 = .ok (.istore_n 3, 1) := by decide +kernel
theorem dX2_greatestDayAbove_45 : decode cX2_greatestDayAbove 45 = .ok (.iinc 4 1, 3) := by decide +kernel
theorem dX2_greatestDayAbove_48 : decode cX2_greatestDayAbove 48 = .ok (.goto (-36), 3) := by decide +kernel
theorem dX2_greatestDayAbove_51 : decode cX2_greatestDayAbove 51 = .ok (.iload_n 2, 1) := by decide +kernel
theorem dX2_greatestDayAbove_52 : decode cX2_greatestDayAbove 52 = .ok (.ireturn, 1) := by decide +kernel
set_option maxRecDepth 20000 in
theorem ok_92 {l : Launch} {d : Nat} (IH : ∀ μ, μ < 196 → px_Met l px_P d μ) : px_ok l px_P d RX2 cX2_greatestDayAbove 5 (some .int) tb_92 :=
  ⟨px_Sp.of (ps_iconst dX2_greatestDayAbove_0 (by decide)),
   px_Sp.of (ps_istore_n dX2_greatestDayAbove_1 rfl (by decide)),
   px_Sp.of (ps_aload_n dX2_greatestDayAbove_2 rfl),
   px_Sp.of (ps_get kc_X2 (by decide) wf_RX2_9 dX2_greatestDayAbove_3),
   px_Sp.of (ps_iload_n dX2_greatestDayAbove_6 rfl),
   px_Sp.of (ps_iald dX2_greatestDayAbove_7),
   px_Sp.of (ps_istore_n dX2_greatestDayAbove_8 rfl (by decide)),
   px_Sp.of (ps_iconst dX2_greatestDayAbove_9 (by decide)),
   px_Sp.of (ps_istore dX2_greatestDayAbove_10 (by decide)),
   px_Sp.of (ps_iload dX2_greatestDayAbove_12),
   px_Sp.of (ps_bipush dX2_greatestDayAbove_14 (by decide)),
   px_Sp.of (ps_icmp_ge dX2_greatestDayAbove_16 (by decide)),
   px_Sp.of (ps_iload_n dX2_greatestDayAbove_19 rfl),
   px_Sp.of (ps_iconst dX2_greatestDayAbove_20 (by decide)),
   px_Sp.of (ps_icmp_eq dX2_greatestDayAbove_21 (by decide)),
   px_Sp.of (ps_iload_n dX2_greatestDayAbove_24 rfl),
   px_Sp.of (ps_aload_n dX2_greatestDayAbove_25 rfl),
   px_Sp.of (ps_get kc_X2 (by decide) wf_RX2_22 dX2_greatestDayAbove_26),
   px_Sp.of (ps_get kc_X1 (by decide) wf_RX2_86 dX2_greatestDayAbove_29),
   px_Sp.of (ps_iload_n dX2_greatestDayAbove_32 rfl),
   px_Sp.of (ps_iald dX2_greatestDayAbove_33),
   px_Sp.of (ps_max wm_RX2_124 ws_max wn_RJ9 wc_max dX2_greatestDayAbove_34),
   px_Sp.of (ps_istore_n dX2_greatestDayAbove_37 rfl (by decide)),
   px_Sp.of (ps_aload_n dX2_greatestDayAbove_38 rfl),
   px_Sp.of (ps_get kc_X2 (by decide) wf_RX2_9 dX2_greatestDayAbove_39),
   px_Sp.of (ps_iload_n dX2_greatestDayAbove_42 rfl),
   px_Sp.of (ps_iald dX2_greatestDayAbove_43),
   px_Sp.of (ps_istore_n dX2_greatestDayAbove_44 rfl (by decide)),
   px_Sp.of (ps_iinc dX2_greatestDayAbove_45 (by decide) (by decide)),
   px_Sp.of (ps_goto dX2_greatestDayAbove_48 (by decide)),
   px_Sp.of (ps_iload_n dX2_greatestDayAbove_51 rfl),
   ps_iret dX2_greatestDayAbove_52, trivial⟩
theorem mt_92 {l : Launch} {d : Nat} (IH : ∀ μ, μ < 196 → px_Met l px_P d μ) : px_Met l px_P (d + 1) 92 := px_met (own := RX2) rfl (by decide +kernel) (ok_92 IH)
theorem dX2_leastDayBelow_0 : decode cX2_leastDayBelow 0 = .ok (.sipush 9999, 3) := by decide +kernel
theorem dX2_leastDayBelow_3 : decode cX2_leastDayBelow 3 = .ok (.istore_n 2, 1) := by decide +kernel
theorem dX2_leastDayBelow_4 : decode cX2_leastDayBelow 4 = .ok (.iconst 0, 1) := by decide +kernel
theorem dX2_leastDayBelow_5 : decode cX2_leastDayBelow 5 = .ok (.istore_n 3, 1) := by decide +kernel
theorem dX2_leastDayBelow_6 : decode cX2_leastDayBelow 6 = .ok (.iload_n 3, 1) := by decide +kernel
theorem dX2_leastDayBelow_7 : decode cX2_leastDayBelow 7 = .ok (.aload_n 0, 1) := by decide +kernel
theorem dX2_leastDayBelow_8 : decode cX2_leastDayBelow 8 = .ok (.getfield 22, 3) := by decide +kernel
theorem dX2_leastDayBelow_11 : decode cX2_leastDayBelow 11 = .ok (.getfield 41, 3) := by decide +kernel
theorem dX2_leastDayBelow_14 : decode cX2_leastDayBelow 14 = .ok (.if_icmp .ge 58, 3) := by decide +kernel
theorem dX2_leastDayBelow_17 : decode cX2_leastDayBelow 17 = .ok (.iload_n 3, 1) := by decide +kernel
theorem dX2_leastDayBelow_18 : decode cX2_leastDayBelow 18 = .ok (.iload_n 1, 1) := by decide +kernel
theorem dX2_leastDayBelow_19 : decode cX2_leastDayBelow 19 = .ok (.if_icmp .eq 47, 3) := by decide +kernel
theorem dX2_leastDayBelow_22 : decode cX2_leastDayBelow 22 = .ok (.aload_n 0, 1) := by decide +kernel
theorem dX2_leastDayBelow_23 : decode cX2_leastDayBelow 23 = .ok (.getfield 22, 3) := by decide +kernel
theorem dX2_leastDayBelow_26 : decode cX2_leastDayBelow 26 = .ok (.getfield 86, 3) := by decide +kernel
theorem dX2_leastDayBelow_29 : decode cX2_leastDayBelow 29 = .ok (.iload_n 3, 1) := by decide +kernel
theorem dX2_leastDayBelow_30 : decode cX2_leastDayBelow 30 = .ok (.iaload, 1) := by decide +kernel
theorem dX2_leastDayBelow_31 : decode cX2_leastDayBelow 31 = .ok (.iconst (-1), 1) := by decide +kernel
theorem dX2_leastDayBelow_32 : decode cX2_leastDayBelow 32 = .ok (.if_icmp .eq 34, 3) := by decide +kernel
theorem dX2_leastDayBelow_35 : decode cX2_leastDayBelow 35 = .ok (.aload_n 0, 1) := by decide +kernel
theorem dX2_leastDayBelow_36 : decode cX2_leastDayBelow 36 = .ok (.iload_n 3, 1) := by decide +kernel
theorem dX2_leastDayBelow_37 : decode cX2_leastDayBelow 37 = .ok (.invokevirtual 50, 3) := by decide +kernel
theorem dX2_leastDayBelow_40 : decode cX2_leastDayBelow 40 = .ok (.ifCond .eq 26, 3) := by decide +kernel
theorem dX2_leastDayBelow_43 : decode cX2_leastDayBelow 43 = .ok (.aload_n 0, 1) := by decide +kernel
theorem dX2_leastDayBelow_44 : decode cX2_leastDayBelow 44 = .ok (.iload_n 3, 1) := by decide +kernel
theorem dX2_leastDayBelow_45 : decode cX2_leastDayBelow 45 = .ok (.iload_n 1, 1) := by decide +kernel
theorem dX2_leastDayBelow_46 : decode cX2_leastDayBelow 46 = .ok (.invokevirtual 83, 3) := by decide +kernel
theorem dX2_leastDayBelow_49 : decode cX2_leastDayBelow 49 = .ok (.ifCond .eq 17, 3) := by decide +kernel
theorem dX2_leastDayBelow_52 : decode cX2_leastDayBelow 52 = .ok (.iload_n 2, 1) := by decide +kernel
theorem dX2_leastDayBelow_53 : decode cX2_leastDayBelow 53 = .ok (.aload_n 0, 1) := by decide +kernel
theorem dX2_leastDayBelow_54 : decode cX2_leastDayBelow 54 = .ok (.getfield 22, 3) := by decide +kernel
theorem dX2_leastDayBelow_57 : decode cX2_leastDayBelow 57 = .ok (.getfield 86, 3) := by decide +kernel
theorem dX2_leastDayBelow_60 : decode cX2_leastDayBelow 60 = .ok (.iload_n 3, 1) := by decide +kernel
theorem dX2_leastDayBelow_61 : decode cX2_leastDayBelow 61 = .ok (.iaload, 1) := by decide +kernel
theorem dX2_leastDayBelow_62 : decode cX2_leastDayBelow 62 = .ok (.invokestatic 129, 3) := by decide +kernel
theorem dX2_leastDayBelow_65 : decode cX2_leastDayBelow 65 = .ok (.istore_n 2, 1) := by decide +kernel
theorem dX2_leastDayBelow_66 : decode cX2_leastDayBelow 66 = .ok (.iinc 3 1, 3) := by decide +kernel
theorem dX2_leastDayBelow_69 : decode cX2_leastDayBelow 69 = .ok (.goto (-63), 3) := by decide +kernel
theorem dX2_leastDayBelow_72 : decode cX2_leastDayBelow 72 = .ok (.iload_n 2, 1) := by decide +kernel
theorem dX2_leastDayBelow_73 : decode cX2_leastDayBelow 73 = .ok (.ireturn, 1) := by decide +kernel
set_option maxRecDepth 20000 in
theorem ok_93 {l : Launch} {d : Nat} (IH : ∀ μ, μ < 196 → px_Met l px_P d μ) : px_ok l px_P d RX2 cX2_leastDayBelow 4 (some .int) tb_93 :=
  ⟨px_Sp.of (ps_sipush dX2_leastDayBelow_0 (by decide)),
   px_Sp.of (ps_istore_n dX2_leastDayBelow_3 rfl (by decide)),
   px_Sp.of (ps_iconst dX2_leastDayBelow_4 (by decide)),
   px_Sp.of (ps_istore_n dX2_leastDayBelow_5 rfl (by decide)),
   px_Sp.of (ps_iload_n dX2_leastDayBelow_6 rfl),
   px_Sp.of (ps_aload_n dX2_leastDayBelow_7 rfl),
   px_Sp.of (ps_get kc_X2 (by decide) wf_RX2_22 dX2_leastDayBelow_8),
   px_Sp.of (ps_get kc_X1 (by decide) wf_RX2_41 dX2_leastDayBelow_11),
   px_Sp.of (ps_icmp_ge dX2_leastDayBelow_14 (by decide)),
   px_Sp.of (ps_iload_n dX2_leastDayBelow_17 rfl),
   px_Sp.of (ps_iload_n dX2_leastDayBelow_18 rfl),
   px_Sp.of (ps_icmp_eq dX2_leastDayBelow_19 (by decide)),
   px_Sp.of (ps_aload_n dX2_leastDayBelow_22 rfl),
   px_Sp.of (ps_get kc_X2 (by decide) wf_RX2_22 dX2_leastDayBelow_23),
   px_Sp.of (ps_get kc_X1 (by decide) wf_RX2_86 dX2_leastDayBelow_26),
   px_Sp.of (ps_iload_n dX2_leastDayBelow_29 rfl),
   px_Sp.of (ps_iald dX2_leastDayBelow_30),
   px_Sp.of (ps_iconst dX2_leastDayBelow_31 (by decide)),
   px_Sp.of (ps_icmp_eq dX2_leastDayBelow_32 (by decide)),
   px_Sp.of (ps_aload_n dX2_leastDayBelow_35 rfl),
   px_Sp.of (ps_iload_n dX2_leastDayBelow_36 rfl),
   ps_callV (IH 24 (by decide)) (C := RX2) (T := TX2) (N := 8) (ci := 2) rfl rfl (fc_24 _ _) wm_RX2_50 wi_yX2_isSeen wl_yX2_isSeen dX2_leastDayBelow_37,
   px_Sp.of (ps_if_eq dX2_leastDayBelow_40 (by decide)),
   px_Sp.of (ps_aload_n dX2_leastDayBelow_43 rfl),
   px_Sp.of (ps_iload_n dX2_leastDayBelow_44 rfl),
   px_Sp.of (ps_iload_n dX2_leastDayBelow_45 rfl),
   ps_callV (IH 27 (by decide)) (C := RX2) (T := TX2) (N := 8) (ci := 2) rfl rfl (fc_27 _ _) wm_RX2_83 wi_yX2_leadsTo wl_yX2_leadsTo dX2_leastDayBelow_46,
   px_Sp.of (ps_if_eq dX2_leastDayBelow_49 (by decide)),
   px_Sp.of (ps_iload_n dX2_leastDayBelow_52 rfl),
   px_Sp.of (ps_aload_n dX2_leastDayBelow_53 rfl),
   px_Sp.of (ps_get kc_X2 (by decide) wf_RX2_22 dX2_leastDayBelow_54),
   px_Sp.of (ps_get kc_X1 (by decide) wf_RX2_86 dX2_leastDayBelow_57),
   px_Sp.of (ps_iload_n dX2_leastDayBelow_60 rfl),
   px_Sp.of (ps_iald dX2_leastDayBelow_61),
   px_Sp.of (ps_min wm_RX2_129 ws_min wn_RJ9 wc_min dX2_leastDayBelow_62),
   px_Sp.of (ps_istore_n dX2_leastDayBelow_65 rfl (by decide)),
   px_Sp.of (ps_iinc dX2_leastDayBelow_66 (by decide) (by decide)),
   px_Sp.of (ps_goto dX2_leastDayBelow_69 (by decide)),
   px_Sp.of (ps_iload_n dX2_leastDayBelow_72 rfl),
   ps_iret dX2_leastDayBelow_73, trivial⟩
theorem mt_93 {l : Launch} {d : Nat} (IH : ∀ μ, μ < 196 → px_Met l px_P d μ) : px_Met l px_P (d + 1) 93 := px_met (own := RX2) rfl (by decide +kernel) (ok_93 IH)
theorem dX8_sign_0 : decode cX8_sign 0 = .ok (.iload_n 1, 1) := by decide +kernel
theorem dX8_sign_1 : decode cX8_sign 1 = .ok (.ifCond .lt 9, 3) := by decide +kernel
theorem dX8_sign_4 : decode cX8_sign 4 = .ok (.iload_n 1, 1) := by decide +kernel
theorem dX8_sign_5 : decode cX8_sign 5 = .ok (.bipush 63, 2) := by decide +kernel
theorem dX8_sign_7 : decode cX8_sign 7 = .ok (.if_icmp .le 7, 3) := by decide +kernel
theorem dX8_sign_10 : decode cX8_sign 10 = .ok (.sipush (-1002), 3) := by decide +kernel
theorem dX8_sign_13 : decode cX8_sign 13 = .ok (.ireturn, 1) := by decide +kernel
theorem dX8_sign_14 : decode cX8_sign 14 = .ok (.aload_n 0, 1) := by decide +kernel
theorem dX8_sign_15 : decode cX8_sign 15 = .ok (.getfield 62, 3) := by decide +kernel
theorem dX8_sign_18 : decode cX8_sign 18 = .ok (.getfield 186, 3) := by decide +kernel
theorem dX8_sign_21 : decode cX8_sign 21 = .ok (.iconst 4, 1) := by decide +kernel
theorem dX8_sign_22 : decode cX8_sign 22 = .ok (.if_icmp .lt 9, 3) := by decide +kernel
theorem dX8_sign_25 : decode cX8_sign 25 = .ok (.sipush (-1004), 3) := by decide +kernel
theorem dX8_sign_28 : decode cX8_sign 28 = .ok (.goto 11, 3) := by decide +kernel
theorem dX8_sign_31 : decode cX8_sign 31 = .ok (.aload_n 0, 1) := by decide +kernel
theorem dX8_sign_32 : decode cX8_sign 32 = .ok (.getfield 62, 3) := by decide +kernel
theorem dX8_sign_35 : decode cX8_sign 35 = .ok (.iload_n 1, 1) := by decide +kernel
theorem dX8_sign_36 : decode cX8_sign 36 = .ok (.invokevirtual 237, 3) := by decide +kernel
theorem dX8_sign_39 : decode cX8_sign 39 = .ok (.ireturn, 1) := by decide +kernel
set_option maxRecDepth 20000 in
theorem ok_94 {l : Launch} {d : Nat} (IH : ∀ μ, μ < 196 → px_Met l px_P d μ) : px_ok l px_P d RX8 cX8_sign 2 (some .int) tb_94 :=
  ⟨px_Sp.of (ps_iload_n dX8_sign_0 rfl),
   px_Sp.of (ps_if_lt dX8_sign_1 (by decide)),
   px_Sp.of (ps_iload_n dX8_sign_4 rfl),
   px_Sp.of (ps_bipush dX8_sign_5 (by decide)),
   px_Sp.of (ps_icmp_le dX8_sign_7 (by decide)),
   px_Sp.of (ps_sipush dX8_sign_10 (by decide)),
   ps_iret dX8_sign_13,
   px_Sp.of (ps_aload_n dX8_sign_14 rfl),
   px_Sp.of (ps_get kc_X8 (by decide) wf_RX8_62 dX8_sign_15),
   px_Sp.of (ps_get kc_X4 (by decide) wf_RX8_186 dX8_sign_18),
   px_Sp.of (ps_iconst dX8_sign_21 (by decide)),
   px_Sp.of (ps_icmp_lt dX8_sign_22 (by decide)),
   px_Sp.of (ps_sipush dX8_sign_25 (by decide)),
   px_Sp.of (ps_goto dX8_sign_28 (by decide)),
   px_Sp.of (ps_aload_n dX8_sign_31 rfl),
   px_Sp.of (ps_get kc_X8 (by decide) wf_RX8_62 dX8_sign_32),
   px_Sp.of (ps_iload_n dX8_sign_35 rfl),
   ps_callV (IH 95 (by decide)) (C := RX4) (T := TX4) (N := 2) (ci := 4) rfl rfl (fc_95 _ _) wm_RX8_237 wi_yX4_addSign wl_yX4_addSign dX8_sign_36,
   ps_iret dX8_sign_39, trivial⟩
theorem mt_94 {l : Launch} {d : Nat} (IH : ∀ μ, μ < 196 → px_Met l px_P d μ) : px_Met l px_P (d + 1) 94 := px_met (own := RX8) rfl (by decide +kernel) (ok_94 IH)
theorem dX4_addSign_0 : decode cX4_addSign 0 = .ok (.aload_n 0, 1) := by decide +kernel
theorem dX4_addSign_1 : decode cX4_addSign 1 = .ok (.getfield 15, 3) := by decide +kernel
theorem dX4_addSign_4 : decode cX4_addSign 4 = .ok (.iconst 4, 1) := by decide +kernel
theorem dX4_addSign_5 : decode cX4_addSign 5 = .ok (.if_icmp .ge 23, 3) := by decide +kernel
theorem dX4_addSign_8 : decode cX4_addSign 8 = .ok (.aload_n 0, 1) := by decide +kernel
theorem dX4_addSign_9 : decode cX4_addSign 9 = .ok (.getfield 9, 3) := by decide +kernel
theorem dX4_addSign_12 : decode cX4_addSign 12 = .ok (.aload_n 0, 1) := by decide +kernel
theorem dX4_addSign_13 : decode cX4_addSign 13 = .ok (.getfield 15, 3) := by decide +kernel
theorem dX4_addSign_16 : decode cX4_addSign 16 = .ok (.iload_n 1, 1) := by decide +kernel
theorem dX4_addSign_17 : decode cX4_addSign 17 = .ok (.iastore, 1) := by decide +kernel
theorem dX4_addSign_18 : decode cX4_addSign 18 = .ok (.aload_n 0, 1) := by decide +kernel
theorem dX4_addSign_19 : decode cX4_addSign 19 = .ok (.dup, 1) := by decide +kernel
theorem dX4_addSign_20 : decode cX4_addSign 20 = .ok (.getfield 15, 3) := by decide +kernel
theorem dX4_addSign_23 : decode cX4_addSign 23 = .ok (.iconst 1, 1) := by decide +kernel
theorem dX4_addSign_24 : decode cX4_addSign 24 = .ok (.iadd, 1) := by decide +kernel
theorem dX4_addSign_25 : decode cX4_addSign 25 = .ok (.putfield 15, 3) := by decide +kernel
theorem dX4_addSign_28 : decode cX4_addSign 28 = .ok (.aload_n 0, 1) := by decide +kernel
theorem dX4_addSign_29 : decode cX4_addSign 29 = .ok (.getfield 15, 3) := by decide +kernel
theorem dX4_addSign_32 : decode cX4_addSign 32 = .ok (.ireturn, 1) := by decide +kernel
set_option maxRecDepth 20000 in
theorem ok_95 {l : Launch} {d : Nat} (IH : ∀ μ, μ < 196 → px_Met l px_P d μ) : px_ok l px_P d RX4 cX4_addSign 2 (some .int) tb_95 :=
  ⟨px_Sp.of (ps_aload_n dX4_addSign_0 rfl),
   px_Sp.of (ps_get kc_X4 (by decide) wf_RX4_15 dX4_addSign_1),
   px_Sp.of (ps_iconst dX4_addSign_4 (by decide)),
   px_Sp.of (ps_icmp_ge dX4_addSign_5 (by decide)),
   px_Sp.of (ps_aload_n dX4_addSign_8 rfl),
   px_Sp.of (ps_get kc_X4 (by decide) wf_RX4_9 dX4_addSign_9),
   px_Sp.of (ps_aload_n dX4_addSign_12 rfl),
   px_Sp.of (ps_get kc_X4 (by decide) wf_RX4_15 dX4_addSign_13),
   px_Sp.of (ps_iload_n dX4_addSign_16 rfl),
   px_Sp.ofm (ps_iast dX4_addSign_17),
   px_Sp.of (ps_aload_n dX4_addSign_18 rfl),
   px_Sp.of (ps_dup dX4_addSign_19),
   px_Sp.of (ps_get kc_X4 (by decide) wf_RX4_15 dX4_addSign_20),
   px_Sp.of (ps_iconst dX4_addSign_23 (by decide)),
   px_Sp.of (ps_iadd dX4_addSign_24),
   px_Sp.ofm (ps_putI kc_X4 (by decide) wf_RX4_15 rfl (by decide +kernel) kp_X4_1 dX4_addSign_25),
   px_Sp.of (ps_aload_n dX4_addSign_28 rfl),
   px_Sp.of (ps_get kc_X4 (by decide) wf_RX4_15 dX4_addSign_29),
   ps_iret dX4_addSign_32, trivial⟩
theorem mt_95 {l : Launch} {d : Nat} (IH : ∀ μ, μ < 196 → px_Met l px_P d μ) : px_Met l px_P (d + 1) 95 := px_met (own := RX4) rfl (by decide +kernel) (ok_95 IH)
theorem dX8_clear_0 : decode cX8_clear 0 = .ok (.aload_n 0, 1) := by decide +kernel
theorem dX8_clear_1 : decode cX8_clear 1 = .ok (.getfield 62, 3) := by decide +kernel
theorem dX8_clear_4 : decode cX8_clear 4 = .ok (.getfield 186, 3) := by decide +kernel
theorem dX8_clear_7 : decode cX8_clear 7 = .ok (.istore_n 1, 1) := by decide +kernel
theorem dX8_clear_8 : decode cX8_clear 8 = .ok (.aload_n 0, 1) := by decide +kernel
theorem dX8_clear_9 : decode cX8_clear 9 = .ok (.getfield 62, 3) := by decide +kernel
theorem dX8_clear_12 : decode cX8_clear 12 = .ok (.iconst 0, 1) := by decide +kernel
theorem dX8_clear_13 : decode cX8_clear 13 = .ok (.putfield 186, 3) := by decide +kernel
theorem dX8_clear_16 : decode cX8_clear 16 = .ok (.iload_n 1, 1) := by decide +kernel
theorem dX8_clear_17 : decode cX8_clear 17 = .ok (.ireturn, 1) := by decide +kernel
set_option maxRecDepth 20000 in
theorem ok_96 {l : Launch} {d : Nat} (IH : ∀ μ, μ < 196 → px_Met l px_P d μ) : px_ok l px_P d RX8 cX8_clear 2 (some .int) tb_96 :=
  ⟨px_Sp.of (ps_aload_n dX8_clear_0 rfl),
   px_Sp.of (ps_get kc_X8 (by decide) wf_RX8_62 dX8_clear_1),
   px_Sp.of (ps_get kc_X4 (by decide) wf_RX8_186 dX8_clear_4),
   px_Sp.of (ps_istore_n dX8_clear_7 rfl (by decide)),
   px_Sp.of (ps_aload_n dX8_clear_8 rfl),
   px_Sp.of (ps_get kc_X8 (by decide) wf_RX8_62 dX8_clear_9),
   px_Sp.of (ps_iconst dX8_clear_12 (by decide)),
   px_Sp.ofm (ps_putI kc_X4 (by decide) wf_RX8_186 rfl (by decide +kernel) kp_X4_1 dX8_clear_13),
   px_Sp.of (ps_iload_n dX8_clear_16 rfl),
   ps_iret dX8_clear_17, trivial⟩
theorem mt_96 {l : Launch} {d : Nat} (IH : ∀ μ, μ < 196 → px_Met l px_P d μ) : px_Met l px_P (d + 1) 96 := px_met (own := RX8) rfl (by decide +kernel) (ok_96 IH)
theorem dX8_seek_0 : decode cX8_seek 0 = .ok (.iload_n 1, 1) := by decide +kernel
theorem dX8_seek_1 : decode cX8_seek 1 = .ok (.iconst (-1), 1) := by decide +kernel
theorem dX8_seek_2 : decode cX8_seek 2 = .ok (.if_icmp .eq 10, 3) := by decide +kernel
theorem dX8_seek_5 : decode cX8_seek 5 = .ok (.iload_n 1, 1) := by decide +kernel
theorem dX8_seek_6 : decode cX8_seek 6 = .ok (.invokestatic 91, 3) := by decide +kernel
theorem dX8_seek_9 : decode cX8_seek 9 = .ok (.ifCond .ne 12, 3) := by decide +kernel
theorem dX8_seek_12 : decode cX8_seek 12 = .ok (.iload_n 2, 1) := by decide +kernel
theorem dX8_seek_13 : decode cX8_seek 13 = .ok (.ifCond .lt 8, 3) := by decide +kernel
theorem dX8_seek_16 : decode cX8_seek 16 = .ok (.iload_n 2, 1) := by decide +kernel
theorem dX8_seek_17 : decode cX8_seek 17 = .ok (.iconst 2, 1) := by decide +kernel
theorem dX8_seek_18 : decode cX8_seek 18 = .ok (.if_icmp .le 7, 3) := by decide +kernel
theorem dX8_seek_21 : decode cX8_seek 21 = .ok (.sipush (-1002), 3) := by decide +kernel
theorem dX8_seek_24 : decode cX8_seek 24 = .ok (.ireturn, 1) := by decide +kernel
theorem dX8_seek_25 : decode cX8_seek 25 = .ok (.aload_n 0, 1) := by decide +kernel
theorem dX8_seek_26 : decode cX8_seek 26 = .ok (.getfield 62, 3) := by decide +kernel
theorem dX8_seek_29 : decode cX8_seek 29 = .ok (.getfield 186, 3) := by decide +kernel
theorem dX8_seek_32 : decode cX8_seek 32 = .ok (.ifCond .ne 7, 3) := by decide +kernel
theorem dX8_seek_35 : decode cX8_seek 35 = .ok (.sipush (-1003), 3) := by decide +kernel
theorem dX8_seek_38 : decode cX8_seek 38 = .ok (.ireturn, 1) := by decide +kernel
theorem dX8_seek_39 : decode cX8_seek 39 = .ok (.iconst 0, 1) := by decide +kernel
theorem dX8_seek_40 : decode cX8_seek 40 = .ok (.istore 4, 2) := by decide +kernel
theorem dX8_seek_42 : decode cX8_seek 42 = .ok (.iconst 0, 1) := by decide +kernel
theorem dX8_seek_43 : decode cX8_seek 43 = .ok (.istore 5, 2) := by decide +kernel
theorem dX8_seek_45 : decode cX8_seek 45 = .ok (.iload 5, 2) := by decide +kernel
theorem dX8_seek_47 : decode cX8_seek 47 = .ok (.aload_n 0, 1) := by decide +kernel
theorem dX8_seek_48 : decode cX8_seek 48 = .ok (.getfield 25, 3) := by decide +kernel
theorem dX8_seek_51 : decode cX8_seek 51 = .ok (.getfield 97, 3) := by decide +kernel
theorem dX8_seek_54 : decode cX8_seek 54 = .ok (.if_icmp .ge 128, 3) := by decide +kernel
theorem dX8_seek_57 : decode cX8_seek 57 = .ok (.aload_n 0, 1) := by decide +kernel
theorem dX8_seek_58 : decode cX8_seek 58 = .ok (.getfield 25, 3) := by decide +kernel
theorem dX8_seek_61 : decode cX8_seek 61 = .ok (.iload 5, 2) := by decide +kernel
theorem dX8_seek_63 : decode cX8_seek 63 = .ok (.invokevirtual 143, 3) := by decide +kernel
theorem dX8_seek_66 : decode cX8_seek 66 = .ok (.ifCond .eq 110, 3) := by decide +kernel
theorem dX8_seek_69 : decode cX8_seek 69 = .ok (.iload_n 1, 1) := by decide +kernel
theorem dX8_seek_70 : decode cX8_seek 70 = .ok (.iconst (-1), 1) := by decide +kernel
theorem dX8_seek_71 : decode cX8_seek 71 = .ok (.if_icmp .eq 20, 3) := by decide +kernel
theorem dX8_seek_74 : decode cX8_seek 74 = .ok (.aload_n 0, 1) := by decide +kernel
theorem dX8_seek_75 : decode cX8_seek 75 = .ok (.getfield 25, 3) := by decide +kernel
theorem dX8_seek_78 : decode cX8_seek 78 = .ok (.getfield 131, 3) := by decide +kernel
theorem dX8_seek_81 : decode cX8_seek 81 = .ok (.iload 5, 2) := by decide +kernel
theorem dX8_seek_83 : decode cX8_seek 83 = .ok (.iaload, 1) := by decide +kernel
theorem dX8_seek_84 : decode cX8_seek 84 = .ok (.iload_n 1, 1) := by decide +kernel
theorem dX8_seek_85 : decode cX8_seek 85 = .ok (.if_icmp .eq 6, 3) := by decide +kernel
theorem dX8_seek_88 : decode cX8_seek 88 = .ok (.goto 88, 3) := by decide +kernel
theorem dX8_seek_91 : decode cX8_seek 91 = .ok (.iconst 0, 1) := by decide +kernel
theorem dX8_seek_92 : decode cX8_seek 92 = .ok (.istore 6, 2) := by decide +kernel
theorem dX8_seek_94 : decode cX8_seek 94 = .ok (.iload 6, 2) := by decide +kernel
theorem dX8_seek_96 : decode cX8_seek 96 = .ok (.aload_n 0, 1) := by decide +kernel
theorem dX8_seek_97 : decode cX8_seek 97 = .ok (.getfield 25, 3) := by decide +kernel
theorem dX8_seek_100 : decode cX8_seek 100 = .ok (.getfield 107, 3) := by decide +kernel
theorem dX8_seek_103 : decode cX8_seek 103 = .ok (.iload 5, 2) := by decide +kernel
theorem dX8_seek_105 : decode cX8_seek 105 = .ok (.iaload, 1) := by decide +kernel
theorem dX8_seek_106 : decode cX8_seek 106 = .ok (.if_icmp .ge 70, 3) := by decide +kernel
theorem dX8_seek_109 : decode cX8_seek 109 = .ok (.iload 5, 2) := by decide +kernel
theorem dX8_seek_111 : decode cX8_seek 111 = .ok (.iload 6, 2) := by decide +kernel
theorem dX8_seek_113 : decode cX8_seek 113 = .ok (.invokestatic 157, 3) := by decide +kernel
theorem dX8_seek_116 : decode cX8_seek 116 = .ok (.istore 7, 2) := by decide +kernel
theorem dX8_seek_118 : decode cX8_seek 118 = .ok (.aload_n 0, 1) := by decide +kernel
theorem dX8_seek_119 : decode cX8_seek 119 = .ok (.getfield 25, 3) := by decide +kernel
theorem dX8_seek_122 : decode cX8_seek 122 = .ok (.getfield 160, 3) := by decide +kernel
theorem dX8_seek_125 : decode cX8_seek 125 = .ok (.iload 7, 2) := by decide +kernel
theorem dX8_seek_127 : decode cX8_seek 127 = .ok (.iaload, 1) := by decide +kernel
theorem dX8_seek_128 : decode cX8_seek 128 = .ok (.iload_n 2, 1) := by decide +kernel
theorem dX8_seek_129 : decode cX8_seek 129 = .ok (.invokestatic 240, 3) := by decide +kernel
theorem dX8_seek_132 : decode cX8_seek 132 = .ok (.ifCond .eq 38, 3) := by decide +kernel
theorem dX8_seek_135 : decode cX8_seek 135 = .ok (.aload_n 0, 1) := by decide +kernel
theorem dX8_seek_136 : decode cX8_seek 136 = .ok (.getfield 62, 3) := by decide +kernel
theorem dX8_seek_139 : decode cX8_seek 139 = .ok (.aload_n 0, 1) := by decide +kernel
theorem dX8_seek_140 : decode cX8_seek 140 = .ok (.getfield 25, 3) := by decide +kernel
theorem dX8_seek_143 : decode cX8_seek 143 = .ok (.getfield 163, 3) := by decide +kernel
theorem dX8_seek_146 : decode cX8_seek 146 = .ok (.iload 7, 2) := by decide +kernel
theorem dX8_seek_148 : decode cX8_seek 148 = .ok (.laload, 1) := by decide +kernel
theorem dX8_seek_149 : decode cX8_seek 149 = .ok (.invokevirtual 243, 3) := by decide +kernel
theorem dX8_seek_152 : decode cX8_seek 152 = .ok (.ifCond .ne 6, 3) := by decide +kernel
theorem dX8_seek_155 : decode cX8_seek 155 = .ok (.goto 15, 3) := by decide +kernel
theorem dX8_seek_158 : decode cX8_seek 158 = .ok (.iload 4, 2) := by decide +kernel
theorem dX8_seek_160 : decode cX8_seek 160 = .ok (.iload_n 3, 1) := by decide +kernel
theorem dX8_seek_161 : decode cX8_seek 161 = .ok (.if_icmp .ne 6, 3) := by decide +kernel
theorem dX8_seek_164 : decode cX8_seek 164 = .ok (.iload 7, 2) := by decide +kernel
theorem dX8_seek_166 : decode cX8_seek 166 = .ok (.ireturn, 1) := by decide +kernel
theorem dX8_seek_167 : decode cX8_seek 167 = .ok (.iinc 4 1, 3) := by decide +kernel
theorem dX8_seek_170 : decode cX8_seek 170 = .ok (.iinc 6 1, 3) := by decide +kernel
theorem dX8_seek_173 : decode cX8_seek 173 = .ok (.goto (-79), 3) := by decide +kernel
theorem dX8_seek_176 : decode cX8_seek 176 = .ok (.iinc 5 1, 3) := by decide +kernel
theorem dX8_seek_179 : decode cX8_seek 179 = .ok (.goto (-134), 3) := by decide +kernel
theorem dX8_seek_182 : decode cX8_seek 182 = .ok (.iload_n 3, 1) := by decide +kernel
theorem dX8_seek_183 : decode cX8_seek 183 = .ok (.iconst (-1), 1) := by decide +kernel
theorem dX8_seek_184 : decode cX8_seek 184 = .ok (.if_icmp .ne 8, 3) := by decide +kernel
theorem dX8_seek_187 : decode cX8_seek 187 = .ok (.iload 4, 2) := by decide +kernel
theorem dX8_seek_189 : decode cX8_seek 189 = .ok (.goto 4, 3) := by decide +kernel
theorem dX8_seek_192 : decode cX8_seek 192 = .ok (.iconst (-1), 1) := by decide +kernel
theorem dX8_seek_193 : decode cX8_seek 193 = .ok (.ireturn, 1) := by decide +kernel
set_option maxRecDepth 20000 in
theorem ok_97 {l : Launch} {d : Nat} (IH : ∀ μ, μ < 196 → px_Met l px_P d μ) : px_ok l px_P d RX8 cX8_seek 8 (some .int) tb_97 :=
  ⟨px_Sp.of (ps_iload_n dX8_seek_0 rfl),
   px_Sp.of (ps_iconst dX8_seek_1 (by decide)),
   px_Sp.of (ps_icmp_eq dX8_seek_2 (by decide)),
   px_Sp.of (ps_iload_n dX8_seek_5 rfl),
   ps_callS (IH 5 (by decide)) (fc_5 _ _) wm_RX8_91 ws_yX8_isWrongWriter dX8_seek_6,
   px_Sp.of (ps_if_ne dX8_seek_9 (by decide)),
   px_Sp.of (ps_iload_n dX8_seek_12 rfl),
   px_Sp.of (ps_if_lt dX8_seek_13 (by decide)),
   px_Sp.of (ps_iload_n dX8_seek_16 rfl),
   px_Sp.of (ps_iconst dX8_seek_17 (by decide)),
   px_Sp.of (ps_icmp_le dX8_seek_18 (by decide)),
   px_Sp.of (ps_sipush dX8_seek_21 (by decide)),
   ps_iret dX8_seek_24,
   px_Sp.of (ps_aload_n dX8_seek_25 rfl),
   px_Sp.of (ps_get kc_X8 (by decide) wf_RX8_62 dX8_seek_26),
   px_Sp.of (ps_get kc_X4 (by decide) wf_RX8_186 dX8_seek_29),
   px_Sp.of (ps_if_ne dX8_seek_32 (by decide)),
   px_Sp.of (ps_sipush dX8_seek_35 (by decide)),
   ps_iret dX8_seek_38,
   px_Sp.of (ps_iconst dX8_seek_39 (by decide)),
   px_Sp.of (ps_istore dX8_seek_40 (by decide)),
   px_Sp.of (ps_iconst dX8_seek_42 (by decide)),
   px_Sp.of (ps_istore dX8_seek_43 (by decide)),
   px_Sp.of (ps_iload dX8_seek_45),
   px_Sp.of (ps_aload_n dX8_seek_47 rfl),
   px_Sp.of (ps_get kc_X8 (by decide) wf_RX8_25 dX8_seek_48),
   px_Sp.of (ps_get kc_X1 (by decide) wf_RX8_97 dX8_seek_51),
   px_Sp.of (ps_icmp_ge dX8_seek_54 (by decide)),
   px_Sp.of (ps_aload_n dX8_seek_57 rfl),
   px_Sp.of (ps_get kc_X8 (by decide) wf_RX8_25 dX8_seek_58),
   px_Sp.of (ps_iload dX8_seek_61),
   ps_callV (IH 21 (by decide)) (C := RX1) (T := TX1) (N := 10) (ci := 1) rfl rfl (fc_21 _ _) wm_RX8_143 wi_yX1_isSeen wl_yX1_isSeen dX8_seek_63,
   px_Sp.of (ps_if_eq dX8_seek_66 (by decide)),
   px_Sp.of (ps_iload_n dX8_seek_69 rfl),
   px_Sp.of (ps_iconst dX8_seek_70 (by decide)),
   px_Sp.of (ps_icmp_eq dX8_seek_71 (by decide)),
   px_Sp.of (ps_aload_n dX8_seek_74 rfl),
   px_Sp.of (ps_get kc_X8 (by decide) wf_RX8_25 dX8_seek_75),
   px_Sp.of (ps_get kc_X1 (by decide) wf_RX8_131 dX8_seek_78),
   px_Sp.of (ps_iload dX8_seek_81),
   px_Sp.of (ps_iald dX8_seek_83),
   px_Sp.of (ps_iload_n dX8_seek_84 rfl),
   px_Sp.of (ps_icmp_eq dX8_seek_85 (by decide)),
   px_Sp.of (ps_goto dX8_seek_88 (by decide)),
   px_Sp.of (ps_iconst dX8_seek_91 (by decide)),
   px_Sp.of (ps_istore dX8_seek_92 (by decide)),
   px_Sp.of (ps_iload dX8_seek_94),
   px_Sp.of (ps_aload_n dX8_seek_96 rfl),
   px_Sp.of (ps_get kc_X8 (by decide) wf_RX8_25 dX8_seek_97),
   px_Sp.of (ps_get kc_X1 (by decide) wf_RX8_107 dX8_seek_100),
   px_Sp.of (ps_iload dX8_seek_103),
   px_Sp.of (ps_iald dX8_seek_105),
   px_Sp.of (ps_icmp_ge dX8_seek_106 (by decide)),
   px_Sp.of (ps_iload dX8_seek_109),
   px_Sp.of (ps_iload dX8_seek_111),
   ps_callS (IH 11 (by decide)) (fc_11 _ _) wm_RX8_157 ws_yX8_spotOf dX8_seek_113,
   px_Sp.of (ps_istore dX8_seek_116 (by decide)),
   px_Sp.of (ps_aload_n dX8_seek_118 rfl),
   px_Sp.of (ps_get kc_X8 (by decide) wf_RX8_25 dX8_seek_119),
   px_Sp.of (ps_get kc_X1 (by decide) wf_RX8_160 dX8_seek_122),
   px_Sp.of (ps_iload dX8_seek_125),
   px_Sp.of (ps_iald dX8_seek_127),
   px_Sp.of (ps_iload_n dX8_seek_128 rfl),
   ps_callS (IH 98 (by decide)) (fc_98 _ _) wm_RX8_240 ws_yX8_isWhere dX8_seek_129,
   px_Sp.of (ps_if_eq dX8_seek_132 (by decide)),
   px_Sp.of (ps_aload_n dX8_seek_135 rfl),
   px_Sp.of (ps_get kc_X8 (by decide) wf_RX8_62 dX8_seek_136),
   px_Sp.of (ps_aload_n dX8_seek_139 rfl),
   px_Sp.of (ps_get kc_X8 (by decide) wf_RX8_25 dX8_seek_140),
   px_Sp.of (ps_get kc_X1 (by decide) wf_RX8_163 dX8_seek_143),
   px_Sp.of (ps_iload dX8_seek_146),
   px_Sp.of (ps_lald dX8_seek_148),
   ps_callV (IH 99 (by decide)) (C := RX4) (T := TX4) (N := 2) (ci := 4) rfl rfl (fc_99 _ _) wm_RX8_243 wi_yX4_standsIn wl_yX4_standsIn dX8_seek_149,
   px_Sp.of (ps_if_ne dX8_seek_152 (by decide)),
   px_Sp.of (ps_goto dX8_seek_155 (by decide)),
   px_Sp.of (ps_iload dX8_seek_158),
   px_Sp.of (ps_iload_n dX8_seek_160 rfl),
   px_Sp.of (ps_icmp_ne dX8_seek_161 (by decide)),
   px_Sp.of (ps_iload dX8_seek_164),
   ps_iret dX8_seek_166,
   px_Sp.of (ps_iinc dX8_seek_167 (by decide) (by decide)),
   px_Sp.of (ps_iinc dX8_seek_170 (by decide) (by decide)),
   px_Sp.of (ps_goto dX8_seek_173 (by decide)),
   px_Sp.of (ps_iinc dX8_seek_176 (by decide) (by decide)),
   px_Sp.of (ps_goto dX8_seek_179 (by decide)),
   px_Sp.of (ps_iload_n dX8_seek_182 rfl),
   px_Sp.of (ps_iconst dX8_seek_183 (by decide)),
   px_Sp.of (ps_icmp_ne dX8_seek_184 (by decide)),
   px_Sp.of (ps_iload dX8_seek_187),
   px_Sp.of (ps_goto dX8_seek_189 (by decide)),
   px_Sp.of (ps_iconst dX8_seek_192 (by decide)),
   ps_iret dX8_seek_193, trivial⟩
theorem mt_97 {l : Launch} {d : Nat} (IH : ∀ μ, μ < 196 → px_Met l px_P d μ) : px_Met l px_P (d + 1) 97 := px_met (own := RX8) rfl (by decide +kernel) (ok_97 IH)
