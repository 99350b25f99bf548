/-! ===== tables that are right, 8 ===== -/
theorem dX9_origin_0 : decode cX9_origin 0 = .ok (.aload_n 0, 1) := by decide +kernel
theorem dX9_origin_1 : decode cX9_origin 1 = .ok (.iload_n 1, 1) := by decide +kernel
theorem dX9_origin_2 : decode cX9_origin 2 = .ok (.iload_n 2, 1) := by decide +kernel
theorem dX9_origin_3 : decode cX9_origin 3 = .ok (.invokevirtual 128, 3) := by decide +kernel
theorem dX9_origin_6 : decode cX9_origin 6 = .ok (.ifCond .eq 7, 3) := by decide +kernel
theorem dX9_origin_9 : decode cX9_origin 9 = .ok (.sipush (-1001), 3) := by decide +kernel
theorem dX9_origin_12 : decode cX9_origin 12 = .ok (.ireturn, 1) := by decide +kernel
theorem dX9_origin_13 : decode cX9_origin 13 = .ok (.iload_n 3, 1) := by decide +kernel
theorem dX9_origin_14 : decode cX9_origin 14 = .ok (.i2l, 1) := by decide +kernel
theorem dX9_origin_15 : decode cX9_origin 15 = .ok (.lconst 0, 1) := by decide +kernel
theorem dX9_origin_16 : decode cX9_origin 16 = .ok (.ldc2_w 167, 3) := by decide +kernel
theorem dX9_origin_19 : decode cX9_origin 19 = .ok (.invokestatic 95, 3) := by decide +kernel
theorem dX9_origin_22 : decode cX9_origin 22 = .ok (.ifCond .ne 7, 3) := by decide +kernel
theorem dX9_origin_25 : decode cX9_origin 25 = .ok (.sipush (-1002), 3) := by decide +kernel
theorem dX9_origin_28 : decode cX9_origin 28 = .ok (.ireturn, 1) := by decide +kernel
theorem dX9_origin_29 : decode cX9_origin 29 = .ok (.aload_n 0, 1) := by decide +kernel
theorem dX9_origin_30 : decode cX9_origin 30 = .ok (.iload_n 1, 1) := by decide +kernel
theorem dX9_origin_31 : decode cX9_origin 31 = .ok (.invokevirtual 135, 3) := by decide +kernel
theorem dX9_origin_34 : decode cX9_origin 34 = .ok (.ifCond .ne 7, 3) := by decide +kernel
theorem dX9_origin_37 : decode cX9_origin 37 = .ok (.sipush (-1003), 3) := by decide +kernel
theorem dX9_origin_40 : decode cX9_origin 40 = .ok (.ireturn, 1) := by decide +kernel
theorem dX9_origin_41 : decode cX9_origin 41 = .ok (.aload_n 0, 1) := by decide +kernel
theorem dX9_origin_42 : decode cX9_origin 42 = .ok (.invokevirtual 152, 3) := by decide +kernel
theorem dX9_origin_45 : decode cX9_origin 45 = .ok (.aload_n 0, 1) := by decide +kernel
theorem dX9_origin_46 : decode cX9_origin 46 = .ok (.bipush 14, 2) := by decide +kernel
theorem dX9_origin_48 : decode cX9_origin 48 = .ok (.iload_n 1, 1) := by decide +kernel
theorem dX9_origin_49 : decode cX9_origin 49 = .ok (.imul, 1) := by decide +kernel
theorem dX9_origin_50 : decode cX9_origin 50 = .ok (.iload_n 2, 1) := by decide +kernel
theorem dX9_origin_51 : decode cX9_origin 51 = .ok (.iadd, 1) := by decide +kernel
theorem dX9_origin_52 : decode cX9_origin 52 = .ok (.invokevirtual 169, 3) := by decide +kernel
theorem dX9_origin_55 : decode cX9_origin 55 = .ok (.istore 4, 2) := by decide +kernel
theorem dX9_origin_57 : decode cX9_origin 57 = .ok (.iload 4, 2) := by decide +kernel
theorem dX9_origin_59 : decode cX9_origin 59 = .ok (.ifCond .ge 7, 3) := by decide +kernel
theorem dX9_origin_62 : decode cX9_origin 62 = .ok (.iconst (-1), 1) := by decide +kernel
theorem dX9_origin_63 : decode cX9_origin 63 = .ok (.goto 38, 3) := by decide +kernel
theorem dX9_origin_66 : decode cX9_origin 66 = .ok (.iload_n 3, 1) := by decide +kernel
theorem dX9_origin_67 : decode cX9_origin 67 = .ok (.ifCond .ne 11, 3) := by decide +kernel
theorem dX9_origin_70 : decode cX9_origin 70 = .ok (.iload 4, 2) := by decide +kernel
theorem dX9_origin_72 : decode cX9_origin 72 = .ok (.bipush 14, 2) := by decide +kernel
theorem dX9_origin_74 : decode cX9_origin 74 = .ok (.idiv, 1) := by decide +kernel
theorem dX9_origin_75 : decode cX9_origin 75 = .ok (.goto 26, 3) := by decide +kernel
theorem dX9_origin_78 : decode cX9_origin 78 = .ok (.iload_n 3, 1) := by decide +kernel
theorem dX9_origin_79 : decode cX9_origin 79 = .ok (.iconst 1, 1) := by decide +kernel
theorem dX9_origin_80 : decode cX9_origin 80 = .ok (.if_icmp .ne 11, 3) := by decide +kernel
theorem dX9_origin_83 : decode cX9_origin 83 = .ok (.iload 4, 2) := by decide +kernel
theorem dX9_origin_85 : decode cX9_origin 85 = .ok (.bipush 14, 2) := by decide +kernel
theorem dX9_origin_87 : decode cX9_origin 87 = .ok (.irem, 1) := by decide +kernel
theorem dX9_origin_88 : decode cX9_origin 88 = .ok (.goto 13, 3) := by decide +kernel
theorem dX9_origin_91 : decode cX9_origin 91 = .ok (.aload_n 0, 1) := by decide +kernel
theorem dX9_origin_92 : decode cX9_origin 92 = .ok (.getfield 13, 3) := by decide +kernel
theorem dX9_origin_95 : decode cX9_origin 95 = .ok (.iload 4, 2) := by decide +kernel
theorem dX9_origin_97 : decode cX9_origin 97 = .ok (.bipush 14, 2) := by decide +kernel
theorem dX9_origin_99 : decode cX9_origin 99 = .ok (.idiv, 1) := by decide +kernel
theorem dX9_origin_100 : decode cX9_origin 100 = .ok (.iaload, 1) := by decide +kernel
theorem dX9_origin_101 : decode cX9_origin 101 = .ok (.ireturn, 1) := by decide +kernel
set_option maxRecDepth 20000 in
theorem ok_154 {l : Launch} {d : Nat} (IH : ∀ μ, μ < 196 → px_Met l px_P d μ) : px_ok l px_P d RX9 cX9_origin 5 (some .int) tb_154 :=
  ⟨px_Sp.of (ps_aload_n dX9_origin_0 rfl),
   px_Sp.of (ps_iload_n dX9_origin_1 rfl),
   px_Sp.of (ps_iload_n dX9_origin_2 rfl),
   ps_callV (IH 140 (by decide)) (C := RX9) (T := TX9) (N := 36) (ci := 8) rfl rfl (fc_140 _ _) wm_RX9_128 wi_yX9_noLine wl_yX9_noLine dX9_origin_3,
   px_Sp.of (ps_if_eq dX9_origin_6 (by decide)),
   px_Sp.of (ps_sipush dX9_origin_9 (by decide)),
   ps_iret dX9_origin_12,
   px_Sp.of (ps_iload_n dX9_origin_13 rfl),
   px_Sp.of (ps_i2l dX9_origin_14),
   px_Sp.of (ps_lconst dX9_origin_15 (by decide)),
   px_Sp.of (ps_ldc2 dX9_origin_16 wk_RX9_167),
   ps_callS (IH 130 (by decide)) (fc_130 _ _) wm_RX9_95 ws_yX9_in dX9_origin_19,
   px_Sp.of (ps_if_ne dX9_origin_22 (by decide)),
   px_Sp.of (ps_sipush dX9_origin_25 (by decide)),
   ps_iret dX9_origin_28,
   px_Sp.of (ps_aload_n dX9_origin_29 rfl),
   px_Sp.of (ps_iload_n dX9_origin_30 rfl),
   ps_callV (IH 143 (by decide)) (C := RX9) (T := TX9) (N := 36) (ci := 8) rfl rfl (fc_143 _ _) wm_RX9_135 wi_yX9_isSeen wl_yX9_isSeen dX9_origin_31,
   px_Sp.of (ps_if_ne dX9_origin_34 (by decide)),
   px_Sp.of (ps_sipush dX9_origin_37 (by decide)),
   ps_iret dX9_origin_40,
   px_Sp.of (ps_aload_n dX9_origin_41 rfl),
   ps_callV (IH 148 (by decide)) (C := RX9) (T := TX9) (N := 36) (ci := 8) rfl rfl (fc_148 _ _) wm_RX9_152 wi_yX9_findParents wl_yX9_findParents dX9_origin_42,
   px_Sp.of (ps_aload_n dX9_origin_45 rfl),
   px_Sp.of (ps_bipush dX9_origin_46 (by decide)),
   px_Sp.of (ps_iload_n dX9_origin_48 rfl),
   px_Sp.of (ps_imul dX9_origin_49),
   px_Sp.of (ps_iload_n dX9_origin_50 rfl),
   px_Sp.of (ps_iadd dX9_origin_51),
   ps_callV (IH 155 (by decide)) (C := RX9) (T := TX9) (N := 36) (ci := 8) rfl rfl (fc_155 _ _) wm_RX9_169 wi_yX9_originOf wl_yX9_originOf dX9_origin_52,
   px_Sp.of (ps_istore dX9_origin_55 (by decide)),
   px_Sp.of (ps_iload dX9_origin_57),
   px_Sp.of (ps_if_ge dX9_origin_59 (by decide)),
   px_Sp.of (ps_iconst dX9_origin_62 (by decide)),
   px_Sp.of (ps_goto dX9_origin_63 (by decide)),
   px_Sp.of (ps_iload_n dX9_origin_66 rfl),
   px_Sp.of (ps_if_ne dX9_origin_67 (by decide)),
   px_Sp.of (ps_iload dX9_origin_70),
   px_Sp.of (ps_bipush dX9_origin_72 (by decide)),
   px_Sp.of (ps_idiv dX9_origin_74),
   px_Sp.of (ps_goto dX9_origin_75 (by decide)),
   px_Sp.of (ps_iload_n dX9_origin_78 rfl),
   px_Sp.of (ps_iconst dX9_origin_79 (by decide)),
   px_Sp.of (ps_icmp_ne dX9_origin_80 (by decide)),
   px_Sp.of (ps_iload dX9_origin_83),
   px_Sp.of (ps_bipush dX9_origin_85 (by decide)),
   px_Sp.of (ps_irem dX9_origin_87),
   px_Sp.of (ps_goto dX9_origin_88 (by decide)),
   px_Sp.of (ps_aload_n dX9_origin_91 rfl),
   px_Sp.of (ps_get kc_X9 (by decide) wf_RX9_13 dX9_origin_92),
   px_Sp.of (ps_iload dX9_origin_95),
   px_Sp.of (ps_bipush dX9_origin_97 (by decide)),
   px_Sp.of (ps_idiv dX9_origin_99),
   px_Sp.of (ps_iald dX9_origin_100),
   ps_iret dX9_origin_101, trivial⟩
theorem mt_154 {l : Launch} {d : Nat} (IH : ∀ μ, μ < 196 → px_Met l px_P d μ) : px_Met l px_P (d + 1) 154 := px_met (own := RX9) rfl (by decide +kernel) (ok_154 IH)
theorem dX9_originOf_0 : decode cX9_originOf 0 = .ok (.iload_n 1, 1) := by decide +kernel
theorem dX9_originOf_1 : decode cX9_originOf 1 = .ok (.istore_n 2, 1) := by decide +kernel
theorem dX9_originOf_2 : decode cX9_originOf 2 = .ok (.iload_n 2, 1) := by decide +kernel
theorem dX9_originOf_3 : decode cX9_originOf 3 = .ok (.ifCond .lt 21, 3) := by decide +kernel
theorem dX9_originOf_6 : decode cX9_originOf 6 = .ok (.aload_n 0, 1) := by decide +kernel
theorem dX9_originOf_7 : decode cX9_originOf 7 = .ok (.getfield 29, 3) := by decide +kernel
theorem dX9_originOf_10 : decode cX9_originOf 10 = .ok (.iload_n 2, 1) := by decide +kernel
theorem dX9_originOf_11 : decode cX9_originOf 11 = .ok (.iaload, 1) := by decide +kernel
theorem dX9_originOf_12 : decode cX9_originOf 12 = .ok (.ifCond .le 12, 3) := by decide +kernel
theorem dX9_originOf_15 : decode cX9_originOf 15 = .ok (.aload_n 0, 1) := by decide +kernel
theorem dX9_originOf_16 : decode cX9_originOf 16 = .ok (.iload_n 2, 1) := by decide +kernel
theorem dX9_originOf_17 : decode cX9_originOf 17 = .ok (.invokevirtual 164, 3) := by decide +kernel
theorem dX9_originOf_20 : decode cX9_originOf 20 = .ok (.istore_n 2, 1) := by decide +kernel
theorem dX9_originOf_21 : decode cX9_originOf 21 = .ok (.goto (-19), 3) := by decide +kernel
theorem dX9_originOf_24 : decode cX9_originOf 24 = .ok (.iload_n 2, 1) := by decide +kernel
theorem dX9_originOf_25 : decode cX9_originOf 25 = .ok (.ireturn, 1) := by decide +kernel
set_option maxRecDepth 20000 in
theorem ok_155 {l : Launch} {d : Nat} (IH : ∀ μ, μ < 196 → px_Met l px_P d μ) : px_ok l px_P d RX9 cX9_originOf 3 (some .int) tb_155 :=
  ⟨px_Sp.of (ps_iload_n dX9_originOf_0 rfl),
   px_Sp.of (ps_istore_n dX9_originOf_1 rfl (by decide)),
   px_Sp.of (ps_iload_n dX9_originOf_2 rfl),
   px_Sp.of (ps_if_lt dX9_originOf_3 (by decide)),
   px_Sp.of (ps_aload_n dX9_originOf_6 rfl),
   px_Sp.of (ps_get kc_X9 (by decide) wf_RX9_29 dX9_originOf_7),
   px_Sp.of (ps_iload_n dX9_originOf_10 rfl),
   px_Sp.of (ps_iald dX9_originOf_11),
   px_Sp.of (ps_if_le dX9_originOf_12 (by decide)),
   px_Sp.of (ps_aload_n dX9_originOf_15 rfl),
   px_Sp.of (ps_iload_n dX9_originOf_16 rfl),
   ps_callV (IH 156 (by decide)) (C := RX9) (T := TX9) (N := 36) (ci := 8) rfl rfl (fc_156 _ _) wm_RX9_164 wi_yX9_heldTo wl_yX9_heldTo dX9_originOf_17,
   px_Sp.of (ps_istore_n dX9_originOf_20 rfl (by decide)),
   px_Sp.of (ps_goto dX9_originOf_21 (by decide)),
   px_Sp.of (ps_iload_n dX9_originOf_24 rfl),
   ps_iret dX9_originOf_25, trivial⟩
theorem mt_155 {l : Launch} {d : Nat} (IH : ∀ μ, μ < 196 → px_Met l px_P d μ) : px_Met l px_P (d + 1) 155 := px_met (own := RX9) rfl (by decide +kernel) (ok_155 IH)
theorem dX9_heldTo_0 : decode cX9_heldTo 0 = .ok (.aload_n 0, 1) := by decide +kernel
theorem dX9_heldTo_1 : decode cX9_heldTo 1 = .ok (.getfield 54, 3) := by decide +kernel
theorem dX9_heldTo_4 : decode cX9_heldTo 4 = .ok (.iload_n 1, 1) := by decide +kernel
theorem dX9_heldTo_5 : decode cX9_heldTo 5 = .ok (.bipush 14, 2) := by decide +kernel
theorem dX9_heldTo_7 : decode cX9_heldTo 7 = .ok (.idiv, 1) := by decide +kernel
theorem dX9_heldTo_8 : decode cX9_heldTo 8 = .ok (.iaload, 1) := by decide +kernel
theorem dX9_heldTo_9 : decode cX9_heldTo 9 = .ok (.istore_n 2, 1) := by decide +kernel
theorem dX9_heldTo_10 : decode cX9_heldTo 10 = .ok (.iload_n 2, 1) := by decide +kernel
theorem dX9_heldTo_11 : decode cX9_heldTo 11 = .ok (.ifCond .ge 5, 3) := by decide +kernel
theorem dX9_heldTo_14 : decode cX9_heldTo 14 = .ok (.iconst (-1), 1) := by decide +kernel
theorem dX9_heldTo_15 : decode cX9_heldTo 15 = .ok (.ireturn, 1) := by decide +kernel
theorem dX9_heldTo_16 : decode cX9_heldTo 16 = .ok (.iconst (-1), 1) := by decide +kernel
theorem dX9_heldTo_17 : decode cX9_heldTo 17 = .ok (.istore_n 3, 1) := by decide +kernel
theorem dX9_heldTo_18 : decode cX9_heldTo 18 = .ok (.aload_n 0, 1) := by decide +kernel
theorem dX9_heldTo_19 : decode cX9_heldTo 19 = .ok (.getfield 22, 3) := by decide +kernel
theorem dX9_heldTo_22 : decode cX9_heldTo 22 = .ok (.iload_n 2, 1) := by decide +kernel
theorem dX9_heldTo_23 : decode cX9_heldTo 23 = .ok (.iaload, 1) := by decide +kernel
theorem dX9_heldTo_24 : decode cX9_heldTo 24 = .ok (.iconst 1, 1) := by decide +kernel
theorem dX9_heldTo_25 : decode cX9_heldTo 25 = .ok (.isub, 1) := by decide +kernel
theorem dX9_heldTo_26 : decode cX9_heldTo 26 = .ok (.istore 4, 2) := by decide +kernel
theorem dX9_heldTo_28 : decode cX9_heldTo 28 = .ok (.iload 4, 2) := by decide +kernel
theorem dX9_heldTo_30 : decode cX9_heldTo 30 = .ok (.ifCond .lt 36, 3) := by decide +kernel
theorem dX9_heldTo_33 : decode cX9_heldTo 33 = .ok (.aload_n 0, 1) := by decide +kernel
theorem dX9_heldTo_34 : decode cX9_heldTo 34 = .ok (.iload_n 1, 1) := by decide +kernel
theorem dX9_heldTo_35 : decode cX9_heldTo 35 = .ok (.bipush 14, 2) := by decide +kernel
theorem dX9_heldTo_37 : decode cX9_heldTo 37 = .ok (.iload_n 2, 1) := by decide +kernel
theorem dX9_heldTo_38 : decode cX9_heldTo 38 = .ok (.imul, 1) := by decide +kernel
theorem dX9_heldTo_39 : decode cX9_heldTo 39 = .ok (.iload 4, 2) := by decide +kernel
theorem dX9_heldTo_41 : decode cX9_heldTo 41 = .ok (.iadd, 1) := by decide +kernel
theorem dX9_heldTo_42 : decode cX9_heldTo 42 = .ok (.invokevirtual 132, 3) := by decide +kernel
theorem dX9_heldTo_45 : decode cX9_heldTo 45 = .ok (.ifCond .eq 13, 3) := by decide +kernel
theorem dX9_heldTo_48 : decode cX9_heldTo 48 = .ok (.bipush 14, 2) := by decide +kernel
theorem dX9_heldTo_50 : decode cX9_heldTo 50 = .ok (.iload_n 2, 1) := by decide +kernel
theorem dX9_heldTo_51 : decode cX9_heldTo 51 = .ok (.imul, 1) := by decide +kernel
theorem dX9_heldTo_52 : decode cX9_heldTo 52 = .ok (.iload 4, 2) := by decide +kernel
theorem dX9_heldTo_54 : decode cX9_heldTo 54 = .ok (.iadd, 1) := by decide +kernel
theorem dX9_heldTo_55 : decode cX9_heldTo 55 = .ok (.goto 4, 3) := by decide +kernel
theorem dX9_heldTo_58 : decode cX9_heldTo 58 = .ok (.iload_n 3, 1) := by decide +kernel
theorem dX9_heldTo_59 : decode cX9_heldTo 59 = .ok (.istore_n 3, 1) := by decide +kernel
theorem dX9_heldTo_60 : decode cX9_heldTo 60 = .ok (.iinc 4 (-1), 3) := by decide +kernel
theorem dX9_heldTo_63 : decode cX9_heldTo 63 = .ok (.goto (-35), 3) := by decide +kernel
theorem dX9_heldTo_66 : decode cX9_heldTo 66 = .ok (.aload_n 0, 1) := by decide +kernel
theorem dX9_heldTo_67 : decode cX9_heldTo 67 = .ok (.getfield 22, 3) := by decide +kernel
theorem dX9_heldTo_70 : decode cX9_heldTo 70 = .ok (.iload_n 2, 1) := by decide +kernel
theorem dX9_heldTo_71 : decode cX9_heldTo 71 = .ok (.iaload, 1) := by decide +kernel
theorem dX9_heldTo_72 : decode cX9_heldTo 72 = .ok (.iconst 1, 1) := by decide +kernel
theorem dX9_heldTo_73 : decode cX9_heldTo 73 = .ok (.isub, 1) := by decide +kernel
theorem dX9_heldTo_74 : decode cX9_heldTo 74 = .ok (.istore 4, 2) := by decide +kernel
theorem dX9_heldTo_76 : decode cX9_heldTo 76 = .ok (.iload 4, 2) := by decide +kernel
theorem dX9_heldTo_78 : decode cX9_heldTo 78 = .ok (.ifCond .lt 53, 3) := by decide +kernel
theorem dX9_heldTo_81 : decode cX9_heldTo 81 = .ok (.bipush 14, 2) := by decide +kernel
theorem dX9_heldTo_83 : decode cX9_heldTo 83 = .ok (.iload_n 2, 1) := by decide +kernel
theorem dX9_heldTo_84 : decode cX9_heldTo 84 = .ok (.imul, 1) := by decide +kernel
theorem dX9_heldTo_85 : decode cX9_heldTo 85 = .ok (.iload 4, 2) := by decide +kernel
theorem dX9_heldTo_87 : decode cX9_heldTo 87 = .ok (.iadd, 1) := by decide +kernel
theorem dX9_heldTo_88 : decode cX9_heldTo 88 = .ok (.istore 5, 2) := by decide +kernel
theorem dX9_heldTo_90 : decode cX9_heldTo 90 = .ok (.aload_n 0, 1) := by decide +kernel
theorem dX9_heldTo_91 : decode cX9_heldTo 91 = .ok (.getfield 29, 3) := by decide +kernel
theorem dX9_heldTo_94 : decode cX9_heldTo 94 = .ok (.iload 5, 2) := by decide +kernel
theorem dX9_heldTo_96 : decode cX9_heldTo 96 = .ok (.iaload, 1) := by decide +kernel
theorem dX9_heldTo_97 : decode cX9_heldTo 97 = .ok (.aload_n 0, 1) := by decide +kernel
theorem dX9_heldTo_98 : decode cX9_heldTo 98 = .ok (.getfield 29, 3) := by decide +kernel
theorem dX9_heldTo_101 : decode cX9_heldTo 101 = .ok (.iload_n 1, 1) := by decide +kernel
theorem dX9_heldTo_102 : decode cX9_heldTo 102 = .ok (.iaload, 1) := by decide +kernel
theorem dX9_heldTo_103 : decode cX9_heldTo 103 = .ok (.iconst 1, 1) := by decide +kernel
theorem dX9_heldTo_104 : decode cX9_heldTo 104 = .ok (.isub, 1) := by decide +kernel
theorem dX9_heldTo_105 : decode cX9_heldTo 105 = .ok (.if_icmp .ne 18, 3) := by decide +kernel
theorem dX9_heldTo_108 : decode cX9_heldTo 108 = .ok (.aload_n 0, 1) := by decide +kernel
theorem dX9_heldTo_109 : decode cX9_heldTo 109 = .ok (.iload_n 1, 1) := by decide +kernel
theorem dX9_heldTo_110 : decode cX9_heldTo 110 = .ok (.iload 5, 2) := by decide +kernel
theorem dX9_heldTo_112 : decode cX9_heldTo 112 = .ok (.invokevirtual 161, 3) := by decide +kernel
theorem dX9_heldTo_115 : decode cX9_heldTo 115 = .ok (.ifCond .eq 8, 3) := by decide +kernel
theorem dX9_heldTo_118 : decode cX9_heldTo 118 = .ok (.iload 5, 2) := by decide +kernel
theorem dX9_heldTo_120 : decode cX9_heldTo 120 = .ok (.goto 4, 3) := by decide +kernel
theorem dX9_heldTo_123 : decode cX9_heldTo 123 = .ok (.iload_n 3, 1) := by decide +kernel
theorem dX9_heldTo_124 : decode cX9_heldTo 124 = .ok (.istore_n 3, 1) := by decide +kernel
theorem dX9_heldTo_125 : decode cX9_heldTo 125 = .ok (.iinc 4 (-1), 3) := by decide +kernel
theorem dX9_heldTo_128 : decode cX9_heldTo 128 = .ok (.goto (-52), 3) := by decide +kernel
theorem dX9_heldTo_131 : decode cX9_heldTo 131 = .ok (.iload_n 3, 1) := by decide +kernel
theorem dX9_heldTo_132 : decode cX9_heldTo 132 = .ok (.ireturn, 1) := by decide +kernel
set_option maxRecDepth 20000 in
theorem ok_156 {l : Launch} {d : Nat} (IH : ∀ μ, μ < 196 → px_Met l px_P d μ) : px_ok l px_P d RX9 cX9_heldTo 6 (some .int) tb_156 :=
  ⟨px_Sp.of (ps_aload_n dX9_heldTo_0 rfl),
   px_Sp.of (ps_get kc_X9 (by decide) wf_RX9_54 dX9_heldTo_1),
   px_Sp.of (ps_iload_n dX9_heldTo_4 rfl),
   px_Sp.of (ps_bipush dX9_heldTo_5 (by decide)),
   px_Sp.of (ps_idiv dX9_heldTo_7),
   px_Sp.of (ps_iald dX9_heldTo_8),
   px_Sp.of (ps_istore_n dX9_heldTo_9 rfl (by decide)),
   px_Sp.of (ps_iload_n dX9_heldTo_10 rfl),
   px_Sp.of (ps_if_ge dX9_heldTo_11 (by decide)),
   px_Sp.of (ps_iconst dX9_heldTo_14 (by decide)),
   ps_iret dX9_heldTo_15,
   px_Sp.of (ps_iconst dX9_heldTo_16 (by decide)),
   px_Sp.of (ps_istore_n dX9_heldTo_17 rfl (by decide)),
   px_Sp.of (ps_aload_n dX9_heldTo_18 rfl),
   px_Sp.of (ps_get kc_X9 (by decide) wf_RX9_22 dX9_heldTo_19),
   px_Sp.of (ps_iload_n dX9_heldTo_22 rfl),
   px_Sp.of (ps_iald dX9_heldTo_23),
   px_Sp.of (ps_iconst dX9_heldTo_24 (by decide)),
   px_Sp.of (ps_isub dX9_heldTo_25),
   px_Sp.of (ps_istore dX9_heldTo_26 (by decide)),
   px_Sp.of (ps_iload dX9_heldTo_28),
   px_Sp.of (ps_if_lt dX9_heldTo_30 (by decide)),
   px_Sp.of (ps_aload_n dX9_heldTo_33 rfl),
   px_Sp.of (ps_iload_n dX9_heldTo_34 rfl),
   px_Sp.of (ps_bipush dX9_heldTo_35 (by decide)),
   px_Sp.of (ps_iload_n dX9_heldTo_37 rfl),
   px_Sp.of (ps_imul dX9_heldTo_38),
   px_Sp.of (ps_iload dX9_heldTo_39),
   px_Sp.of (ps_iadd dX9_heldTo_41),
   ps_callV (IH 145 (by decide)) (C := RX9) (T := TX9) (N := 36) (ci := 8) rfl rfl (fc_145 _ _) wm_RX9_132 wi_yX9_isLike wl_yX9_isLike dX9_heldTo_42,
   px_Sp.of (ps_if_eq dX9_heldTo_45 (by decide)),
   px_Sp.of (ps_bipush dX9_heldTo_48 (by decide)),
   px_Sp.of (ps_iload_n dX9_heldTo_50 rfl),
   px_Sp.of (ps_imul dX9_heldTo_51),
   px_Sp.of (ps_iload dX9_heldTo_52),
   px_Sp.of (ps_iadd dX9_heldTo_54),
   px_Sp.of (ps_goto dX9_heldTo_55 (by decide)),
   px_Sp.of (ps_iload_n dX9_heldTo_58 rfl),
   px_Sp.of (ps_istore_n dX9_heldTo_59 rfl (by decide)),
   px_Sp.of (ps_iinc dX9_heldTo_60 (by decide) (by decide)),
   px_Sp.of (ps_goto dX9_heldTo_63 (by decide)),
   px_Sp.of (ps_aload_n dX9_heldTo_66 rfl),
   px_Sp.of (ps_get kc_X9 (by decide) wf_RX9_22 dX9_heldTo_67),
   px_Sp.of (ps_iload_n dX9_heldTo_70 rfl),
   px_Sp.of (ps_iald dX9_heldTo_71),
   px_Sp.of (ps_iconst dX9_heldTo_72 (by decide)),
   px_Sp.of (ps_isub dX9_heldTo_73),
   px_Sp.of (ps_istore dX9_heldTo_74 (by decide)),
   px_Sp.of (ps_iload dX9_heldTo_76),
   px_Sp.of (ps_if_lt dX9_heldTo_78 (by decide)),
   px_Sp.of (ps_bipush dX9_heldTo_81 (by decide)),
   px_Sp.of (ps_iload_n dX9_heldTo_83 rfl),
   px_Sp.of (ps_imul dX9_heldTo_84),
   px_Sp.of (ps_iload dX9_heldTo_85),
   px_Sp.of (ps_iadd dX9_heldTo_87),
   px_Sp.of (ps_istore dX9_heldTo_88 (by decide)),
   px_Sp.of (ps_aload_n dX9_heldTo_90 rfl),
   px_Sp.of (ps_get kc_X9 (by decide) wf_RX9_29 dX9_heldTo_91),
   px_Sp.of (ps_iload dX9_heldTo_94),
   px_Sp.of (ps_iald dX9_heldTo_96),
   px_Sp.of (ps_aload_n dX9_heldTo_97 rfl),
   px_Sp.of (ps_get kc_X9 (by decide) wf_RX9_29 dX9_heldTo_98),
   px_Sp.of (ps_iload_n dX9_heldTo_101 rfl),
   px_Sp.of (ps_iald dX9_heldTo_102),
   px_Sp.of (ps_iconst dX9_heldTo_103 (by decide)),
   px_Sp.of (ps_isub dX9_heldTo_104),
   px_Sp.of (ps_icmp_ne dX9_heldTo_105 (by decide)),
   px_Sp.of (ps_aload_n dX9_heldTo_108 rfl),
   px_Sp.of (ps_iload_n dX9_heldTo_109 rfl),
   px_Sp.of (ps_iload dX9_heldTo_110),
   ps_callV (IH 157 (by decide)) (C := RX9) (T := TX9) (N := 36) (ci := 8) rfl rfl (fc_157 _ _) wm_RX9_161 wi_yX9_isSame wl_yX9_isSame dX9_heldTo_112,
   px_Sp.of (ps_if_eq dX9_heldTo_115 (by decide)),
   px_Sp.of (ps_iload dX9_heldTo_118),
   px_Sp.of (ps_goto dX9_heldTo_120 (by decide)),
   px_Sp.of (ps_iload_n dX9_heldTo_123 rfl),
   px_Sp.of (ps_istore_n dX9_heldTo_124 rfl (by decide)),
   px_Sp.of (ps_iinc dX9_heldTo_125 (by decide) (by decide)),
   px_Sp.of (ps_goto dX9_heldTo_128 (by decide)),
   px_Sp.of (ps_iload_n dX9_heldTo_131 rfl),
   ps_iret dX9_heldTo_132, trivial⟩
theorem mt_156 {l : Launch} {d : Nat} (IH : ∀ μ, μ < 196 → px_Met l px_P d μ) : px_Met l px_P (d + 1) 156 := px_met (own := RX9) rfl (by decide +kernel) (ok_156 IH)
theorem dX9_isSame_0 : decode cX9_isSame 0 = .ok (.aload_n 0, 1) := by decide +kernel
theorem dX9_isSame_1 : decode cX9_isSame 1 = .ok (.getfield 32, 3) := by decide +kernel
theorem dX9_isSame_4 : decode cX9_isSame 4 = .ok (.iload_n 1, 1) := by decide +kernel
theorem dX9_isSame_5 : decode cX9_isSame 5 = .ok (.iaload, 1) := by decide +kernel
theorem dX9_isSame_6 : decode cX9_isSame 6 = .ok (.aload_n 0, 1) := by decide +kernel
theorem dX9_isSame_7 : decode cX9_isSame 7 = .ok (.getfield 32, 3) := by decide +kernel
theorem dX9_isSame_10 : decode cX9_isSame 10 = .ok (.iload_n 2, 1) := by decide +kernel
theorem dX9_isSame_11 : decode cX9_isSame 11 = .ok (.iaload, 1) := by decide +kernel
theorem dX9_isSame_12 : decode cX9_isSame 12 = .ok (.if_icmp .ne 7, 3) := by decide +kernel
theorem dX9_isSame_15 : decode cX9_isSame 15 = .ok (.iconst 1, 1) := by decide +kernel
theorem dX9_isSame_16 : decode cX9_isSame 16 = .ok (.goto 4, 3) := by decide +kernel
theorem dX9_isSame_19 : decode cX9_isSame 19 = .ok (.iconst 0, 1) := by decide +kernel
theorem dX9_isSame_20 : decode cX9_isSame 20 = .ok (.istore_n 3, 1) := by decide +kernel
theorem dX9_isSame_21 : decode cX9_isSame 21 = .ok (.iconst 0, 1) := by decide +kernel
theorem dX9_isSame_22 : decode cX9_isSame 22 = .ok (.istore 4, 2) := by decide +kernel
theorem dX9_isSame_24 : decode cX9_isSame 24 = .ok (.iload 4, 2) := by decide +kernel
theorem dX9_isSame_26 : decode cX9_isSame 26 = .ok (.aload_n 0, 1) := by decide +kernel
theorem dX9_isSame_27 : decode cX9_isSame 27 = .ok (.getfield 32, 3) := by decide +kernel
theorem dX9_isSame_30 : decode cX9_isSame 30 = .ok (.iload_n 1, 1) := by decide +kernel
theorem dX9_isSame_31 : decode cX9_isSame 31 = .ok (.iaload, 1) := by decide +kernel
theorem dX9_isSame_32 : decode cX9_isSame 32 = .ok (.if_icmp .ge 46, 3) := by decide +kernel
theorem dX9_isSame_35 : decode cX9_isSame 35 = .ok (.iload_n 3, 1) := by decide +kernel
theorem dX9_isSame_36 : decode cX9_isSame 36 = .ok (.ifCond .eq 42, 3) := by decide +kernel
theorem dX9_isSame_39 : decode cX9_isSame 39 = .ok (.aload_n 0, 1) := by decide +kernel
theorem dX9_isSame_40 : decode cX9_isSame 40 = .ok (.getfield 35, 3) := by decide +kernel
theorem dX9_isSame_43 : decode cX9_isSame 43 = .ok (.bipush 8, 2) := by decide +kernel
theorem dX9_isSame_45 : decode cX9_isSame 45 = .ok (.iload_n 1, 1) := by decide +kernel
theorem dX9_isSame_46 : decode cX9_isSame 46 = .ok (.imul, 1) := by decide +kernel
theorem dX9_isSame_47 : decode cX9_isSame 47 = .ok (.iload 4, 2) := by decide +kernel
theorem dX9_isSame_49 : decode cX9_isSame 49 = .ok (.iadd, 1) := by decide +kernel
theorem dX9_isSame_50 : decode cX9_isSame 50 = .ok (.iaload, 1) := by decide +kernel
theorem dX9_isSame_51 : decode cX9_isSame 51 = .ok (.aload_n 0, 1) := by decide +kernel
theorem dX9_isSame_52 : decode cX9_isSame 52 = .ok (.getfield 35, 3) := by decide +kernel
theorem dX9_isSame_55 : decode cX9_isSame 55 = .ok (.bipush 8, 2) := by decide +kernel
theorem dX9_isSame_57 : decode cX9_isSame 57 = .ok (.iload_n 2, 1) := by decide +kernel
theorem dX9_isSame_58 : decode cX9_isSame 58 = .ok (.imul, 1) := by decide +kernel
theorem dX9_isSame_59 : decode cX9_isSame 59 = .ok (.iload 4, 2) := by decide +kernel
theorem dX9_isSame_61 : decode cX9_isSame 61 = .ok (.iadd, 1) := by decide +kernel
theorem dX9_isSame_62 : decode cX9_isSame 62 = .ok (.iaload, 1) := by decide +kernel
theorem dX9_isSame_63 : decode cX9_isSame 63 = .ok (.if_icmp .ne 7, 3) := by decide +kernel
theorem dX9_isSame_66 : decode cX9_isSame 66 = .ok (.iconst 1, 1) := by decide +kernel
theorem dX9_isSame_67 : decode cX9_isSame 67 = .ok (.goto 4, 3) := by decide +kernel
theorem dX9_isSame_70 : decode cX9_isSame 70 = .ok (.iconst 0, 1) := by decide +kernel
theorem dX9_isSame_71 : decode cX9_isSame 71 = .ok (.istore_n 3, 1) := by decide +kernel
theorem dX9_isSame_72 : decode cX9_isSame 72 = .ok (.iinc 4 1, 3) := by decide +kernel
theorem dX9_isSame_75 : decode cX9_isSame 75 = .ok (.goto (-51), 3) := by decide +kernel
theorem dX9_isSame_78 : decode cX9_isSame 78 = .ok (.iload_n 3, 1) := by decide +kernel
theorem dX9_isSame_79 : decode cX9_isSame 79 = .ok (.ireturn, 1) := by decide +kernel
set_option maxRecDepth 20000 in
theorem ok_157 {l : Launch} {d : Nat} (IH : ∀ μ, μ < 196 → px_Met l px_P d μ) : px_ok l px_P d RX9 cX9_isSame 5 (some .boolean) tb_157 :=
  ⟨px_Sp.of (ps_aload_n dX9_isSame_0 rfl),
   px_Sp.of (ps_get kc_X9 (by decide) wf_RX9_32 dX9_isSame_1),
   px_Sp.of (ps_iload_n dX9_isSame_4 rfl),
   px_Sp.of (ps_iald dX9_isSame_5),
   px_Sp.of (ps_aload_n dX9_isSame_6 rfl),
   px_Sp.of (ps_get kc_X9 (by decide) wf_RX9_32 dX9_isSame_7),
   px_Sp.of (ps_iload_n dX9_isSame_10 rfl),
   px_Sp.of (ps_iald dX9_isSame_11),
   px_Sp.of (ps_icmp_ne dX9_isSame_12 (by decide)),
   px_Sp.of (ps_iconst dX9_isSame_15 (by decide)),
   px_Sp.of (ps_goto dX9_isSame_16 (by decide)),
   px_Sp.of (ps_iconst dX9_isSame_19 (by decide)),
   px_Sp.of (ps_istore_n dX9_isSame_20 rfl (by decide)),
   px_Sp.of (ps_iconst dX9_isSame_21 (by decide)),
   px_Sp.of (ps_istore dX9_isSame_22 (by decide)),
   px_Sp.of (ps_iload dX9_isSame_24),
   px_Sp.of (ps_aload_n dX9_isSame_26 rfl),
   px_Sp.of (ps_get kc_X9 (by decide) wf_RX9_32 dX9_isSame_27),
   px_Sp.of (ps_iload_n dX9_isSame_30 rfl),
   px_Sp.of (ps_iald dX9_isSame_31),
   px_Sp.of (ps_icmp_ge dX9_isSame_32 (by decide)),
   px_Sp.of (ps_iload_n dX9_isSame_35 rfl),
   px_Sp.of (ps_if_eq dX9_isSame_36 (by decide)),
   px_Sp.of (ps_aload_n dX9_isSame_39 rfl),
   px_Sp.of (ps_get kc_X9 (by decide) wf_RX9_35 dX9_isSame_40),
   px_Sp.of (ps_bipush dX9_isSame_43 (by decide)),
   px_Sp.of (ps_iload_n dX9_isSame_45 rfl),
   px_Sp.of (ps_imul dX9_isSame_46),
   px_Sp.of (ps_iload dX9_isSame_47),
   px_Sp.of (ps_iadd dX9_isSame_49),
   px_Sp.of (ps_iald dX9_isSame_50),
   px_Sp.of (ps_aload_n dX9_isSame_51 rfl),
   px_Sp.of (ps_get kc_X9 (by decide) wf_RX9_35 dX9_isSame_52),
   px_Sp.of (ps_bipush dX9_isSame_55 (by decide)),
   px_Sp.of (ps_iload_n dX9_isSame_57 rfl),
   px_Sp.of (ps_imul dX9_isSame_58),
   px_Sp.of (ps_iload dX9_isSame_59),
   px_Sp.of (ps_iadd dX9_isSame_61),
   px_Sp.of (ps_iald dX9_isSame_62),
   px_Sp.of (ps_icmp_ne dX9_isSame_63 (by decide)),
   px_Sp.of (ps_iconst dX9_isSame_66 (by decide)),
   px_Sp.of (ps_goto dX9_isSame_67 (by decide)),
   px_Sp.of (ps_iconst dX9_isSame_70 (by decide)),
   px_Sp.of (ps_istore_n dX9_isSame_71 rfl (by decide)),
   px_Sp.of (ps_iinc dX9_isSame_72 (by decide) (by decide)),
   px_Sp.of (ps_goto dX9_isSame_75 (by decide)),
   px_Sp.of (ps_iload_n dX9_isSame_78 rfl),
   ps_zret dX9_isSame_79, trivial⟩
theorem mt_157 {l : Launch} {d : Nat} (IH : ∀ μ, μ < 196 → px_Met l px_P d μ) : px_Met l px_P (d + 1) 157 := px_met (own := RX9) rfl (by decide +kernel) (ok_157 IH)
theorem dX9_altered_0 : decode cX9_altered 0 = .ok (.aload_n 0, 1) := by decide +kernel
theorem dX9_altered_1 : decode cX9_altered 1 = .ok (.iload_n 1, 1) := by decide +kernel
theorem dX9_altered_2 : decode cX9_altered 2 = .ok (.iload_n 2, 1) := by decide +kernel
theorem dX9_altered_3 : decode cX9_altered 3 = .ok (.invokevirtual 128, 3) := by decide +kernel
theorem dX9_altered_6 : decode cX9_altered 6 = .ok (.ifCond .eq 7, 3) := by decide +kernel
theorem dX9_altered_9 : decode cX9_altered 9 = .ok (.sipush (-1001), 3) := by decide +kernel
theorem dX9_altered_12 : decode cX9_altered 12 = .ok (.ireturn, 1) := by decide +kernel
theorem dX9_altered_13 : decode cX9_altered 13 = .ok (.aload_n 0, 1) := by decide +kernel
theorem dX9_altered_14 : decode cX9_altered 14 = .ok (.iload_n 1, 1) := by decide +kernel
theorem dX9_altered_15 : decode cX9_altered 15 = .ok (.invokevirtual 135, 3) := by decide +kernel
theorem dX9_altered_18 : decode cX9_altered 18 = .ok (.ifCond .ne 7, 3) := by decide +kernel
theorem dX9_altered_21 : decode cX9_altered 21 = .ok (.sipush (-1003), 3) := by decide +kernel
theorem dX9_altered_24 : decode cX9_altered 24 = .ok (.ireturn, 1) := by decide +kernel
theorem dX9_altered_25 : decode cX9_altered 25 = .ok (.aload_n 0, 1) := by decide +kernel
theorem dX9_altered_26 : decode cX9_altered 26 = .ok (.invokevirtual 152, 3) := by decide +kernel
theorem dX9_altered_29 : decode cX9_altered 29 = .ok (.aload_n 0, 1) := by decide +kernel
theorem dX9_altered_30 : decode cX9_altered 30 = .ok (.bipush 14, 2) := by decide +kernel
theorem dX9_altered_32 : decode cX9_altered 32 = .ok (.iload_n 1, 1) := by decide +kernel
theorem dX9_altered_33 : decode cX9_altered 33 = .ok (.imul, 1) := by decide +kernel
theorem dX9_altered_34 : decode cX9_altered 34 = .ok (.iload_n 2, 1) := by decide +kernel
theorem dX9_altered_35 : decode cX9_altered 35 = .ok (.iadd, 1) := by decide +kernel
theorem dX9_altered_36 : decode cX9_altered 36 = .ok (.invokevirtual 172, 3) := by decide +kernel
theorem dX9_altered_39 : decode cX9_altered 39 = .ok (.invokestatic 120, 3) := by decide +kernel
theorem dX9_altered_42 : decode cX9_altered 42 = .ok (.ireturn, 1) := by decide +kernel
set_option maxRecDepth 20000 in
theorem ok_158 {l : Launch} {d : Nat} (IH : ∀ μ, μ < 196 → px_Met l px_P d μ) : px_ok l px_P d RX9 cX9_altered 3 (some .int) tb_158 :=
  ⟨px_Sp.of (ps_aload_n dX9_altered_0 rfl),
   px_Sp.of (ps_iload_n dX9_altered_1 rfl),
   px_Sp.of (ps_iload_n dX9_altered_2 rfl),
   ps_callV (IH 140 (by decide)) (C := RX9) (T := TX9) (N := 36) (ci := 8) rfl rfl (fc_140 _ _) wm_RX9_128 wi_yX9_noLine wl_yX9_noLine dX9_altered_3,
   px_Sp.of (ps_if_eq dX9_altered_6 (by decide)),
   px_Sp.of (ps_sipush dX9_altered_9 (by decide)),
   ps_iret dX9_altered_12,
   px_Sp.of (ps_aload_n dX9_altered_13 rfl),
   px_Sp.of (ps_iload_n dX9_altered_14 rfl),
   ps_callV (IH 143 (by decide)) (C := RX9) (T := TX9) (N := 36) (ci := 8) rfl rfl (fc_143 _ _) wm_RX9_135 wi_yX9_isSeen wl_yX9_isSeen dX9_altered_15,
   px_Sp.of (ps_if_ne dX9_altered_18 (by decide)),
   px_Sp.of (ps_sipush dX9_altered_21 (by decide)),
   ps_iret dX9_altered_24,
   px_Sp.of (ps_aload_n dX9_altered_25 rfl),
   ps_callV (IH 148 (by decide)) (C := RX9) (T := TX9) (N := 36) (ci := 8) rfl rfl (fc_148 _ _) wm_RX9_152 wi_yX9_findParents wl_yX9_findParents dX9_altered_26,
   px_Sp.of (ps_aload_n dX9_altered_29 rfl),
   px_Sp.of (ps_bipush dX9_altered_30 (by decide)),
   px_Sp.of (ps_iload_n dX9_altered_32 rfl),
   px_Sp.of (ps_imul dX9_altered_33),
   px_Sp.of (ps_iload_n dX9_altered_34 rfl),
   px_Sp.of (ps_iadd dX9_altered_35),
   ps_callV (IH 159 (by decide)) (C := RX9) (T := TX9) (N := 36) (ci := 8) rfl rfl (fc_159 _ _) wm_RX9_172 wi_yX9_isAltered wl_yX9_isAltered dX9_altered_36,
   ps_callS (IH 135 (by decide)) (fc_135 _ _) wm_RX9_120 ws_yX9_one dX9_altered_39,
   ps_iret dX9_altered_42, trivial⟩
theorem mt_158 {l : Launch} {d : Nat} (IH : ∀ μ, μ < 196 → px_Met l px_P d μ) : px_Met l px_P (d + 1) 158 := px_met (own := RX9) rfl (by decide +kernel) (ok_158 IH)
theorem dX9_isAltered_0 : decode cX9_isAltered 0 = .ok (.aload_n 0, 1) := by decide +kernel
theorem dX9_isAltered_1 : decode cX9_isAltered 1 = .ok (.getfield 29, 3) := by decide +kernel
theorem dX9_isAltered_4 : decode cX9_isAltered 4 = .ok (.iload_n 1, 1) := by decide +kernel
theorem dX9_isAltered_5 : decode cX9_isAltered 5 = .ok (.iaload, 1) := by decide +kernel
theorem dX9_isAltered_6 : decode cX9_isAltered 6 = .ok (.ifCond .ne 5, 3) := by decide +kernel
theorem dX9_isAltered_9 : decode cX9_isAltered 9 = .ok (.iconst 0, 1) := by decide +kernel
theorem dX9_isAltered_10 : decode cX9_isAltered 10 = .ok (.ireturn, 1) := by decide +kernel
theorem dX9_isAltered_11 : decode cX9_isAltered 11 = .ok (.aload_n 0, 1) := by decide +kernel
theorem dX9_isAltered_12 : decode cX9_isAltered 12 = .ok (.iload_n 1, 1) := by decide +kernel
theorem dX9_isAltered_13 : decode cX9_isAltered 13 = .ok (.invokevirtual 164, 3) := by decide +kernel
theorem dX9_isAltered_16 : decode cX9_isAltered 16 = .ok (.istore_n 2, 1) := by decide +kernel
theorem dX9_isAltered_17 : decode cX9_isAltered 17 = .ok (.iload_n 2, 1) := by decide +kernel
theorem dX9_isAltered_18 : decode cX9_isAltered 18 = .ok (.ifCond .lt 16, 3) := by decide +kernel
theorem dX9_isAltered_21 : decode cX9_isAltered 21 = .ok (.aload_n 0, 1) := by decide +kernel
theorem dX9_isAltered_22 : decode cX9_isAltered 22 = .ok (.iload_n 1, 1) := by decide +kernel
theorem dX9_isAltered_23 : decode cX9_isAltered 23 = .ok (.iload_n 2, 1) := by decide +kernel
theorem dX9_isAltered_24 : decode cX9_isAltered 24 = .ok (.invokevirtual 161, 3) := by decide +kernel
theorem dX9_isAltered_27 : decode cX9_isAltered 27 = .ok (.ifCond .ne 7, 3) := by decide +kernel
theorem dX9_isAltered_30 : decode cX9_isAltered 30 = .ok (.iconst 1, 1) := by decide +kernel
theorem dX9_isAltered_31 : decode cX9_isAltered 31 = .ok (.goto 4, 3) := by decide +kernel
theorem dX9_isAltered_34 : decode cX9_isAltered 34 = .ok (.iconst 0, 1) := by decide +kernel
theorem dX9_isAltered_35 : decode cX9_isAltered 35 = .ok (.ireturn, 1) := by decide +kernel
set_option maxRecDepth 20000 in
theorem ok_159 {l : Launch} {d : Nat} (IH : ∀ μ, μ < 196 → px_Met l px_P d μ) : px_ok l px_P d RX9 cX9_isAltered 3 (some .boolean) tb_159 :=
  ⟨px_Sp.of (ps_aload_n dX9_isAltered_0 rfl),
   px_Sp.of (ps_get kc_X9 (by decide) wf_RX9_29 dX9_isAltered_1),
   px_Sp.of (ps_iload_n dX9_isAltered_4 rfl),
   px_Sp.of (ps_iald dX9_isAltered_5),
   px_Sp.of (ps_if_ne dX9_isAltered_6 (by decide)),
   px_Sp.of (ps_iconst dX9_isAltered_9 (by decide)),
   ps_zret dX9_isAltered_10,
   px_Sp.of (ps_aload_n dX9_isAltered_11 rfl),
   px_Sp.of (ps_iload_n dX9_isAltered_12 rfl),
   ps_callV (IH 156 (by decide)) (C := RX9) (T := TX9) (N := 36) (ci := 8) rfl rfl (fc_156 _ _) wm_RX9_164 wi_yX9_heldTo wl_yX9_heldTo dX9_isAltered_13,
   px_Sp.of (ps_istore_n dX9_isAltered_16 rfl (by decide)),
   px_Sp.of (ps_iload_n dX9_isAltered_17 rfl),
   px_Sp.of (ps_if_lt dX9_isAltered_18 (by decide)),
   px_Sp.of (ps_aload_n dX9_isAltered_21 rfl),
   px_Sp.of (ps_iload_n dX9_isAltered_22 rfl),
   px_Sp.of (ps_iload_n dX9_isAltered_23 rfl),
   ps_callV (IH 157 (by decide)) (C := RX9) (T := TX9) (N := 36) (ci := 8) rfl rfl (fc_157 _ _) wm_RX9_161 wi_yX9_isSame wl_yX9_isSame dX9_isAltered_24,
   px_Sp.of (ps_if_ne dX9_isAltered_27 (by decide)),
   px_Sp.of (ps_iconst dX9_isAltered_30 (by decide)),
   px_Sp.of (ps_goto dX9_isAltered_31 (by decide)),
   px_Sp.of (ps_iconst dX9_isAltered_34 (by decide)),
   ps_zret dX9_isAltered_35, trivial⟩
theorem mt_159 {l : Launch} {d : Nat} (IH : ∀ μ, μ < 196 → px_Met l px_P d μ) : px_Met l px_P (d + 1) 159 := px_met (own := RX9) rfl (by decide +kernel) (ok_159 IH)
theorem dX9_echoes_0 : decode cX9_echoes 0 = .ok (.aload_n 0, 1) := by decide +kernel
theorem dX9_echoes_1 : decode cX9_echoes 1 = .ok (.iload_n 1, 1) := by decide +kernel
theorem dX9_echoes_2 : decode cX9_echoes 2 = .ok (.iload_n 2, 1) := by decide +kernel
theorem dX9_echoes_3 : decode cX9_echoes 3 = .ok (.invokevirtual 128, 3) := by decide +kernel
theorem dX9_echoes_6 : decode cX9_echoes 6 = .ok (.ifCond .eq 7, 3) := by decide +kernel
theorem dX9_echoes_9 : decode cX9_echoes 9 = .ok (.sipush (-1001), 3) := by decide +kernel
theorem dX9_echoes_12 : decode cX9_echoes 12 = .ok (.ireturn, 1) := by decide +kernel
theorem dX9_echoes_13 : decode cX9_echoes 13 = .ok (.aload_n 0, 1) := by decide +kernel
theorem dX9_echoes_14 : decode cX9_echoes 14 = .ok (.invokevirtual 152, 3) := by decide +kernel
theorem dX9_echoes_17 : decode cX9_echoes 17 = .ok (.iconst 0, 1) := by decide +kernel
theorem dX9_echoes_18 : decode cX9_echoes 18 = .ok (.istore_n 3, 1) := by decide +kernel
theorem dX9_echoes_19 : decode cX9_echoes 19 = .ok (.iconst 0, 1) := by decide +kernel
theorem dX9_echoes_20 : decode cX9_echoes 20 = .ok (.istore 4, 2) := by decide +kernel
theorem dX9_echoes_22 : decode cX9_echoes 22 = .ok (.iload 4, 2) := by decide +kernel
theorem dX9_echoes_24 : decode cX9_echoes 24 = .ok (.aload_n 0, 1) := by decide +kernel
theorem dX9_echoes_25 : decode cX9_echoes 25 = .ok (.getfield 92, 3) := by decide +kernel
theorem dX9_echoes_28 : decode cX9_echoes 28 = .ok (.if_icmp .ge 71, 3) := by decide +kernel
theorem dX9_echoes_31 : decode cX9_echoes 31 = .ok (.iconst 0, 1) := by decide +kernel
theorem dX9_echoes_32 : decode cX9_echoes 32 = .ok (.istore 5, 2) := by decide +kernel
theorem dX9_echoes_34 : decode cX9_echoes 34 = .ok (.iload 5, 2) := by decide +kernel
theorem dX9_echoes_36 : decode cX9_echoes 36 = .ok (.aload_n 0, 1) := by decide +kernel
theorem dX9_echoes_37 : decode cX9_echoes 37 = .ok (.getfield 22, 3) := by decide +kernel
theorem dX9_echoes_40 : decode cX9_echoes 40 = .ok (.iload 4, 2) := by decide +kernel
theorem dX9_echoes_42 : decode cX9_echoes 42 = .ok (.iaload, 1) := by decide +kernel
theorem dX9_echoes_43 : decode cX9_echoes 43 = .ok (.if_icmp .ge 50, 3) := by decide +kernel
theorem dX9_echoes_46 : decode cX9_echoes 46 = .ok (.aload_n 0, 1) := by decide +kernel
theorem dX9_echoes_47 : decode cX9_echoes 47 = .ok (.iload 4, 2) := by decide +kernel
theorem dX9_echoes_49 : decode cX9_echoes 49 = .ok (.invokevirtual 135, 3) := by decide +kernel
theorem dX9_echoes_52 : decode cX9_echoes 52 = .ok (.ifCond .eq 41, 3) := by decide +kernel
theorem dX9_echoes_55 : decode cX9_echoes 55 = .ok (.iload_n 3, 1) := by decide +kernel
theorem dX9_echoes_56 : decode cX9_echoes 56 = .ok (.aload_n 0, 1) := by decide +kernel
theorem dX9_echoes_57 : decode cX9_echoes 57 = .ok (.bipush 14, 2) := by decide +kernel
theorem dX9_echoes_59 : decode cX9_echoes 59 = .ok (.iload 4, 2) := by decide +kernel
theorem dX9_echoes_61 : decode cX9_echoes 61 = .ok (.imul, 1) := by decide +kernel
theorem dX9_echoes_62 : decode cX9_echoes 62 = .ok (.iload 5, 2) := by decide +kernel
theorem dX9_echoes_64 : decode cX9_echoes 64 = .ok (.iadd, 1) := by decide +kernel
theorem dX9_echoes_65 : decode cX9_echoes 65 = .ok (.invokevirtual 169, 3) := by decide +kernel
theorem dX9_echoes_68 : decode cX9_echoes 68 = .ok (.bipush 14, 2) := by decide +kernel
theorem dX9_echoes_70 : decode cX9_echoes 70 = .ok (.iload_n 1, 1) := by decide +kernel
theorem dX9_echoes_71 : decode cX9_echoes 71 = .ok (.imul, 1) := by decide +kernel
theorem dX9_echoes_72 : decode cX9_echoes 72 = .ok (.iload_n 2, 1) := by decide +kernel
theorem dX9_echoes_73 : decode cX9_echoes 73 = .ok (.iadd, 1) := by decide +kernel
theorem dX9_echoes_74 : decode cX9_echoes 74 = .ok (.if_icmp .ne 7, 3) := by decide +kernel
theorem dX9_echoes_77 : decode cX9_echoes 77 = .ok (.iconst 1, 1) := by decide +kernel
theorem dX9_echoes_78 : decode cX9_echoes 78 = .ok (.goto 4, 3) := by decide +kernel
theorem dX9_echoes_81 : decode cX9_echoes 81 = .ok (.iconst 0, 1) := by decide +kernel
theorem dX9_echoes_82 : decode cX9_echoes 82 = .ok (.invokestatic 120, 3) := by decide +kernel
theorem dX9_echoes_85 : decode cX9_echoes 85 = .ok (.iadd, 1) := by decide +kernel
theorem dX9_echoes_86 : decode cX9_echoes 86 = .ok (.istore_n 3, 1) := by decide +kernel
theorem dX9_echoes_87 : decode cX9_echoes 87 = .ok (.iinc 5 1, 3) := by decide +kernel
theorem dX9_echoes_90 : decode cX9_echoes 90 = .ok (.goto (-56), 3) := by decide +kernel
theorem dX9_echoes_93 : decode cX9_echoes 93 = .ok (.iinc 4 1, 3) := by decide +kernel
theorem dX9_echoes_96 : decode cX9_echoes 96 = .ok (.goto (-74), 3) := by decide +kernel
theorem dX9_echoes_99 : decode cX9_echoes 99 = .ok (.iload_n 3, 1) := by decide +kernel
theorem dX9_echoes_100 : decode cX9_echoes 100 = .ok (.ireturn, 1) := by decide +kernel
set_option maxRecDepth 20000 in
theorem ok_160 {l : Launch} {d : Nat} (IH : ∀ μ, μ < 196 → px_Met l px_P d μ) : px_ok l px_P d RX9 cX9_echoes 6 (some .int) tb_160 :=
  ⟨px_Sp.of (ps_aload_n dX9_echoes_0 rfl),
   px_Sp.of (ps_iload_n dX9_echoes_1 rfl),
   px_Sp.of (ps_iload_n dX9_echoes_2 rfl),
   ps_callV (IH 140 (by decide)) (C := RX9) (T := TX9) (N := 36) (ci := 8) rfl rfl (fc_140 _ _) wm_RX9_128 wi_yX9_noLine wl_yX9_noLine dX9_echoes_3,
   px_Sp.of (ps_if_eq dX9_echoes_6 (by decide)),
   px_Sp.of (ps_sipush dX9_echoes_9 (by decide)),
   ps_iret dX9_echoes_12,
   px_Sp.of (ps_aload_n dX9_echoes_13 rfl),
   ps_callV (IH 148 (by decide)) (C := RX9) (T := TX9) (N := 36) (ci := 8) rfl rfl (fc_148 _ _) wm_RX9_152 wi_yX9_findParents wl_yX9_findParents dX9_echoes_14,
   px_Sp.of (ps_iconst dX9_echoes_17 (by decide)),
   px_Sp.of (ps_istore_n dX9_echoes_18 rfl (by decide)),
   px_Sp.of (ps_iconst dX9_echoes_19 (by decide)),
   px_Sp.of (ps_istore dX9_echoes_20 (by decide)),
   px_Sp.of (ps_iload dX9_echoes_22),
   px_Sp.of (ps_aload_n dX9_echoes_24 rfl),
   px_Sp.of (ps_get kc_X9 (by decide) wf_RX9_92 dX9_echoes_25),
   px_Sp.of (ps_icmp_ge dX9_echoes_28 (by decide)),
   px_Sp.of (ps_iconst dX9_echoes_31 (by decide)),
   px_Sp.of (ps_istore dX9_echoes_32 (by decide)),
   px_Sp.of (ps_iload dX9_echoes_34),
   px_Sp.of (ps_aload_n dX9_echoes_36 rfl),
   px_Sp.of (ps_get kc_X9 (by decide) wf_RX9_22 dX9_echoes_37),
   px_Sp.of (ps_iload dX9_echoes_40),
   px_Sp.of (ps_iald dX9_echoes_42),
   px_Sp.of (ps_icmp_ge dX9_echoes_43 (by decide)),
   px_Sp.of (ps_aload_n dX9_echoes_46 rfl),
   px_Sp.of (ps_iload dX9_echoes_47),
   ps_callV (IH 143 (by decide)) (C := RX9) (T := TX9) (N := 36) (ci := 8) rfl rfl (fc_143 _ _) wm_RX9_135 wi_yX9_isSeen wl_yX9_isSeen dX9_echoes_49,
   px_Sp.of (ps_if_eq dX9_echoes_52 (by decide)),
   px_Sp.of (ps_iload_n dX9_echoes_55 rfl),
   px_Sp.of (ps_aload_n dX9_echoes_56 rfl),
   px_Sp.of (ps_bipush dX9_echoes_57 (by decide)),
   px_Sp.of (ps_iload dX9_echoes_59),
   px_Sp.of (ps_imul dX9_echoes_61),
   px_Sp.of (ps_iload dX9_echoes_62),
   px_Sp.of (ps_iadd dX9_echoes_64),
   ps_callV (IH 155 (by decide)) (C := RX9) (T := TX9) (N := 36) (ci := 8) rfl rfl (fc_155 _ _) wm_RX9_169 wi_yX9_originOf wl_yX9_originOf dX9_echoes_65,
   px_Sp.of (ps_bipush dX9_echoes_68 (by decide)),
   px_Sp.of (ps_iload_n dX9_echoes_70 rfl),
   px_Sp.of (ps_imul dX9_echoes_71),
   px_Sp.of (ps_iload_n dX9_echoes_72 rfl),
   px_Sp.of (ps_iadd dX9_echoes_73),
   px_Sp.of (ps_icmp_ne dX9_echoes_74 (by decide)),
   px_Sp.of (ps_iconst dX9_echoes_77 (by decide)),
   px_Sp.of (ps_goto dX9_echoes_78 (by decide)),
   px_Sp.of (ps_iconst dX9_echoes_81 (by decide)),
   ps_callS (IH 135 (by decide)) (fc_135 _ _) wm_RX9_120 ws_yX9_one dX9_echoes_82,
   px_Sp.of (ps_iadd dX9_echoes_85),
   px_Sp.of (ps_istore_n dX9_echoes_86 rfl (by decide)),
   px_Sp.of (ps_iinc dX9_echoes_87 (by decide) (by decide)),
   px_Sp.of (ps_goto dX9_echoes_90 (by decide)),
   px_Sp.of (ps_iinc dX9_echoes_93 (by decide) (by decide)),
   px_Sp.of (ps_goto dX9_echoes_96 (by decide)),
   px_Sp.of (ps_iload_n dX9_echoes_99 rfl),
   ps_iret dX9_echoes_100, trivial⟩
theorem mt_160 {l : Launch} {d : Nat} (IH : ∀ μ, μ < 196 → px_Met l px_P d μ) : px_Met l px_P (d + 1) 160 := px_met (own := RX9) rfl (by decide +kernel) (ok_160 IH)
theorem dX9_group_0 : decode cX9_group 0 = .ok (.aload_n 0, 1) := by decide +kernel
theorem dX9_group_1 : decode cX9_group 1 = .ok (.iload_n 1, 1) := by decide +kernel
theorem dX9_group_2 : decode cX9_group 2 = .ok (.invokevirtual 99, 3) := by decide +kernel
theorem dX9_group_5 : decode cX9_group 5 = .ok (.ifCond .eq 7, 3) := by decide +kernel
theorem dX9_group_8 : decode cX9_group 8 = .ok (.sipush (-1001), 3) := by decide +kernel
theorem dX9_group_11 : decode cX9_group 11 = .ok (.ireturn, 1) := by decide +kernel
theorem dX9_group_12 : decode cX9_group 12 = .ok (.aload_n 0, 1) := by decide +kernel
theorem dX9_group_13 : decode cX9_group 13 = .ok (.invokevirtual 187, 3) := by decide +kernel
theorem dX9_group_16 : decode cX9_group 16 = .ok (.aload_n 0, 1) := by decide +kernel
theorem dX9_group_17 : decode cX9_group 17 = .ok (.getfield 57, 3) := by decide +kernel
theorem dX9_group_20 : decode cX9_group 20 = .ok (.iload_n 1, 1) := by decide +kernel
theorem dX9_group_21 : decode cX9_group 21 = .ok (.iaload, 1) := by decide +kernel
theorem dX9_group_22 : decode cX9_group 22 = .ok (.ireturn, 1) := by decide +kernel
set_option maxRecDepth 20000 in
theorem ok_161 {l : Launch} {d : Nat} (IH : ∀ μ, μ < 196 → px_Met l px_P d μ) : px_ok l px_P d RX9 cX9_group 2 (some .int) tb_161 :=
  ⟨px_Sp.of (ps_aload_n dX9_group_0 rfl),
   px_Sp.of (ps_iload_n dX9_group_1 rfl),
   ps_callV (IH 132 (by decide)) (C := RX9) (T := TX9) (N := 36) (ci := 8) rfl rfl (fc_132 _ _) wm_RX9_99 wi_yX9_noLetter wl_yX9_noLetter dX9_group_2,
   px_Sp.of (ps_if_eq dX9_group_5 (by decide)),
   px_Sp.of (ps_sipush dX9_group_8 (by decide)),
   ps_iret dX9_group_11,
   px_Sp.of (ps_aload_n dX9_group_12 rfl),
   ps_callV (IH 162 (by decide)) (C := RX9) (T := TX9) (N := 36) (ci := 8) rfl rfl (fc_162 _ _) wm_RX9_187 wi_yX9_findGroups wl_yX9_findGroups dX9_group_13,
   px_Sp.of (ps_aload_n dX9_group_16 rfl),
   px_Sp.of (ps_get kc_X9 (by decide) wf_RX9_57 dX9_group_17),
   px_Sp.of (ps_iload_n dX9_group_20 rfl),
   px_Sp.of (ps_iald dX9_group_21),
   ps_iret dX9_group_22, trivial⟩
theorem mt_161 {l : Launch} {d : Nat} (IH : ∀ μ, μ < 196 → px_Met l px_P d μ) : px_Met l px_P (d + 1) 161 := px_met (own := RX9) rfl (by decide +kernel) (ok_161 IH)
theorem dX9_findGroups_0 : decode cX9_findGroups 0 = .ok (.aload_n 0, 1) := by decide +kernel
theorem dX9_findGroups_1 : decode cX9_findGroups 1 = .ok (.invokevirtual 152, 3) := by decide +kernel
theorem dX9_findGroups_4 : decode cX9_findGroups 4 = .ok (.iconst 0, 1) := by decide +kernel
theorem dX9_findGroups_5 : decode cX9_findGroups 5 = .ok (.istore_n 1, 1) := by decide +kernel
theorem dX9_findGroups_6 : decode cX9_findGroups 6 = .ok (.iload_n 1, 1) := by decide +kernel
theorem dX9_findGroups_7 : decode cX9_findGroups 7 = .ok (.aload_n 0, 1) := by decide +kernel
theorem dX9_findGroups_8 : decode cX9_findGroups 8 = .ok (.getfield 92, 3) := by decide +kernel
theorem dX9_findGroups_11 : decode cX9_findGroups 11 = .ok (.if_icmp .ge 36, 3) := by decide +kernel
theorem dX9_findGroups_14 : decode cX9_findGroups 14 = .ok (.aload_n 0, 1) := by decide +kernel
theorem dX9_findGroups_15 : decode cX9_findGroups 15 = .ok (.getfield 57, 3) := by decide +kernel
theorem dX9_findGroups_18 : decode cX9_findGroups 18 = .ok (.iload_n 1, 1) := by decide +kernel
theorem dX9_findGroups_19 : decode cX9_findGroups 19 = .ok (.aload_n 0, 1) := by decide +kernel
theorem dX9_findGroups_20 : decode cX9_findGroups 20 = .ok (.iload_n 1, 1) := by decide +kernel
theorem dX9_findGroups_21 : decode cX9_findGroups 21 = .ok (.invokevirtual 135, 3) := by decide +kernel
theorem dX9_findGroups_24 : decode cX9_findGroups 24 = .ok (.ifCond .eq 15, 3) := by decide +kernel
theorem dX9_findGroups_27 : decode cX9_findGroups 27 = .ok (.aload_n 0, 1) := by decide +kernel
theorem dX9_findGroups_28 : decode cX9_findGroups 28 = .ok (.iload_n 1, 1) := by decide +kernel
theorem dX9_findGroups_29 : decode cX9_findGroups 29 = .ok (.invokevirtual 178, 3) := by decide +kernel
theorem dX9_findGroups_32 : decode cX9_findGroups 32 = .ok (.ifCond .eq 7, 3) := by decide +kernel
theorem dX9_findGroups_35 : decode cX9_findGroups 35 = .ok (.iload_n 1, 1) := by decide +kernel
theorem dX9_findGroups_36 : decode cX9_findGroups 36 = .ok (.goto 4, 3) := by decide +kernel
theorem dX9_findGroups_39 : decode cX9_findGroups 39 = .ok (.iconst (-1), 1) := by decide +kernel
theorem dX9_findGroups_40 : decode cX9_findGroups 40 = .ok (.iastore, 1) := by decide +kernel
theorem dX9_findGroups_41 : decode cX9_findGroups 41 = .ok (.iinc 1 1, 3) := by decide +kernel
theorem dX9_findGroups_44 : decode cX9_findGroups 44 = .ok (.goto (-38), 3) := by decide +kernel
theorem dX9_findGroups_47 : decode cX9_findGroups 47 = .ok (.iconst 1, 1) := by decide +kernel
theorem dX9_findGroups_48 : decode cX9_findGroups 48 = .ok (.istore_n 1, 1) := by decide +kernel
theorem dX9_findGroups_49 : decode cX9_findGroups 49 = .ok (.iload_n 1, 1) := by decide +kernel
theorem dX9_findGroups_50 : decode cX9_findGroups 50 = .ok (.ifCond .eq 87, 3) := by decide +kernel
theorem dX9_findGroups_53 : decode cX9_findGroups 53 = .ok (.iconst 0, 1) := by decide +kernel
theorem dX9_findGroups_54 : decode cX9_findGroups 54 = .ok (.istore_n 1, 1) := by decide +kernel
theorem dX9_findGroups_55 : decode cX9_findGroups 55 = .ok (.iconst 0, 1) := by decide +kernel
theorem dX9_findGroups_56 : decode cX9_findGroups 56 = .ok (.istore_n 2, 1) := by decide +kernel
theorem dX9_findGroups_57 : decode cX9_findGroups 57 = .ok (.iload_n 2, 1) := by decide +kernel
theorem dX9_findGroups_58 : decode cX9_findGroups 58 = .ok (.aload_n 0, 1) := by decide +kernel
theorem dX9_findGroups_59 : decode cX9_findGroups 59 = .ok (.getfield 92, 3) := by decide +kernel
theorem dX9_findGroups_62 : decode cX9_findGroups 62 = .ok (.if_icmp .ge 72, 3) := by decide +kernel
theorem dX9_findGroups_65 : decode cX9_findGroups 65 = .ok (.iconst 0, 1) := by decide +kernel
theorem dX9_findGroups_66 : decode cX9_findGroups 66 = .ok (.istore_n 3, 1) := by decide +kernel
theorem dX9_findGroups_67 : decode cX9_findGroups 67 = .ok (.iload_n 3, 1) := by decide +kernel
theorem dX9_findGroups_68 : decode cX9_findGroups 68 = .ok (.aload_n 0, 1) := by decide +kernel
theorem dX9_findGroups_69 : decode cX9_findGroups 69 = .ok (.getfield 92, 3) := by decide +kernel
theorem dX9_findGroups_72 : decode cX9_findGroups 72 = .ok (.if_icmp .ge 56, 3) := by decide +kernel
theorem dX9_findGroups_75 : decode cX9_findGroups 75 = .ok (.aload_n 0, 1) := by decide +kernel
theorem dX9_findGroups_76 : decode cX9_findGroups 76 = .ok (.getfield 57, 3) := by decide +kernel
theorem dX9_findGroups_79 : decode cX9_findGroups 79 = .ok (.iload_n 2, 1) := by decide +kernel
theorem dX9_findGroups_80 : decode cX9_findGroups 80 = .ok (.iaload, 1) := by decide +kernel
theorem dX9_findGroups_81 : decode cX9_findGroups 81 = .ok (.ifCond .lt 41, 3) := by decide +kernel
theorem dX9_findGroups_84 : decode cX9_findGroups 84 = .ok (.aload_n 0, 1) := by decide +kernel
theorem dX9_findGroups_85 : decode cX9_findGroups 85 = .ok (.getfield 57, 3) := by decide +kernel
theorem dX9_findGroups_88 : decode cX9_findGroups 88 = .ok (.iload_n 3, 1) := by decide +kernel
theorem dX9_findGroups_89 : decode cX9_findGroups 89 = .ok (.iaload, 1) := by decide +kernel
theorem dX9_findGroups_90 : decode cX9_findGroups 90 = .ok (.aload_n 0, 1) := by decide +kernel
theorem dX9_findGroups_91 : decode cX9_findGroups 91 = .ok (.getfield 57, 3) := by decide +kernel
theorem dX9_findGroups_94 : decode cX9_findGroups 94 = .ok (.iload_n 2, 1) := by decide +kernel
theorem dX9_findGroups_95 : decode cX9_findGroups 95 = .ok (.iaload, 1) := by decide +kernel
theorem dX9_findGroups_96 : decode cX9_findGroups 96 = .ok (.if_icmp .le 26, 3) := by decide +kernel
theorem dX9_findGroups_99 : decode cX9_findGroups 99 = .ok (.aload_n 0, 1) := by decide +kernel
theorem dX9_findGroups_100 : decode cX9_findGroups 100 = .ok (.iload_n 2, 1) := by decide +kernel
theorem dX9_findGroups_101 : decode cX9_findGroups 101 = .ok (.iload_n 3, 1) := by decide +kernel
theorem dX9_findGroups_102 : decode cX9_findGroups 102 = .ok (.invokevirtual 181, 3) := by decide +kernel
theorem dX9_findGroups_105 : decode cX9_findGroups 105 = .ok (.ifCond .eq 17, 3) := by decide +kernel
theorem dX9_findGroups_108 : decode cX9_findGroups 108 = .ok (.aload_n 0, 1) := by decide +kernel
theorem dX9_findGroups_109 : decode cX9_findGroups 109 = .ok (.getfield 57, 3) := by decide +kernel
theorem dX9_findGroups_112 : decode cX9_findGroups 112 = .ok (.iload_n 3, 1) := by decide +kernel
theorem dX9_findGroups_113 : decode cX9_findGroups 113 = .ok (.aload_n 0, 1) := by decide +kernel
theorem dX9_findGroups_114 : decode cX9_findGroups 114 = .ok (.getfield 57, 3) := by decide +kernel
theorem dX9_findGroups_117 : decode cX9_findGroups 117 = .ok (.iload_n 2, 1) := by decide +kernel
theorem dX9_findGroups_118 : decode cX9_findGroups 118 = .ok (.iaload, 1) := by decide +kernel
theorem dX9_findGroups_119 : decode cX9_findGroups 119 = .ok (.iastore, 1) := by decide +kernel
theorem dX9_findGroups_120 : decode cX9_findGroups 120 = .ok (.iconst 1, 1) := by decide +kernel
theorem dX9_findGroups_121 : decode cX9_findGroups 121 = .ok (.istore_n 1, 1) := by decide +kernel
theorem dX9_findGroups_122 : decode cX9_findGroups 122 = .ok (.iinc 3 1, 3) := by decide +kernel
theorem dX9_findGroups_125 : decode cX9_findGroups 125 = .ok (.goto (-58), 3) := by decide +kernel
theorem dX9_findGroups_128 : decode cX9_findGroups 128 = .ok (.iinc 2 1, 3) := by decide +kernel
theorem dX9_findGroups_131 : decode cX9_findGroups 131 = .ok (.goto (-74), 3) := by decide +kernel
theorem dX9_findGroups_134 : decode cX9_findGroups 134 = .ok (.goto (-85), 3) := by decide +kernel
theorem dX9_findGroups_137 : decode cX9_findGroups 137 = .ok (.aload_n 0, 1) := by decide +kernel
theorem dX9_findGroups_138 : decode cX9_findGroups 138 = .ok (.iconst 0, 1) := by decide +kernel
theorem dX9_findGroups_139 : decode cX9_findGroups 139 = .ok (.putfield 184, 3) := by decide +kernel
theorem dX9_findGroups_142 : decode cX9_findGroups 142 = .ok (.iconst 0, 1) := by decide +kernel
theorem dX9_findGroups_143 : decode cX9_findGroups 143 = .ok (.istore_n 2, 1) := by decide +kernel
theorem dX9_findGroups_144 : decode cX9_findGroups 144 = .ok (.iload_n 2, 1) := by decide +kernel
theorem dX9_findGroups_145 : decode cX9_findGroups 145 = .ok (.aload_n 0, 1) := by decide +kernel
theorem dX9_findGroups_146 : decode cX9_findGroups 146 = .ok (.getfield 92, 3) := by decide +kernel
theorem dX9_findGroups_149 : decode cX9_findGroups 149 = .ok (.if_icmp .ge 77, 3) := by decide +kernel
theorem dX9_findGroups_152 : decode cX9_findGroups 152 = .ok (.aload_n 0, 1) := by decide +kernel
theorem dX9_findGroups_153 : decode cX9_findGroups 153 = .ok (.getfield 57, 3) := by decide +kernel
theorem dX9_findGroups_156 : decode cX9_findGroups 156 = .ok (.iload_n 2, 1) := by decide +kernel
theorem dX9_findGroups_157 : decode cX9_findGroups 157 = .ok (.iaload, 1) := by decide +kernel
theorem dX9_findGroups_158 : decode cX9_findGroups 158 = .ok (.iload_n 2, 1) := by decide +kernel
theorem dX9_findGroups_159 : decode cX9_findGroups 159 = .ok (.if_icmp .ne 61, 3) := by decide +kernel
theorem dX9_findGroups_162 : decode cX9_findGroups 162 = .ok (.iload_n 2, 1) := by decide +kernel
theorem dX9_findGroups_163 : decode cX9_findGroups 163 = .ok (.istore_n 3, 1) := by decide +kernel
theorem dX9_findGroups_164 : decode cX9_findGroups 164 = .ok (.iload_n 3, 1) := by decide +kernel
theorem dX9_findGroups_165 : decode cX9_findGroups 165 = .ok (.aload_n 0, 1) := by decide +kernel
theorem dX9_findGroups_166 : decode cX9_findGroups 166 = .ok (.getfield 92, 3) := by decide +kernel
theorem dX9_findGroups_169 : decode cX9_findGroups 169 = .ok (.if_icmp .ge 41, 3) := by decide +kernel
theorem dX9_findGroups_172 : decode cX9_findGroups 172 = .ok (.aload_n 0, 1) := by decide +kernel
theorem dX9_findGroups_173 : decode cX9_findGroups 173 = .ok (.getfield 57, 3) := by decide +kernel
theorem dX9_findGroups_176 : decode cX9_findGroups 176 = .ok (.iload_n 3, 1) := by decide +kernel
theorem dX9_findGroups_177 : decode cX9_findGroups 177 = .ok (.aload_n 0, 1) := by decide +kernel
theorem dX9_findGroups_178 : decode cX9_findGroups 178 = .ok (.getfield 57, 3) := by decide +kernel
theorem dX9_findGroups_181 : decode cX9_findGroups 181 = .ok (.iload_n 3, 1) := by decide +kernel
theorem dX9_findGroups_182 : decode cX9_findGroups 182 = .ok (.iaload, 1) := by decide +kernel
theorem dX9_findGroups_183 : decode cX9_findGroups 183 = .ok (.iload_n 2, 1) := by decide +kernel
theorem dX9_findGroups_184 : decode cX9_findGroups 184 = .ok (.if_icmp .ne 13, 3) := by decide +kernel
theorem dX9_findGroups_187 : decode cX9_findGroups 187 = .ok (.bipush 40, 2) := by decide +kernel
theorem dX9_findGroups_189 : decode cX9_findGroups 189 = .ok (.aload_n 0, 1) := by decide +kernel
theorem dX9_findGroups_190 : decode cX9_findGroups 190 = .ok (.getfield 184, 3) := by decide +kernel
theorem dX9_findGroups_193 : decode cX9_findGroups 193 = .ok (.iadd, 1) := by decide +kernel
theorem dX9_findGroups_194 : decode cX9_findGroups 194 = .ok (.goto 9, 3) := by decide +kernel
theorem dX9_findGroups_197 : decode cX9_findGroups 197 = .ok (.aload_n 0, 1) := by decide +kernel
theorem dX9_findGroups_198 : decode cX9_findGroups 198 = .ok (.getfield 57, 3) := by decide +kernel
theorem dX9_findGroups_201 : decode cX9_findGroups 201 = .ok (.iload_n 3, 1) := by decide +kernel
theorem dX9_findGroups_202 : decode cX9_findGroups 202 = .ok (.iaload, 1) := by decide +kernel
theorem dX9_findGroups_203 : decode cX9_findGroups 203 = .ok (.iastore, 1) := by decide +kernel
theorem dX9_findGroups_204 : decode cX9_findGroups 204 = .ok (.iinc 3 1, 3) := by decide +kernel
theorem dX9_findGroups_207 : decode cX9_findGroups 207 = .ok (.goto (-43), 3) := by decide +kernel
theorem dX9_findGroups_210 : decode cX9_findGroups 210 = .ok (.aload_n 0, 1) := by decide +kernel
theorem dX9_findGroups_211 : decode cX9_findGroups 211 = .ok (.dup, 1) := by decide +kernel
theorem dX9_findGroups_212 : decode cX9_findGroups 212 = .ok (.getfield 184, 3) := by decide +kernel
theorem dX9_findGroups_215 : decode cX9_findGroups 215 = .ok (.iconst 1, 1) := by decide +kernel
theorem dX9_findGroups_216 : decode cX9_findGroups 216 = .ok (.iadd, 1) := by decide +kernel
theorem dX9_findGroups_217 : decode cX9_findGroups 217 = .ok (.putfield 184, 3) := by decide +kernel
theorem dX9_findGroups_220 : decode cX9_findGroups 220 = .ok (.iinc 2 1, 3) := by decide +kernel
theorem dX9_findGroups_223 : decode cX9_findGroups 223 = .ok (.goto (-79), 3) := by decide +kernel
theorem dX9_findGroups_226 : decode cX9_findGroups 226 = .ok (.iconst 0, 1) := by decide +kernel
theorem dX9_findGroups_227 : decode cX9_findGroups 227 = .ok (.istore_n 2, 1) := by decide +kernel
theorem dX9_findGroups_228 : decode cX9_findGroups 228 = .ok (.iload_n 2, 1) := by decide +kernel
theorem dX9_findGroups_229 : decode cX9_findGroups 229 = .ok (.aload_n 0, 1) := by decide +kernel
theorem dX9_findGroups_230 : decode cX9_findGroups 230 = .ok (.getfield 92, 3) := by decide +kernel
theorem dX9_findGroups_233 : decode cX9_findGroups 233 = .ok (.if_icmp .ge 39, 3) := by decide +kernel
theorem dX9_findGroups_236 : decode cX9_findGroups 236 = .ok (.aload_n 0, 1) := by decide +kernel
theorem dX9_findGroups_237 : decode cX9_findGroups 237 = .ok (.getfield 57, 3) := by decide +kernel
theorem dX9_findGroups_240 : decode cX9_findGroups 240 = .ok (.iload_n 2, 1) := by decide +kernel
theorem dX9_findGroups_241 : decode cX9_findGroups 241 = .ok (.aload_n 0, 1) := by decide +kernel
theorem dX9_findGroups_242 : decode cX9_findGroups 242 = .ok (.getfield 57, 3) := by decide +kernel
theorem dX9_findGroups_245 : decode cX9_findGroups 245 = .ok (.iload_n 2, 1) := by decide +kernel
theorem dX9_findGroups_246 : decode cX9_findGroups 246 = .ok (.iaload, 1) := by decide +kernel
theorem dX9_findGroups_247 : decode cX9_findGroups 247 = .ok (.bipush 40, 2) := by decide +kernel
theorem dX9_findGroups_249 : decode cX9_findGroups 249 = .ok (.if_icmp .lt 15, 3) := by decide +kernel
theorem dX9_findGroups_252 : decode cX9_findGroups 252 = .ok (.aload_n 0, 1) := by decide +kernel
theorem dX9_findGroups_253 : decode cX9_findGroups 253 = .ok (.getfield 57, 3) := by decide +kernel
theorem dX9_findGroups_256 : decode cX9_findGroups 256 = .ok (.iload_n 2, 1) := by decide +kernel
theorem dX9_findGroups_257 : decode cX9_findGroups 257 = .ok (.iaload, 1) := by decide +kernel
theorem dX9_findGroups_258 : decode cX9_findGroups 258 = .ok (.bipush 40, 2) := by decide +kernel
theorem dX9_findGroups_260 : decode cX9_findGroups 260 = .ok (.isub, 1) := by decide +kernel
theorem dX9_findGroups_261 : decode cX9_findGroups 261 = .ok (.goto 4, 3) := by decide +kernel
theorem dX9_findGroups_264 : decode cX9_findGroups 264 = .ok (.iconst (-1), 1) := by decide +kernel
theorem dX9_findGroups_265 : decode cX9_findGroups 265 = .ok (.iastore, 1) := by decide +kernel
theorem dX9_findGroups_266 : decode cX9_findGroups 266 = .ok (.iinc 2 1, 3) := by decide +kernel
theorem dX9_findGroups_269 : decode cX9_findGroups 269 = .ok (.goto (-41), 3) := by decide +kernel
theorem dX9_findGroups_272 : decode cX9_findGroups 272 = .ok (.return_, 1) := by decide +kernel
set_option maxRecDepth 20000 in
theorem ok_162 {l : Launch} {d : Nat} (IH : ∀ μ, μ < 196 → px_Met l px_P d μ) : px_ok l px_P d RX9 cX9_findGroups 4 (none) tb_162 :=
  ⟨px_Sp.of (ps_aload_n dX9_findGroups_0 rfl),
   ps_callV (IH 148 (by decide)) (C := RX9) (T := TX9) (N := 36) (ci := 8) rfl rfl (fc_148 _ _) wm_RX9_152 wi_yX9_findParents wl_yX9_findParents dX9_findGroups_1,
   px_Sp.of (ps_iconst dX9_findGroups_4 (by decide)),
   px_Sp.of (ps_istore_n dX9_findGroups_5 rfl (by decide)),
   px_Sp.of (ps_iload_n dX9_findGroups_6 rfl),
   px_Sp.of (ps_aload_n dX9_findGroups_7 rfl),
   px_Sp.of (ps_get kc_X9 (by decide) wf_RX9_92 dX9_findGroups_8),
   px_Sp.of (ps_icmp_ge dX9_findGroups_11 (by decide)),
   px_Sp.of (ps_aload_n dX9_findGroups_14 rfl),
   px_Sp.of (ps_get kc_X9 (by decide) wf_RX9_57 dX9_findGroups_15),
   px_Sp.of (ps_iload_n dX9_findGroups_18 rfl),
   px_Sp.of (ps_aload_n dX9_findGroups_19 rfl),
   px_Sp.of (ps_iload_n dX9_findGroups_20 rfl),
   ps_callV (IH 143 (by decide)) (C := RX9) (T := TX9) (N := 36) (ci := 8) rfl rfl (fc_143 _ _) wm_RX9_135 wi_yX9_isSeen wl_yX9_isSeen dX9_findGroups_21,
   px_Sp.of (ps_if_eq dX9_findGroups_24 (by decide)),
   px_Sp.of (ps_aload_n dX9_findGroups_27 rfl),
   px_Sp.of (ps_iload_n dX9_findGroups_28 rfl),
   ps_callV (IH 163 (by decide)) (C := RX9) (T := TX9) (N := 36) (ci := 8) rfl rfl (fc_163 _ _) wm_RX9_178 wi_yX9_hasPiece wl_yX9_hasPiece dX9_findGroups_29,
   px_Sp.of (ps_if_eq dX9_findGroups_32 (by decide)),
   px_Sp.of (ps_iload_n dX9_findGroups_35 rfl),
   px_Sp.of (ps_goto dX9_findGroups_36 (by decide)),
   px_Sp.of (ps_iconst dX9_findGroups_39 (by decide)),
   px_Sp.ofm (ps_iast dX9_findGroups_40),
   px_Sp.of (ps_iinc dX9_findGroups_41 (by decide) (by decide)),
   px_Sp.of (ps_goto dX9_findGroups_44 (by decide)),
   px_Sp.of (ps_iconst dX9_findGroups_47 (by decide)),
   px_Sp.of (ps_istore_n dX9_findGroups_48 rfl (by decide)),
   px_Sp.of (ps_iload_n dX9_findGroups_49 rfl),
   px_Sp.of (ps_if_eq dX9_findGroups_50 (by decide)),
   px_Sp.of (ps_iconst dX9_findGroups_53 (by decide)),
   px_Sp.of (ps_istore_n dX9_findGroups_54 rfl (by decide)),
   px_Sp.of (ps_iconst dX9_findGroups_55 (by decide)),
   px_Sp.of (ps_istore_n dX9_findGroups_56 rfl (by decide)),
   px_Sp.of (ps_iload_n dX9_findGroups_57 rfl),
   px_Sp.of (ps_aload_n dX9_findGroups_58 rfl),
   px_Sp.of (ps_get kc_X9 (by decide) wf_RX9_92 dX9_findGroups_59),
   px_Sp.of (ps_icmp_ge dX9_findGroups_62 (by decide)),
   px_Sp.of (ps_iconst dX9_findGroups_65 (by decide)),
   px_Sp.of (ps_istore_n dX9_findGroups_66 rfl (by decide)),
   px_Sp.of (ps_iload_n dX9_findGroups_67 rfl),
   px_Sp.of (ps_aload_n dX9_findGroups_68 rfl),
   px_Sp.of (ps_get kc_X9 (by decide) wf_RX9_92 dX9_findGroups_69),
   px_Sp.of (ps_icmp_ge dX9_findGroups_72 (by decide)),
   px_Sp.of (ps_aload_n dX9_findGroups_75 rfl),
   px_Sp.of (ps_get kc_X9 (by decide) wf_RX9_57 dX9_findGroups_76),
   px_Sp.of (ps_iload_n dX9_findGroups_79 rfl),
   px_Sp.of (ps_iald dX9_findGroups_80),
   px_Sp.of (ps_if_lt dX9_findGroups_81 (by decide)),
   px_Sp.of (ps_aload_n dX9_findGroups_84 rfl),
   px_Sp.of (ps_get kc_X9 (by decide) wf_RX9_57 dX9_findGroups_85),
   px_Sp.of (ps_iload_n dX9_findGroups_88 rfl),
   px_Sp.of (ps_iald dX9_findGroups_89),
   px_Sp.of (ps_aload_n dX9_findGroups_90 rfl),
   px_Sp.of (ps_get kc_X9 (by decide) wf_RX9_57 dX9_findGroups_91),
   px_Sp.of (ps_iload_n dX9_findGroups_94 rfl),
   px_Sp.of (ps_iald dX9_findGroups_95),
   px_Sp.of (ps_icmp_le dX9_findGroups_96 (by decide)),
   px_Sp.of (ps_aload_n dX9_findGroups_99 rfl),
   px_Sp.of (ps_iload_n dX9_findGroups_100 rfl),
   px_Sp.of (ps_iload_n dX9_findGroups_101 rfl),
   ps_callV (IH 165 (by decide)) (C := RX9) (T := TX9) (N := 36) (ci := 8) rfl rfl (fc_165 _ _) wm_RX9_181 wi_yX9_haveCommon wl_yX9_haveCommon dX9_findGroups_102,
   px_Sp.of (ps_if_eq dX9_findGroups_105 (by decide)),
   px_Sp.of (ps_aload_n dX9_findGroups_108 rfl),
   px_Sp.of (ps_get kc_X9 (by decide) wf_RX9_57 dX9_findGroups_109),
   px_Sp.of (ps_iload_n dX9_findGroups_112 rfl),
   px_Sp.of (ps_aload_n dX9_findGroups_113 rfl),
   px_Sp.of (ps_get kc_X9 (by decide) wf_RX9_57 dX9_findGroups_114),
   px_Sp.of (ps_iload_n dX9_findGroups_117 rfl),
   px_Sp.of (ps_iald dX9_findGroups_118),
   px_Sp.ofm (ps_iast dX9_findGroups_119),
   px_Sp.of (ps_iconst dX9_findGroups_120 (by decide)),
   px_Sp.of (ps_istore_n dX9_findGroups_121 rfl (by decide)),
   px_Sp.of (ps_iinc dX9_findGroups_122 (by decide) (by decide)),
   px_Sp.of (ps_goto dX9_findGroups_125 (by decide)),
   px_Sp.of (ps_iinc dX9_findGroups_128 (by decide) (by decide)),
   px_Sp.of (ps_goto dX9_findGroups_131 (by decide)),
   px_Sp.of (ps_goto dX9_findGroups_134 (by decide)),
   px_Sp.of (ps_aload_n dX9_findGroups_137 rfl),
   px_Sp.of (ps_iconst dX9_findGroups_138 (by decide)),
   px_Sp.ofm (ps_putI kc_X9 (by decide) wf_RX9_184 rfl (by decide +kernel) kp_X9_18 dX9_findGroups_139),
   px_Sp.of (ps_iconst dX9_findGroups_142 (by decide)),
   px_Sp.of (ps_istore_n dX9_findGroups_143 rfl (by decide)),
   px_Sp.of (ps_iload_n dX9_findGroups_144 rfl),
   px_Sp.of (ps_aload_n dX9_findGroups_145 rfl),
   px_Sp.of (ps_get kc_X9 (by decide) wf_RX9_92 dX9_findGroups_146),
   px_Sp.of (ps_icmp_ge dX9_findGroups_149 (by decide)),
   px_Sp.of (ps_aload_n dX9_findGroups_152 rfl),
   px_Sp.of (ps_get kc_X9 (by decide) wf_RX9_57 dX9_findGroups_153),
   px_Sp.of (ps_iload_n dX9_findGroups_156 rfl),
   px_Sp.of (ps_iald dX9_findGroups_157),
   px_Sp.of (ps_iload_n dX9_findGroups_158 rfl),
   px_Sp.of (ps_icmp_ne dX9_findGroups_159 (by decide)),
   px_Sp.of (ps_iload_n dX9_findGroups_162 rfl),
   px_Sp.of (ps_istore_n dX9_findGroups_163 rfl (by decide)),
   px_Sp.of (ps_iload_n dX9_findGroups_164 rfl),
   px_Sp.of (ps_aload_n dX9_findGroups_165 rfl),
   px_Sp.of (ps_get kc_X9 (by decide) wf_RX9_92 dX9_findGroups_166),
   px_Sp.of (ps_icmp_ge dX9_findGroups_169 (by decide)),
   px_Sp.of (ps_aload_n dX9_findGroups_172 rfl),
   px_Sp.of (ps_get kc_X9 (by decide) wf_RX9_57 dX9_findGroups_173),
   px_Sp.of (ps_iload_n dX9_findGroups_176 rfl),
   px_Sp.of (ps_aload_n dX9_findGroups_177 rfl),
   px_Sp.of (ps_get kc_X9 (by decide) wf_RX9_57 dX9_findGroups_178),
   px_Sp.of (ps_iload_n dX9_findGroups_181 rfl),
   px_Sp.of (ps_iald dX9_findGroups_182),
   px_Sp.of (ps_iload_n dX9_findGroups_183 rfl),
   px_Sp.of (ps_icmp_ne dX9_findGroups_184 (by decide)),
   px_Sp.of (ps_bipush dX9_findGroups_187 (by decide)),
   px_Sp.of (ps_aload_n dX9_findGroups_189 rfl),
   px_Sp.of (ps_get kc_X9 (by decide) wf_RX9_184 dX9_findGroups_190),
   px_Sp.of (ps_iadd dX9_findGroups_193),
   px_Sp.of (ps_goto dX9_findGroups_194 (by decide)),
   px_Sp.of (ps_aload_n dX9_findGroups_197 rfl),
   px_Sp.of (ps_get kc_X9 (by decide) wf_RX9_57 dX9_findGroups_198),
   px_Sp.of (ps_iload_n dX9_findGroups_201 rfl),
   px_Sp.of (ps_iald dX9_findGroups_202),
   px_Sp.ofm (ps_iast dX9_findGroups_203),
   px_Sp.of (ps_iinc dX9_findGroups_204 (by decide) (by decide)),
   px_Sp.of (ps_goto dX9_findGroups_207 (by decide)),
   px_Sp.of (ps_aload_n dX9_findGroups_210 rfl),
   px_Sp.of (ps_dup dX9_findGroups_211),
   px_Sp.of (ps_get kc_X9 (by decide) wf_RX9_184 dX9_findGroups_212),
   px_Sp.of (ps_iconst dX9_findGroups_215 (by decide)),
   px_Sp.of (ps_iadd dX9_findGroups_216),
   px_Sp.ofm (ps_putI kc_X9 (by decide) wf_RX9_184 rfl (by decide +kernel) kp_X9_18 dX9_findGroups_217),
   px_Sp.of (ps_iinc dX9_findGroups_220 (by decide) (by decide)),
   px_Sp.of (ps_goto dX9_findGroups_223 (by decide)),
   px_Sp.of (ps_iconst dX9_findGroups_226 (by decide)),
   px_Sp.of (ps_istore_n dX9_findGroups_227 rfl (by decide)),
   px_Sp.of (ps_iload_n dX9_findGroups_228 rfl),
   px_Sp.of (ps_aload_n dX9_findGroups_229 rfl),
   px_Sp.of (ps_get kc_X9 (by decide) wf_RX9_92 dX9_findGroups_230),
   px_Sp.of (ps_icmp_ge dX9_findGroups_233 (by decide)),
   px_Sp.of (ps_aload_n dX9_findGroups_236 rfl),
   px_Sp.of (ps_get kc_X9 (by decide) wf_RX9_57 dX9_findGroups_237),
   px_Sp.of (ps_iload_n dX9_findGroups_240 rfl),
   px_Sp.of (ps_aload_n dX9_findGroups_241 rfl),
   px_Sp.of (ps_get kc_X9 (by decide) wf_RX9_57 dX9_findGroups_242),
   px_Sp.of (ps_iload_n dX9_findGroups_245 rfl),
   px_Sp.of (ps_iald dX9_findGroups_246),
   px_Sp.of (ps_bipush dX9_findGroups_247 (by decide)),
   px_Sp.of (ps_icmp_lt dX9_findGroups_249 (by decide)),
   px_Sp.of (ps_aload_n dX9_findGroups_252 rfl),
   px_Sp.of (ps_get kc_X9 (by decide) wf_RX9_57 dX9_findGroups_253),
   px_Sp.of (ps_iload_n dX9_findGroups_256 rfl),
   px_Sp.of (ps_iald dX9_findGroups_257),
   px_Sp.of (ps_bipush dX9_findGroups_258 (by decide)),
   px_Sp.of (ps_isub dX9_findGroups_260),
   px_Sp.of (ps_goto dX9_findGroups_261 (by decide)),
   px_Sp.of (ps_iconst dX9_findGroups_264 (by decide)),
   px_Sp.ofm (ps_iast dX9_findGroups_265),
   px_Sp.of (ps_iinc dX9_findGroups_266 (by decide) (by decide)),
   px_Sp.of (ps_goto dX9_findGroups_269 (by decide)),
   ps_vret dX9_findGroups_272, trivial⟩
theorem mt_162 {l : Launch} {d : Nat} (IH : ∀ μ, μ < 196 → px_Met l px_P d μ) : px_Met l px_P (d + 1) 162 := px_met (own := RX9) rfl (by decide +kernel) (ok_162 IH)
theorem dX9_hasPiece_0 : decode cX9_hasPiece 0 = .ok (.iconst 0, 1) := by decide +kernel
theorem dX9_hasPiece_1 : decode cX9_hasPiece 1 = .ok (.istore_n 2, 1) := by decide +kernel
theorem dX9_hasPiece_2 : decode cX9_hasPiece 2 = .ok (.iconst 0, 1) := by decide +kernel
theorem dX9_hasPiece_3 : decode cX9_hasPiece 3 = .ok (.istore_n 3, 1) := by decide +kernel
theorem dX9_hasPiece_4 : decode cX9_hasPiece 4 = .ok (.iload_n 3, 1) := by decide +kernel
theorem dX9_hasPiece_5 : decode cX9_hasPiece 5 = .ok (.aload_n 0, 1) := by decide +kernel
theorem dX9_hasPiece_6 : decode cX9_hasPiece 6 = .ok (.getfield 22, 3) := by decide +kernel
theorem dX9_hasPiece_9 : decode cX9_hasPiece 9 = .ok (.iload_n 1, 1) := by decide +kernel
theorem dX9_hasPiece_10 : decode cX9_hasPiece 10 = .ok (.iaload, 1) := by decide +kernel
theorem dX9_hasPiece_11 : decode cX9_hasPiece 11 = .ok (.if_icmp .ge 32, 3) := by decide +kernel
theorem dX9_hasPiece_14 : decode cX9_hasPiece 14 = .ok (.iload_n 2, 1) := by decide +kernel
theorem dX9_hasPiece_15 : decode cX9_hasPiece 15 = .ok (.ifCond .ne 16, 3) := by decide +kernel
theorem dX9_hasPiece_18 : decode cX9_hasPiece 18 = .ok (.aload_n 0, 1) := by decide +kernel
theorem dX9_hasPiece_19 : decode cX9_hasPiece 19 = .ok (.bipush 14, 2) := by decide +kernel
theorem dX9_hasPiece_21 : decode cX9_hasPiece 21 = .ok (.iload_n 1, 1) := by decide +kernel
theorem dX9_hasPiece_22 : decode cX9_hasPiece 22 = .ok (.imul, 1) := by decide +kernel
theorem dX9_hasPiece_23 : decode cX9_hasPiece 23 = .ok (.iload_n 3, 1) := by decide +kernel
theorem dX9_hasPiece_24 : decode cX9_hasPiece 24 = .ok (.iadd, 1) := by decide +kernel
theorem dX9_hasPiece_25 : decode cX9_hasPiece 25 = .ok (.invokevirtual 175, 3) := by decide +kernel
theorem dX9_hasPiece_28 : decode cX9_hasPiece 28 = .ok (.ifCond .eq 7, 3) := by decide +kernel
theorem dX9_hasPiece_31 : decode cX9_hasPiece 31 = .ok (.iconst 1, 1) := by decide +kernel
theorem dX9_hasPiece_32 : decode cX9_hasPiece 32 = .ok (.goto 4, 3) := by decide +kernel
theorem dX9_hasPiece_35 : decode cX9_hasPiece 35 = .ok (.iconst 0, 1) := by decide +kernel
theorem dX9_hasPiece_36 : decode cX9_hasPiece 36 = .ok (.istore_n 2, 1) := by decide +kernel
theorem dX9_hasPiece_37 : decode cX9_hasPiece 37 = .ok (.iinc 3 1, 3) := by decide +kernel
theorem dX9_hasPiece_40 : decode cX9_hasPiece 40 = .ok (.goto (-36), 3) := by decide +kernel
theorem dX9_hasPiece_43 : decode cX9_hasPiece 43 = .ok (.iload_n 2, 1) := by decide +kernel
theorem dX9_hasPiece_44 : decode cX9_hasPiece 44 = .ok (.ireturn, 1) := by decide +kernel
set_option maxRecDepth 20000 in
theorem ok_163 {l : Launch} {d : Nat} (IH : ∀ μ, μ < 196 → px_Met l px_P d μ) : px_ok l px_P d RX9 cX9_hasPiece 4 (some .boolean) tb_163 :=
  ⟨px_Sp.of (ps_iconst dX9_hasPiece_0 (by decide)),
   px_Sp.of (ps_istore_n dX9_hasPiece_1 rfl (by decide)),
   px_Sp.of (ps_iconst dX9_hasPiece_2 (by decide)),
   px_Sp.of (ps_istore_n dX9_hasPiece_3 rfl (by decide)),
   px_Sp.of (ps_iload_n dX9_hasPiece_4 rfl),
   px_Sp.of (ps_aload_n dX9_hasPiece_5 rfl),
   px_Sp.of (ps_get kc_X9 (by decide) wf_RX9_22 dX9_hasPiece_6),
   px_Sp.of (ps_iload_n dX9_hasPiece_9 rfl),
   px_Sp.of (ps_iald dX9_hasPiece_10),
   px_Sp.of (ps_icmp_ge dX9_hasPiece_11 (by decide)),
   px_Sp.of (ps_iload_n dX9_hasPiece_14 rfl),
   px_Sp.of (ps_if_ne dX9_hasPiece_15 (by decide)),
   px_Sp.of (ps_aload_n dX9_hasPiece_18 rfl),
   px_Sp.of (ps_bipush dX9_hasPiece_19 (by decide)),
   px_Sp.of (ps_iload_n dX9_hasPiece_21 rfl),
   px_Sp.of (ps_imul dX9_hasPiece_22),
   px_Sp.of (ps_iload_n dX9_hasPiece_23 rfl),
   px_Sp.of (ps_iadd dX9_hasPiece_24),
   ps_callV (IH 164 (by decide)) (C := RX9) (T := TX9) (N := 36) (ci := 8) rfl rfl (fc_164 _ _) wm_RX9_175 wi_yX9_isPiece wl_yX9_isPiece dX9_hasPiece_25,
   px_Sp.of (ps_if_eq dX9_hasPiece_28 (by decide)),
   px_Sp.of (ps_iconst dX9_hasPiece_31 (by decide)),
   px_Sp.of (ps_goto dX9_hasPiece_32 (by decide)),
   px_Sp.of (ps_iconst dX9_hasPiece_35 (by decide)),
   px_Sp.of (ps_istore_n dX9_hasPiece_36 rfl (by decide)),
   px_Sp.of (ps_iinc dX9_hasPiece_37 (by decide) (by decide)),
   px_Sp.of (ps_goto dX9_hasPiece_40 (by decide)),
   px_Sp.of (ps_iload_n dX9_hasPiece_43 rfl),
   ps_zret dX9_hasPiece_44, trivial⟩
theorem mt_163 {l : Launch} {d : Nat} (IH : ∀ μ, μ < 196 → px_Met l px_P d μ) : px_Met l px_P (d + 1) 163 := px_met (own := RX9) rfl (by decide +kernel) (ok_163 IH)
theorem dX9_isPiece_0 : decode cX9_isPiece 0 = .ok (.aload_n 0, 1) := by decide +kernel
theorem dX9_isPiece_1 : decode cX9_isPiece 1 = .ok (.getfield 29, 3) := by decide +kernel
theorem dX9_isPiece_4 : decode cX9_isPiece 4 = .ok (.iload_n 1, 1) := by decide +kernel
theorem dX9_isPiece_5 : decode cX9_isPiece 5 = .ok (.iaload, 1) := by decide +kernel
theorem dX9_isPiece_6 : decode cX9_isPiece 6 = .ok (.iconst 1, 1) := by decide +kernel
theorem dX9_isPiece_7 : decode cX9_isPiece 7 = .ok (.if_icmp .ne 15, 3) := by decide +kernel
theorem dX9_isPiece_10 : decode cX9_isPiece 10 = .ok (.aload_n 0, 1) := by decide +kernel
theorem dX9_isPiece_11 : decode cX9_isPiece 11 = .ok (.iload_n 1, 1) := by decide +kernel
theorem dX9_isPiece_12 : decode cX9_isPiece 12 = .ok (.invokevirtual 164, 3) := by decide +kernel
theorem dX9_isPiece_15 : decode cX9_isPiece 15 = .ok (.ifCond .ge 7, 3) := by decide +kernel
theorem dX9_isPiece_18 : decode cX9_isPiece 18 = .ok (.iconst 1, 1) := by decide +kernel
theorem dX9_isPiece_19 : decode cX9_isPiece 19 = .ok (.goto 4, 3) := by decide +kernel
theorem dX9_isPiece_22 : decode cX9_isPiece 22 = .ok (.iconst 0, 1) := by decide +kernel
theorem dX9_isPiece_23 : decode cX9_isPiece 23 = .ok (.ireturn, 1) := by decide +kernel
set_option maxRecDepth 20000 in
theorem ok_164 {l : Launch} {d : Nat} (IH : ∀ μ, μ < 196 → px_Met l px_P d μ) : px_ok l px_P d RX9 cX9_isPiece 2 (some .boolean) tb_164 :=
  ⟨px_Sp.of (ps_aload_n dX9_isPiece_0 rfl),
   px_Sp.of (ps_get kc_X9 (by decide) wf_RX9_29 dX9_isPiece_1),
   px_Sp.of (ps_iload_n dX9_isPiece_4 rfl),
   px_Sp.of (ps_iald dX9_isPiece_5),
   px_Sp.of (ps_iconst dX9_isPiece_6 (by decide)),
   px_Sp.of (ps_icmp_ne dX9_isPiece_7 (by decide)),
   px_Sp.of (ps_aload_n dX9_isPiece_10 rfl),
   px_Sp.of (ps_iload_n dX9_isPiece_11 rfl),
   ps_callV (IH 156 (by decide)) (C := RX9) (T := TX9) (N := 36) (ci := 8) rfl rfl (fc_156 _ _) wm_RX9_164 wi_yX9_heldTo wl_yX9_heldTo dX9_isPiece_12,
   px_Sp.of (ps_if_ge dX9_isPiece_15 (by decide)),
   px_Sp.of (ps_iconst dX9_isPiece_18 (by decide)),
   px_Sp.of (ps_goto dX9_isPiece_19 (by decide)),
   px_Sp.of (ps_iconst dX9_isPiece_22 (by decide)),
   ps_zret dX9_isPiece_23, trivial⟩
theorem mt_164 {l : Launch} {d : Nat} (IH : ∀ μ, μ < 196 → px_Met l px_P d μ) : px_Met l px_P (d + 1) 164 := px_met (own := RX9) rfl (by decide +kernel) (ok_164 IH)
theorem dX9_haveCommon_0 : decode cX9_haveCommon 0 = .ok (.iconst 0, 1) := by decide +kernel
theorem dX9_haveCommon_1 : decode cX9_haveCommon 1 = .ok (.istore_n 3, 1) := by decide +kernel
theorem dX9_haveCommon_2 : decode cX9_haveCommon 2 = .ok (.iconst 0, 1) := by decide +kernel
theorem dX9_haveCommon_3 : decode cX9_haveCommon 3 = .ok (.istore 4, 2) := by decide +kernel
theorem dX9_haveCommon_5 : decode cX9_haveCommon 5 = .ok (.iload 4, 2) := by decide +kernel
theorem dX9_haveCommon_7 : decode cX9_haveCommon 7 = .ok (.aload_n 0, 1) := by decide +kernel
theorem dX9_haveCommon_8 : decode cX9_haveCommon 8 = .ok (.getfield 22, 3) := by decide +kernel
theorem dX9_haveCommon_11 : decode cX9_haveCommon 11 = .ok (.iload_n 1, 1) := by decide +kernel
theorem dX9_haveCommon_12 : decode cX9_haveCommon 12 = .ok (.iaload, 1) := by decide +kernel
theorem dX9_haveCommon_13 : decode cX9_haveCommon 13 = .ok (.if_icmp .ge 88, 3) := by decide +kernel
theorem dX9_haveCommon_16 : decode cX9_haveCommon 16 = .ok (.iconst 0, 1) := by decide +kernel
theorem dX9_haveCommon_17 : decode cX9_haveCommon 17 = .ok (.istore 5, 2) := by decide +kernel
theorem dX9_haveCommon_19 : decode cX9_haveCommon 19 = .ok (.iload 5, 2) := by decide +kernel
theorem dX9_haveCommon_21 : decode cX9_haveCommon 21 = .ok (.aload_n 0, 1) := by decide +kernel
theorem dX9_haveCommon_22 : decode cX9_haveCommon 22 = .ok (.getfield 22, 3) := by decide +kernel
theorem dX9_haveCommon_25 : decode cX9_haveCommon 25 = .ok (.iload_n 2, 1) := by decide +kernel
theorem dX9_haveCommon_26 : decode cX9_haveCommon 26 = .ok (.iaload, 1) := by decide +kernel
theorem dX9_haveCommon_27 : decode cX9_haveCommon 27 = .ok (.if_icmp .ge 68, 3) := by decide +kernel
theorem dX9_haveCommon_30 : decode cX9_haveCommon 30 = .ok (.iload_n 3, 1) := by decide +kernel
theorem dX9_haveCommon_31 : decode cX9_haveCommon 31 = .ok (.ifCond .ne 64, 3) := by decide +kernel
theorem dX9_haveCommon_34 : decode cX9_haveCommon 34 = .ok (.aload_n 0, 1) := by decide +kernel
theorem dX9_haveCommon_35 : decode cX9_haveCommon 35 = .ok (.bipush 14, 2) := by decide +kernel
theorem dX9_haveCommon_37 : decode cX9_haveCommon 37 = .ok (.iload_n 1, 1) := by decide +kernel
theorem dX9_haveCommon_38 : decode cX9_haveCommon 38 = .ok (.imul, 1) := by decide +kernel
theorem dX9_haveCommon_39 : decode cX9_haveCommon 39 = .ok (.iload 4, 2) := by decide +kernel
theorem dX9_haveCommon_41 : decode cX9_haveCommon 41 = .ok (.iadd, 1) := by decide +kernel
theorem dX9_haveCommon_42 : decode cX9_haveCommon 42 = .ok (.bipush 14, 2) := by decide +kernel
theorem dX9_haveCommon_44 : decode cX9_haveCommon 44 = .ok (.iload_n 2, 1) := by decide +kernel
theorem dX9_haveCommon_45 : decode cX9_haveCommon 45 = .ok (.imul, 1) := by decide +kernel
theorem dX9_haveCommon_46 : decode cX9_haveCommon 46 = .ok (.iload 5, 2) := by decide +kernel
theorem dX9_haveCommon_48 : decode cX9_haveCommon 48 = .ok (.iadd, 1) := by decide +kernel
theorem dX9_haveCommon_49 : decode cX9_haveCommon 49 = .ok (.invokevirtual 161, 3) := by decide +kernel
theorem dX9_haveCommon_52 : decode cX9_haveCommon 52 = .ok (.ifCond .eq 35, 3) := by decide +kernel
theorem dX9_haveCommon_55 : decode cX9_haveCommon 55 = .ok (.aload_n 0, 1) := by decide +kernel
theorem dX9_haveCommon_56 : decode cX9_haveCommon 56 = .ok (.bipush 14, 2) := by decide +kernel
theorem dX9_haveCommon_58 : decode cX9_haveCommon 58 = .ok (.iload_n 1, 1) := by decide +kernel
theorem dX9_haveCommon_59 : decode cX9_haveCommon 59 = .ok (.imul, 1) := by decide +kernel
theorem dX9_haveCommon_60 : decode cX9_haveCommon 60 = .ok (.iload 4, 2) := by decide +kernel
theorem dX9_haveCommon_62 : decode cX9_haveCommon 62 = .ok (.iadd, 1) := by decide +kernel
theorem dX9_haveCommon_63 : decode cX9_haveCommon 63 = .ok (.invokevirtual 175, 3) := by decide +kernel
theorem dX9_haveCommon_66 : decode cX9_haveCommon 66 = .ok (.ifCond .eq 21, 3) := by decide +kernel
theorem dX9_haveCommon_69 : decode cX9_haveCommon 69 = .ok (.aload_n 0, 1) := by decide +kernel
theorem dX9_haveCommon_70 : decode cX9_haveCommon 70 = .ok (.bipush 14, 2) := by decide +kernel
theorem dX9_haveCommon_72 : decode cX9_haveCommon 72 = .ok (.iload_n 2, 1) := by decide +kernel
theorem dX9_haveCommon_73 : decode cX9_haveCommon 73 = .ok (.imul, 1) := by decide +kernel
theorem dX9_haveCommon_74 : decode cX9_haveCommon 74 = .ok (.iload 5, 2) := by decide +kernel
theorem dX9_haveCommon_76 : decode cX9_haveCommon 76 = .ok (.iadd, 1) := by decide +kernel
theorem dX9_haveCommon_77 : decode cX9_haveCommon 77 = .ok (.invokevirtual 175, 3) := by decide +kernel
theorem dX9_haveCommon_80 : decode cX9_haveCommon 80 = .ok (.ifCond .eq 7, 3) := by decide +kernel
theorem dX9_haveCommon_83 : decode cX9_haveCommon 83 = .ok (.iconst 1, 1) := by decide +kernel
theorem dX9_haveCommon_84 : decode cX9_haveCommon 84 = .ok (.goto 4, 3) := by decide +kernel
theorem dX9_haveCommon_87 : decode cX9_haveCommon 87 = .ok (.iconst 0, 1) := by decide +kernel
theorem dX9_haveCommon_88 : decode cX9_haveCommon 88 = .ok (.istore_n 3, 1) := by decide +kernel
theorem dX9_haveCommon_89 : decode cX9_haveCommon 89 = .ok (.iinc 5 1, 3) := by decide +kernel
theorem dX9_haveCommon_92 : decode cX9_haveCommon 92 = .ok (.goto (-73), 3) := by decide +kernel
theorem dX9_haveCommon_95 : decode cX9_haveCommon 95 = .ok (.iinc 4 1, 3) := by decide +kernel
theorem dX9_haveCommon_98 : decode cX9_haveCommon 98 = .ok (.goto (-93), 3) := by decide +kernel
theorem dX9_haveCommon_101 : decode cX9_haveCommon 101 = .ok (.iload_n 3, 1) := by decide +kernel
theorem dX9_haveCommon_102 : decode cX9_haveCommon 102 = .ok (.ireturn, 1) := by decide +kernel
set_option maxRecDepth 20000 in
theorem ok_165 {l : Launch} {d : Nat} (IH : ∀ μ, μ < 196 → px_Met l px_P d μ) : px_ok l px_P d RX9 cX9_haveCommon 6 (some .boolean) tb_165 :=
  ⟨px_Sp.of (ps_iconst dX9_haveCommon_0 (by decide)),
   px_Sp.of (ps_istore_n dX9_haveCommon_1 rfl (by decide)),
   px_Sp.of (ps_iconst dX9_haveCommon_2 (by decide)),
   px_Sp.of (ps_istore dX9_haveCommon_3 (by decide)),
   px_Sp.of (ps_iload dX9_haveCommon_5),
   px_Sp.of (ps_aload_n dX9_haveCommon_7 rfl),
   px_Sp.of (ps_get kc_X9 (by decide) wf_RX9_22 dX9_haveCommon_8),
   px_Sp.of (ps_iload_n dX9_haveCommon_11 rfl),
   px_Sp.of (ps_iald dX9_haveCommon_12),
   px_Sp.of (ps_icmp_ge dX9_haveCommon_13 (by decide)),
   px_Sp.of (ps_iconst dX9_haveCommon_16 (by decide)),
   px_Sp.of (ps_istore dX9_haveCommon_17 (by decide)),
   px_Sp.of (ps_iload dX9_haveCommon_19),
   px_Sp.of (ps_aload_n dX9_haveCommon_21 rfl),
   px_Sp.of (ps_get kc_X9 (by decide) wf_RX9_22 dX9_haveCommon_22),
   px_Sp.of (ps_iload_n dX9_haveCommon_25 rfl),
   px_Sp.of (ps_iald dX9_haveCommon_26),
   px_Sp.of (ps_icmp_ge dX9_haveCommon_27 (by decide)),
   px_Sp.of (ps_iload_n dX9_haveCommon_30 rfl),
   px_Sp.of (ps_if_ne dX9_haveCommon_31 (by decide)),
   px_Sp.of (ps_aload_n dX9_haveCommon_34 rfl),
   px_Sp.of (ps_bipush dX9_haveCommon_35 (by decide)),
   px_Sp.of (ps_iload_n dX9_haveCommon_37 rfl),
   px_Sp.of (ps_imul dX9_haveCommon_38),
   px_Sp.of (ps_iload dX9_haveCommon_39),
   px_Sp.of (ps_iadd dX9_haveCommon_41),
   px_Sp.of (ps_bipush dX9_haveCommon_42 (by decide)),
   px_Sp.of (ps_iload_n dX9_haveCommon_44 rfl),
   px_Sp.of (ps_imul dX9_haveCommon_45),
   px_Sp.of (ps_iload dX9_haveCommon_46),
   px_Sp.of (ps_iadd dX9_haveCommon_48),
   ps_callV (IH 157 (by decide)) (C := RX9) (T := TX9) (N := 36) (ci := 8) rfl rfl (fc_157 _ _) wm_RX9_161 wi_yX9_isSame wl_yX9_isSame dX9_haveCommon_49,
   px_Sp.of (ps_if_eq dX9_haveCommon_52 (by decide)),
   px_Sp.of (ps_aload_n dX9_haveCommon_55 rfl),
   px_Sp.of (ps_bipush dX9_haveCommon_56 (by decide)),
   px_Sp.of (ps_iload_n dX9_haveCommon_58 rfl),
   px_Sp.of (ps_imul dX9_haveCommon_59),
   px_Sp.of (ps_iload dX9_haveCommon_60),
   px_Sp.of (ps_iadd dX9_haveCommon_62),
   ps_callV (IH 164 (by decide)) (C := RX9) (T := TX9) (N := 36) (ci := 8) rfl rfl (fc_164 _ _) wm_RX9_175 wi_yX9_isPiece wl_yX9_isPiece dX9_haveCommon_63,
   px_Sp.of (ps_if_eq dX9_haveCommon_66 (by decide)),
   px_Sp.of (ps_aload_n dX9_haveCommon_69 rfl),
   px_Sp.of (ps_bipush dX9_haveCommon_70 (by decide)),
   px_Sp.of (ps_iload_n dX9_haveCommon_72 rfl),
   px_Sp.of (ps_imul dX9_haveCommon_73),
   px_Sp.of (ps_iload dX9_haveCommon_74),
   px_Sp.of (ps_iadd dX9_haveCommon_76),
   ps_callV (IH 164 (by decide)) (C := RX9) (T := TX9) (N := 36) (ci := 8) rfl rfl (fc_164 _ _) wm_RX9_175 wi_yX9_isPiece wl_yX9_isPiece dX9_haveCommon_77,
   px_Sp.of (ps_if_eq dX9_haveCommon_80 (by decide)),
   px_Sp.of (ps_iconst dX9_haveCommon_83 (by decide)),
   px_Sp.of (ps_goto dX9_haveCommon_84 (by decide)),
   px_Sp.of (ps_iconst dX9_haveCommon_87 (by decide)),
   px_Sp.of (ps_istore_n dX9_haveCommon_88 rfl (by decide)),
   px_Sp.of (ps_iinc dX9_haveCommon_89 (by decide) (by decide)),
   px_Sp.of (ps_goto dX9_haveCommon_92 (by decide)),
   px_Sp.of (ps_iinc dX9_haveCommon_95 (by decide) (by decide)),
   px_Sp.of (ps_goto dX9_haveCommon_98 (by decide)),
   px_Sp.of (ps_iload_n dX9_haveCommon_101 rfl),
   ps_zret dX9_haveCommon_102, trivial⟩
theorem mt_165 {l : Launch} {d : Nat} (IH : ∀ μ, μ < 196 → px_Met l px_P d μ) : px_Met l px_P (d + 1) 165 := px_met (own := RX9) rfl (by decide +kernel) (ok_165 IH)
theorem dX9_lost_0 : decode cX9_lost 0 = .ok (.aload_n 0, 1) := by decide +kernel
theorem dX9_lost_1 : decode cX9_lost 1 = .ok (.invokevirtual 187, 3) := by decide +kernel
theorem dX9_lost_4 : decode cX9_lost 4 = .ok (.iload_n 1, 1) := by decide +kernel
theorem dX9_lost_5 : decode cX9_lost 5 = .ok (.i2l, 1) := by decide +kernel
theorem dX9_lost_6 : decode cX9_lost 6 = .ok (.lconst 0, 1) := by decide +kernel
theorem dX9_lost_7 : decode cX9_lost 7 = .ok (.aload_n 0, 1) := by decide +kernel
theorem dX9_lost_8 : decode cX9_lost 8 = .ok (.getfield 184, 3) := by decide +kernel
theorem dX9_lost_11 : decode cX9_lost 11 = .ok (.iconst 1, 1) := by decide +kernel
theorem dX9_lost_12 : decode cX9_lost 12 = .ok (.isub, 1) := by decide +kernel
theorem dX9_lost_13 : decode cX9_lost 13 = .ok (.i2l, 1) := by decide +kernel
theorem dX9_lost_14 : decode cX9_lost 14 = .ok (.invokestatic 95, 3) := by decide +kernel
theorem dX9_lost_17 : decode cX9_lost 17 = .ok (.ifCond .ne 7, 3) := by decide +kernel
theorem dX9_lost_20 : decode cX9_lost 20 = .ok (.sipush (-1001), 3) := by decide +kernel
theorem dX9_lost_23 : decode cX9_lost 23 = .ok (.ireturn, 1) := by decide +kernel
theorem dX9_lost_24 : decode cX9_lost 24 = .ok (.iload_n 2, 1) := by decide +kernel
theorem dX9_lost_25 : decode cX9_lost 25 = .ok (.i2l, 1) := by decide +kernel
theorem dX9_lost_26 : decode cX9_lost 26 = .ok (.lconst 0, 1) := by decide +kernel
theorem dX9_lost_27 : decode cX9_lost 27 = .ok (.ldc2_w 167, 3) := by decide +kernel
theorem dX9_lost_30 : decode cX9_lost 30 = .ok (.invokestatic 95, 3) := by decide +kernel
theorem dX9_lost_33 : decode cX9_lost 33 = .ok (.ifCond .ne 7, 3) := by decide +kernel
theorem dX9_lost_36 : decode cX9_lost 36 = .ok (.sipush (-1002), 3) := by decide +kernel
theorem dX9_lost_39 : decode cX9_lost 39 = .ok (.ireturn, 1) := by decide +kernel
theorem dX9_lost_40 : decode cX9_lost 40 = .ok (.aload_n 0, 1) := by decide +kernel
theorem dX9_lost_41 : decode cX9_lost 41 = .ok (.iload_n 1, 1) := by decide +kernel
theorem dX9_lost_42 : decode cX9_lost 42 = .ok (.invokevirtual 211, 3) := by decide +kernel
theorem dX9_lost_45 : decode cX9_lost 45 = .ok (.iload_n 2, 1) := by decide +kernel
theorem dX9_lost_46 : decode cX9_lost 46 = .ok (.iconst 2, 1) := by decide +kernel
theorem dX9_lost_47 : decode cX9_lost 47 = .ok (.if_icmp .ge 21, 3) := by decide +kernel
theorem dX9_lost_50 : decode cX9_lost 50 = .ok (.iload_n 2, 1) := by decide +kernel
theorem dX9_lost_51 : decode cX9_lost 51 = .ok (.ifCond .ne 10, 3) := by decide +kernel
theorem dX9_lost_54 : decode cX9_lost 54 = .ok (.aload_n 0, 1) := by decide +kernel
theorem dX9_lost_55 : decode cX9_lost 55 = .ok (.getfield 190, 3) := by decide +kernel
theorem dX9_lost_58 : decode cX9_lost 58 = .ok (.goto 9, 3) := by decide +kernel
theorem dX9_lost_61 : decode cX9_lost 61 = .ok (.aload_n 0, 1) := by decide +kernel
theorem dX9_lost_62 : decode cX9_lost 62 = .ok (.getfield 60, 3) := by decide +kernel
theorem dX9_lost_65 : decode cX9_lost 65 = .ok (.iconst 0, 1) := by decide +kernel
theorem dX9_lost_66 : decode cX9_lost 66 = .ok (.iaload, 1) := by decide +kernel
theorem dX9_lost_67 : decode cX9_lost 67 = .ok (.ireturn, 1) := by decide +kernel
theorem dX9_lost_68 : decode cX9_lost 68 = .ok (.aload_n 0, 1) := by decide +kernel
theorem dX9_lost_69 : decode cX9_lost 69 = .ok (.getfield 190, 3) := by decide +kernel
theorem dX9_lost_72 : decode cX9_lost 72 = .ok (.iconst 4, 1) := by decide +kernel
theorem dX9_lost_73 : decode cX9_lost 73 = .ok (.if_icmp .le 7, 3) := by decide +kernel
theorem dX9_lost_76 : decode cX9_lost 76 = .ok (.sipush (-1005), 3) := by decide +kernel
theorem dX9_lost_79 : decode cX9_lost 79 = .ok (.ireturn, 1) := by decide +kernel
theorem dX9_lost_80 : decode cX9_lost 80 = .ok (.aload_n 0, 1) := by decide +kernel
theorem dX9_lost_81 : decode cX9_lost 81 = .ok (.invokevirtual 215, 3) := by decide +kernel
theorem dX9_lost_84 : decode cX9_lost 84 = .ok (.aload_n 0, 1) := by decide +kernel
theorem dX9_lost_85 : decode cX9_lost 85 = .ok (.getfield 205, 3) := by decide +kernel
theorem dX9_lost_88 : decode cX9_lost 88 = .ok (.ireturn, 1) := by decide +kernel
set_option maxRecDepth 20000 in
theorem ok_166 {l : Launch} {d : Nat} (IH : ∀ μ, μ < 196 → px_Met l px_P d μ) : px_ok l px_P d RX9 cX9_lost 3 (some .int) tb_166 :=
  ⟨px_Sp.of (ps_aload_n dX9_lost_0 rfl),
   ps_callV (IH 162 (by decide)) (C := RX9) (T := TX9) (N := 36) (ci := 8) rfl rfl (fc_162 _ _) wm_RX9_187 wi_yX9_findGroups wl_yX9_findGroups dX9_lost_1,
   px_Sp.of (ps_iload_n dX9_lost_4 rfl),
   px_Sp.of (ps_i2l dX9_lost_5),
   px_Sp.of (ps_lconst dX9_lost_6 (by decide)),
   px_Sp.of (ps_aload_n dX9_lost_7 rfl),
   px_Sp.of (ps_get kc_X9 (by decide) wf_RX9_184 dX9_lost_8),
   px_Sp.of (ps_iconst dX9_lost_11 (by decide)),
   px_Sp.of (ps_isub dX9_lost_12),
   px_Sp.of (ps_i2l dX9_lost_13),
   ps_callS (IH 130 (by decide)) (fc_130 _ _) wm_RX9_95 ws_yX9_in dX9_lost_14,
   px_Sp.of (ps_if_ne dX9_lost_17 (by decide)),
   px_Sp.of (ps_sipush dX9_lost_20 (by decide)),
   ps_iret dX9_lost_23,
   px_Sp.of (ps_iload_n dX9_lost_24 rfl),
   px_Sp.of (ps_i2l dX9_lost_25),
   px_Sp.of (ps_lconst dX9_lost_26 (by decide)),
   px_Sp.of (ps_ldc2 dX9_lost_27 wk_RX9_167),
   ps_callS (IH 130 (by decide)) (fc_130 _ _) wm_RX9_95 ws_yX9_in dX9_lost_30,
   px_Sp.of (ps_if_ne dX9_lost_33 (by decide)),
   px_Sp.of (ps_sipush dX9_lost_36 (by decide)),
   ps_iret dX9_lost_39,
   px_Sp.of (ps_aload_n dX9_lost_40 rfl),
   px_Sp.of (ps_iload_n dX9_lost_41 rfl),
   ps_callV (IH 167 (by decide)) (C := RX9) (T := TX9) (N := 36) (ci := 8) rfl rfl (fc_167 _ _) wm_RX9_211 wi_yX9_findPieces wl_yX9_findPieces dX9_lost_42,
   px_Sp.of (ps_iload_n dX9_lost_45 rfl),
   px_Sp.of (ps_iconst dX9_lost_46 (by decide)),
   px_Sp.of (ps_icmp_ge dX9_lost_47 (by decide)),
   px_Sp.of (ps_iload_n dX9_lost_50 rfl),
   px_Sp.of (ps_if_ne dX9_lost_51 (by decide)),
   px_Sp.of (ps_aload_n dX9_lost_54 rfl),
   px_Sp.of (ps_get kc_X9 (by decide) wf_RX9_190 dX9_lost_55),
   px_Sp.of (ps_goto dX9_lost_58 (by decide)),
   px_Sp.of (ps_aload_n dX9_lost_61 rfl),
   px_Sp.of (ps_get kc_X9 (by decide) wf_RX9_60 dX9_lost_62),
   px_Sp.of (ps_iconst dX9_lost_65 (by decide)),
   px_Sp.of (ps_iald dX9_lost_66),
   ps_iret dX9_lost_67,
   px_Sp.of (ps_aload_n dX9_lost_68 rfl),
   px_Sp.of (ps_get kc_X9 (by decide) wf_RX9_190 dX9_lost_69),
   px_Sp.of (ps_iconst dX9_lost_72 (by decide)),
   px_Sp.of (ps_icmp_le dX9_lost_73 (by decide)),
   px_Sp.of (ps_sipush dX9_lost_76 (by decide)),
   ps_iret dX9_lost_79,
   px_Sp.of (ps_aload_n dX9_lost_80 rfl),
   ps_callV (IH 168 (by decide)) (C := RX9) (T := TX9) (N := 36) (ci := 8) rfl rfl (fc_168 _ _) wm_RX9_215 wi_yX9_findRow wl_yX9_findRow dX9_lost_81,
   px_Sp.of (ps_aload_n dX9_lost_84 rfl),
   px_Sp.of (ps_get kc_X9 (by decide) wf_RX9_205 dX9_lost_85),
   ps_iret dX9_lost_88, trivial⟩
theorem mt_166 {l : Launch} {d : Nat} (IH : ∀ μ, μ < 196 → px_Met l px_P d μ) : px_Met l px_P (d + 1) 166 := px_met (own := RX9) rfl (by decide +kernel) (ok_166 IH)
