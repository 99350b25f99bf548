/-! ===== tables that are right, 11 ===== -/
theorem dX9_read_0 : decode cX9_read 0 = .ok (.aload_n 0, 1) := by decide +kernel
theorem dX9_read_1 : decode cX9_read 1 = .ok (.iconst 0, 1) := by decide +kernel
theorem dX9_read_2 : decode cX9_read 2 = .ok (.putfield 236, 3) := by decide +kernel
theorem dX9_read_5 : decode cX9_read 5 = .ok (.aload_n 0, 1) := by decide +kernel
theorem dX9_read_6 : decode cX9_read 6 = .ok (.iconst 0, 1) := by decide +kernel
theorem dX9_read_7 : decode cX9_read 7 = .ok (.putfield 239, 3) := by decide +kernel
theorem dX9_read_10 : decode cX9_read 10 = .ok (.aload_n 0, 1) := by decide +kernel
theorem dX9_read_11 : decode cX9_read 11 = .ok (.iconst (-1), 1) := by decide +kernel
theorem dX9_read_12 : decode cX9_read 12 = .ok (.putfield 82, 3) := by decide +kernel
theorem dX9_read_15 : decode cX9_read 15 = .ok (.iconst 0, 1) := by decide +kernel
theorem dX9_read_16 : decode cX9_read 16 = .ok (.istore_n 1, 1) := by decide +kernel
theorem dX9_read_17 : decode cX9_read 17 = .ok (.iload_n 1, 1) := by decide +kernel
theorem dX9_read_18 : decode cX9_read 18 = .ok (.iconst 5, 1) := by decide +kernel
theorem dX9_read_19 : decode cX9_read 19 = .ok (.if_icmp .ge 19, 3) := by decide +kernel
theorem dX9_read_22 : decode cX9_read 22 = .ok (.aload_n 0, 1) := by decide +kernel
theorem dX9_read_23 : decode cX9_read 23 = .ok (.getfield 85, 3) := by decide +kernel
theorem dX9_read_26 : decode cX9_read 26 = .ok (.iload_n 1, 1) := by decide +kernel
theorem dX9_read_27 : decode cX9_read 27 = .ok (.iload_n 1, 1) := by decide +kernel
theorem dX9_read_28 : decode cX9_read 28 = .ok (.invokestatic 88, 3) := by decide +kernel
theorem dX9_read_31 : decode cX9_read 31 = .ok (.iastore, 1) := by decide +kernel
theorem dX9_read_32 : decode cX9_read 32 = .ok (.iinc 1 1, 3) := by decide +kernel
theorem dX9_read_35 : decode cX9_read 35 = .ok (.goto (-18), 3) := by decide +kernel
theorem dX9_read_38 : decode cX9_read 38 = .ok (.iconst 0, 1) := by decide +kernel
theorem dX9_read_39 : decode cX9_read 39 = .ok (.istore_n 1, 1) := by decide +kernel
theorem dX9_read_40 : decode cX9_read 40 = .ok (.iconst 0, 1) := by decide +kernel
theorem dX9_read_41 : decode cX9_read 41 = .ok (.istore_n 2, 1) := by decide +kernel
theorem dX9_read_42 : decode cX9_read 42 = .ok (.aload_n 0, 1) := by decide +kernel
theorem dX9_read_43 : decode cX9_read 43 = .ok (.getfield 239, 3) := by decide +kernel
theorem dX9_read_46 : decode cX9_read 46 = .ok (.ifCond .ne 82, 3) := by decide +kernel
theorem dX9_read_49 : decode cX9_read 49 = .ok (.aload_n 0, 1) := by decide +kernel
theorem dX9_read_50 : decode cX9_read 50 = .ok (.invokevirtual 242, 3) := by decide +kernel
theorem dX9_read_53 : decode cX9_read 53 = .ok (.ifCond .lt 75, 3) := by decide +kernel
theorem dX9_read_56 : decode cX9_read 56 = .ok (.aload_n 0, 1) := by decide +kernel
theorem dX9_read_57 : decode cX9_read 57 = .ok (.invokevirtual 268, 3) := by decide +kernel
theorem dX9_read_60 : decode cX9_read 60 = .ok (.aload_n 0, 1) := by decide +kernel
theorem dX9_read_61 : decode cX9_read 61 = .ok (.invokevirtual 274, 3) := by decide +kernel
theorem dX9_read_64 : decode cX9_read 64 = .ok (.istore_n 3, 1) := by decide +kernel
theorem dX9_read_65 : decode cX9_read 65 = .ok (.aload_n 0, 1) := by decide +kernel
theorem dX9_read_66 : decode cX9_read 66 = .ok (.iload_n 3, 1) := by decide +kernel
theorem dX9_read_67 : decode cX9_read 67 = .ok (.ifCond .lt 7, 3) := by decide +kernel
theorem dX9_read_70 : decode cX9_read 70 = .ok (.iconst 1, 1) := by decide +kernel
theorem dX9_read_71 : decode cX9_read 71 = .ok (.goto 4, 3) := by decide +kernel
theorem dX9_read_74 : decode cX9_read 74 = .ok (.iconst 0, 1) := by decide +kernel
theorem dX9_read_75 : decode cX9_read 75 = .ok (.iconst 1, 1) := by decide +kernel
theorem dX9_read_76 : decode cX9_read 76 = .ok (.aload_n 0, 1) := by decide +kernel
theorem dX9_read_77 : decode cX9_read 77 = .ok (.getfield 246, 3) := by decide +kernel
theorem dX9_read_80 : decode cX9_read 80 = .ok (.invokevirtual 260, 3) := by decide +kernel
theorem dX9_read_83 : decode cX9_read 83 = .ok (.ifCond .eq 42, 3) := by decide +kernel
theorem dX9_read_86 : decode cX9_read 86 = .ok (.aload_n 0, 1) := by decide +kernel
theorem dX9_read_87 : decode cX9_read 87 = .ok (.iload_n 2, 1) := by decide +kernel
theorem dX9_read_88 : decode cX9_read 88 = .ok (.iload_n 3, 1) := by decide +kernel
theorem dX9_read_89 : decode cX9_read 89 = .ok (.ishr, 1) := by decide +kernel
theorem dX9_read_90 : decode cX9_read 90 = .ok (.iconst 1, 1) := by decide +kernel
theorem dX9_read_91 : decode cX9_read 91 = .ok (.iand, 1) := by decide +kernel
theorem dX9_read_92 : decode cX9_read 92 = .ok (.ifCond .ne 7, 3) := by decide +kernel
theorem dX9_read_95 : decode cX9_read 95 = .ok (.iconst 1, 1) := by decide +kernel
theorem dX9_read_96 : decode cX9_read 96 = .ok (.goto 4, 3) := by decide +kernel
theorem dX9_read_99 : decode cX9_read 99 = .ok (.iconst 0, 1) := by decide +kernel
theorem dX9_read_100 : decode cX9_read 100 = .ok (.iconst 3, 1) := by decide +kernel
theorem dX9_read_101 : decode cX9_read 101 = .ok (.aload_n 0, 1) := by decide +kernel
theorem dX9_read_102 : decode cX9_read 102 = .ok (.getfield 246, 3) := by decide +kernel
theorem dX9_read_105 : decode cX9_read 105 = .ok (.invokevirtual 260, 3) := by decide +kernel
theorem dX9_read_108 : decode cX9_read 108 = .ok (.ifCond .eq 17, 3) := by decide +kernel
theorem dX9_read_111 : decode cX9_read 111 = .ok (.iload_n 2, 1) := by decide +kernel
theorem dX9_read_112 : decode cX9_read 112 = .ok (.iconst 1, 1) := by decide +kernel
theorem dX9_read_113 : decode cX9_read 113 = .ok (.iload_n 3, 1) := by decide +kernel
theorem dX9_read_114 : decode cX9_read 114 = .ok (.ishl, 1) := by decide +kernel
theorem dX9_read_115 : decode cX9_read 115 = .ok (.ior, 1) := by decide +kernel
theorem dX9_read_116 : decode cX9_read 116 = .ok (.istore_n 2, 1) := by decide +kernel
theorem dX9_read_117 : decode cX9_read 117 = .ok (.aload_n 0, 1) := by decide +kernel
theorem dX9_read_118 : decode cX9_read 118 = .ok (.iload_n 3, 1) := by decide +kernel
theorem dX9_read_119 : decode cX9_read 119 = .ok (.invokevirtual 277, 3) := by decide +kernel
theorem dX9_read_122 : decode cX9_read 122 = .ok (.iinc 1 1, 3) := by decide +kernel
theorem dX9_read_125 : decode cX9_read 125 = .ok (.goto (-83), 3) := by decide +kernel
theorem dX9_read_128 : decode cX9_read 128 = .ok (.aload_n 0, 1) := by decide +kernel
theorem dX9_read_129 : decode cX9_read 129 = .ok (.iconst 0, 1) := by decide +kernel
theorem dX9_read_130 : decode cX9_read 130 = .ok (.putfield 229, 3) := by decide +kernel
theorem dX9_read_133 : decode cX9_read 133 = .ok (.aload_n 0, 1) := by decide +kernel
theorem dX9_read_134 : decode cX9_read 134 = .ok (.getfield 239, 3) := by decide +kernel
theorem dX9_read_137 : decode cX9_read 137 = .ok (.ifCond .le 11, 3) := by decide +kernel
theorem dX9_read_140 : decode cX9_read 140 = .ok (.bipush (-10), 2) := by decide +kernel
theorem dX9_read_142 : decode cX9_read 142 = .ok (.aload_n 0, 1) := by decide +kernel
theorem dX9_read_143 : decode cX9_read 143 = .ok (.getfield 239, 3) := by decide +kernel
theorem dX9_read_146 : decode cX9_read 146 = .ok (.isub, 1) := by decide +kernel
theorem dX9_read_147 : decode cX9_read 147 = .ok (.ireturn, 1) := by decide +kernel
theorem dX9_read_148 : decode cX9_read 148 = .ok (.iconst 0, 1) := by decide +kernel
theorem dX9_read_149 : decode cX9_read 149 = .ok (.istore_n 3, 1) := by decide +kernel
theorem dX9_read_150 : decode cX9_read 150 = .ok (.iload_n 3, 1) := by decide +kernel
theorem dX9_read_151 : decode cX9_read 151 = .ok (.iconst 5, 1) := by decide +kernel
theorem dX9_read_152 : decode cX9_read 152 = .ok (.if_icmp .ge 21, 3) := by decide +kernel
theorem dX9_read_155 : decode cX9_read 155 = .ok (.aload_n 0, 1) := by decide +kernel
theorem dX9_read_156 : decode cX9_read 156 = .ok (.getfield 7, 3) := by decide +kernel
theorem dX9_read_159 : decode cX9_read 159 = .ok (.iload_n 3, 1) := by decide +kernel
theorem dX9_read_160 : decode cX9_read 160 = .ok (.aload_n 0, 1) := by decide +kernel
theorem dX9_read_161 : decode cX9_read 161 = .ok (.getfield 85, 3) := by decide +kernel
theorem dX9_read_164 : decode cX9_read 164 = .ok (.iload_n 3, 1) := by decide +kernel
theorem dX9_read_165 : decode cX9_read 165 = .ok (.iaload, 1) := by decide +kernel
theorem dX9_read_166 : decode cX9_read 166 = .ok (.iastore, 1) := by decide +kernel
theorem dX9_read_167 : decode cX9_read 167 = .ok (.iinc 3 1, 3) := by decide +kernel
theorem dX9_read_170 : decode cX9_read 170 = .ok (.goto (-20), 3) := by decide +kernel
theorem dX9_read_173 : decode cX9_read 173 = .ok (.iload_n 1, 1) := by decide +kernel
theorem dX9_read_174 : decode cX9_read 174 = .ok (.ireturn, 1) := by decide +kernel
set_option maxRecDepth 20000 in
theorem ok_186 {l : Launch} {d : Nat} (IH : ∀ μ, μ < 196 → px_Met l px_P d μ) : px_ok l px_P d RX9 cX9_read 4 (some .int) tb_186 :=
  ⟨px_Sp.of (ps_aload_n dX9_read_0 rfl),
   px_Sp.of (ps_iconst dX9_read_1 (by decide)),
   px_Sp.ofm (ps_putI kc_X9 (by decide) wf_RX9_236 rfl (by decide +kernel) kp_X9_30 dX9_read_2),
   px_Sp.of (ps_aload_n dX9_read_5 rfl),
   px_Sp.of (ps_iconst dX9_read_6 (by decide)),
   px_Sp.ofm (ps_putI kc_X9 (by decide) wf_RX9_239 rfl (by decide +kernel) kp_X9_31 dX9_read_7),
   px_Sp.of (ps_aload_n dX9_read_10 rfl),
   px_Sp.of (ps_iconst dX9_read_11 (by decide)),
   px_Sp.ofm (ps_putI kc_X9 (by decide) wf_RX9_82 rfl (by decide +kernel) kp_X9_32 dX9_read_12),
   px_Sp.of (ps_iconst dX9_read_15 (by decide)),
   px_Sp.of (ps_istore_n dX9_read_16 rfl (by decide)),
   px_Sp.of (ps_iload_n dX9_read_17 rfl),
   px_Sp.of (ps_iconst dX9_read_18 (by decide)),
   px_Sp.of (ps_icmp_ge dX9_read_19 (by decide)),
   px_Sp.of (ps_aload_n dX9_read_22 rfl),
   px_Sp.of (ps_get kc_X9 (by decide) wf_RX9_85 dX9_read_23),
   px_Sp.of (ps_iload_n dX9_read_26 rfl),
   px_Sp.of (ps_iload_n dX9_read_27 rfl),
   ps_callS (IH 128 (by decide)) (fc_128 _ _) wm_RX9_88 ws_yX9_atFirst dX9_read_28,
   px_Sp.ofm (ps_iast dX9_read_31),
   px_Sp.of (ps_iinc dX9_read_32 (by decide) (by decide)),
   px_Sp.of (ps_goto dX9_read_35 (by decide)),
   px_Sp.of (ps_iconst dX9_read_38 (by decide)),
   px_Sp.of (ps_istore_n dX9_read_39 rfl (by decide)),
   px_Sp.of (ps_iconst dX9_read_40 (by decide)),
   px_Sp.of (ps_istore_n dX9_read_41 rfl (by decide)),
   px_Sp.of (ps_aload_n dX9_read_42 rfl),
   px_Sp.of (ps_get kc_X9 (by decide) wf_RX9_239 dX9_read_43),
   px_Sp.of (ps_if_ne dX9_read_46 (by decide)),
   px_Sp.of (ps_aload_n dX9_read_49 rfl),
   ps_callV (IH 187 (by decide)) (C := RX9) (T := TX9) (N := 36) (ci := 8) rfl rfl (fc_187 _ _) wm_RX9_242 wi_yX9_look wl_yX9_look dX9_read_50,
   px_Sp.of (ps_if_lt dX9_read_53 (by decide)),
   px_Sp.of (ps_aload_n dX9_read_56 rfl),
   ps_callV (IH 188 (by decide)) (C := RX9) (T := TX9) (N := 36) (ci := 8) rfl rfl (fc_188 _ _) wm_RX9_268 wi_yX9_takeWord wl_yX9_takeWord dX9_read_57,
   px_Sp.of (ps_aload_n dX9_read_60 rfl),
   ps_callV (IH 189 (by decide)) (C := RX9) (T := TX9) (N := 36) (ci := 8) rfl rfl (fc_189 _ _) wm_RX9_274 wi_yX9_kindOf wl_yX9_kindOf dX9_read_61,
   px_Sp.of (ps_istore_n dX9_read_64 rfl (by decide)),
   px_Sp.of (ps_aload_n dX9_read_65 rfl),
   px_Sp.of (ps_iload_n dX9_read_66 rfl),
   px_Sp.of (ps_if_lt dX9_read_67 (by decide)),
   px_Sp.of (ps_iconst dX9_read_70 (by decide)),
   px_Sp.of (ps_goto dX9_read_71 (by decide)),
   px_Sp.of (ps_iconst dX9_read_74 (by decide)),
   px_Sp.of (ps_iconst dX9_read_75 (by decide)),
   px_Sp.of (ps_aload_n dX9_read_76 rfl),
   px_Sp.of (ps_get kc_X9 (by decide) wf_RX9_246 dX9_read_77),
   ps_callV (IH 191 (by decide)) (C := RX9) (T := TX9) (N := 36) (ci := 8) rfl rfl (fc_191 _ _) wm_RX9_260 wi_yX9_want wl_yX9_want dX9_read_80,
   px_Sp.of (ps_if_eq dX9_read_83 (by decide)),
   px_Sp.of (ps_aload_n dX9_read_86 rfl),
   px_Sp.of (ps_iload_n dX9_read_87 rfl),
   px_Sp.of (ps_iload_n dX9_read_88 rfl),
   px_Sp.of (ps_ishr dX9_read_89),
   px_Sp.of (ps_iconst dX9_read_90 (by decide)),
   px_Sp.of (ps_iand dX9_read_91),
   px_Sp.of (ps_if_ne dX9_read_92 (by decide)),
   px_Sp.of (ps_iconst dX9_read_95 (by decide)),
   px_Sp.of (ps_goto dX9_read_96 (by decide)),
   px_Sp.of (ps_iconst dX9_read_99 (by decide)),
   px_Sp.of (ps_iconst dX9_read_100 (by decide)),
   px_Sp.of (ps_aload_n dX9_read_101 rfl),
   px_Sp.of (ps_get kc_X9 (by decide) wf_RX9_246 dX9_read_102),
   ps_callV (IH 191 (by decide)) (C := RX9) (T := TX9) (N := 36) (ci := 8) rfl rfl (fc_191 _ _) wm_RX9_260 wi_yX9_want wl_yX9_want dX9_read_105,
   px_Sp.of (ps_if_eq dX9_read_108 (by decide)),
   px_Sp.of (ps_iload_n dX9_read_111 rfl),
   px_Sp.of (ps_iconst dX9_read_112 (by decide)),
   px_Sp.of (ps_iload_n dX9_read_113 rfl),
   px_Sp.of (ps_ishl dX9_read_114),
   px_Sp.of (ps_ior dX9_read_115),
   px_Sp.of (ps_istore_n dX9_read_116 rfl (by decide)),
   px_Sp.of (ps_aload_n dX9_read_117 rfl),
   px_Sp.of (ps_iload_n dX9_read_118 rfl),
   ps_callV (IH 192 (by decide)) (C := RX9) (T := TX9) (N := 36) (ci := 8) rfl rfl (fc_192 _ _) wm_RX9_277 wi_yX9_readClause wl_yX9_readClause dX9_read_119,
   px_Sp.of (ps_iinc dX9_read_122 (by decide) (by decide)),
   px_Sp.of (ps_goto dX9_read_125 (by decide)),
   px_Sp.of (ps_aload_n dX9_read_128 rfl),
   px_Sp.of (ps_iconst dX9_read_129 (by decide)),
   px_Sp.ofm (ps_putI kc_X9 (by decide) wf_RX9_229 rfl (by decide +kernel) kp_X9_29 dX9_read_130),
   px_Sp.of (ps_aload_n dX9_read_133 rfl),
   px_Sp.of (ps_get kc_X9 (by decide) wf_RX9_239 dX9_read_134),
   px_Sp.of (ps_if_le dX9_read_137 (by decide)),
   px_Sp.of (ps_bipush dX9_read_140 (by decide)),
   px_Sp.of (ps_aload_n dX9_read_142 rfl),
   px_Sp.of (ps_get kc_X9 (by decide) wf_RX9_239 dX9_read_143),
   px_Sp.of (ps_isub dX9_read_146),
   ps_iret dX9_read_147,
   px_Sp.of (ps_iconst dX9_read_148 (by decide)),
   px_Sp.of (ps_istore_n dX9_read_149 rfl (by decide)),
   px_Sp.of (ps_iload_n dX9_read_150 rfl),
   px_Sp.of (ps_iconst dX9_read_151 (by decide)),
   px_Sp.of (ps_icmp_ge dX9_read_152 (by decide)),
   px_Sp.of (ps_aload_n dX9_read_155 rfl),
   px_Sp.of (ps_get kc_X9 (by decide) wf_RX9_7 dX9_read_156),
   px_Sp.of (ps_iload_n dX9_read_159 rfl),
   px_Sp.of (ps_aload_n dX9_read_160 rfl),
   px_Sp.of (ps_get kc_X9 (by decide) wf_RX9_85 dX9_read_161),
   px_Sp.of (ps_iload_n dX9_read_164 rfl),
   px_Sp.of (ps_iald dX9_read_165),
   px_Sp.ofm (ps_iast dX9_read_166),
   px_Sp.of (ps_iinc dX9_read_167 (by decide) (by decide)),
   px_Sp.of (ps_goto dX9_read_170 (by decide)),
   px_Sp.of (ps_iload_n dX9_read_173 rfl),
   ps_iret dX9_read_174, trivial⟩
theorem mt_186 {l : Launch} {d : Nat} (IH : ∀ μ, μ < 196 → px_Met l px_P d μ) : px_Met l px_P (d + 1) 186 := px_met (own := RX9) rfl (by decide +kernel) (ok_186 IH)
theorem dX9_look_0 : decode cX9_look 0 = .ok (.aload_n 0, 1) := by decide +kernel
theorem dX9_look_1 : decode cX9_look 1 = .ok (.getfield 236, 3) := by decide +kernel
theorem dX9_look_4 : decode cX9_look 4 = .ok (.aload_n 0, 1) := by decide +kernel
theorem dX9_look_5 : decode cX9_look 5 = .ok (.getfield 229, 3) := by decide +kernel
theorem dX9_look_8 : decode cX9_look 8 = .ok (.if_icmp .ge 30, 3) := by decide +kernel
theorem dX9_look_11 : decode cX9_look 11 = .ok (.aload_n 0, 1) := by decide +kernel
theorem dX9_look_12 : decode cX9_look 12 = .ok (.getfield 79, 3) := by decide +kernel
theorem dX9_look_15 : decode cX9_look 15 = .ok (.aload_n 0, 1) := by decide +kernel
theorem dX9_look_16 : decode cX9_look 16 = .ok (.getfield 236, 3) := by decide +kernel
theorem dX9_look_19 : decode cX9_look 19 = .ok (.iaload, 1) := by decide +kernel
theorem dX9_look_20 : decode cX9_look 20 = .ok (.bipush 32, 2) := by decide +kernel
theorem dX9_look_22 : decode cX9_look 22 = .ok (.if_icmp .ne 16, 3) := by decide +kernel
theorem dX9_look_25 : decode cX9_look 25 = .ok (.aload_n 0, 1) := by decide +kernel
theorem dX9_look_26 : decode cX9_look 26 = .ok (.dup, 1) := by decide +kernel
theorem dX9_look_27 : decode cX9_look 27 = .ok (.getfield 236, 3) := by decide +kernel
theorem dX9_look_30 : decode cX9_look 30 = .ok (.iconst 1, 1) := by decide +kernel
theorem dX9_look_31 : decode cX9_look 31 = .ok (.iadd, 1) := by decide +kernel
theorem dX9_look_32 : decode cX9_look 32 = .ok (.putfield 236, 3) := by decide +kernel
theorem dX9_look_35 : decode cX9_look 35 = .ok (.goto (-35), 3) := by decide +kernel
theorem dX9_look_38 : decode cX9_look 38 = .ok (.aload_n 0, 1) := by decide +kernel
theorem dX9_look_39 : decode cX9_look 39 = .ok (.getfield 236, 3) := by decide +kernel
theorem dX9_look_42 : decode cX9_look 42 = .ok (.aload_n 0, 1) := by decide +kernel
theorem dX9_look_43 : decode cX9_look 43 = .ok (.getfield 229, 3) := by decide +kernel
theorem dX9_look_46 : decode cX9_look 46 = .ok (.if_icmp .ge 15, 3) := by decide +kernel
theorem dX9_look_49 : decode cX9_look 49 = .ok (.aload_n 0, 1) := by decide +kernel
theorem dX9_look_50 : decode cX9_look 50 = .ok (.getfield 79, 3) := by decide +kernel
theorem dX9_look_53 : decode cX9_look 53 = .ok (.aload_n 0, 1) := by decide +kernel
theorem dX9_look_54 : decode cX9_look 54 = .ok (.getfield 236, 3) := by decide +kernel
theorem dX9_look_57 : decode cX9_look 57 = .ok (.iaload, 1) := by decide +kernel
theorem dX9_look_58 : decode cX9_look 58 = .ok (.goto 4, 3) := by decide +kernel
theorem dX9_look_61 : decode cX9_look 61 = .ok (.iconst (-1), 1) := by decide +kernel
theorem dX9_look_62 : decode cX9_look 62 = .ok (.ireturn, 1) := by decide +kernel
set_option maxRecDepth 20000 in
theorem ok_187 {l : Launch} {d : Nat} (IH : ∀ μ, μ < 196 → px_Met l px_P d μ) : px_ok l px_P d RX9 cX9_look 1 (some .int) tb_187 :=
  ⟨px_Sp.of (ps_aload_n dX9_look_0 rfl),
   px_Sp.of (ps_get kc_X9 (by decide) wf_RX9_236 dX9_look_1),
   px_Sp.of (ps_aload_n dX9_look_4 rfl),
   px_Sp.of (ps_get kc_X9 (by decide) wf_RX9_229 dX9_look_5),
   px_Sp.of (ps_icmp_ge dX9_look_8 (by decide)),
   px_Sp.of (ps_aload_n dX9_look_11 rfl),
   px_Sp.of (ps_get kc_X9 (by decide) wf_RX9_79 dX9_look_12),
   px_Sp.of (ps_aload_n dX9_look_15 rfl),
   px_Sp.of (ps_get kc_X9 (by decide) wf_RX9_236 dX9_look_16),
   px_Sp.of (ps_iald dX9_look_19),
   px_Sp.of (ps_bipush dX9_look_20 (by decide)),
   px_Sp.of (ps_icmp_ne dX9_look_22 (by decide)),
   px_Sp.of (ps_aload_n dX9_look_25 rfl),
   px_Sp.of (ps_dup dX9_look_26),
   px_Sp.of (ps_get kc_X9 (by decide) wf_RX9_236 dX9_look_27),
   px_Sp.of (ps_iconst dX9_look_30 (by decide)),
   px_Sp.of (ps_iadd dX9_look_31),
   px_Sp.ofm (ps_putI kc_X9 (by decide) wf_RX9_236 rfl (by decide +kernel) kp_X9_30 dX9_look_32),
   px_Sp.of (ps_goto dX9_look_35 (by decide)),
   px_Sp.of (ps_aload_n dX9_look_38 rfl),
   px_Sp.of (ps_get kc_X9 (by decide) wf_RX9_236 dX9_look_39),
   px_Sp.of (ps_aload_n dX9_look_42 rfl),
   px_Sp.of (ps_get kc_X9 (by decide) wf_RX9_229 dX9_look_43),
   px_Sp.of (ps_icmp_ge dX9_look_46 (by decide)),
   px_Sp.of (ps_aload_n dX9_look_49 rfl),
   px_Sp.of (ps_get kc_X9 (by decide) wf_RX9_79 dX9_look_50),
   px_Sp.of (ps_aload_n dX9_look_53 rfl),
   px_Sp.of (ps_get kc_X9 (by decide) wf_RX9_236 dX9_look_54),
   px_Sp.of (ps_iald dX9_look_57),
   px_Sp.of (ps_goto dX9_look_58 (by decide)),
   px_Sp.of (ps_iconst dX9_look_61 (by decide)),
   ps_iret dX9_look_62, trivial⟩
theorem mt_187 {l : Launch} {d : Nat} (IH : ∀ μ, μ < 196 → px_Met l px_P d μ) : px_Met l px_P (d + 1) 187 := px_met (own := RX9) rfl (by decide +kernel) (ok_187 IH)
theorem dX9_takeWord_0 : decode cX9_takeWord 0 = .ok (.aload_n 0, 1) := by decide +kernel
theorem dX9_takeWord_1 : decode cX9_takeWord 1 = .ok (.invokevirtual 242, 3) := by decide +kernel
theorem dX9_takeWord_4 : decode cX9_takeWord 4 = .ok (.istore_n 1, 1) := by decide +kernel
theorem dX9_takeWord_5 : decode cX9_takeWord 5 = .ok (.aload_n 0, 1) := by decide +kernel
theorem dX9_takeWord_6 : decode cX9_takeWord 6 = .ok (.aload_n 0, 1) := by decide +kernel
theorem dX9_takeWord_7 : decode cX9_takeWord 7 = .ok (.getfield 236, 3) := by decide +kernel
theorem dX9_takeWord_10 : decode cX9_takeWord 10 = .ok (.putfield 246, 3) := by decide +kernel
theorem dX9_takeWord_13 : decode cX9_takeWord 13 = .ok (.aload_n 0, 1) := by decide +kernel
theorem dX9_takeWord_14 : decode cX9_takeWord 14 = .ok (.getfield 236, 3) := by decide +kernel
theorem dX9_takeWord_17 : decode cX9_takeWord 17 = .ok (.aload_n 0, 1) := by decide +kernel
theorem dX9_takeWord_18 : decode cX9_takeWord 18 = .ok (.getfield 229, 3) := by decide +kernel
theorem dX9_takeWord_21 : decode cX9_takeWord 21 = .ok (.if_icmp .ge 38, 3) := by decide +kernel
theorem dX9_takeWord_24 : decode cX9_takeWord 24 = .ok (.aload_n 0, 1) := by decide +kernel
theorem dX9_takeWord_25 : decode cX9_takeWord 25 = .ok (.getfield 79, 3) := by decide +kernel
theorem dX9_takeWord_28 : decode cX9_takeWord 28 = .ok (.aload_n 0, 1) := by decide +kernel
theorem dX9_takeWord_29 : decode cX9_takeWord 29 = .ok (.getfield 236, 3) := by decide +kernel
theorem dX9_takeWord_32 : decode cX9_takeWord 32 = .ok (.iaload, 1) := by decide +kernel
theorem dX9_takeWord_33 : decode cX9_takeWord 33 = .ok (.i2l, 1) := by decide +kernel
theorem dX9_takeWord_34 : decode cX9_takeWord 34 = .ok (.ldc2_w 249, 3) := by decide +kernel
theorem dX9_takeWord_37 : decode cX9_takeWord 37 = .ok (.ldc2_w 251, 3) := by decide +kernel
theorem dX9_takeWord_40 : decode cX9_takeWord 40 = .ok (.invokestatic 95, 3) := by decide +kernel
theorem dX9_takeWord_43 : decode cX9_takeWord 43 = .ok (.ifCond .eq 16, 3) := by decide +kernel
theorem dX9_takeWord_46 : decode cX9_takeWord 46 = .ok (.aload_n 0, 1) := by decide +kernel
theorem dX9_takeWord_47 : decode cX9_takeWord 47 = .ok (.dup, 1) := by decide +kernel
theorem dX9_takeWord_48 : decode cX9_takeWord 48 = .ok (.getfield 236, 3) := by decide +kernel
theorem dX9_takeWord_51 : decode cX9_takeWord 51 = .ok (.iconst 1, 1) := by decide +kernel
theorem dX9_takeWord_52 : decode cX9_takeWord 52 = .ok (.iadd, 1) := by decide +kernel
theorem dX9_takeWord_53 : decode cX9_takeWord 53 = .ok (.putfield 236, 3) := by decide +kernel
theorem dX9_takeWord_56 : decode cX9_takeWord 56 = .ok (.goto (-43), 3) := by decide +kernel
theorem dX9_takeWord_59 : decode cX9_takeWord 59 = .ok (.aload_n 0, 1) := by decide +kernel
theorem dX9_takeWord_60 : decode cX9_takeWord 60 = .ok (.aload_n 0, 1) := by decide +kernel
theorem dX9_takeWord_61 : decode cX9_takeWord 61 = .ok (.getfield 236, 3) := by decide +kernel
theorem dX9_takeWord_64 : decode cX9_takeWord 64 = .ok (.aload_n 0, 1) := by decide +kernel
theorem dX9_takeWord_65 : decode cX9_takeWord 65 = .ok (.getfield 246, 3) := by decide +kernel
theorem dX9_takeWord_68 : decode cX9_takeWord 68 = .ok (.isub, 1) := by decide +kernel
theorem dX9_takeWord_69 : decode cX9_takeWord 69 = .ok (.putfield 253, 3) := by decide +kernel
theorem dX9_takeWord_72 : decode cX9_takeWord 72 = .ok (.return_, 1) := by decide +kernel
set_option maxRecDepth 20000 in
theorem ok_188 {l : Launch} {d : Nat} (IH : ∀ μ, μ < 196 → px_Met l px_P d μ) : px_ok l px_P d RX9 cX9_takeWord 2 (none) tb_188 :=
  ⟨px_Sp.of (ps_aload_n dX9_takeWord_0 rfl),
   ps_callV (IH 187 (by decide)) (C := RX9) (T := TX9) (N := 36) (ci := 8) rfl rfl (fc_187 _ _) wm_RX9_242 wi_yX9_look wl_yX9_look dX9_takeWord_1,
   px_Sp.of (ps_istore_n dX9_takeWord_4 rfl (by decide)),
   px_Sp.of (ps_aload_n dX9_takeWord_5 rfl),
   px_Sp.of (ps_aload_n dX9_takeWord_6 rfl),
   px_Sp.of (ps_get kc_X9 (by decide) wf_RX9_236 dX9_takeWord_7),
   px_Sp.ofm (ps_putI kc_X9 (by decide) wf_RX9_246 rfl (by decide +kernel) kp_X9_33 dX9_takeWord_10),
   px_Sp.of (ps_aload_n dX9_takeWord_13 rfl),
   px_Sp.of (ps_get kc_X9 (by decide) wf_RX9_236 dX9_takeWord_14),
   px_Sp.of (ps_aload_n dX9_takeWord_17 rfl),
   px_Sp.of (ps_get kc_X9 (by decide) wf_RX9_229 dX9_takeWord_18),
   px_Sp.of (ps_icmp_ge dX9_takeWord_21 (by decide)),
   px_Sp.of (ps_aload_n dX9_takeWord_24 rfl),
   px_Sp.of (ps_get kc_X9 (by decide) wf_RX9_79 dX9_takeWord_25),
   px_Sp.of (ps_aload_n dX9_takeWord_28 rfl),
   px_Sp.of (ps_get kc_X9 (by decide) wf_RX9_236 dX9_takeWord_29),
   px_Sp.of (ps_iald dX9_takeWord_32),
   px_Sp.of (ps_i2l dX9_takeWord_33),
   px_Sp.of (ps_ldc2 dX9_takeWord_34 wk_RX9_249),
   px_Sp.of (ps_ldc2 dX9_takeWord_37 wk_RX9_251),
   ps_callS (IH 130 (by decide)) (fc_130 _ _) wm_RX9_95 ws_yX9_in dX9_takeWord_40,
   px_Sp.of (ps_if_eq dX9_takeWord_43 (by decide)),
   px_Sp.of (ps_aload_n dX9_takeWord_46 rfl),
   px_Sp.of (ps_dup dX9_takeWord_47),
   px_Sp.of (ps_get kc_X9 (by decide) wf_RX9_236 dX9_takeWord_48),
   px_Sp.of (ps_iconst dX9_takeWord_51 (by decide)),
   px_Sp.of (ps_iadd dX9_takeWord_52),
   px_Sp.ofm (ps_putI kc_X9 (by decide) wf_RX9_236 rfl (by decide +kernel) kp_X9_30 dX9_takeWord_53),
   px_Sp.of (ps_goto dX9_takeWord_56 (by decide)),
   px_Sp.of (ps_aload_n dX9_takeWord_59 rfl),
   px_Sp.of (ps_aload_n dX9_takeWord_60 rfl),
   px_Sp.of (ps_get kc_X9 (by decide) wf_RX9_236 dX9_takeWord_61),
   px_Sp.of (ps_aload_n dX9_takeWord_64 rfl),
   px_Sp.of (ps_get kc_X9 (by decide) wf_RX9_246 dX9_takeWord_65),
   px_Sp.of (ps_isub dX9_takeWord_68),
   px_Sp.ofm (ps_putI kc_X9 (by decide) wf_RX9_253 rfl (by decide +kernel) kp_X9_34 dX9_takeWord_69),
   ps_vret dX9_takeWord_72, trivial⟩
theorem mt_188 {l : Launch} {d : Nat} (IH : ∀ μ, μ < 196 → px_Met l px_P d μ) : px_Met l px_P (d + 1) 188 := px_met (own := RX9) rfl (by decide +kernel) (ok_188 IH)
theorem dX9_kindOf_0 : decode cX9_kindOf 0 = .ok (.aload_n 0, 1) := by decide +kernel
theorem dX9_kindOf_1 : decode cX9_kindOf 1 = .ok (.iconst 4, 1) := by decide +kernel
theorem dX9_kindOf_2 : decode cX9_kindOf 2 = .ok (.bipush 110, 2) := by decide +kernel
theorem dX9_kindOf_4 : decode cX9_kindOf 4 = .ok (.bipush 101, 2) := by decide +kernel
theorem dX9_kindOf_6 : decode cX9_kindOf 6 = .ok (.bipush 97, 2) := by decide +kernel
theorem dX9_kindOf_8 : decode cX9_kindOf 8 = .ok (.bipush 114, 2) := by decide +kernel
theorem dX9_kindOf_10 : decode cX9_kindOf 10 = .ok (.iconst 0, 1) := by decide +kernel
theorem dX9_kindOf_11 : decode cX9_kindOf 11 = .ok (.invokevirtual 264, 3) := by decide +kernel
theorem dX9_kindOf_14 : decode cX9_kindOf 14 = .ok (.ifCond .eq 5, 3) := by decide +kernel
theorem dX9_kindOf_17 : decode cX9_kindOf 17 = .ok (.iconst 0, 1) := by decide +kernel
theorem dX9_kindOf_18 : decode cX9_kindOf 18 = .ok (.ireturn, 1) := by decide +kernel
theorem dX9_kindOf_19 : decode cX9_kindOf 19 = .ok (.aload_n 0, 1) := by decide +kernel
theorem dX9_kindOf_20 : decode cX9_kindOf 20 = .ok (.iconst 3, 1) := by decide +kernel
theorem dX9_kindOf_21 : decode cX9_kindOf 21 = .ok (.bipush 102, 2) := by decide +kernel
theorem dX9_kindOf_23 : decode cX9_kindOf 23 = .ok (.bipush 105, 2) := by decide +kernel
theorem dX9_kindOf_25 : decode cX9_kindOf 25 = .ok (.bipush 116, 2) := by decide +kernel
theorem dX9_kindOf_27 : decode cX9_kindOf 27 = .ok (.iconst 0, 1) := by decide +kernel
theorem dX9_kindOf_28 : decode cX9_kindOf 28 = .ok (.iconst 0, 1) := by decide +kernel
theorem dX9_kindOf_29 : decode cX9_kindOf 29 = .ok (.invokevirtual 264, 3) := by decide +kernel
theorem dX9_kindOf_32 : decode cX9_kindOf 32 = .ok (.ifCond .eq 5, 3) := by decide +kernel
theorem dX9_kindOf_35 : decode cX9_kindOf 35 = .ok (.iconst 1, 1) := by decide +kernel
theorem dX9_kindOf_36 : decode cX9_kindOf 36 = .ok (.ireturn, 1) := by decide +kernel
theorem dX9_kindOf_37 : decode cX9_kindOf 37 = .ok (.aload_n 0, 1) := by decide +kernel
theorem dX9_kindOf_38 : decode cX9_kindOf 38 = .ok (.iconst 5, 1) := by decide +kernel
theorem dX9_kindOf_39 : decode cX9_kindOf 39 = .ok (.bipush 116, 2) := by decide +kernel
theorem dX9_kindOf_41 : decode cX9_kindOf 41 = .ok (.bipush 114, 2) := by decide +kernel
theorem dX9_kindOf_43 : decode cX9_kindOf 43 = .ok (.bipush 117, 2) := by decide +kernel
theorem dX9_kindOf_45 : decode cX9_kindOf 45 = .ok (.bipush 115, 2) := by decide +kernel
theorem dX9_kindOf_47 : decode cX9_kindOf 47 = .ok (.bipush 116, 2) := by decide +kernel
theorem dX9_kindOf_49 : decode cX9_kindOf 49 = .ok (.invokevirtual 264, 3) := by decide +kernel
theorem dX9_kindOf_52 : decode cX9_kindOf 52 = .ok (.ifCond .eq 5, 3) := by decide +kernel
theorem dX9_kindOf_55 : decode cX9_kindOf 55 = .ok (.iconst 2, 1) := by decide +kernel
theorem dX9_kindOf_56 : decode cX9_kindOf 56 = .ok (.ireturn, 1) := by decide +kernel
theorem dX9_kindOf_57 : decode cX9_kindOf 57 = .ok (.aload_n 0, 1) := by decide +kernel
theorem dX9_kindOf_58 : decode cX9_kindOf 58 = .ok (.iconst 4, 1) := by decide +kernel
theorem dX9_kindOf_59 : decode cX9_kindOf 59 = .ok (.bipush 107, 2) := by decide +kernel
theorem dX9_kindOf_61 : decode cX9_kindOf 61 = .ok (.bipush 101, 2) := by decide +kernel
theorem dX9_kindOf_63 : decode cX9_kindOf 63 = .ok (.bipush 101, 2) := by decide +kernel
theorem dX9_kindOf_65 : decode cX9_kindOf 65 = .ok (.bipush 112, 2) := by decide +kernel
theorem dX9_kindOf_67 : decode cX9_kindOf 67 = .ok (.iconst 0, 1) := by decide +kernel
theorem dX9_kindOf_68 : decode cX9_kindOf 68 = .ok (.invokevirtual 264, 3) := by decide +kernel
theorem dX9_kindOf_71 : decode cX9_kindOf 71 = .ok (.ifCond .eq 5, 3) := by decide +kernel
theorem dX9_kindOf_74 : decode cX9_kindOf 74 = .ok (.iconst 3, 1) := by decide +kernel
theorem dX9_kindOf_75 : decode cX9_kindOf 75 = .ok (.ireturn, 1) := by decide +kernel
theorem dX9_kindOf_76 : decode cX9_kindOf 76 = .ok (.aload_n 0, 1) := by decide +kernel
theorem dX9_kindOf_77 : decode cX9_kindOf 77 = .ok (.iconst 4, 1) := by decide +kernel
theorem dX9_kindOf_78 : decode cX9_kindOf 78 = .ok (.bipush 100, 2) := by decide +kernel
theorem dX9_kindOf_80 : decode cX9_kindOf 80 = .ok (.bipush 101, 2) := by decide +kernel
theorem dX9_kindOf_82 : decode cX9_kindOf 82 = .ok (.bipush 101, 2) := by decide +kernel
theorem dX9_kindOf_84 : decode cX9_kindOf 84 = .ok (.bipush 112, 2) := by decide +kernel
theorem dX9_kindOf_86 : decode cX9_kindOf 86 = .ok (.iconst 0, 1) := by decide +kernel
theorem dX9_kindOf_87 : decode cX9_kindOf 87 = .ok (.invokevirtual 264, 3) := by decide +kernel
theorem dX9_kindOf_90 : decode cX9_kindOf 90 = .ok (.ifCond .eq 7, 3) := by decide +kernel
theorem dX9_kindOf_93 : decode cX9_kindOf 93 = .ok (.iconst 4, 1) := by decide +kernel
theorem dX9_kindOf_94 : decode cX9_kindOf 94 = .ok (.goto 4, 3) := by decide +kernel
theorem dX9_kindOf_97 : decode cX9_kindOf 97 = .ok (.iconst (-1), 1) := by decide +kernel
theorem dX9_kindOf_98 : decode cX9_kindOf 98 = .ok (.ireturn, 1) := by decide +kernel
set_option maxRecDepth 20000 in
theorem ok_189 {l : Launch} {d : Nat} (IH : ∀ μ, μ < 196 → px_Met l px_P d μ) : px_ok l px_P d RX9 cX9_kindOf 1 (some .int) tb_189 :=
  ⟨px_Sp.of (ps_aload_n dX9_kindOf_0 rfl),
   px_Sp.of (ps_iconst dX9_kindOf_1 (by decide)),
   px_Sp.of (ps_bipush dX9_kindOf_2 (by decide)),
   px_Sp.of (ps_bipush dX9_kindOf_4 (by decide)),
   px_Sp.of (ps_bipush dX9_kindOf_6 (by decide)),
   px_Sp.of (ps_bipush dX9_kindOf_8 (by decide)),
   px_Sp.of (ps_iconst dX9_kindOf_10 (by decide)),
   ps_callV (IH 190 (by decide)) (C := RX9) (T := TX9) (N := 36) (ci := 8) rfl rfl (fc_190 _ _) wm_RX9_264 wi_yX9_isWord wl_yX9_isWord dX9_kindOf_11,
   px_Sp.of (ps_if_eq dX9_kindOf_14 (by decide)),
   px_Sp.of (ps_iconst dX9_kindOf_17 (by decide)),
   ps_iret dX9_kindOf_18,
   px_Sp.of (ps_aload_n dX9_kindOf_19 rfl),
   px_Sp.of (ps_iconst dX9_kindOf_20 (by decide)),
   px_Sp.of (ps_bipush dX9_kindOf_21 (by decide)),
   px_Sp.of (ps_bipush dX9_kindOf_23 (by decide)),
   px_Sp.of (ps_bipush dX9_kindOf_25 (by decide)),
   px_Sp.of (ps_iconst dX9_kindOf_27 (by decide)),
   px_Sp.of (ps_iconst dX9_kindOf_28 (by decide)),
   ps_callV (IH 190 (by decide)) (C := RX9) (T := TX9) (N := 36) (ci := 8) rfl rfl (fc_190 _ _) wm_RX9_264 wi_yX9_isWord wl_yX9_isWord dX9_kindOf_29,
   px_Sp.of (ps_if_eq dX9_kindOf_32 (by decide)),
   px_Sp.of (ps_iconst dX9_kindOf_35 (by decide)),
   ps_iret dX9_kindOf_36,
   px_Sp.of (ps_aload_n dX9_kindOf_37 rfl),
   px_Sp.of (ps_iconst dX9_kindOf_38 (by decide)),
   px_Sp.of (ps_bipush dX9_kindOf_39 (by decide)),
   px_Sp.of (ps_bipush dX9_kindOf_41 (by decide)),
   px_Sp.of (ps_bipush dX9_kindOf_43 (by decide)),
   px_Sp.of (ps_bipush dX9_kindOf_45 (by decide)),
   px_Sp.of (ps_bipush dX9_kindOf_47 (by decide)),
   ps_callV (IH 190 (by decide)) (C := RX9) (T := TX9) (N := 36) (ci := 8) rfl rfl (fc_190 _ _) wm_RX9_264 wi_yX9_isWord wl_yX9_isWord dX9_kindOf_49,
   px_Sp.of (ps_if_eq dX9_kindOf_52 (by decide)),
   px_Sp.of (ps_iconst dX9_kindOf_55 (by decide)),
   ps_iret dX9_kindOf_56,
   px_Sp.of (ps_aload_n dX9_kindOf_57 rfl),
   px_Sp.of (ps_iconst dX9_kindOf_58 (by decide)),
   px_Sp.of (ps_bipush dX9_kindOf_59 (by decide)),
   px_Sp.of (ps_bipush dX9_kindOf_61 (by decide)),
   px_Sp.of (ps_bipush dX9_kindOf_63 (by decide)),
   px_Sp.of (ps_bipush dX9_kindOf_65 (by decide)),
   px_Sp.of (ps_iconst dX9_kindOf_67 (by decide)),
   ps_callV (IH 190 (by decide)) (C := RX9) (T := TX9) (N := 36) (ci := 8) rfl rfl (fc_190 _ _) wm_RX9_264 wi_yX9_isWord wl_yX9_isWord dX9_kindOf_68,
   px_Sp.of (ps_if_eq dX9_kindOf_71 (by decide)),
   px_Sp.of (ps_iconst dX9_kindOf_74 (by decide)),
   ps_iret dX9_kindOf_75,
   px_Sp.of (ps_aload_n dX9_kindOf_76 rfl),
   px_Sp.of (ps_iconst dX9_kindOf_77 (by decide)),
   px_Sp.of (ps_bipush dX9_kindOf_78 (by decide)),
   px_Sp.of (ps_bipush dX9_kindOf_80 (by decide)),
   px_Sp.of (ps_bipush dX9_kindOf_82 (by decide)),
   px_Sp.of (ps_bipush dX9_kindOf_84 (by decide)),
   px_Sp.of (ps_iconst dX9_kindOf_86 (by decide)),
   ps_callV (IH 190 (by decide)) (C := RX9) (T := TX9) (N := 36) (ci := 8) rfl rfl (fc_190 _ _) wm_RX9_264 wi_yX9_isWord wl_yX9_isWord dX9_kindOf_87,
   px_Sp.of (ps_if_eq dX9_kindOf_90 (by decide)),
   px_Sp.of (ps_iconst dX9_kindOf_93 (by decide)),
   px_Sp.of (ps_goto dX9_kindOf_94 (by decide)),
   px_Sp.of (ps_iconst dX9_kindOf_97 (by decide)),
   ps_iret dX9_kindOf_98, trivial⟩
theorem mt_189 {l : Launch} {d : Nat} (IH : ∀ μ, μ < 196 → px_Met l px_P d μ) : px_Met l px_P (d + 1) 189 := px_met (own := RX9) rfl (by decide +kernel) (ok_189 IH)
theorem dX9_isWord_0 : decode cX9_isWord 0 = .ok (.aload_n 0, 1) := by decide +kernel
theorem dX9_isWord_1 : decode cX9_isWord 1 = .ok (.getfield 253, 3) := by decide +kernel
theorem dX9_isWord_4 : decode cX9_isWord 4 = .ok (.iload_n 1, 1) := by decide +kernel
theorem dX9_isWord_5 : decode cX9_isWord 5 = .ok (.if_icmp .ne 7, 3) := by decide +kernel
theorem dX9_isWord_8 : decode cX9_isWord 8 = .ok (.iconst 1, 1) := by decide +kernel
theorem dX9_isWord_9 : decode cX9_isWord 9 = .ok (.goto 4, 3) := by decide +kernel
theorem dX9_isWord_12 : decode cX9_isWord 12 = .ok (.iconst 0, 1) := by decide +kernel
theorem dX9_isWord_13 : decode cX9_isWord 13 = .ok (.istore 7, 2) := by decide +kernel
theorem dX9_isWord_15 : decode cX9_isWord 15 = .ok (.iconst 0, 1) := by decide +kernel
theorem dX9_isWord_16 : decode cX9_isWord 16 = .ok (.istore 8, 2) := by decide +kernel
theorem dX9_isWord_18 : decode cX9_isWord 18 = .ok (.iload 8, 2) := by decide +kernel
theorem dX9_isWord_20 : decode cX9_isWord 20 = .ok (.iload_n 1, 1) := by decide +kernel
theorem dX9_isWord_21 : decode cX9_isWord 21 = .ok (.if_icmp .ge 79, 3) := by decide +kernel
theorem dX9_isWord_24 : decode cX9_isWord 24 = .ok (.iload 7, 2) := by decide +kernel
theorem dX9_isWord_26 : decode cX9_isWord 26 = .ok (.ifCond .eq 74, 3) := by decide +kernel
theorem dX9_isWord_29 : decode cX9_isWord 29 = .ok (.aload_n 0, 1) := by decide +kernel
theorem dX9_isWord_30 : decode cX9_isWord 30 = .ok (.getfield 79, 3) := by decide +kernel
theorem dX9_isWord_33 : decode cX9_isWord 33 = .ok (.aload_n 0, 1) := by decide +kernel
theorem dX9_isWord_34 : decode cX9_isWord 34 = .ok (.getfield 246, 3) := by decide +kernel
theorem dX9_isWord_37 : decode cX9_isWord 37 = .ok (.iload 8, 2) := by decide +kernel
theorem dX9_isWord_39 : decode cX9_isWord 39 = .ok (.iadd, 1) := by decide +kernel
theorem dX9_isWord_40 : decode cX9_isWord 40 = .ok (.iaload, 1) := by decide +kernel
theorem dX9_isWord_41 : decode cX9_isWord 41 = .ok (.iload 8, 2) := by decide +kernel
theorem dX9_isWord_43 : decode cX9_isWord 43 = .ok (.ifCond .ne 7, 3) := by decide +kernel
theorem dX9_isWord_46 : decode cX9_isWord 46 = .ok (.iload_n 2, 1) := by decide +kernel
theorem dX9_isWord_47 : decode cX9_isWord 47 = .ok (.goto 37, 3) := by decide +kernel
theorem dX9_isWord_50 : decode cX9_isWord 50 = .ok (.iload 8, 2) := by decide +kernel
theorem dX9_isWord_52 : decode cX9_isWord 52 = .ok (.iconst 1, 1) := by decide +kernel
theorem dX9_isWord_53 : decode cX9_isWord 53 = .ok (.if_icmp .ne 7, 3) := by decide +kernel
theorem dX9_isWord_56 : decode cX9_isWord 56 = .ok (.iload_n 3, 1) := by decide +kernel
theorem dX9_isWord_57 : decode cX9_isWord 57 = .ok (.goto 27, 3) := by decide +kernel
theorem dX9_isWord_60 : decode cX9_isWord 60 = .ok (.iload 8, 2) := by decide +kernel
theorem dX9_isWord_62 : decode cX9_isWord 62 = .ok (.iconst 2, 1) := by decide +kernel
theorem dX9_isWord_63 : decode cX9_isWord 63 = .ok (.if_icmp .ne 8, 3) := by decide +kernel
theorem dX9_isWord_66 : decode cX9_isWord 66 = .ok (.iload 4, 2) := by decide +kernel
theorem dX9_isWord_68 : decode cX9_isWord 68 = .ok (.goto 16, 3) := by decide +kernel
theorem dX9_isWord_71 : decode cX9_isWord 71 = .ok (.iload 8, 2) := by decide +kernel
theorem dX9_isWord_73 : decode cX9_isWord 73 = .ok (.iconst 3, 1) := by decide +kernel
theorem dX9_isWord_74 : decode cX9_isWord 74 = .ok (.if_icmp .ne 8, 3) := by decide +kernel
theorem dX9_isWord_77 : decode cX9_isWord 77 = .ok (.iload 5, 2) := by decide +kernel
theorem dX9_isWord_79 : decode cX9_isWord 79 = .ok (.goto 5, 3) := by decide +kernel
theorem dX9_isWord_82 : decode cX9_isWord 82 = .ok (.iload 6, 2) := by decide +kernel
theorem dX9_isWord_84 : decode cX9_isWord 84 = .ok (.if_icmp .ne 7, 3) := by decide +kernel
theorem dX9_isWord_87 : decode cX9_isWord 87 = .ok (.iconst 1, 1) := by decide +kernel
theorem dX9_isWord_88 : decode cX9_isWord 88 = .ok (.goto 4, 3) := by decide +kernel
theorem dX9_isWord_91 : decode cX9_isWord 91 = .ok (.iconst 0, 1) := by decide +kernel
theorem dX9_isWord_92 : decode cX9_isWord 92 = .ok (.istore 7, 2) := by decide +kernel
theorem dX9_isWord_94 : decode cX9_isWord 94 = .ok (.iinc 8 1, 3) := by decide +kernel
theorem dX9_isWord_97 : decode cX9_isWord 97 = .ok (.goto (-79), 3) := by decide +kernel
theorem dX9_isWord_100 : decode cX9_isWord 100 = .ok (.iload 7, 2) := by decide +kernel
theorem dX9_isWord_102 : decode cX9_isWord 102 = .ok (.ireturn, 1) := by decide +kernel
set_option maxRecDepth 20000 in
theorem ok_190 {l : Launch} {d : Nat} (IH : ∀ μ, μ < 196 → px_Met l px_P d μ) : px_ok l px_P d RX9 cX9_isWord 9 (some .boolean) tb_190 :=
  ⟨px_Sp.of (ps_aload_n dX9_isWord_0 rfl),
   px_Sp.of (ps_get kc_X9 (by decide) wf_RX9_253 dX9_isWord_1),
   px_Sp.of (ps_iload_n dX9_isWord_4 rfl),
   px_Sp.of (ps_icmp_ne dX9_isWord_5 (by decide)),
   px_Sp.of (ps_iconst dX9_isWord_8 (by decide)),
   px_Sp.of (ps_goto dX9_isWord_9 (by decide)),
   px_Sp.of (ps_iconst dX9_isWord_12 (by decide)),
   px_Sp.of (ps_istore dX9_isWord_13 (by decide)),
   px_Sp.of (ps_iconst dX9_isWord_15 (by decide)),
   px_Sp.of (ps_istore dX9_isWord_16 (by decide)),
   px_Sp.of (ps_iload dX9_isWord_18),
   px_Sp.of (ps_iload_n dX9_isWord_20 rfl),
   px_Sp.of (ps_icmp_ge dX9_isWord_21 (by decide)),
   px_Sp.of (ps_iload dX9_isWord_24),
   px_Sp.of (ps_if_eq dX9_isWord_26 (by decide)),
   px_Sp.of (ps_aload_n dX9_isWord_29 rfl),
   px_Sp.of (ps_get kc_X9 (by decide) wf_RX9_79 dX9_isWord_30),
   px_Sp.of (ps_aload_n dX9_isWord_33 rfl),
   px_Sp.of (ps_get kc_X9 (by decide) wf_RX9_246 dX9_isWord_34),
   px_Sp.of (ps_iload dX9_isWord_37),
   px_Sp.of (ps_iadd dX9_isWord_39),
   px_Sp.of (ps_iald dX9_isWord_40),
   px_Sp.of (ps_iload dX9_isWord_41),
   px_Sp.of (ps_if_ne dX9_isWord_43 (by decide)),
   px_Sp.of (ps_iload_n dX9_isWord_46 rfl),
   px_Sp.of (ps_goto dX9_isWord_47 (by decide)),
   px_Sp.of (ps_iload dX9_isWord_50),
   px_Sp.of (ps_iconst dX9_isWord_52 (by decide)),
   px_Sp.of (ps_icmp_ne dX9_isWord_53 (by decide)),
   px_Sp.of (ps_iload_n dX9_isWord_56 rfl),
   px_Sp.of (ps_goto dX9_isWord_57 (by decide)),
   px_Sp.of (ps_iload dX9_isWord_60),
   px_Sp.of (ps_iconst dX9_isWord_62 (by decide)),
   px_Sp.of (ps_icmp_ne dX9_isWord_63 (by decide)),
   px_Sp.of (ps_iload dX9_isWord_66),
   px_Sp.of (ps_goto dX9_isWord_68 (by decide)),
   px_Sp.of (ps_iload dX9_isWord_71),
   px_Sp.of (ps_iconst dX9_isWord_73 (by decide)),
   px_Sp.of (ps_icmp_ne dX9_isWord_74 (by decide)),
   px_Sp.of (ps_iload dX9_isWord_77),
   px_Sp.of (ps_goto dX9_isWord_79 (by decide)),
   px_Sp.of (ps_iload dX9_isWord_82),
   px_Sp.of (ps_icmp_ne dX9_isWord_84 (by decide)),
   px_Sp.of (ps_iconst dX9_isWord_87 (by decide)),
   px_Sp.of (ps_goto dX9_isWord_88 (by decide)),
   px_Sp.of (ps_iconst dX9_isWord_91 (by decide)),
   px_Sp.of (ps_istore dX9_isWord_92 (by decide)),
   px_Sp.of (ps_iinc dX9_isWord_94 (by decide) (by decide)),
   px_Sp.of (ps_goto dX9_isWord_97 (by decide)),
   px_Sp.of (ps_iload dX9_isWord_100),
   ps_zret dX9_isWord_102, trivial⟩
theorem mt_190 {l : Launch} {d : Nat} (IH : ∀ μ, μ < 196 → px_Met l px_P d μ) : px_Met l px_P (d + 1) 190 := px_met (own := RX9) rfl (by decide +kernel) (ok_190 IH)
theorem dX9_want_0 : decode cX9_want 0 = .ok (.iload_n 1, 1) := by decide +kernel
theorem dX9_want_1 : decode cX9_want 1 = .ok (.ifCond .ne 20, 3) := by decide +kernel
theorem dX9_want_4 : decode cX9_want 4 = .ok (.aload_n 0, 1) := by decide +kernel
theorem dX9_want_5 : decode cX9_want 5 = .ok (.getfield 239, 3) := by decide +kernel
theorem dX9_want_8 : decode cX9_want 8 = .ok (.ifCond .ne 13, 3) := by decide +kernel
theorem dX9_want_11 : decode cX9_want 11 = .ok (.aload_n 0, 1) := by decide +kernel
theorem dX9_want_12 : decode cX9_want 12 = .ok (.iload_n 2, 1) := by decide +kernel
theorem dX9_want_13 : decode cX9_want 13 = .ok (.putfield 239, 3) := by decide +kernel
theorem dX9_want_16 : decode cX9_want 16 = .ok (.aload_n 0, 1) := by decide +kernel
theorem dX9_want_17 : decode cX9_want 17 = .ok (.iload_n 3, 1) := by decide +kernel
theorem dX9_want_18 : decode cX9_want 18 = .ok (.putfield 82, 3) := by decide +kernel
theorem dX9_want_21 : decode cX9_want 21 = .ok (.aload_n 0, 1) := by decide +kernel
theorem dX9_want_22 : decode cX9_want 22 = .ok (.getfield 239, 3) := by decide +kernel
theorem dX9_want_25 : decode cX9_want 25 = .ok (.ifCond .ne 7, 3) := by decide +kernel
theorem dX9_want_28 : decode cX9_want 28 = .ok (.iconst 1, 1) := by decide +kernel
theorem dX9_want_29 : decode cX9_want 29 = .ok (.goto 4, 3) := by decide +kernel
theorem dX9_want_32 : decode cX9_want 32 = .ok (.iconst 0, 1) := by decide +kernel
theorem dX9_want_33 : decode cX9_want 33 = .ok (.ireturn, 1) := by decide +kernel
set_option maxRecDepth 20000 in
theorem ok_191 {l : Launch} {d : Nat} (IH : ∀ μ, μ < 196 → px_Met l px_P d μ) : px_ok l px_P d RX9 cX9_want 4 (some .boolean) tb_191 :=
  ⟨px_Sp.of (ps_iload_n dX9_want_0 rfl),
   px_Sp.of (ps_if_ne dX9_want_1 (by decide)),
   px_Sp.of (ps_aload_n dX9_want_4 rfl),
   px_Sp.of (ps_get kc_X9 (by decide) wf_RX9_239 dX9_want_5),
   px_Sp.of (ps_if_ne dX9_want_8 (by decide)),
   px_Sp.of (ps_aload_n dX9_want_11 rfl),
   px_Sp.of (ps_iload_n dX9_want_12 rfl),
   px_Sp.ofm (ps_putI kc_X9 (by decide) wf_RX9_239 rfl (by decide +kernel) kp_X9_31 dX9_want_13),
   px_Sp.of (ps_aload_n dX9_want_16 rfl),
   px_Sp.of (ps_iload_n dX9_want_17 rfl),
   px_Sp.ofm (ps_putI kc_X9 (by decide) wf_RX9_82 rfl (by decide +kernel) kp_X9_32 dX9_want_18),
   px_Sp.of (ps_aload_n dX9_want_21 rfl),
   px_Sp.of (ps_get kc_X9 (by decide) wf_RX9_239 dX9_want_22),
   px_Sp.of (ps_if_ne dX9_want_25 (by decide)),
   px_Sp.of (ps_iconst dX9_want_28 (by decide)),
   px_Sp.of (ps_goto dX9_want_29 (by decide)),
   px_Sp.of (ps_iconst dX9_want_32 (by decide)),
   ps_zret dX9_want_33, trivial⟩
theorem mt_191 {l : Launch} {d : Nat} (IH : ∀ μ, μ < 196 → px_Met l px_P d μ) : px_Met l px_P (d + 1) 191 := px_met (own := RX9) rfl (by decide +kernel) (ok_191 IH)
theorem dX9_readClause_0 : decode cX9_readClause 0 = .ok (.iload_n 1, 1) := by decide +kernel
theorem dX9_readClause_1 : decode cX9_readClause 1 = .ok (.iconst 2, 1) := by decide +kernel
theorem dX9_readClause_2 : decode cX9_readClause 2 = .ok (.if_icmp .ne 68, 3) := by decide +kernel
theorem dX9_readClause_5 : decode cX9_readClause 5 = .ok (.aload_n 0, 1) := by decide +kernel
theorem dX9_readClause_6 : decode cX9_readClause 6 = .ok (.invokevirtual 268, 3) := by decide +kernel
theorem dX9_readClause_9 : decode cX9_readClause 9 = .ok (.aload_n 0, 1) := by decide +kernel
theorem dX9_readClause_10 : decode cX9_readClause 10 = .ok (.iconst 3, 1) := by decide +kernel
theorem dX9_readClause_11 : decode cX9_readClause 11 = .ok (.bipush 121, 2) := by decide +kernel
theorem dX9_readClause_13 : decode cX9_readClause 13 = .ok (.bipush 101, 2) := by decide +kernel
theorem dX9_readClause_15 : decode cX9_readClause 15 = .ok (.bipush 115, 2) := by decide +kernel
theorem dX9_readClause_17 : decode cX9_readClause 17 = .ok (.iconst 0, 1) := by decide +kernel
theorem dX9_readClause_18 : decode cX9_readClause 18 = .ok (.iconst 0, 1) := by decide +kernel
theorem dX9_readClause_19 : decode cX9_readClause 19 = .ok (.invokevirtual 264, 3) := by decide +kernel
theorem dX9_readClause_22 : decode cX9_readClause 22 = .ok (.istore_n 2, 1) := by decide +kernel
theorem dX9_readClause_23 : decode cX9_readClause 23 = .ok (.aload_n 0, 1) := by decide +kernel
theorem dX9_readClause_24 : decode cX9_readClause 24 = .ok (.iload_n 2, 1) := by decide +kernel
theorem dX9_readClause_25 : decode cX9_readClause 25 = .ok (.ifCond .ne 18, 3) := by decide +kernel
theorem dX9_readClause_28 : decode cX9_readClause 28 = .ok (.aload_n 0, 1) := by decide +kernel
theorem dX9_readClause_29 : decode cX9_readClause 29 = .ok (.iconst 2, 1) := by decide +kernel
theorem dX9_readClause_30 : decode cX9_readClause 30 = .ok (.bipush 110, 2) := by decide +kernel
theorem dX9_readClause_32 : decode cX9_readClause 32 = .ok (.bipush 111, 2) := by decide +kernel
theorem dX9_readClause_34 : decode cX9_readClause 34 = .ok (.iconst 0, 1) := by decide +kernel
theorem dX9_readClause_35 : decode cX9_readClause 35 = .ok (.iconst 0, 1) := by decide +kernel
theorem dX9_readClause_36 : decode cX9_readClause 36 = .ok (.iconst 0, 1) := by decide +kernel
theorem dX9_readClause_37 : decode cX9_readClause 37 = .ok (.invokevirtual 264, 3) := by decide +kernel
theorem dX9_readClause_40 : decode cX9_readClause 40 = .ok (.ifCond .eq 7, 3) := by decide +kernel
theorem dX9_readClause_43 : decode cX9_readClause 43 = .ok (.iconst 1, 1) := by decide +kernel
theorem dX9_readClause_44 : decode cX9_readClause 44 = .ok (.goto 4, 3) := by decide +kernel
theorem dX9_readClause_47 : decode cX9_readClause 47 = .ok (.iconst 0, 1) := by decide +kernel
theorem dX9_readClause_48 : decode cX9_readClause 48 = .ok (.iconst 1, 1) := by decide +kernel
theorem dX9_readClause_49 : decode cX9_readClause 49 = .ok (.aload_n 0, 1) := by decide +kernel
theorem dX9_readClause_50 : decode cX9_readClause 50 = .ok (.getfield 246, 3) := by decide +kernel
theorem dX9_readClause_53 : decode cX9_readClause 53 = .ok (.invokevirtual 260, 3) := by decide +kernel
theorem dX9_readClause_56 : decode cX9_readClause 56 = .ok (.istore_n 3, 1) := by decide +kernel
theorem dX9_readClause_57 : decode cX9_readClause 57 = .ok (.aload_n 0, 1) := by decide +kernel
theorem dX9_readClause_58 : decode cX9_readClause 58 = .ok (.getfield 85, 3) := by decide +kernel
theorem dX9_readClause_61 : decode cX9_readClause 61 = .ok (.iload_n 1, 1) := by decide +kernel
theorem dX9_readClause_62 : decode cX9_readClause 62 = .ok (.iload_n 2, 1) := by decide +kernel
theorem dX9_readClause_63 : decode cX9_readClause 63 = .ok (.invokestatic 120, 3) := by decide +kernel
theorem dX9_readClause_66 : decode cX9_readClause 66 = .ok (.iastore, 1) := by decide +kernel
theorem dX9_readClause_67 : decode cX9_readClause 67 = .ok (.goto 42, 3) := by decide +kernel
theorem dX9_readClause_70 : decode cX9_readClause 70 = .ok (.aload_n 0, 1) := by decide +kernel
theorem dX9_readClause_71 : decode cX9_readClause 71 = .ok (.getfield 85, 3) := by decide +kernel
theorem dX9_readClause_74 : decode cX9_readClause 74 = .ok (.iload_n 1, 1) := by decide +kernel
theorem dX9_readClause_75 : decode cX9_readClause 75 = .ok (.aload_n 0, 1) := by decide +kernel
theorem dX9_readClause_76 : decode cX9_readClause 76 = .ok (.iload_n 1, 1) := by decide +kernel
theorem dX9_readClause_77 : decode cX9_readClause 77 = .ok (.ifCond .ne 7, 3) := by decide +kernel
theorem dX9_readClause_80 : decode cX9_readClause 80 = .ok (.iconst 2, 1) := by decide +kernel
theorem dX9_readClause_81 : decode cX9_readClause 81 = .ok (.goto 24, 3) := by decide +kernel
theorem dX9_readClause_84 : decode cX9_readClause 84 = .ok (.iload_n 1, 1) := by decide +kernel
theorem dX9_readClause_85 : decode cX9_readClause 85 = .ok (.iconst 1, 1) := by decide +kernel
theorem dX9_readClause_86 : decode cX9_readClause 86 = .ok (.if_icmp .ne 8, 3) := by decide +kernel
theorem dX9_readClause_89 : decode cX9_readClause 89 = .ok (.bipush 100, 2) := by decide +kernel
theorem dX9_readClause_91 : decode cX9_readClause 91 = .ok (.goto 14, 3) := by decide +kernel
theorem dX9_readClause_94 : decode cX9_readClause 94 = .ok (.iload_n 1, 1) := by decide +kernel
theorem dX9_readClause_95 : decode cX9_readClause 95 = .ok (.iconst 3, 1) := by decide +kernel
theorem dX9_readClause_96 : decode cX9_readClause 96 = .ok (.if_icmp .ne 8, 3) := by decide +kernel
theorem dX9_readClause_99 : decode cX9_readClause 99 = .ok (.bipush 14, 2) := by decide +kernel
theorem dX9_readClause_101 : decode cX9_readClause 101 = .ok (.goto 4, 3) := by decide +kernel
theorem dX9_readClause_104 : decode cX9_readClause 104 = .ok (.iconst 5, 1) := by decide +kernel
theorem dX9_readClause_105 : decode cX9_readClause 105 = .ok (.invokevirtual 271, 3) := by decide +kernel
theorem dX9_readClause_108 : decode cX9_readClause 108 = .ok (.iastore, 1) := by decide +kernel
theorem dX9_readClause_109 : decode cX9_readClause 109 = .ok (.aload_n 0, 1) := by decide +kernel
theorem dX9_readClause_110 : decode cX9_readClause 110 = .ok (.getfield 239, 3) := by decide +kernel
theorem dX9_readClause_113 : decode cX9_readClause 113 = .ok (.ifCond .ne 40, 3) := by decide +kernel
theorem dX9_readClause_116 : decode cX9_readClause 116 = .ok (.aload_n 0, 1) := by decide +kernel
theorem dX9_readClause_117 : decode cX9_readClause 117 = .ok (.invokevirtual 242, 3) := by decide +kernel
theorem dX9_readClause_120 : decode cX9_readClause 120 = .ok (.istore_n 2, 1) := by decide +kernel
theorem dX9_readClause_121 : decode cX9_readClause 121 = .ok (.aload_n 0, 1) := by decide +kernel
theorem dX9_readClause_122 : decode cX9_readClause 122 = .ok (.dup, 1) := by decide +kernel
theorem dX9_readClause_123 : decode cX9_readClause 123 = .ok (.getfield 236, 3) := by decide +kernel
theorem dX9_readClause_126 : decode cX9_readClause 126 = .ok (.aload_n 0, 1) := by decide +kernel
theorem dX9_readClause_127 : decode cX9_readClause 127 = .ok (.iload_n 2, 1) := by decide +kernel
theorem dX9_readClause_128 : decode cX9_readClause 128 = .ok (.bipush 59, 2) := by decide +kernel
theorem dX9_readClause_130 : decode cX9_readClause 130 = .ok (.if_icmp .ne 7, 3) := by decide +kernel
theorem dX9_readClause_133 : decode cX9_readClause 133 = .ok (.iconst 1, 1) := by decide +kernel
theorem dX9_readClause_134 : decode cX9_readClause 134 = .ok (.goto 4, 3) := by decide +kernel
theorem dX9_readClause_137 : decode cX9_readClause 137 = .ok (.iconst 0, 1) := by decide +kernel
theorem dX9_readClause_138 : decode cX9_readClause 138 = .ok (.iconst 1, 1) := by decide +kernel
theorem dX9_readClause_139 : decode cX9_readClause 139 = .ok (.aload_n 0, 1) := by decide +kernel
theorem dX9_readClause_140 : decode cX9_readClause 140 = .ok (.getfield 236, 3) := by decide +kernel
theorem dX9_readClause_143 : decode cX9_readClause 143 = .ok (.invokevirtual 260, 3) := by decide +kernel
theorem dX9_readClause_146 : decode cX9_readClause 146 = .ok (.invokestatic 120, 3) := by decide +kernel
theorem dX9_readClause_149 : decode cX9_readClause 149 = .ok (.iadd, 1) := by decide +kernel
theorem dX9_readClause_150 : decode cX9_readClause 150 = .ok (.putfield 236, 3) := by decide +kernel
theorem dX9_readClause_153 : decode cX9_readClause 153 = .ok (.return_, 1) := by decide +kernel
set_option maxRecDepth 20000 in
theorem ok_192 {l : Launch} {d : Nat} (IH : ∀ μ, μ < 196 → px_Met l px_P d μ) : px_ok l px_P d RX9 cX9_readClause 4 (none) tb_192 :=
  ⟨px_Sp.of (ps_iload_n dX9_readClause_0 rfl),
   px_Sp.of (ps_iconst dX9_readClause_1 (by decide)),
   px_Sp.of (ps_icmp_ne dX9_readClause_2 (by decide)),
   px_Sp.of (ps_aload_n dX9_readClause_5 rfl),
   ps_callV (IH 188 (by decide)) (C := RX9) (T := TX9) (N := 36) (ci := 8) rfl rfl (fc_188 _ _) wm_RX9_268 wi_yX9_takeWord wl_yX9_takeWord dX9_readClause_6,
   px_Sp.of (ps_aload_n dX9_readClause_9 rfl),
   px_Sp.of (ps_iconst dX9_readClause_10 (by decide)),
   px_Sp.of (ps_bipush dX9_readClause_11 (by decide)),
   px_Sp.of (ps_bipush dX9_readClause_13 (by decide)),
   px_Sp.of (ps_bipush dX9_readClause_15 (by decide)),
   px_Sp.of (ps_iconst dX9_readClause_17 (by decide)),
   px_Sp.of (ps_iconst dX9_readClause_18 (by decide)),
   ps_callV (IH 190 (by decide)) (C := RX9) (T := TX9) (N := 36) (ci := 8) rfl rfl (fc_190 _ _) wm_RX9_264 wi_yX9_isWord wl_yX9_isWord dX9_readClause_19,
   px_Sp.of (ps_istore_n dX9_readClause_22 rfl (by decide)),
   px_Sp.of (ps_aload_n dX9_readClause_23 rfl),
   px_Sp.of (ps_iload_n dX9_readClause_24 rfl),
   px_Sp.of (ps_if_ne dX9_readClause_25 (by decide)),
   px_Sp.of (ps_aload_n dX9_readClause_28 rfl),
   px_Sp.of (ps_iconst dX9_readClause_29 (by decide)),
   px_Sp.of (ps_bipush dX9_readClause_30 (by decide)),
   px_Sp.of (ps_bipush dX9_readClause_32 (by decide)),
   px_Sp.of (ps_iconst dX9_readClause_34 (by decide)),
   px_Sp.of (ps_iconst dX9_readClause_35 (by decide)),
   px_Sp.of (ps_iconst dX9_readClause_36 (by decide)),
   ps_callV (IH 190 (by decide)) (C := RX9) (T := TX9) (N := 36) (ci := 8) rfl rfl (fc_190 _ _) wm_RX9_264 wi_yX9_isWord wl_yX9_isWord dX9_readClause_37,
   px_Sp.of (ps_if_eq dX9_readClause_40 (by decide)),
   px_Sp.of (ps_iconst dX9_readClause_43 (by decide)),
   px_Sp.of (ps_goto dX9_readClause_44 (by decide)),
   px_Sp.of (ps_iconst dX9_readClause_47 (by decide)),
   px_Sp.of (ps_iconst dX9_readClause_48 (by decide)),
   px_Sp.of (ps_aload_n dX9_readClause_49 rfl),
   px_Sp.of (ps_get kc_X9 (by decide) wf_RX9_246 dX9_readClause_50),
   ps_callV (IH 191 (by decide)) (C := RX9) (T := TX9) (N := 36) (ci := 8) rfl rfl (fc_191 _ _) wm_RX9_260 wi_yX9_want wl_yX9_want dX9_readClause_53,
   px_Sp.of (ps_istore_n dX9_readClause_56 rfl (by decide)),
   px_Sp.of (ps_aload_n dX9_readClause_57 rfl),
   px_Sp.of (ps_get kc_X9 (by decide) wf_RX9_85 dX9_readClause_58),
   px_Sp.of (ps_iload_n dX9_readClause_61 rfl),
   px_Sp.of (ps_iload_n dX9_readClause_62 rfl),
   ps_callS (IH 135 (by decide)) (fc_135 _ _) wm_RX9_120 ws_yX9_one dX9_readClause_63,
   px_Sp.ofm (ps_iast dX9_readClause_66),
   px_Sp.of (ps_goto dX9_readClause_67 (by decide)),
   px_Sp.of (ps_aload_n dX9_readClause_70 rfl),
   px_Sp.of (ps_get kc_X9 (by decide) wf_RX9_85 dX9_readClause_71),
   px_Sp.of (ps_iload_n dX9_readClause_74 rfl),
   px_Sp.of (ps_aload_n dX9_readClause_75 rfl),
   px_Sp.of (ps_iload_n dX9_readClause_76 rfl),
   px_Sp.of (ps_if_ne dX9_readClause_77 (by decide)),
   px_Sp.of (ps_iconst dX9_readClause_80 (by decide)),
   px_Sp.of (ps_goto dX9_readClause_81 (by decide)),
   px_Sp.of (ps_iload_n dX9_readClause_84 rfl),
   px_Sp.of (ps_iconst dX9_readClause_85 (by decide)),
   px_Sp.of (ps_icmp_ne dX9_readClause_86 (by decide)),
   px_Sp.of (ps_bipush dX9_readClause_89 (by decide)),
   px_Sp.of (ps_goto dX9_readClause_91 (by decide)),
   px_Sp.of (ps_iload_n dX9_readClause_94 rfl),
   px_Sp.of (ps_iconst dX9_readClause_95 (by decide)),
   px_Sp.of (ps_icmp_ne dX9_readClause_96 (by decide)),
   px_Sp.of (ps_bipush dX9_readClause_99 (by decide)),
   px_Sp.of (ps_goto dX9_readClause_101 (by decide)),
   px_Sp.of (ps_iconst dX9_readClause_104 (by decide)),
   ps_callV (IH 193 (by decide)) (C := RX9) (T := TX9) (N := 36) (ci := 8) rfl rfl (fc_193 _ _) wm_RX9_271 wi_yX9_takeNumber wl_yX9_takeNumber dX9_readClause_105,
   px_Sp.ofm (ps_iast dX9_readClause_108),
   px_Sp.of (ps_aload_n dX9_readClause_109 rfl),
   px_Sp.of (ps_get kc_X9 (by decide) wf_RX9_239 dX9_readClause_110),
   px_Sp.of (ps_if_ne dX9_readClause_113 (by decide)),
   px_Sp.of (ps_aload_n dX9_readClause_116 rfl),
   ps_callV (IH 187 (by decide)) (C := RX9) (T := TX9) (N := 36) (ci := 8) rfl rfl (fc_187 _ _) wm_RX9_242 wi_yX9_look wl_yX9_look dX9_readClause_117,
   px_Sp.of (ps_istore_n dX9_readClause_120 rfl (by decide)),
   px_Sp.of (ps_aload_n dX9_readClause_121 rfl),
   px_Sp.of (ps_dup dX9_readClause_122),
   px_Sp.of (ps_get kc_X9 (by decide) wf_RX9_236 dX9_readClause_123),
   px_Sp.of (ps_aload_n dX9_readClause_126 rfl),
   px_Sp.of (ps_iload_n dX9_readClause_127 rfl),
   px_Sp.of (ps_bipush dX9_readClause_128 (by decide)),
   px_Sp.of (ps_icmp_ne dX9_readClause_130 (by decide)),
   px_Sp.of (ps_iconst dX9_readClause_133 (by decide)),
   px_Sp.of (ps_goto dX9_readClause_134 (by decide)),
   px_Sp.of (ps_iconst dX9_readClause_137 (by decide)),
   px_Sp.of (ps_iconst dX9_readClause_138 (by decide)),
   px_Sp.of (ps_aload_n dX9_readClause_139 rfl),
   px_Sp.of (ps_get kc_X9 (by decide) wf_RX9_236 dX9_readClause_140),
   ps_callV (IH 191 (by decide)) (C := RX9) (T := TX9) (N := 36) (ci := 8) rfl rfl (fc_191 _ _) wm_RX9_260 wi_yX9_want wl_yX9_want dX9_readClause_143,
   ps_callS (IH 135 (by decide)) (fc_135 _ _) wm_RX9_120 ws_yX9_one dX9_readClause_146,
   px_Sp.of (ps_iadd dX9_readClause_149),
   px_Sp.ofm (ps_putI kc_X9 (by decide) wf_RX9_236 rfl (by decide +kernel) kp_X9_30 dX9_readClause_150),
   ps_vret dX9_readClause_153, trivial⟩
theorem mt_192 {l : Launch} {d : Nat} (IH : ∀ μ, μ < 196 → px_Met l px_P d μ) : px_Met l px_P (d + 1) 192 := px_met (own := RX9) rfl (by decide +kernel) (ok_192 IH)
theorem dX9_takeNumber_0 : decode cX9_takeNumber 0 = .ok (.aload_n 0, 1) := by decide +kernel
theorem dX9_takeNumber_1 : decode cX9_takeNumber 1 = .ok (.invokevirtual 242, 3) := by decide +kernel
theorem dX9_takeNumber_4 : decode cX9_takeNumber 4 = .ok (.istore_n 2, 1) := by decide +kernel
theorem dX9_takeNumber_5 : decode cX9_takeNumber 5 = .ok (.aload_n 0, 1) := by decide +kernel
theorem dX9_takeNumber_6 : decode cX9_takeNumber 6 = .ok (.getfield 236, 3) := by decide +kernel
theorem dX9_takeNumber_9 : decode cX9_takeNumber 9 = .ok (.istore_n 3, 1) := by decide +kernel
theorem dX9_takeNumber_10 : decode cX9_takeNumber 10 = .ok (.aload_n 0, 1) := by decide +kernel
theorem dX9_takeNumber_11 : decode cX9_takeNumber 11 = .ok (.iload_n 2, 1) := by decide +kernel
theorem dX9_takeNumber_12 : decode cX9_takeNumber 12 = .ok (.i2l, 1) := by decide +kernel
theorem dX9_takeNumber_13 : decode cX9_takeNumber 13 = .ok (.ldc2_w 256, 3) := by decide +kernel
theorem dX9_takeNumber_16 : decode cX9_takeNumber 16 = .ok (.ldc2_w 258, 3) := by decide +kernel
theorem dX9_takeNumber_19 : decode cX9_takeNumber 19 = .ok (.invokestatic 95, 3) := by decide +kernel
theorem dX9_takeNumber_22 : decode cX9_takeNumber 22 = .ok (.iconst 1, 1) := by decide +kernel
theorem dX9_takeNumber_23 : decode cX9_takeNumber 23 = .ok (.aload_n 0, 1) := by decide +kernel
theorem dX9_takeNumber_24 : decode cX9_takeNumber 24 = .ok (.getfield 236, 3) := by decide +kernel
theorem dX9_takeNumber_27 : decode cX9_takeNumber 27 = .ok (.invokevirtual 260, 3) := by decide +kernel
theorem dX9_takeNumber_30 : decode cX9_takeNumber 30 = .ok (.ifCond .ne 5, 3) := by decide +kernel
theorem dX9_takeNumber_33 : decode cX9_takeNumber 33 = .ok (.iconst 0, 1) := by decide +kernel
theorem dX9_takeNumber_34 : decode cX9_takeNumber 34 = .ok (.ireturn, 1) := by decide +kernel
theorem dX9_takeNumber_35 : decode cX9_takeNumber 35 = .ok (.iconst 0, 1) := by decide +kernel
theorem dX9_takeNumber_36 : decode cX9_takeNumber 36 = .ok (.istore 4, 2) := by decide +kernel
theorem dX9_takeNumber_38 : decode cX9_takeNumber 38 = .ok (.aload_n 0, 1) := by decide +kernel
theorem dX9_takeNumber_39 : decode cX9_takeNumber 39 = .ok (.getfield 236, 3) := by decide +kernel
theorem dX9_takeNumber_42 : decode cX9_takeNumber 42 = .ok (.aload_n 0, 1) := by decide +kernel
theorem dX9_takeNumber_43 : decode cX9_takeNumber 43 = .ok (.getfield 229, 3) := by decide +kernel
theorem dX9_takeNumber_46 : decode cX9_takeNumber 46 = .ok (.if_icmp .ge 71, 3) := by decide +kernel
theorem dX9_takeNumber_49 : decode cX9_takeNumber 49 = .ok (.aload_n 0, 1) := by decide +kernel
theorem dX9_takeNumber_50 : decode cX9_takeNumber 50 = .ok (.getfield 79, 3) := by decide +kernel
theorem dX9_takeNumber_53 : decode cX9_takeNumber 53 = .ok (.aload_n 0, 1) := by decide +kernel
theorem dX9_takeNumber_54 : decode cX9_takeNumber 54 = .ok (.getfield 236, 3) := by decide +kernel
theorem dX9_takeNumber_57 : decode cX9_takeNumber 57 = .ok (.iaload, 1) := by decide +kernel
theorem dX9_takeNumber_58 : decode cX9_takeNumber 58 = .ok (.i2l, 1) := by decide +kernel
theorem dX9_takeNumber_59 : decode cX9_takeNumber 59 = .ok (.ldc2_w 256, 3) := by decide +kernel
theorem dX9_takeNumber_62 : decode cX9_takeNumber 62 = .ok (.ldc2_w 258, 3) := by decide +kernel
theorem dX9_takeNumber_65 : decode cX9_takeNumber 65 = .ok (.invokestatic 95, 3) := by decide +kernel
theorem dX9_takeNumber_68 : decode cX9_takeNumber 68 = .ok (.ifCond .eq 49, 3) := by decide +kernel
theorem dX9_takeNumber_71 : decode cX9_takeNumber 71 = .ok (.iload 4, 2) := by decide +kernel
theorem dX9_takeNumber_73 : decode cX9_takeNumber 73 = .ok (.sipush 999, 3) := by decide +kernel
theorem dX9_takeNumber_76 : decode cX9_takeNumber 76 = .ok (.if_icmp .le 8, 3) := by decide +kernel
theorem dX9_takeNumber_79 : decode cX9_takeNumber 79 = .ok (.iload 4, 2) := by decide +kernel
theorem dX9_takeNumber_81 : decode cX9_takeNumber 81 = .ok (.goto 21, 3) := by decide +kernel
theorem dX9_takeNumber_84 : decode cX9_takeNumber 84 = .ok (.bipush 10, 2) := by decide +kernel
theorem dX9_takeNumber_86 : decode cX9_takeNumber 86 = .ok (.iload 4, 2) := by decide +kernel
theorem dX9_takeNumber_88 : decode cX9_takeNumber 88 = .ok (.imul, 1) := by decide +kernel
theorem dX9_takeNumber_89 : decode cX9_takeNumber 89 = .ok (.aload_n 0, 1) := by decide +kernel
theorem dX9_takeNumber_90 : decode cX9_takeNumber 90 = .ok (.getfield 79, 3) := by decide +kernel
theorem dX9_takeNumber_93 : decode cX9_takeNumber 93 = .ok (.aload_n 0, 1) := by decide +kernel
theorem dX9_takeNumber_94 : decode cX9_takeNumber 94 = .ok (.getfield 236, 3) := by decide +kernel
theorem dX9_takeNumber_97 : decode cX9_takeNumber 97 = .ok (.iaload, 1) := by decide +kernel
theorem dX9_takeNumber_98 : decode cX9_takeNumber 98 = .ok (.iadd, 1) := by decide +kernel
theorem dX9_takeNumber_99 : decode cX9_takeNumber 99 = .ok (.bipush 48, 2) := by decide +kernel
theorem dX9_takeNumber_101 : decode cX9_takeNumber 101 = .ok (.isub, 1) := by decide +kernel
theorem dX9_takeNumber_102 : decode cX9_takeNumber 102 = .ok (.istore 4, 2) := by decide +kernel
theorem dX9_takeNumber_104 : decode cX9_takeNumber 104 = .ok (.aload_n 0, 1) := by decide +kernel
theorem dX9_takeNumber_105 : decode cX9_takeNumber 105 = .ok (.dup, 1) := by decide +kernel
theorem dX9_takeNumber_106 : decode cX9_takeNumber 106 = .ok (.getfield 236, 3) := by decide +kernel
theorem dX9_takeNumber_109 : decode cX9_takeNumber 109 = .ok (.iconst 1, 1) := by decide +kernel
theorem dX9_takeNumber_110 : decode cX9_takeNumber 110 = .ok (.iadd, 1) := by decide +kernel
theorem dX9_takeNumber_111 : decode cX9_takeNumber 111 = .ok (.putfield 236, 3) := by decide +kernel
theorem dX9_takeNumber_114 : decode cX9_takeNumber 114 = .ok (.goto (-76), 3) := by decide +kernel
theorem dX9_takeNumber_117 : decode cX9_takeNumber 117 = .ok (.aload_n 0, 1) := by decide +kernel
theorem dX9_takeNumber_118 : decode cX9_takeNumber 118 = .ok (.aload_n 0, 1) := by decide +kernel
theorem dX9_takeNumber_119 : decode cX9_takeNumber 119 = .ok (.getfield 236, 3) := by decide +kernel
theorem dX9_takeNumber_122 : decode cX9_takeNumber 122 = .ok (.iload_n 3, 1) := by decide +kernel
theorem dX9_takeNumber_123 : decode cX9_takeNumber 123 = .ok (.isub, 1) := by decide +kernel
theorem dX9_takeNumber_124 : decode cX9_takeNumber 124 = .ok (.iconst 4, 1) := by decide +kernel
theorem dX9_takeNumber_125 : decode cX9_takeNumber 125 = .ok (.if_icmp .ge 13, 3) := by decide +kernel
theorem dX9_takeNumber_128 : decode cX9_takeNumber 128 = .ok (.iload 4, 2) := by decide +kernel
theorem dX9_takeNumber_130 : decode cX9_takeNumber 130 = .ok (.iload_n 1, 1) := by decide +kernel
theorem dX9_takeNumber_131 : decode cX9_takeNumber 131 = .ok (.if_icmp .gt 7, 3) := by decide +kernel
theorem dX9_takeNumber_134 : decode cX9_takeNumber 134 = .ok (.iconst 1, 1) := by decide +kernel
theorem dX9_takeNumber_135 : decode cX9_takeNumber 135 = .ok (.goto 4, 3) := by decide +kernel
theorem dX9_takeNumber_138 : decode cX9_takeNumber 138 = .ok (.iconst 0, 1) := by decide +kernel
theorem dX9_takeNumber_139 : decode cX9_takeNumber 139 = .ok (.iconst 2, 1) := by decide +kernel
theorem dX9_takeNumber_140 : decode cX9_takeNumber 140 = .ok (.iload_n 3, 1) := by decide +kernel
theorem dX9_takeNumber_141 : decode cX9_takeNumber 141 = .ok (.invokevirtual 260, 3) := by decide +kernel
theorem dX9_takeNumber_144 : decode cX9_takeNumber 144 = .ok (.istore 5, 2) := by decide +kernel
theorem dX9_takeNumber_146 : decode cX9_takeNumber 146 = .ok (.iload 4, 2) := by decide +kernel
theorem dX9_takeNumber_148 : decode cX9_takeNumber 148 = .ok (.ireturn, 1) := by decide +kernel
set_option maxRecDepth 20000 in
theorem ok_193 {l : Launch} {d : Nat} (IH : ∀ μ, μ < 196 → px_Met l px_P d μ) : px_ok l px_P d RX9 cX9_takeNumber 6 (some .int) tb_193 :=
  ⟨px_Sp.of (ps_aload_n dX9_takeNumber_0 rfl),
   ps_callV (IH 187 (by decide)) (C := RX9) (T := TX9) (N := 36) (ci := 8) rfl rfl (fc_187 _ _) wm_RX9_242 wi_yX9_look wl_yX9_look dX9_takeNumber_1,
   px_Sp.of (ps_istore_n dX9_takeNumber_4 rfl (by decide)),
   px_Sp.of (ps_aload_n dX9_takeNumber_5 rfl),
   px_Sp.of (ps_get kc_X9 (by decide) wf_RX9_236 dX9_takeNumber_6),
   px_Sp.of (ps_istore_n dX9_takeNumber_9 rfl (by decide)),
   px_Sp.of (ps_aload_n dX9_takeNumber_10 rfl),
   px_Sp.of (ps_iload_n dX9_takeNumber_11 rfl),
   px_Sp.of (ps_i2l dX9_takeNumber_12),
   px_Sp.of (ps_ldc2 dX9_takeNumber_13 wk_RX9_256),
   px_Sp.of (ps_ldc2 dX9_takeNumber_16 wk_RX9_258),
   ps_callS (IH 130 (by decide)) (fc_130 _ _) wm_RX9_95 ws_yX9_in dX9_takeNumber_19,
   px_Sp.of (ps_iconst dX9_takeNumber_22 (by decide)),
   px_Sp.of (ps_aload_n dX9_takeNumber_23 rfl),
   px_Sp.of (ps_get kc_X9 (by decide) wf_RX9_236 dX9_takeNumber_24),
   ps_callV (IH 191 (by decide)) (C := RX9) (T := TX9) (N := 36) (ci := 8) rfl rfl (fc_191 _ _) wm_RX9_260 wi_yX9_want wl_yX9_want dX9_takeNumber_27,
   px_Sp.of (ps_if_ne dX9_takeNumber_30 (by decide)),
   px_Sp.of (ps_iconst dX9_takeNumber_33 (by decide)),
   ps_iret dX9_takeNumber_34,
   px_Sp.of (ps_iconst dX9_takeNumber_35 (by decide)),
   px_Sp.of (ps_istore dX9_takeNumber_36 (by decide)),
   px_Sp.of (ps_aload_n dX9_takeNumber_38 rfl),
   px_Sp.of (ps_get kc_X9 (by decide) wf_RX9_236 dX9_takeNumber_39),
   px_Sp.of (ps_aload_n dX9_takeNumber_42 rfl),
   px_Sp.of (ps_get kc_X9 (by decide) wf_RX9_229 dX9_takeNumber_43),
   px_Sp.of (ps_icmp_ge dX9_takeNumber_46 (by decide)),
   px_Sp.of (ps_aload_n dX9_takeNumber_49 rfl),
   px_Sp.of (ps_get kc_X9 (by decide) wf_RX9_79 dX9_takeNumber_50),
   px_Sp.of (ps_aload_n dX9_takeNumber_53 rfl),
   px_Sp.of (ps_get kc_X9 (by decide) wf_RX9_236 dX9_takeNumber_54),
   px_Sp.of (ps_iald dX9_takeNumber_57),
   px_Sp.of (ps_i2l dX9_takeNumber_58),
   px_Sp.of (ps_ldc2 dX9_takeNumber_59 wk_RX9_256),
   px_Sp.of (ps_ldc2 dX9_takeNumber_62 wk_RX9_258),
   ps_callS (IH 130 (by decide)) (fc_130 _ _) wm_RX9_95 ws_yX9_in dX9_takeNumber_65,
   px_Sp.of (ps_if_eq dX9_takeNumber_68 (by decide)),
   px_Sp.of (ps_iload dX9_takeNumber_71),
   px_Sp.of (ps_sipush dX9_takeNumber_73 (by decide)),
   px_Sp.of (ps_icmp_le dX9_takeNumber_76 (by decide)),
   px_Sp.of (ps_iload dX9_takeNumber_79),
   px_Sp.of (ps_goto dX9_takeNumber_81 (by decide)),
   px_Sp.of (ps_bipush dX9_takeNumber_84 (by decide)),
   px_Sp.of (ps_iload dX9_takeNumber_86),
   px_Sp.of (ps_imul dX9_takeNumber_88),
   px_Sp.of (ps_aload_n dX9_takeNumber_89 rfl),
   px_Sp.of (ps_get kc_X9 (by decide) wf_RX9_79 dX9_takeNumber_90),
   px_Sp.of (ps_aload_n dX9_takeNumber_93 rfl),
   px_Sp.of (ps_get kc_X9 (by decide) wf_RX9_236 dX9_takeNumber_94),
   px_Sp.of (ps_iald dX9_takeNumber_97),
   px_Sp.of (ps_iadd dX9_takeNumber_98),
   px_Sp.of (ps_bipush dX9_takeNumber_99 (by decide)),
   px_Sp.of (ps_isub dX9_takeNumber_101),
   px_Sp.of (ps_istore dX9_takeNumber_102 (by decide)),
   px_Sp.of (ps_aload_n dX9_takeNumber_104 rfl),
   px_Sp.of (ps_dup dX9_takeNumber_105),
   px_Sp.of (ps_get kc_X9 (by decide) wf_RX9_236 dX9_takeNumber_106),
   px_Sp.of (ps_iconst dX9_takeNumber_109 (by decide)),
   px_Sp.of (ps_iadd dX9_takeNumber_110),
   px_Sp.ofm (ps_putI kc_X9 (by decide) wf_RX9_236 rfl (by decide +kernel) kp_X9_30 dX9_takeNumber_111),
   px_Sp.of (ps_goto dX9_takeNumber_114 (by decide)),
   px_Sp.of (ps_aload_n dX9_takeNumber_117 rfl),
   px_Sp.of (ps_aload_n dX9_takeNumber_118 rfl),
   px_Sp.of (ps_get kc_X9 (by decide) wf_RX9_236 dX9_takeNumber_119),
   px_Sp.of (ps_iload_n dX9_takeNumber_122 rfl),
   px_Sp.of (ps_isub dX9_takeNumber_123),
   px_Sp.of (ps_iconst dX9_takeNumber_124 (by decide)),
   px_Sp.of (ps_icmp_ge dX9_takeNumber_125 (by decide)),
   px_Sp.of (ps_iload dX9_takeNumber_128),
   px_Sp.of (ps_iload_n dX9_takeNumber_130 rfl),
   px_Sp.of (ps_icmp_gt dX9_takeNumber_131 (by decide)),
   px_Sp.of (ps_iconst dX9_takeNumber_134 (by decide)),
   px_Sp.of (ps_goto dX9_takeNumber_135 (by decide)),
   px_Sp.of (ps_iconst dX9_takeNumber_138 (by decide)),
   px_Sp.of (ps_iconst dX9_takeNumber_139 (by decide)),
   px_Sp.of (ps_iload_n dX9_takeNumber_140 rfl),
   ps_callV (IH 191 (by decide)) (C := RX9) (T := TX9) (N := 36) (ci := 8) rfl rfl (fc_191 _ _) wm_RX9_260 wi_yX9_want wl_yX9_want dX9_takeNumber_141,
   px_Sp.of (ps_istore dX9_takeNumber_144 (by decide)),
   px_Sp.of (ps_iload dX9_takeNumber_146),
   ps_iret dX9_takeNumber_148, trivial⟩
theorem mt_193 {l : Launch} {d : Nat} (IH : ∀ μ, μ < 196 → px_Met l px_P d μ) : px_Met l px_P (d + 1) 193 := px_met (own := RX9) rfl (by decide +kernel) (ok_193 IH)
theorem dX9_fault_0 : decode cX9_fault 0 = .ok (.aload_n 0, 1) := by decide +kernel
theorem dX9_fault_1 : decode cX9_fault 1 = .ok (.getfield 82, 3) := by decide +kernel
theorem dX9_fault_4 : decode cX9_fault 4 = .ok (.ireturn, 1) := by decide +kernel
set_option maxRecDepth 20000 in
theorem ok_194 {l : Launch} {d : Nat} (IH : ∀ μ, μ < 196 → px_Met l px_P d μ) : px_ok l px_P d RX9 cX9_fault 1 (some .int) tb_194 :=
  ⟨px_Sp.of (ps_aload_n dX9_fault_0 rfl),
   px_Sp.of (ps_get kc_X9 (by decide) wf_RX9_82 dX9_fault_1),
   ps_iret dX9_fault_4, trivial⟩
theorem mt_194 {l : Launch} {d : Nat} (IH : ∀ μ, μ < 196 → px_Met l px_P d μ) : px_Met l px_P (d + 1) 194 := px_met (own := RX9) rfl (by decide +kernel) (ok_194 IH)
theorem dX9_rule_0 : decode cX9_rule 0 = .ok (.iload_n 1, 1) := by decide +kernel
theorem dX9_rule_1 : decode cX9_rule 1 = .ok (.i2l, 1) := by decide +kernel
theorem dX9_rule_2 : decode cX9_rule 2 = .ok (.lconst 0, 1) := by decide +kernel
theorem dX9_rule_3 : decode cX9_rule 3 = .ok (.ldc2_w 227, 3) := by decide +kernel
theorem dX9_rule_6 : decode cX9_rule 6 = .ok (.invokestatic 95, 3) := by decide +kernel
theorem dX9_rule_9 : decode cX9_rule 9 = .ok (.ifCond .eq 12, 3) := by decide +kernel
theorem dX9_rule_12 : decode cX9_rule 12 = .ok (.aload_n 0, 1) := by decide +kernel
theorem dX9_rule_13 : decode cX9_rule 13 = .ok (.getfield 7, 3) := by decide +kernel
theorem dX9_rule_16 : decode cX9_rule 16 = .ok (.iload_n 1, 1) := by decide +kernel
theorem dX9_rule_17 : decode cX9_rule 17 = .ok (.iaload, 1) := by decide +kernel
theorem dX9_rule_18 : decode cX9_rule 18 = .ok (.goto 6, 3) := by decide +kernel
theorem dX9_rule_21 : decode cX9_rule 21 = .ok (.sipush (-1002), 3) := by decide +kernel
theorem dX9_rule_24 : decode cX9_rule 24 = .ok (.ireturn, 1) := by decide +kernel
set_option maxRecDepth 20000 in
theorem ok_195 {l : Launch} {d : Nat} (IH : ∀ μ, μ < 196 → px_Met l px_P d μ) : px_ok l px_P d RX9 cX9_rule 2 (some .int) tb_195 :=
  ⟨px_Sp.of (ps_iload_n dX9_rule_0 rfl),
   px_Sp.of (ps_i2l dX9_rule_1),
   px_Sp.of (ps_lconst dX9_rule_2 (by decide)),
   px_Sp.of (ps_ldc2 dX9_rule_3 wk_RX9_227),
   ps_callS (IH 130 (by decide)) (fc_130 _ _) wm_RX9_95 ws_yX9_in dX9_rule_6,
   px_Sp.of (ps_if_eq dX9_rule_9 (by decide)),
   px_Sp.of (ps_aload_n dX9_rule_12 rfl),
   px_Sp.of (ps_get kc_X9 (by decide) wf_RX9_7 dX9_rule_13),
   px_Sp.of (ps_iload_n dX9_rule_16 rfl),
   px_Sp.of (ps_iald dX9_rule_17),
   px_Sp.of (ps_goto dX9_rule_18 (by decide)),
   px_Sp.of (ps_sipush dX9_rule_21 (by decide)),
   ps_iret dX9_rule_24, trivial⟩
theorem mt_195 {l : Launch} {d : Nat} (IH : ∀ μ, μ < 196 → px_Met l px_P d μ) : px_Met l px_P (d + 1) 195 := px_met (own := RX9) rfl (by decide +kernel) (ok_195 IH)
