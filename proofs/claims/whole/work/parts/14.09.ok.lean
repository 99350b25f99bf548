/-! ===== tables that are right, 9 ===== -/
theorem dX9_findPieces_0 : decode cX9_findPieces 0 = .ok (.aload_n 0, 1) := by decide +kernel
theorem dX9_findPieces_1 : decode cX9_findPieces 1 = .ok (.iconst 0, 1) := by decide +kernel
theorem dX9_findPieces_2 : decode cX9_findPieces 2 = .ok (.putfield 190, 3) := by decide +kernel
theorem dX9_findPieces_5 : decode cX9_findPieces 5 = .ok (.iconst 0, 1) := by decide +kernel
theorem dX9_findPieces_6 : decode cX9_findPieces 6 = .ok (.istore_n 2, 1) := by decide +kernel
theorem dX9_findPieces_7 : decode cX9_findPieces 7 = .ok (.iload_n 2, 1) := by decide +kernel
theorem dX9_findPieces_8 : decode cX9_findPieces 8 = .ok (.aload_n 0, 1) := by decide +kernel
theorem dX9_findPieces_9 : decode cX9_findPieces 9 = .ok (.getfield 92, 3) := by decide +kernel
theorem dX9_findPieces_12 : decode cX9_findPieces 12 = .ok (.if_icmp .ge 129, 3) := by decide +kernel
theorem dX9_findPieces_15 : decode cX9_findPieces 15 = .ok (.aload_n 0, 1) := by decide +kernel
theorem dX9_findPieces_16 : decode cX9_findPieces 16 = .ok (.getfield 57, 3) := by decide +kernel
theorem dX9_findPieces_19 : decode cX9_findPieces 19 = .ok (.iload_n 2, 1) := by decide +kernel
theorem dX9_findPieces_20 : decode cX9_findPieces 20 = .ok (.iaload, 1) := by decide +kernel
theorem dX9_findPieces_21 : decode cX9_findPieces 21 = .ok (.iload_n 1, 1) := by decide +kernel
theorem dX9_findPieces_22 : decode cX9_findPieces 22 = .ok (.if_icmp .ne 113, 3) := by decide +kernel
theorem dX9_findPieces_25 : decode cX9_findPieces 25 = .ok (.aload_n 0, 1) := by decide +kernel
theorem dX9_findPieces_26 : decode cX9_findPieces 26 = .ok (.getfield 190, 3) := by decide +kernel
theorem dX9_findPieces_29 : decode cX9_findPieces 29 = .ok (.iconst 4, 1) := by decide +kernel
theorem dX9_findPieces_30 : decode cX9_findPieces 30 = .ok (.if_icmp .ge 95, 3) := by decide +kernel
theorem dX9_findPieces_33 : decode cX9_findPieces 33 = .ok (.aload_n 0, 1) := by decide +kernel
theorem dX9_findPieces_34 : decode cX9_findPieces 34 = .ok (.getfield 60, 3) := by decide +kernel
theorem dX9_findPieces_37 : decode cX9_findPieces 37 = .ok (.aload_n 0, 1) := by decide +kernel
theorem dX9_findPieces_38 : decode cX9_findPieces 38 = .ok (.getfield 190, 3) := by decide +kernel
theorem dX9_findPieces_41 : decode cX9_findPieces 41 = .ok (.iload_n 2, 1) := by decide +kernel
theorem dX9_findPieces_42 : decode cX9_findPieces 42 = .ok (.iastore, 1) := by decide +kernel
theorem dX9_findPieces_43 : decode cX9_findPieces 43 = .ok (.aload_n 0, 1) := by decide +kernel
theorem dX9_findPieces_44 : decode cX9_findPieces 44 = .ok (.getfield 63, 3) := by decide +kernel
theorem dX9_findPieces_47 : decode cX9_findPieces 47 = .ok (.aload_n 0, 1) := by decide +kernel
theorem dX9_findPieces_48 : decode cX9_findPieces 48 = .ok (.getfield 190, 3) := by decide +kernel
theorem dX9_findPieces_51 : decode cX9_findPieces 51 = .ok (.iconst 0, 1) := by decide +kernel
theorem dX9_findPieces_52 : decode cX9_findPieces 52 = .ok (.iastore, 1) := by decide +kernel
theorem dX9_findPieces_53 : decode cX9_findPieces 53 = .ok (.iconst 0, 1) := by decide +kernel
theorem dX9_findPieces_54 : decode cX9_findPieces 54 = .ok (.istore_n 3, 1) := by decide +kernel
theorem dX9_findPieces_55 : decode cX9_findPieces 55 = .ok (.iload_n 3, 1) := by decide +kernel
theorem dX9_findPieces_56 : decode cX9_findPieces 56 = .ok (.aload_n 0, 1) := by decide +kernel
theorem dX9_findPieces_57 : decode cX9_findPieces 57 = .ok (.getfield 22, 3) := by decide +kernel
theorem dX9_findPieces_60 : decode cX9_findPieces 60 = .ok (.iload_n 2, 1) := by decide +kernel
theorem dX9_findPieces_61 : decode cX9_findPieces 61 = .ok (.iaload, 1) := by decide +kernel
theorem dX9_findPieces_62 : decode cX9_findPieces 62 = .ok (.if_icmp .ge 63, 3) := by decide +kernel
theorem dX9_findPieces_65 : decode cX9_findPieces 65 = .ok (.aload_n 0, 1) := by decide +kernel
theorem dX9_findPieces_66 : decode cX9_findPieces 66 = .ok (.bipush 14, 2) := by decide +kernel
theorem dX9_findPieces_68 : decode cX9_findPieces 68 = .ok (.iload_n 2, 1) := by decide +kernel
theorem dX9_findPieces_69 : decode cX9_findPieces 69 = .ok (.imul, 1) := by decide +kernel
theorem dX9_findPieces_70 : decode cX9_findPieces 70 = .ok (.iload_n 3, 1) := by decide +kernel
theorem dX9_findPieces_71 : decode cX9_findPieces 71 = .ok (.iadd, 1) := by decide +kernel
theorem dX9_findPieces_72 : decode cX9_findPieces 72 = .ok (.invokevirtual 175, 3) := by decide +kernel
theorem dX9_findPieces_75 : decode cX9_findPieces 75 = .ok (.ifCond .eq 44, 3) := by decide +kernel
theorem dX9_findPieces_78 : decode cX9_findPieces 78 = .ok (.aload_n 0, 1) := by decide +kernel
theorem dX9_findPieces_79 : decode cX9_findPieces 79 = .ok (.getfield 66, 3) := by decide +kernel
theorem dX9_findPieces_82 : decode cX9_findPieces 82 = .ok (.bipush 14, 2) := by decide +kernel
theorem dX9_findPieces_84 : decode cX9_findPieces 84 = .ok (.aload_n 0, 1) := by decide +kernel
theorem dX9_findPieces_85 : decode cX9_findPieces 85 = .ok (.getfield 190, 3) := by decide +kernel
theorem dX9_findPieces_88 : decode cX9_findPieces 88 = .ok (.imul, 1) := by decide +kernel
theorem dX9_findPieces_89 : decode cX9_findPieces 89 = .ok (.aload_n 0, 1) := by decide +kernel
theorem dX9_findPieces_90 : decode cX9_findPieces 90 = .ok (.getfield 63, 3) := by decide +kernel
theorem dX9_findPieces_93 : decode cX9_findPieces 93 = .ok (.aload_n 0, 1) := by decide +kernel
theorem dX9_findPieces_94 : decode cX9_findPieces 94 = .ok (.getfield 190, 3) := by decide +kernel
theorem dX9_findPieces_97 : decode cX9_findPieces 97 = .ok (.iaload, 1) := by decide +kernel
theorem dX9_findPieces_98 : decode cX9_findPieces 98 = .ok (.iadd, 1) := by decide +kernel
theorem dX9_findPieces_99 : decode cX9_findPieces 99 = .ok (.bipush 14, 2) := by decide +kernel
theorem dX9_findPieces_101 : decode cX9_findPieces 101 = .ok (.iload_n 2, 1) := by decide +kernel
theorem dX9_findPieces_102 : decode cX9_findPieces 102 = .ok (.imul, 1) := by decide +kernel
theorem dX9_findPieces_103 : decode cX9_findPieces 103 = .ok (.iload_n 3, 1) := by decide +kernel
theorem dX9_findPieces_104 : decode cX9_findPieces 104 = .ok (.iadd, 1) := by decide +kernel
theorem dX9_findPieces_105 : decode cX9_findPieces 105 = .ok (.iastore, 1) := by decide +kernel
theorem dX9_findPieces_106 : decode cX9_findPieces 106 = .ok (.aload_n 0, 1) := by decide +kernel
theorem dX9_findPieces_107 : decode cX9_findPieces 107 = .ok (.getfield 63, 3) := by decide +kernel
theorem dX9_findPieces_110 : decode cX9_findPieces 110 = .ok (.aload_n 0, 1) := by decide +kernel
theorem dX9_findPieces_111 : decode cX9_findPieces 111 = .ok (.getfield 190, 3) := by decide +kernel
theorem dX9_findPieces_114 : decode cX9_findPieces 114 = .ok (.dup2, 1) := by decide +kernel
theorem dX9_findPieces_115 : decode cX9_findPieces 115 = .ok (.iaload, 1) := by decide +kernel
theorem dX9_findPieces_116 : decode cX9_findPieces 116 = .ok (.iconst 1, 1) := by decide +kernel
theorem dX9_findPieces_117 : decode cX9_findPieces 117 = .ok (.iadd, 1) := by decide +kernel
theorem dX9_findPieces_118 : decode cX9_findPieces 118 = .ok (.iastore, 1) := by decide +kernel
theorem dX9_findPieces_119 : decode cX9_findPieces 119 = .ok (.iinc 3 1, 3) := by decide +kernel
theorem dX9_findPieces_122 : decode cX9_findPieces 122 = .ok (.goto (-67), 3) := by decide +kernel
theorem dX9_findPieces_125 : decode cX9_findPieces 125 = .ok (.aload_n 0, 1) := by decide +kernel
theorem dX9_findPieces_126 : decode cX9_findPieces 126 = .ok (.dup, 1) := by decide +kernel
theorem dX9_findPieces_127 : decode cX9_findPieces 127 = .ok (.getfield 190, 3) := by decide +kernel
theorem dX9_findPieces_130 : decode cX9_findPieces 130 = .ok (.iconst 1, 1) := by decide +kernel
theorem dX9_findPieces_131 : decode cX9_findPieces 131 = .ok (.iadd, 1) := by decide +kernel
theorem dX9_findPieces_132 : decode cX9_findPieces 132 = .ok (.putfield 190, 3) := by decide +kernel
theorem dX9_findPieces_135 : decode cX9_findPieces 135 = .ok (.iinc 2 1, 3) := by decide +kernel
theorem dX9_findPieces_138 : decode cX9_findPieces 138 = .ok (.goto (-131), 3) := by decide +kernel
theorem dX9_findPieces_141 : decode cX9_findPieces 141 = .ok (.aload_n 0, 1) := by decide +kernel
theorem dX9_findPieces_142 : decode cX9_findPieces 142 = .ok (.getfield 190, 3) := by decide +kernel
theorem dX9_findPieces_145 : decode cX9_findPieces 145 = .ok (.istore_n 2, 1) := by decide +kernel
theorem dX9_findPieces_146 : decode cX9_findPieces 146 = .ok (.iload_n 2, 1) := by decide +kernel
theorem dX9_findPieces_147 : decode cX9_findPieces 147 = .ok (.iconst 4, 1) := by decide +kernel
theorem dX9_findPieces_148 : decode cX9_findPieces 148 = .ok (.if_icmp .ge 16, 3) := by decide +kernel
theorem dX9_findPieces_151 : decode cX9_findPieces 151 = .ok (.aload_n 0, 1) := by decide +kernel
theorem dX9_findPieces_152 : decode cX9_findPieces 152 = .ok (.getfield 63, 3) := by decide +kernel
theorem dX9_findPieces_155 : decode cX9_findPieces 155 = .ok (.iload_n 2, 1) := by decide +kernel
theorem dX9_findPieces_156 : decode cX9_findPieces 156 = .ok (.iconst 0, 1) := by decide +kernel
theorem dX9_findPieces_157 : decode cX9_findPieces 157 = .ok (.iastore, 1) := by decide +kernel
theorem dX9_findPieces_158 : decode cX9_findPieces 158 = .ok (.iinc 2 1, 3) := by decide +kernel
theorem dX9_findPieces_161 : decode cX9_findPieces 161 = .ok (.goto (-15), 3) := by decide +kernel
theorem dX9_findPieces_164 : decode cX9_findPieces 164 = .ok (.return_, 1) := by decide +kernel
set_option maxRecDepth 20000 in
theorem ok_167 {l : Launch} {d : Nat} (IH : ∀ μ, μ < 196 → px_Met l px_P d μ) : px_ok l px_P d RX9 cX9_findPieces 4 (none) tb_167 :=
  ⟨px_Sp.of (ps_aload_n dX9_findPieces_0 rfl),
   px_Sp.of (ps_iconst dX9_findPieces_1 (by decide)),
   px_Sp.ofm (ps_putI kc_X9 (by decide) wf_RX9_190 rfl (by decide +kernel) kp_X9_22 dX9_findPieces_2),
   px_Sp.of (ps_iconst dX9_findPieces_5 (by decide)),
   px_Sp.of (ps_istore_n dX9_findPieces_6 rfl (by decide)),
   px_Sp.of (ps_iload_n dX9_findPieces_7 rfl),
   px_Sp.of (ps_aload_n dX9_findPieces_8 rfl),
   px_Sp.of (ps_get kc_X9 (by decide) wf_RX9_92 dX9_findPieces_9),
   px_Sp.of (ps_icmp_ge dX9_findPieces_12 (by decide)),
   px_Sp.of (ps_aload_n dX9_findPieces_15 rfl),
   px_Sp.of (ps_get kc_X9 (by decide) wf_RX9_57 dX9_findPieces_16),
   px_Sp.of (ps_iload_n dX9_findPieces_19 rfl),
   px_Sp.of (ps_iald dX9_findPieces_20),
   px_Sp.of (ps_iload_n dX9_findPieces_21 rfl),
   px_Sp.of (ps_icmp_ne dX9_findPieces_22 (by decide)),
   px_Sp.of (ps_aload_n dX9_findPieces_25 rfl),
   px_Sp.of (ps_get kc_X9 (by decide) wf_RX9_190 dX9_findPieces_26),
   px_Sp.of (ps_iconst dX9_findPieces_29 (by decide)),
   px_Sp.of (ps_icmp_ge dX9_findPieces_30 (by decide)),
   px_Sp.of (ps_aload_n dX9_findPieces_33 rfl),
   px_Sp.of (ps_get kc_X9 (by decide) wf_RX9_60 dX9_findPieces_34),
   px_Sp.of (ps_aload_n dX9_findPieces_37 rfl),
   px_Sp.of (ps_get kc_X9 (by decide) wf_RX9_190 dX9_findPieces_38),
   px_Sp.of (ps_iload_n dX9_findPieces_41 rfl),
   px_Sp.ofm (ps_iast dX9_findPieces_42),
   px_Sp.of (ps_aload_n dX9_findPieces_43 rfl),
   px_Sp.of (ps_get kc_X9 (by decide) wf_RX9_63 dX9_findPieces_44),
   px_Sp.of (ps_aload_n dX9_findPieces_47 rfl),
   px_Sp.of (ps_get kc_X9 (by decide) wf_RX9_190 dX9_findPieces_48),
   px_Sp.of (ps_iconst dX9_findPieces_51 (by decide)),
   px_Sp.ofm (ps_iast dX9_findPieces_52),
   px_Sp.of (ps_iconst dX9_findPieces_53 (by decide)),
   px_Sp.of (ps_istore_n dX9_findPieces_54 rfl (by decide)),
   px_Sp.of (ps_iload_n dX9_findPieces_55 rfl),
   px_Sp.of (ps_aload_n dX9_findPieces_56 rfl),
   px_Sp.of (ps_get kc_X9 (by decide) wf_RX9_22 dX9_findPieces_57),
   px_Sp.of (ps_iload_n dX9_findPieces_60 rfl),
   px_Sp.of (ps_iald dX9_findPieces_61),
   px_Sp.of (ps_icmp_ge dX9_findPieces_62 (by decide)),
   px_Sp.of (ps_aload_n dX9_findPieces_65 rfl),
   px_Sp.of (ps_bipush dX9_findPieces_66 (by decide)),
   px_Sp.of (ps_iload_n dX9_findPieces_68 rfl),
   px_Sp.of (ps_imul dX9_findPieces_69),
   px_Sp.of (ps_iload_n dX9_findPieces_70 rfl),
   px_Sp.of (ps_iadd dX9_findPieces_71),
   ps_callV (IH 164 (by decide)) (C := RX9) (T := TX9) (N := 36) (ci := 8) rfl rfl (fc_164 _ _) wm_RX9_175 wi_yX9_isPiece wl_yX9_isPiece dX9_findPieces_72,
   px_Sp.of (ps_if_eq dX9_findPieces_75 (by decide)),
   px_Sp.of (ps_aload_n dX9_findPieces_78 rfl),
   px_Sp.of (ps_get kc_X9 (by decide) wf_RX9_66 dX9_findPieces_79),
   px_Sp.of (ps_bipush dX9_findPieces_82 (by decide)),
   px_Sp.of (ps_aload_n dX9_findPieces_84 rfl),
   px_Sp.of (ps_get kc_X9 (by decide) wf_RX9_190 dX9_findPieces_85),
   px_Sp.of (ps_imul dX9_findPieces_88),
   px_Sp.of (ps_aload_n dX9_findPieces_89 rfl),
   px_Sp.of (ps_get kc_X9 (by decide) wf_RX9_63 dX9_findPieces_90),
   px_Sp.of (ps_aload_n dX9_findPieces_93 rfl),
   px_Sp.of (ps_get kc_X9 (by decide) wf_RX9_190 dX9_findPieces_94),
   px_Sp.of (ps_iald dX9_findPieces_97),
   px_Sp.of (ps_iadd dX9_findPieces_98),
   px_Sp.of (ps_bipush dX9_findPieces_99 (by decide)),
   px_Sp.of (ps_iload_n dX9_findPieces_101 rfl),
   px_Sp.of (ps_imul dX9_findPieces_102),
   px_Sp.of (ps_iload_n dX9_findPieces_103 rfl),
   px_Sp.of (ps_iadd dX9_findPieces_104),
   px_Sp.ofm (ps_iast dX9_findPieces_105),
   px_Sp.of (ps_aload_n dX9_findPieces_106 rfl),
   px_Sp.of (ps_get kc_X9 (by decide) wf_RX9_63 dX9_findPieces_107),
   px_Sp.of (ps_aload_n dX9_findPieces_110 rfl),
   px_Sp.of (ps_get kc_X9 (by decide) wf_RX9_190 dX9_findPieces_111),
   px_Sp.of (ps_dup2 dX9_findPieces_114),
   px_Sp.of (ps_iald dX9_findPieces_115),
   px_Sp.of (ps_iconst dX9_findPieces_116 (by decide)),
   px_Sp.of (ps_iadd dX9_findPieces_117),
   px_Sp.ofm (ps_iast dX9_findPieces_118),
   px_Sp.of (ps_iinc dX9_findPieces_119 (by decide) (by decide)),
   px_Sp.of (ps_goto dX9_findPieces_122 (by decide)),
   px_Sp.of (ps_aload_n dX9_findPieces_125 rfl),
   px_Sp.of (ps_dup dX9_findPieces_126),
   px_Sp.of (ps_get kc_X9 (by decide) wf_RX9_190 dX9_findPieces_127),
   px_Sp.of (ps_iconst dX9_findPieces_130 (by decide)),
   px_Sp.of (ps_iadd dX9_findPieces_131),
   px_Sp.ofm (ps_putI kc_X9 (by decide) wf_RX9_190 rfl (by decide +kernel) kp_X9_22 dX9_findPieces_132),
   px_Sp.of (ps_iinc dX9_findPieces_135 (by decide) (by decide)),
   px_Sp.of (ps_goto dX9_findPieces_138 (by decide)),
   px_Sp.of (ps_aload_n dX9_findPieces_141 rfl),
   px_Sp.of (ps_get kc_X9 (by decide) wf_RX9_190 dX9_findPieces_142),
   px_Sp.of (ps_istore_n dX9_findPieces_145 rfl (by decide)),
   px_Sp.of (ps_iload_n dX9_findPieces_146 rfl),
   px_Sp.of (ps_iconst dX9_findPieces_147 (by decide)),
   px_Sp.of (ps_icmp_ge dX9_findPieces_148 (by decide)),
   px_Sp.of (ps_aload_n dX9_findPieces_151 rfl),
   px_Sp.of (ps_get kc_X9 (by decide) wf_RX9_63 dX9_findPieces_152),
   px_Sp.of (ps_iload_n dX9_findPieces_155 rfl),
   px_Sp.of (ps_iconst dX9_findPieces_156 (by decide)),
   px_Sp.ofm (ps_iast dX9_findPieces_157),
   px_Sp.of (ps_iinc dX9_findPieces_158 (by decide) (by decide)),
   px_Sp.of (ps_goto dX9_findPieces_161 (by decide)),
   ps_vret dX9_findPieces_164, trivial⟩
theorem mt_167 {l : Launch} {d : Nat} (IH : ∀ μ, μ < 196 → px_Met l px_P d μ) : px_Met l px_P (d + 1) 167 := px_met (own := RX9) rfl (by decide +kernel) (ok_167 IH)
theorem dX9_findRow_0 : decode cX9_findRow 0 = .ok (.aload_n 0, 1) := by decide +kernel
theorem dX9_findRow_1 : decode cX9_findRow 1 = .ok (.getfield 63, 3) := by decide +kernel
theorem dX9_findRow_4 : decode cX9_findRow 4 = .ok (.iconst 0, 1) := by decide +kernel
theorem dX9_findRow_5 : decode cX9_findRow 5 = .ok (.iaload, 1) := by decide +kernel
theorem dX9_findRow_6 : decode cX9_findRow 6 = .ok (.bipush 15, 2) := by decide +kernel
theorem dX9_findRow_8 : decode cX9_findRow 8 = .ok (.aload_n 0, 1) := by decide +kernel
theorem dX9_findRow_9 : decode cX9_findRow 9 = .ok (.getfield 63, 3) := by decide +kernel
theorem dX9_findRow_12 : decode cX9_findRow 12 = .ok (.iconst 1, 1) := by decide +kernel
theorem dX9_findRow_13 : decode cX9_findRow 13 = .ok (.iaload, 1) := by decide +kernel
theorem dX9_findRow_14 : decode cX9_findRow 14 = .ok (.imul, 1) := by decide +kernel
theorem dX9_findRow_15 : decode cX9_findRow 15 = .ok (.iadd, 1) := by decide +kernel
theorem dX9_findRow_16 : decode cX9_findRow 16 = .ok (.sipush 225, 3) := by decide +kernel
theorem dX9_findRow_19 : decode cX9_findRow 19 = .ok (.aload_n 0, 1) := by decide +kernel
theorem dX9_findRow_20 : decode cX9_findRow 20 = .ok (.getfield 63, 3) := by decide +kernel
theorem dX9_findRow_23 : decode cX9_findRow 23 = .ok (.iconst 2, 1) := by decide +kernel
theorem dX9_findRow_24 : decode cX9_findRow 24 = .ok (.iaload, 1) := by decide +kernel
theorem dX9_findRow_25 : decode cX9_findRow 25 = .ok (.imul, 1) := by decide +kernel
theorem dX9_findRow_26 : decode cX9_findRow 26 = .ok (.iadd, 1) := by decide +kernel
theorem dX9_findRow_27 : decode cX9_findRow 27 = .ok (.sipush 3375, 3) := by decide +kernel
theorem dX9_findRow_30 : decode cX9_findRow 30 = .ok (.aload_n 0, 1) := by decide +kernel
theorem dX9_findRow_31 : decode cX9_findRow 31 = .ok (.getfield 63, 3) := by decide +kernel
theorem dX9_findRow_34 : decode cX9_findRow 34 = .ok (.iconst 3, 1) := by decide +kernel
theorem dX9_findRow_35 : decode cX9_findRow 35 = .ok (.iaload, 1) := by decide +kernel
theorem dX9_findRow_36 : decode cX9_findRow 36 = .ok (.imul, 1) := by decide +kernel
theorem dX9_findRow_37 : decode cX9_findRow 37 = .ok (.iadd, 1) := by decide +kernel
theorem dX9_findRow_38 : decode cX9_findRow 38 = .ok (.istore_n 1, 1) := by decide +kernel
theorem dX9_findRow_39 : decode cX9_findRow 39 = .ok (.iload_n 1, 1) := by decide +kernel
theorem dX9_findRow_40 : decode cX9_findRow 40 = .ok (.istore_n 2, 1) := by decide +kernel
theorem dX9_findRow_41 : decode cX9_findRow 41 = .ok (.iload_n 2, 1) := by decide +kernel
theorem dX9_findRow_42 : decode cX9_findRow 42 = .ok (.ifCond .lt 100, 3) := by decide +kernel
theorem dX9_findRow_45 : decode cX9_findRow 45 = .ok (.aload_n 0, 1) := by decide +kernel
theorem dX9_findRow_46 : decode cX9_findRow 46 = .ok (.iload_n 2, 1) := by decide +kernel
theorem dX9_findRow_47 : decode cX9_findRow 47 = .ok (.invokevirtual 199, 3) := by decide +kernel
theorem dX9_findRow_50 : decode cX9_findRow 50 = .ok (.ifCond .eq 86, 3) := by decide +kernel
theorem dX9_findRow_53 : decode cX9_findRow 53 = .ok (.iload_n 2, 1) := by decide +kernel
theorem dX9_findRow_54 : decode cX9_findRow 54 = .ok (.iload_n 1, 1) := by decide +kernel
theorem dX9_findRow_55 : decode cX9_findRow 55 = .ok (.if_icmp .ne 7, 3) := by decide +kernel
theorem dX9_findRow_58 : decode cX9_findRow 58 = .ok (.iconst 0, 1) := by decide +kernel
theorem dX9_findRow_59 : decode cX9_findRow 59 = .ok (.goto 6, 3) := by decide +kernel
theorem dX9_findRow_62 : decode cX9_findRow 62 = .ok (.sipush 1000, 3) := by decide +kernel
theorem dX9_findRow_65 : decode cX9_findRow 65 = .ok (.istore_n 3, 1) := by decide +kernel
theorem dX9_findRow_66 : decode cX9_findRow 66 = .ok (.iconst 0, 1) := by decide +kernel
theorem dX9_findRow_67 : decode cX9_findRow 67 = .ok (.istore 4, 2) := by decide +kernel
theorem dX9_findRow_69 : decode cX9_findRow 69 = .ok (.iload 4, 2) := by decide +kernel
theorem dX9_findRow_71 : decode cX9_findRow 71 = .ok (.iconst 4, 1) := by decide +kernel
theorem dX9_findRow_72 : decode cX9_findRow 72 = .ok (.if_icmp .ge 57, 3) := by decide +kernel
theorem dX9_findRow_75 : decode cX9_findRow 75 = .ok (.iload_n 2, 1) := by decide +kernel
theorem dX9_findRow_76 : decode cX9_findRow 76 = .ok (.iload_n 1, 1) := by decide +kernel
theorem dX9_findRow_77 : decode cX9_findRow 77 = .ok (.if_icmp .ge 52, 3) := by decide +kernel
theorem dX9_findRow_80 : decode cX9_findRow 80 = .ok (.aload_n 0, 1) := by decide +kernel
theorem dX9_findRow_81 : decode cX9_findRow 81 = .ok (.iload 4, 2) := by decide +kernel
theorem dX9_findRow_83 : decode cX9_findRow 83 = .ok (.iload_n 2, 1) := by decide +kernel
theorem dX9_findRow_84 : decode cX9_findRow 84 = .ok (.invokevirtual 193, 3) := by decide +kernel
theorem dX9_findRow_87 : decode cX9_findRow 87 = .ok (.istore 5, 2) := by decide +kernel
theorem dX9_findRow_89 : decode cX9_findRow 89 = .ok (.iload 5, 2) := by decide +kernel
theorem dX9_findRow_91 : decode cX9_findRow 91 = .ok (.ifCond .lt 32, 3) := by decide +kernel
theorem dX9_findRow_94 : decode cX9_findRow 94 = .ok (.iconst 1, 1) := by decide +kernel
theorem dX9_findRow_95 : decode cX9_findRow 95 = .ok (.aload_n 0, 1) := by decide +kernel
theorem dX9_findRow_96 : decode cX9_findRow 96 = .ok (.getfield 70, 3) := by decide +kernel
theorem dX9_findRow_99 : decode cX9_findRow 99 = .ok (.aload_n 0, 1) := by decide +kernel
theorem dX9_findRow_100 : decode cX9_findRow 100 = .ok (.iload_n 2, 1) := by decide +kernel
theorem dX9_findRow_101 : decode cX9_findRow 101 = .ok (.iload 5, 2) := by decide +kernel
theorem dX9_findRow_103 : decode cX9_findRow 103 = .ok (.invokevirtual 202, 3) := by decide +kernel
theorem dX9_findRow_106 : decode cX9_findRow 106 = .ok (.iaload, 1) := by decide +kernel
theorem dX9_findRow_107 : decode cX9_findRow 107 = .ok (.iadd, 1) := by decide +kernel
theorem dX9_findRow_108 : decode cX9_findRow 108 = .ok (.istore 6, 2) := by decide +kernel
theorem dX9_findRow_110 : decode cX9_findRow 110 = .ok (.iload 6, 2) := by decide +kernel
theorem dX9_findRow_112 : decode cX9_findRow 112 = .ok (.iload_n 3, 1) := by decide +kernel
theorem dX9_findRow_113 : decode cX9_findRow 113 = .ok (.if_icmp .ge 8, 3) := by decide +kernel
theorem dX9_findRow_116 : decode cX9_findRow 116 = .ok (.iload 6, 2) := by decide +kernel
theorem dX9_findRow_118 : decode cX9_findRow 118 = .ok (.goto 4, 3) := by decide +kernel
theorem dX9_findRow_121 : decode cX9_findRow 121 = .ok (.iload_n 3, 1) := by decide +kernel
theorem dX9_findRow_122 : decode cX9_findRow 122 = .ok (.istore_n 3, 1) := by decide +kernel
theorem dX9_findRow_123 : decode cX9_findRow 123 = .ok (.iinc 4 1, 3) := by decide +kernel
theorem dX9_findRow_126 : decode cX9_findRow 126 = .ok (.goto (-57), 3) := by decide +kernel
theorem dX9_findRow_129 : decode cX9_findRow 129 = .ok (.aload_n 0, 1) := by decide +kernel
theorem dX9_findRow_130 : decode cX9_findRow 130 = .ok (.getfield 70, 3) := by decide +kernel
theorem dX9_findRow_133 : decode cX9_findRow 133 = .ok (.iload_n 2, 1) := by decide +kernel
theorem dX9_findRow_134 : decode cX9_findRow 134 = .ok (.iload_n 3, 1) := by decide +kernel
theorem dX9_findRow_135 : decode cX9_findRow 135 = .ok (.iastore, 1) := by decide +kernel
theorem dX9_findRow_136 : decode cX9_findRow 136 = .ok (.iinc 2 (-1), 3) := by decide +kernel
theorem dX9_findRow_139 : decode cX9_findRow 139 = .ok (.goto (-98), 3) := by decide +kernel
theorem dX9_findRow_142 : decode cX9_findRow 142 = .ok (.aload_n 0, 1) := by decide +kernel
theorem dX9_findRow_143 : decode cX9_findRow 143 = .ok (.iconst 0, 1) := by decide +kernel
theorem dX9_findRow_144 : decode cX9_findRow 144 = .ok (.putfield 205, 3) := by decide +kernel
theorem dX9_findRow_147 : decode cX9_findRow 147 = .ok (.iconst 0, 1) := by decide +kernel
theorem dX9_findRow_148 : decode cX9_findRow 148 = .ok (.istore_n 2, 1) := by decide +kernel
theorem dX9_findRow_149 : decode cX9_findRow 149 = .ok (.iload_n 2, 1) := by decide +kernel
theorem dX9_findRow_150 : decode cX9_findRow 150 = .ok (.iload_n 1, 1) := by decide +kernel
theorem dX9_findRow_151 : decode cX9_findRow 151 = .ok (.if_icmp .eq 120, 3) := by decide +kernel
theorem dX9_findRow_154 : decode cX9_findRow 154 = .ok (.iconst (-1), 1) := by decide +kernel
theorem dX9_findRow_155 : decode cX9_findRow 155 = .ok (.istore_n 3, 1) := by decide +kernel
theorem dX9_findRow_156 : decode cX9_findRow 156 = .ok (.iconst 0, 1) := by decide +kernel
theorem dX9_findRow_157 : decode cX9_findRow 157 = .ok (.istore 4, 2) := by decide +kernel
theorem dX9_findRow_159 : decode cX9_findRow 159 = .ok (.iload 4, 2) := by decide +kernel
theorem dX9_findRow_161 : decode cX9_findRow 161 = .ok (.iconst 4, 1) := by decide +kernel
theorem dX9_findRow_162 : decode cX9_findRow 162 = .ok (.if_icmp .ge 79, 3) := by decide +kernel
theorem dX9_findRow_165 : decode cX9_findRow 165 = .ok (.aload_n 0, 1) := by decide +kernel
theorem dX9_findRow_166 : decode cX9_findRow 166 = .ok (.iload 4, 2) := by decide +kernel
theorem dX9_findRow_168 : decode cX9_findRow 168 = .ok (.iload_n 2, 1) := by decide +kernel
theorem dX9_findRow_169 : decode cX9_findRow 169 = .ok (.invokevirtual 193, 3) := by decide +kernel
theorem dX9_findRow_172 : decode cX9_findRow 172 = .ok (.istore 5, 2) := by decide +kernel
theorem dX9_findRow_174 : decode cX9_findRow 174 = .ok (.iload 5, 2) := by decide +kernel
theorem dX9_findRow_176 : decode cX9_findRow 176 = .ok (.ifCond .lt 30, 3) := by decide +kernel
theorem dX9_findRow_179 : decode cX9_findRow 179 = .ok (.iconst 1, 1) := by decide +kernel
theorem dX9_findRow_180 : decode cX9_findRow 180 = .ok (.aload_n 0, 1) := by decide +kernel
theorem dX9_findRow_181 : decode cX9_findRow 181 = .ok (.getfield 70, 3) := by decide +kernel
theorem dX9_findRow_184 : decode cX9_findRow 184 = .ok (.aload_n 0, 1) := by decide +kernel
theorem dX9_findRow_185 : decode cX9_findRow 185 = .ok (.iload_n 2, 1) := by decide +kernel
theorem dX9_findRow_186 : decode cX9_findRow 186 = .ok (.iload 5, 2) := by decide +kernel
theorem dX9_findRow_188 : decode cX9_findRow 188 = .ok (.invokevirtual 202, 3) := by decide +kernel
theorem dX9_findRow_191 : decode cX9_findRow 191 = .ok (.iaload, 1) := by decide +kernel
theorem dX9_findRow_192 : decode cX9_findRow 192 = .ok (.iadd, 1) := by decide +kernel
theorem dX9_findRow_193 : decode cX9_findRow 193 = .ok (.aload_n 0, 1) := by decide +kernel
theorem dX9_findRow_194 : decode cX9_findRow 194 = .ok (.getfield 70, 3) := by decide +kernel
theorem dX9_findRow_197 : decode cX9_findRow 197 = .ok (.iload_n 2, 1) := by decide +kernel
theorem dX9_findRow_198 : decode cX9_findRow 198 = .ok (.iaload, 1) := by decide +kernel
theorem dX9_findRow_199 : decode cX9_findRow 199 = .ok (.if_icmp .ne 7, 3) := by decide +kernel
theorem dX9_findRow_202 : decode cX9_findRow 202 = .ok (.iconst 1, 1) := by decide +kernel
theorem dX9_findRow_203 : decode cX9_findRow 203 = .ok (.goto 4, 3) := by decide +kernel
theorem dX9_findRow_206 : decode cX9_findRow 206 = .ok (.iconst 0, 1) := by decide +kernel
theorem dX9_findRow_207 : decode cX9_findRow 207 = .ok (.istore 6, 2) := by decide +kernel
theorem dX9_findRow_209 : decode cX9_findRow 209 = .ok (.iload 6, 2) := by decide +kernel
theorem dX9_findRow_211 : decode cX9_findRow 211 = .ok (.ifCond .eq 22, 3) := by decide +kernel
theorem dX9_findRow_214 : decode cX9_findRow 214 = .ok (.iload_n 3, 1) := by decide +kernel
theorem dX9_findRow_215 : decode cX9_findRow 215 = .ok (.ifCond .lt 13, 3) := by decide +kernel
theorem dX9_findRow_218 : decode cX9_findRow 218 = .ok (.aload_n 0, 1) := by decide +kernel
theorem dX9_findRow_219 : decode cX9_findRow 219 = .ok (.iload 5, 2) := by decide +kernel
theorem dX9_findRow_221 : decode cX9_findRow 221 = .ok (.iload_n 3, 1) := by decide +kernel
theorem dX9_findRow_222 : decode cX9_findRow 222 = .ok (.invokevirtual 208, 3) := by decide +kernel
theorem dX9_findRow_225 : decode cX9_findRow 225 = .ok (.ifCond .eq 8, 3) := by decide +kernel
theorem dX9_findRow_228 : decode cX9_findRow 228 = .ok (.iload 5, 2) := by decide +kernel
theorem dX9_findRow_230 : decode cX9_findRow 230 = .ok (.goto 4, 3) := by decide +kernel
theorem dX9_findRow_233 : decode cX9_findRow 233 = .ok (.iload_n 3, 1) := by decide +kernel
theorem dX9_findRow_234 : decode cX9_findRow 234 = .ok (.istore_n 3, 1) := by decide +kernel
theorem dX9_findRow_235 : decode cX9_findRow 235 = .ok (.iinc 4 1, 3) := by decide +kernel
theorem dX9_findRow_238 : decode cX9_findRow 238 = .ok (.goto (-79), 3) := by decide +kernel
theorem dX9_findRow_241 : decode cX9_findRow 241 = .ok (.aload_n 0, 1) := by decide +kernel
theorem dX9_findRow_242 : decode cX9_findRow 242 = .ok (.getfield 73, 3) := by decide +kernel
theorem dX9_findRow_245 : decode cX9_findRow 245 = .ok (.aload_n 0, 1) := by decide +kernel
theorem dX9_findRow_246 : decode cX9_findRow 246 = .ok (.getfield 205, 3) := by decide +kernel
theorem dX9_findRow_249 : decode cX9_findRow 249 = .ok (.iload_n 3, 1) := by decide +kernel
theorem dX9_findRow_250 : decode cX9_findRow 250 = .ok (.iastore, 1) := by decide +kernel
theorem dX9_findRow_251 : decode cX9_findRow 251 = .ok (.aload_n 0, 1) := by decide +kernel
theorem dX9_findRow_252 : decode cX9_findRow 252 = .ok (.dup, 1) := by decide +kernel
theorem dX9_findRow_253 : decode cX9_findRow 253 = .ok (.getfield 205, 3) := by decide +kernel
theorem dX9_findRow_256 : decode cX9_findRow 256 = .ok (.iconst 1, 1) := by decide +kernel
theorem dX9_findRow_257 : decode cX9_findRow 257 = .ok (.iadd, 1) := by decide +kernel
theorem dX9_findRow_258 : decode cX9_findRow 258 = .ok (.putfield 205, 3) := by decide +kernel
theorem dX9_findRow_261 : decode cX9_findRow 261 = .ok (.aload_n 0, 1) := by decide +kernel
theorem dX9_findRow_262 : decode cX9_findRow 262 = .ok (.iload_n 2, 1) := by decide +kernel
theorem dX9_findRow_263 : decode cX9_findRow 263 = .ok (.iload_n 3, 1) := by decide +kernel
theorem dX9_findRow_264 : decode cX9_findRow 264 = .ok (.invokevirtual 202, 3) := by decide +kernel
theorem dX9_findRow_267 : decode cX9_findRow 267 = .ok (.istore_n 2, 1) := by decide +kernel
theorem dX9_findRow_268 : decode cX9_findRow 268 = .ok (.goto (-119), 3) := by decide +kernel
theorem dX9_findRow_271 : decode cX9_findRow 271 = .ok (.return_, 1) := by decide +kernel
set_option maxRecDepth 20000 in
theorem ok_168 {l : Launch} {d : Nat} (IH : ∀ μ, μ < 196 → px_Met l px_P d μ) : px_ok l px_P d RX9 cX9_findRow 7 (none) tb_168 :=
  ⟨px_Sp.of (ps_aload_n dX9_findRow_0 rfl),
   px_Sp.of (ps_get kc_X9 (by decide) wf_RX9_63 dX9_findRow_1),
   px_Sp.of (ps_iconst dX9_findRow_4 (by decide)),
   px_Sp.of (ps_iald dX9_findRow_5),
   px_Sp.of (ps_bipush dX9_findRow_6 (by decide)),
   px_Sp.of (ps_aload_n dX9_findRow_8 rfl),
   px_Sp.of (ps_get kc_X9 (by decide) wf_RX9_63 dX9_findRow_9),
   px_Sp.of (ps_iconst dX9_findRow_12 (by decide)),
   px_Sp.of (ps_iald dX9_findRow_13),
   px_Sp.of (ps_imul dX9_findRow_14),
   px_Sp.of (ps_iadd dX9_findRow_15),
   px_Sp.of (ps_sipush dX9_findRow_16 (by decide)),
   px_Sp.of (ps_aload_n dX9_findRow_19 rfl),
   px_Sp.of (ps_get kc_X9 (by decide) wf_RX9_63 dX9_findRow_20),
   px_Sp.of (ps_iconst dX9_findRow_23 (by decide)),
   px_Sp.of (ps_iald dX9_findRow_24),
   px_Sp.of (ps_imul dX9_findRow_25),
   px_Sp.of (ps_iadd dX9_findRow_26),
   px_Sp.of (ps_sipush dX9_findRow_27 (by decide)),
   px_Sp.of (ps_aload_n dX9_findRow_30 rfl),
   px_Sp.of (ps_get kc_X9 (by decide) wf_RX9_63 dX9_findRow_31),
   px_Sp.of (ps_iconst dX9_findRow_34 (by decide)),
   px_Sp.of (ps_iald dX9_findRow_35),
   px_Sp.of (ps_imul dX9_findRow_36),
   px_Sp.of (ps_iadd dX9_findRow_37),
   px_Sp.of (ps_istore_n dX9_findRow_38 rfl (by decide)),
   px_Sp.of (ps_iload_n dX9_findRow_39 rfl),
   px_Sp.of (ps_istore_n dX9_findRow_40 rfl (by decide)),
   px_Sp.of (ps_iload_n dX9_findRow_41 rfl),
   px_Sp.of (ps_if_lt dX9_findRow_42 (by decide)),
   px_Sp.of (ps_aload_n dX9_findRow_45 rfl),
   px_Sp.of (ps_iload_n dX9_findRow_46 rfl),
   ps_callV (IH 169 (by decide)) (C := RX9) (T := TX9) (N := 36) (ci := 8) rfl rfl (fc_169 _ _) wm_RX9_199 wi_yX9_isWithin wl_yX9_isWithin dX9_findRow_47,
   px_Sp.of (ps_if_eq dX9_findRow_50 (by decide)),
   px_Sp.of (ps_iload_n dX9_findRow_53 rfl),
   px_Sp.of (ps_iload_n dX9_findRow_54 rfl),
   px_Sp.of (ps_icmp_ne dX9_findRow_55 (by decide)),
   px_Sp.of (ps_iconst dX9_findRow_58 (by decide)),
   px_Sp.of (ps_goto dX9_findRow_59 (by decide)),
   px_Sp.of (ps_sipush dX9_findRow_62 (by decide)),
   px_Sp.of (ps_istore_n dX9_findRow_65 rfl (by decide)),
   px_Sp.of (ps_iconst dX9_findRow_66 (by decide)),
   px_Sp.of (ps_istore dX9_findRow_67 (by decide)),
   px_Sp.of (ps_iload dX9_findRow_69),
   px_Sp.of (ps_iconst dX9_findRow_71 (by decide)),
   px_Sp.of (ps_icmp_ge dX9_findRow_72 (by decide)),
   px_Sp.of (ps_iload_n dX9_findRow_75 rfl),
   px_Sp.of (ps_iload_n dX9_findRow_76 rfl),
   px_Sp.of (ps_icmp_ge dX9_findRow_77 (by decide)),
   px_Sp.of (ps_aload_n dX9_findRow_80 rfl),
   px_Sp.of (ps_iload dX9_findRow_81),
   px_Sp.of (ps_iload_n dX9_findRow_83 rfl),
   ps_callV (IH 170 (by decide)) (C := RX9) (T := TX9) (N := 36) (ci := 8) rfl rfl (fc_170 _ _) wm_RX9_193 wi_yX9_textAt wl_yX9_textAt dX9_findRow_84,
   px_Sp.of (ps_istore dX9_findRow_87 (by decide)),
   px_Sp.of (ps_iload dX9_findRow_89),
   px_Sp.of (ps_if_lt dX9_findRow_91 (by decide)),
   px_Sp.of (ps_iconst dX9_findRow_94 (by decide)),
   px_Sp.of (ps_aload_n dX9_findRow_95 rfl),
   px_Sp.of (ps_get kc_X9 (by decide) wf_RX9_70 dX9_findRow_96),
   px_Sp.of (ps_aload_n dX9_findRow_99 rfl),
   px_Sp.of (ps_iload_n dX9_findRow_100 rfl),
   px_Sp.of (ps_iload dX9_findRow_101),
   ps_callV (IH 171 (by decide)) (C := RX9) (T := TX9) (N := 36) (ci := 8) rfl rfl (fc_171 _ _) wm_RX9_202 wi_yX9_behind wl_yX9_behind dX9_findRow_103,
   px_Sp.of (ps_iald dX9_findRow_106),
   px_Sp.of (ps_iadd dX9_findRow_107),
   px_Sp.of (ps_istore dX9_findRow_108 (by decide)),
   px_Sp.of (ps_iload dX9_findRow_110),
   px_Sp.of (ps_iload_n dX9_findRow_112 rfl),
   px_Sp.of (ps_icmp_ge dX9_findRow_113 (by decide)),
   px_Sp.of (ps_iload dX9_findRow_116),
   px_Sp.of (ps_goto dX9_findRow_118 (by decide)),
   px_Sp.of (ps_iload_n dX9_findRow_121 rfl),
   px_Sp.of (ps_istore_n dX9_findRow_122 rfl (by decide)),
   px_Sp.of (ps_iinc dX9_findRow_123 (by decide) (by decide)),
   px_Sp.of (ps_goto dX9_findRow_126 (by decide)),
   px_Sp.of (ps_aload_n dX9_findRow_129 rfl),
   px_Sp.of (ps_get kc_X9 (by decide) wf_RX9_70 dX9_findRow_130),
   px_Sp.of (ps_iload_n dX9_findRow_133 rfl),
   px_Sp.of (ps_iload_n dX9_findRow_134 rfl),
   px_Sp.ofm (ps_iast dX9_findRow_135),
   px_Sp.of (ps_iinc dX9_findRow_136 (by decide) (by decide)),
   px_Sp.of (ps_goto dX9_findRow_139 (by decide)),
   px_Sp.of (ps_aload_n dX9_findRow_142 rfl),
   px_Sp.of (ps_iconst dX9_findRow_143 (by decide)),
   px_Sp.ofm (ps_putI kc_X9 (by decide) wf_RX9_205 rfl (by decide +kernel) kp_X9_25 dX9_findRow_144),
   px_Sp.of (ps_iconst dX9_findRow_147 (by decide)),
   px_Sp.of (ps_istore_n dX9_findRow_148 rfl (by decide)),
   px_Sp.of (ps_iload_n dX9_findRow_149 rfl),
   px_Sp.of (ps_iload_n dX9_findRow_150 rfl),
   px_Sp.of (ps_icmp_eq dX9_findRow_151 (by decide)),
   px_Sp.of (ps_iconst dX9_findRow_154 (by decide)),
   px_Sp.of (ps_istore_n dX9_findRow_155 rfl (by decide)),
   px_Sp.of (ps_iconst dX9_findRow_156 (by decide)),
   px_Sp.of (ps_istore dX9_findRow_157 (by decide)),
   px_Sp.of (ps_iload dX9_findRow_159),
   px_Sp.of (ps_iconst dX9_findRow_161 (by decide)),
   px_Sp.of (ps_icmp_ge dX9_findRow_162 (by decide)),
   px_Sp.of (ps_aload_n dX9_findRow_165 rfl),
   px_Sp.of (ps_iload dX9_findRow_166),
   px_Sp.of (ps_iload_n dX9_findRow_168 rfl),
   ps_callV (IH 170 (by decide)) (C := RX9) (T := TX9) (N := 36) (ci := 8) rfl rfl (fc_170 _ _) wm_RX9_193 wi_yX9_textAt wl_yX9_textAt dX9_findRow_169,
   px_Sp.of (ps_istore dX9_findRow_172 (by decide)),
   px_Sp.of (ps_iload dX9_findRow_174),
   px_Sp.of (ps_if_lt dX9_findRow_176 (by decide)),
   px_Sp.of (ps_iconst dX9_findRow_179 (by decide)),
   px_Sp.of (ps_aload_n dX9_findRow_180 rfl),
   px_Sp.of (ps_get kc_X9 (by decide) wf_RX9_70 dX9_findRow_181),
   px_Sp.of (ps_aload_n dX9_findRow_184 rfl),
   px_Sp.of (ps_iload_n dX9_findRow_185 rfl),
   px_Sp.of (ps_iload dX9_findRow_186),
   ps_callV (IH 171 (by decide)) (C := RX9) (T := TX9) (N := 36) (ci := 8) rfl rfl (fc_171 _ _) wm_RX9_202 wi_yX9_behind wl_yX9_behind dX9_findRow_188,
   px_Sp.of (ps_iald dX9_findRow_191),
   px_Sp.of (ps_iadd dX9_findRow_192),
   px_Sp.of (ps_aload_n dX9_findRow_193 rfl),
   px_Sp.of (ps_get kc_X9 (by decide) wf_RX9_70 dX9_findRow_194),
   px_Sp.of (ps_iload_n dX9_findRow_197 rfl),
   px_Sp.of (ps_iald dX9_findRow_198),
   px_Sp.of (ps_icmp_ne dX9_findRow_199 (by decide)),
   px_Sp.of (ps_iconst dX9_findRow_202 (by decide)),
   px_Sp.of (ps_goto dX9_findRow_203 (by decide)),
   px_Sp.of (ps_iconst dX9_findRow_206 (by decide)),
   px_Sp.of (ps_istore dX9_findRow_207 (by decide)),
   px_Sp.of (ps_iload dX9_findRow_209),
   px_Sp.of (ps_if_eq dX9_findRow_211 (by decide)),
   px_Sp.of (ps_iload_n dX9_findRow_214 rfl),
   px_Sp.of (ps_if_lt dX9_findRow_215 (by decide)),
   px_Sp.of (ps_aload_n dX9_findRow_218 rfl),
   px_Sp.of (ps_iload dX9_findRow_219),
   px_Sp.of (ps_iload_n dX9_findRow_221 rfl),
   ps_callV (IH 173 (by decide)) (C := RX9) (T := TX9) (N := 36) (ci := 8) rfl rfl (fc_173 _ _) wm_RX9_208 wi_yX9_isLess wl_yX9_isLess dX9_findRow_222,
   px_Sp.of (ps_if_eq dX9_findRow_225 (by decide)),
   px_Sp.of (ps_iload dX9_findRow_228),
   px_Sp.of (ps_goto dX9_findRow_230 (by decide)),
   px_Sp.of (ps_iload_n dX9_findRow_233 rfl),
   px_Sp.of (ps_istore_n dX9_findRow_234 rfl (by decide)),
   px_Sp.of (ps_iinc dX9_findRow_235 (by decide) (by decide)),
   px_Sp.of (ps_goto dX9_findRow_238 (by decide)),
   px_Sp.of (ps_aload_n dX9_findRow_241 rfl),
   px_Sp.of (ps_get kc_X9 (by decide) wf_RX9_73 dX9_findRow_242),
   px_Sp.of (ps_aload_n dX9_findRow_245 rfl),
   px_Sp.of (ps_get kc_X9 (by decide) wf_RX9_205 dX9_findRow_246),
   px_Sp.of (ps_iload_n dX9_findRow_249 rfl),
   px_Sp.ofm (ps_iast dX9_findRow_250),
   px_Sp.of (ps_aload_n dX9_findRow_251 rfl),
   px_Sp.of (ps_dup dX9_findRow_252),
   px_Sp.of (ps_get kc_X9 (by decide) wf_RX9_205 dX9_findRow_253),
   px_Sp.of (ps_iconst dX9_findRow_256 (by decide)),
   px_Sp.of (ps_iadd dX9_findRow_257),
   px_Sp.ofm (ps_putI kc_X9 (by decide) wf_RX9_205 rfl (by decide +kernel) kp_X9_25 dX9_findRow_258),
   px_Sp.of (ps_aload_n dX9_findRow_261 rfl),
   px_Sp.of (ps_iload_n dX9_findRow_262 rfl),
   px_Sp.of (ps_iload_n dX9_findRow_263 rfl),
   ps_callV (IH 171 (by decide)) (C := RX9) (T := TX9) (N := 36) (ci := 8) rfl rfl (fc_171 _ _) wm_RX9_202 wi_yX9_behind wl_yX9_behind dX9_findRow_264,
   px_Sp.of (ps_istore_n dX9_findRow_267 rfl (by decide)),
   px_Sp.of (ps_goto dX9_findRow_268 (by decide)),
   ps_vret dX9_findRow_271, trivial⟩
theorem mt_168 {l : Launch} {d : Nat} (IH : ∀ μ, μ < 196 → px_Met l px_P d μ) : px_Met l px_P (d + 1) 168 := px_met (own := RX9) rfl (by decide +kernel) (ok_168 IH)
theorem dX9_isWithin_0 : decode cX9_isWithin 0 = .ok (.iload_n 1, 1) := by decide +kernel
theorem dX9_isWithin_1 : decode cX9_isWithin 1 = .ok (.bipush 15, 2) := by decide +kernel
theorem dX9_isWithin_3 : decode cX9_isWithin 3 = .ok (.irem, 1) := by decide +kernel
theorem dX9_isWithin_4 : decode cX9_isWithin 4 = .ok (.aload_n 0, 1) := by decide +kernel
theorem dX9_isWithin_5 : decode cX9_isWithin 5 = .ok (.getfield 63, 3) := by decide +kernel
theorem dX9_isWithin_8 : decode cX9_isWithin 8 = .ok (.iconst 0, 1) := by decide +kernel
theorem dX9_isWithin_9 : decode cX9_isWithin 9 = .ok (.iaload, 1) := by decide +kernel
theorem dX9_isWithin_10 : decode cX9_isWithin 10 = .ok (.if_icmp .gt 54, 3) := by decide +kernel
theorem dX9_isWithin_13 : decode cX9_isWithin 13 = .ok (.iload_n 1, 1) := by decide +kernel
theorem dX9_isWithin_14 : decode cX9_isWithin 14 = .ok (.bipush 15, 2) := by decide +kernel
theorem dX9_isWithin_16 : decode cX9_isWithin 16 = .ok (.idiv, 1) := by decide +kernel
theorem dX9_isWithin_17 : decode cX9_isWithin 17 = .ok (.bipush 15, 2) := by decide +kernel
theorem dX9_isWithin_19 : decode cX9_isWithin 19 = .ok (.irem, 1) := by decide +kernel
theorem dX9_isWithin_20 : decode cX9_isWithin 20 = .ok (.aload_n 0, 1) := by decide +kernel
theorem dX9_isWithin_21 : decode cX9_isWithin 21 = .ok (.getfield 63, 3) := by decide +kernel
theorem dX9_isWithin_24 : decode cX9_isWithin 24 = .ok (.iconst 1, 1) := by decide +kernel
theorem dX9_isWithin_25 : decode cX9_isWithin 25 = .ok (.iaload, 1) := by decide +kernel
theorem dX9_isWithin_26 : decode cX9_isWithin 26 = .ok (.if_icmp .gt 38, 3) := by decide +kernel
theorem dX9_isWithin_29 : decode cX9_isWithin 29 = .ok (.iload_n 1, 1) := by decide +kernel
theorem dX9_isWithin_30 : decode cX9_isWithin 30 = .ok (.sipush 225, 3) := by decide +kernel
theorem dX9_isWithin_33 : decode cX9_isWithin 33 = .ok (.idiv, 1) := by decide +kernel
theorem dX9_isWithin_34 : decode cX9_isWithin 34 = .ok (.bipush 15, 2) := by decide +kernel
theorem dX9_isWithin_36 : decode cX9_isWithin 36 = .ok (.irem, 1) := by decide +kernel
theorem dX9_isWithin_37 : decode cX9_isWithin 37 = .ok (.aload_n 0, 1) := by decide +kernel
theorem dX9_isWithin_38 : decode cX9_isWithin 38 = .ok (.getfield 63, 3) := by decide +kernel
theorem dX9_isWithin_41 : decode cX9_isWithin 41 = .ok (.iconst 2, 1) := by decide +kernel
theorem dX9_isWithin_42 : decode cX9_isWithin 42 = .ok (.iaload, 1) := by decide +kernel
theorem dX9_isWithin_43 : decode cX9_isWithin 43 = .ok (.if_icmp .gt 21, 3) := by decide +kernel
theorem dX9_isWithin_46 : decode cX9_isWithin 46 = .ok (.iload_n 1, 1) := by decide +kernel
theorem dX9_isWithin_47 : decode cX9_isWithin 47 = .ok (.sipush 3375, 3) := by decide +kernel
theorem dX9_isWithin_50 : decode cX9_isWithin 50 = .ok (.idiv, 1) := by decide +kernel
theorem dX9_isWithin_51 : decode cX9_isWithin 51 = .ok (.aload_n 0, 1) := by decide +kernel
theorem dX9_isWithin_52 : decode cX9_isWithin 52 = .ok (.getfield 63, 3) := by decide +kernel
theorem dX9_isWithin_55 : decode cX9_isWithin 55 = .ok (.iconst 3, 1) := by decide +kernel
theorem dX9_isWithin_56 : decode cX9_isWithin 56 = .ok (.iaload, 1) := by decide +kernel
theorem dX9_isWithin_57 : decode cX9_isWithin 57 = .ok (.if_icmp .gt 7, 3) := by decide +kernel
theorem dX9_isWithin_60 : decode cX9_isWithin 60 = .ok (.iconst 1, 1) := by decide +kernel
theorem dX9_isWithin_61 : decode cX9_isWithin 61 = .ok (.goto 4, 3) := by decide +kernel
theorem dX9_isWithin_64 : decode cX9_isWithin 64 = .ok (.iconst 0, 1) := by decide +kernel
theorem dX9_isWithin_65 : decode cX9_isWithin 65 = .ok (.ireturn, 1) := by decide +kernel
set_option maxRecDepth 20000 in
theorem ok_169 {l : Launch} {d : Nat} (IH : ∀ μ, μ < 196 → px_Met l px_P d μ) : px_ok l px_P d RX9 cX9_isWithin 2 (some .boolean) tb_169 :=
  ⟨px_Sp.of (ps_iload_n dX9_isWithin_0 rfl),
   px_Sp.of (ps_bipush dX9_isWithin_1 (by decide)),
   px_Sp.of (ps_irem dX9_isWithin_3),
   px_Sp.of (ps_aload_n dX9_isWithin_4 rfl),
   px_Sp.of (ps_get kc_X9 (by decide) wf_RX9_63 dX9_isWithin_5),
   px_Sp.of (ps_iconst dX9_isWithin_8 (by decide)),
   px_Sp.of (ps_iald dX9_isWithin_9),
   px_Sp.of (ps_icmp_gt dX9_isWithin_10 (by decide)),
   px_Sp.of (ps_iload_n dX9_isWithin_13 rfl),
   px_Sp.of (ps_bipush dX9_isWithin_14 (by decide)),
   px_Sp.of (ps_idiv dX9_isWithin_16),
   px_Sp.of (ps_bipush dX9_isWithin_17 (by decide)),
   px_Sp.of (ps_irem dX9_isWithin_19),
   px_Sp.of (ps_aload_n dX9_isWithin_20 rfl),
   px_Sp.of (ps_get kc_X9 (by decide) wf_RX9_63 dX9_isWithin_21),
   px_Sp.of (ps_iconst dX9_isWithin_24 (by decide)),
   px_Sp.of (ps_iald dX9_isWithin_25),
   px_Sp.of (ps_icmp_gt dX9_isWithin_26 (by decide)),
   px_Sp.of (ps_iload_n dX9_isWithin_29 rfl),
   px_Sp.of (ps_sipush dX9_isWithin_30 (by decide)),
   px_Sp.of (ps_idiv dX9_isWithin_33),
   px_Sp.of (ps_bipush dX9_isWithin_34 (by decide)),
   px_Sp.of (ps_irem dX9_isWithin_36),
   px_Sp.of (ps_aload_n dX9_isWithin_37 rfl),
   px_Sp.of (ps_get kc_X9 (by decide) wf_RX9_63 dX9_isWithin_38),
   px_Sp.of (ps_iconst dX9_isWithin_41 (by decide)),
   px_Sp.of (ps_iald dX9_isWithin_42),
   px_Sp.of (ps_icmp_gt dX9_isWithin_43 (by decide)),
   px_Sp.of (ps_iload_n dX9_isWithin_46 rfl),
   px_Sp.of (ps_sipush dX9_isWithin_47 (by decide)),
   px_Sp.of (ps_idiv dX9_isWithin_50),
   px_Sp.of (ps_aload_n dX9_isWithin_51 rfl),
   px_Sp.of (ps_get kc_X9 (by decide) wf_RX9_63 dX9_isWithin_52),
   px_Sp.of (ps_iconst dX9_isWithin_55 (by decide)),
   px_Sp.of (ps_iald dX9_isWithin_56),
   px_Sp.of (ps_icmp_gt dX9_isWithin_57 (by decide)),
   px_Sp.of (ps_iconst dX9_isWithin_60 (by decide)),
   px_Sp.of (ps_goto dX9_isWithin_61 (by decide)),
   px_Sp.of (ps_iconst dX9_isWithin_64 (by decide)),
   ps_zret dX9_isWithin_65, trivial⟩
theorem mt_169 {l : Launch} {d : Nat} (IH : ∀ μ, μ < 196 → px_Met l px_P d μ) : px_Met l px_P (d + 1) 169 := px_met (own := RX9) rfl (by decide +kernel) (ok_169 IH)
theorem dX9_textAt_0 : decode cX9_textAt 0 = .ok (.iload_n 1, 1) := by decide +kernel
theorem dX9_textAt_1 : decode cX9_textAt 1 = .ok (.ifCond .ne 10, 3) := by decide +kernel
theorem dX9_textAt_4 : decode cX9_textAt 4 = .ok (.iload_n 2, 1) := by decide +kernel
theorem dX9_textAt_5 : decode cX9_textAt 5 = .ok (.bipush 15, 2) := by decide +kernel
theorem dX9_textAt_7 : decode cX9_textAt 7 = .ok (.irem, 1) := by decide +kernel
theorem dX9_textAt_8 : decode cX9_textAt 8 = .ok (.goto 39, 3) := by decide +kernel
theorem dX9_textAt_11 : decode cX9_textAt 11 = .ok (.iload_n 1, 1) := by decide +kernel
theorem dX9_textAt_12 : decode cX9_textAt 12 = .ok (.iconst 1, 1) := by decide +kernel
theorem dX9_textAt_13 : decode cX9_textAt 13 = .ok (.if_icmp .ne 13, 3) := by decide +kernel
theorem dX9_textAt_16 : decode cX9_textAt 16 = .ok (.iload_n 2, 1) := by decide +kernel
theorem dX9_textAt_17 : decode cX9_textAt 17 = .ok (.bipush 15, 2) := by decide +kernel
theorem dX9_textAt_19 : decode cX9_textAt 19 = .ok (.idiv, 1) := by decide +kernel
theorem dX9_textAt_20 : decode cX9_textAt 20 = .ok (.bipush 15, 2) := by decide +kernel
theorem dX9_textAt_22 : decode cX9_textAt 22 = .ok (.irem, 1) := by decide +kernel
theorem dX9_textAt_23 : decode cX9_textAt 23 = .ok (.goto 24, 3) := by decide +kernel
theorem dX9_textAt_26 : decode cX9_textAt 26 = .ok (.iload_n 1, 1) := by decide +kernel
theorem dX9_textAt_27 : decode cX9_textAt 27 = .ok (.iconst 2, 1) := by decide +kernel
theorem dX9_textAt_28 : decode cX9_textAt 28 = .ok (.if_icmp .ne 14, 3) := by decide +kernel
theorem dX9_textAt_31 : decode cX9_textAt 31 = .ok (.iload_n 2, 1) := by decide +kernel
theorem dX9_textAt_32 : decode cX9_textAt 32 = .ok (.sipush 225, 3) := by decide +kernel
theorem dX9_textAt_35 : decode cX9_textAt 35 = .ok (.idiv, 1) := by decide +kernel
theorem dX9_textAt_36 : decode cX9_textAt 36 = .ok (.bipush 15, 2) := by decide +kernel
theorem dX9_textAt_38 : decode cX9_textAt 38 = .ok (.irem, 1) := by decide +kernel
theorem dX9_textAt_39 : decode cX9_textAt 39 = .ok (.goto 8, 3) := by decide +kernel
theorem dX9_textAt_42 : decode cX9_textAt 42 = .ok (.iload_n 2, 1) := by decide +kernel
theorem dX9_textAt_43 : decode cX9_textAt 43 = .ok (.sipush 3375, 3) := by decide +kernel
theorem dX9_textAt_46 : decode cX9_textAt 46 = .ok (.idiv, 1) := by decide +kernel
theorem dX9_textAt_47 : decode cX9_textAt 47 = .ok (.istore_n 3, 1) := by decide +kernel
theorem dX9_textAt_48 : decode cX9_textAt 48 = .ok (.iload_n 3, 1) := by decide +kernel
theorem dX9_textAt_49 : decode cX9_textAt 49 = .ok (.aload_n 0, 1) := by decide +kernel
theorem dX9_textAt_50 : decode cX9_textAt 50 = .ok (.getfield 63, 3) := by decide +kernel
theorem dX9_textAt_53 : decode cX9_textAt 53 = .ok (.iload_n 1, 1) := by decide +kernel
theorem dX9_textAt_54 : decode cX9_textAt 54 = .ok (.iaload, 1) := by decide +kernel
theorem dX9_textAt_55 : decode cX9_textAt 55 = .ok (.if_icmp .ge 17, 3) := by decide +kernel
theorem dX9_textAt_58 : decode cX9_textAt 58 = .ok (.aload_n 0, 1) := by decide +kernel
theorem dX9_textAt_59 : decode cX9_textAt 59 = .ok (.getfield 66, 3) := by decide +kernel
theorem dX9_textAt_62 : decode cX9_textAt 62 = .ok (.bipush 14, 2) := by decide +kernel
theorem dX9_textAt_64 : decode cX9_textAt 64 = .ok (.iload_n 1, 1) := by decide +kernel
theorem dX9_textAt_65 : decode cX9_textAt 65 = .ok (.imul, 1) := by decide +kernel
theorem dX9_textAt_66 : decode cX9_textAt 66 = .ok (.iload_n 3, 1) := by decide +kernel
theorem dX9_textAt_67 : decode cX9_textAt 67 = .ok (.iadd, 1) := by decide +kernel
theorem dX9_textAt_68 : decode cX9_textAt 68 = .ok (.iaload, 1) := by decide +kernel
theorem dX9_textAt_69 : decode cX9_textAt 69 = .ok (.goto 4, 3) := by decide +kernel
theorem dX9_textAt_72 : decode cX9_textAt 72 = .ok (.iconst (-1), 1) := by decide +kernel
theorem dX9_textAt_73 : decode cX9_textAt 73 = .ok (.ireturn, 1) := by decide +kernel
set_option maxRecDepth 20000 in
theorem ok_170 {l : Launch} {d : Nat} (IH : ∀ μ, μ < 196 → px_Met l px_P d μ) : px_ok l px_P d RX9 cX9_textAt 4 (some .int) tb_170 :=
  ⟨px_Sp.of (ps_iload_n dX9_textAt_0 rfl),
   px_Sp.of (ps_if_ne dX9_textAt_1 (by decide)),
   px_Sp.of (ps_iload_n dX9_textAt_4 rfl),
   px_Sp.of (ps_bipush dX9_textAt_5 (by decide)),
   px_Sp.of (ps_irem dX9_textAt_7),
   px_Sp.of (ps_goto dX9_textAt_8 (by decide)),
   px_Sp.of (ps_iload_n dX9_textAt_11 rfl),
   px_Sp.of (ps_iconst dX9_textAt_12 (by decide)),
   px_Sp.of (ps_icmp_ne dX9_textAt_13 (by decide)),
   px_Sp.of (ps_iload_n dX9_textAt_16 rfl),
   px_Sp.of (ps_bipush dX9_textAt_17 (by decide)),
   px_Sp.of (ps_idiv dX9_textAt_19),
   px_Sp.of (ps_bipush dX9_textAt_20 (by decide)),
   px_Sp.of (ps_irem dX9_textAt_22),
   px_Sp.of (ps_goto dX9_textAt_23 (by decide)),
   px_Sp.of (ps_iload_n dX9_textAt_26 rfl),
   px_Sp.of (ps_iconst dX9_textAt_27 (by decide)),
   px_Sp.of (ps_icmp_ne dX9_textAt_28 (by decide)),
   px_Sp.of (ps_iload_n dX9_textAt_31 rfl),
   px_Sp.of (ps_sipush dX9_textAt_32 (by decide)),
   px_Sp.of (ps_idiv dX9_textAt_35),
   px_Sp.of (ps_bipush dX9_textAt_36 (by decide)),
   px_Sp.of (ps_irem dX9_textAt_38),
   px_Sp.of (ps_goto dX9_textAt_39 (by decide)),
   px_Sp.of (ps_iload_n dX9_textAt_42 rfl),
   px_Sp.of (ps_sipush dX9_textAt_43 (by decide)),
   px_Sp.of (ps_idiv dX9_textAt_46),
   px_Sp.of (ps_istore_n dX9_textAt_47 rfl (by decide)),
   px_Sp.of (ps_iload_n dX9_textAt_48 rfl),
   px_Sp.of (ps_aload_n dX9_textAt_49 rfl),
   px_Sp.of (ps_get kc_X9 (by decide) wf_RX9_63 dX9_textAt_50),
   px_Sp.of (ps_iload_n dX9_textAt_53 rfl),
   px_Sp.of (ps_iald dX9_textAt_54),
   px_Sp.of (ps_icmp_ge dX9_textAt_55 (by decide)),
   px_Sp.of (ps_aload_n dX9_textAt_58 rfl),
   px_Sp.of (ps_get kc_X9 (by decide) wf_RX9_66 dX9_textAt_59),
   px_Sp.of (ps_bipush dX9_textAt_62 (by decide)),
   px_Sp.of (ps_iload_n dX9_textAt_64 rfl),
   px_Sp.of (ps_imul dX9_textAt_65),
   px_Sp.of (ps_iload_n dX9_textAt_66 rfl),
   px_Sp.of (ps_iadd dX9_textAt_67),
   px_Sp.of (ps_iald dX9_textAt_68),
   px_Sp.of (ps_goto dX9_textAt_69 (by decide)),
   px_Sp.of (ps_iconst dX9_textAt_72 (by decide)),
   ps_iret dX9_textAt_73, trivial⟩
theorem mt_170 {l : Launch} {d : Nat} (IH : ∀ μ, μ < 196 → px_Met l px_P d μ) : px_Met l px_P (d + 1) 170 := px_met (own := RX9) rfl (by decide +kernel) (ok_170 IH)
theorem dX9_behind_0 : decode cX9_behind 0 = .ok (.iload_n 1, 1) := by decide +kernel
theorem dX9_behind_1 : decode cX9_behind 1 = .ok (.istore_n 3, 1) := by decide +kernel
theorem dX9_behind_2 : decode cX9_behind 2 = .ok (.iconst 0, 1) := by decide +kernel
theorem dX9_behind_3 : decode cX9_behind 3 = .ok (.istore 4, 2) := by decide +kernel
theorem dX9_behind_5 : decode cX9_behind 5 = .ok (.iload 4, 2) := by decide +kernel
theorem dX9_behind_7 : decode cX9_behind 7 = .ok (.iconst 4, 1) := by decide +kernel
theorem dX9_behind_8 : decode cX9_behind 8 = .ok (.if_icmp .ge 45, 3) := by decide +kernel
theorem dX9_behind_11 : decode cX9_behind 11 = .ok (.aload_n 0, 1) := by decide +kernel
theorem dX9_behind_12 : decode cX9_behind 12 = .ok (.iload 4, 2) := by decide +kernel
theorem dX9_behind_14 : decode cX9_behind 14 = .ok (.iload_n 1, 1) := by decide +kernel
theorem dX9_behind_15 : decode cX9_behind 15 = .ok (.invokevirtual 193, 3) := by decide +kernel
theorem dX9_behind_18 : decode cX9_behind 18 = .ok (.istore 5, 2) := by decide +kernel
theorem dX9_behind_20 : decode cX9_behind 20 = .ok (.iload_n 3, 1) := by decide +kernel
theorem dX9_behind_21 : decode cX9_behind 21 = .ok (.iload 5, 2) := by decide +kernel
theorem dX9_behind_23 : decode cX9_behind 23 = .ok (.ifCond .lt 21, 3) := by decide +kernel
theorem dX9_behind_26 : decode cX9_behind 26 = .ok (.aload_n 0, 1) := by decide +kernel
theorem dX9_behind_27 : decode cX9_behind 27 = .ok (.iload 5, 2) := by decide +kernel
theorem dX9_behind_29 : decode cX9_behind 29 = .ok (.iload_n 2, 1) := by decide +kernel
theorem dX9_behind_30 : decode cX9_behind 30 = .ok (.invokevirtual 161, 3) := by decide +kernel
theorem dX9_behind_33 : decode cX9_behind 33 = .ok (.ifCond .eq 11, 3) := by decide +kernel
theorem dX9_behind_36 : decode cX9_behind 36 = .ok (.iload 4, 2) := by decide +kernel
theorem dX9_behind_38 : decode cX9_behind 38 = .ok (.invokestatic 196, 3) := by decide +kernel
theorem dX9_behind_41 : decode cX9_behind 41 = .ok (.goto 4, 3) := by decide +kernel
theorem dX9_behind_44 : decode cX9_behind 44 = .ok (.iconst 0, 1) := by decide +kernel
theorem dX9_behind_45 : decode cX9_behind 45 = .ok (.iadd, 1) := by decide +kernel
theorem dX9_behind_46 : decode cX9_behind 46 = .ok (.istore_n 3, 1) := by decide +kernel
theorem dX9_behind_47 : decode cX9_behind 47 = .ok (.iinc 4 1, 3) := by decide +kernel
theorem dX9_behind_50 : decode cX9_behind 50 = .ok (.goto (-45), 3) := by decide +kernel
theorem dX9_behind_53 : decode cX9_behind 53 = .ok (.iload_n 3, 1) := by decide +kernel
theorem dX9_behind_54 : decode cX9_behind 54 = .ok (.ireturn, 1) := by decide +kernel
set_option maxRecDepth 20000 in
theorem ok_171 {l : Launch} {d : Nat} (IH : ∀ μ, μ < 196 → px_Met l px_P d μ) : px_ok l px_P d RX9 cX9_behind 6 (some .int) tb_171 :=
  ⟨px_Sp.of (ps_iload_n dX9_behind_0 rfl),
   px_Sp.of (ps_istore_n dX9_behind_1 rfl (by decide)),
   px_Sp.of (ps_iconst dX9_behind_2 (by decide)),
   px_Sp.of (ps_istore dX9_behind_3 (by decide)),
   px_Sp.of (ps_iload dX9_behind_5),
   px_Sp.of (ps_iconst dX9_behind_7 (by decide)),
   px_Sp.of (ps_icmp_ge dX9_behind_8 (by decide)),
   px_Sp.of (ps_aload_n dX9_behind_11 rfl),
   px_Sp.of (ps_iload dX9_behind_12),
   px_Sp.of (ps_iload_n dX9_behind_14 rfl),
   ps_callV (IH 170 (by decide)) (C := RX9) (T := TX9) (N := 36) (ci := 8) rfl rfl (fc_170 _ _) wm_RX9_193 wi_yX9_textAt wl_yX9_textAt dX9_behind_15,
   px_Sp.of (ps_istore dX9_behind_18 (by decide)),
   px_Sp.of (ps_iload_n dX9_behind_20 rfl),
   px_Sp.of (ps_iload dX9_behind_21),
   px_Sp.of (ps_if_lt dX9_behind_23 (by decide)),
   px_Sp.of (ps_aload_n dX9_behind_26 rfl),
   px_Sp.of (ps_iload dX9_behind_27),
   px_Sp.of (ps_iload_n dX9_behind_29 rfl),
   ps_callV (IH 157 (by decide)) (C := RX9) (T := TX9) (N := 36) (ci := 8) rfl rfl (fc_157 _ _) wm_RX9_161 wi_yX9_isSame wl_yX9_isSame dX9_behind_30,
   px_Sp.of (ps_if_eq dX9_behind_33 (by decide)),
   px_Sp.of (ps_iload dX9_behind_36),
   ps_callS (IH 172 (by decide)) (fc_172 _ _) wm_RX9_196 ws_yX9_step dX9_behind_38,
   px_Sp.of (ps_goto dX9_behind_41 (by decide)),
   px_Sp.of (ps_iconst dX9_behind_44 (by decide)),
   px_Sp.of (ps_iadd dX9_behind_45),
   px_Sp.of (ps_istore_n dX9_behind_46 rfl (by decide)),
   px_Sp.of (ps_iinc dX9_behind_47 (by decide) (by decide)),
   px_Sp.of (ps_goto dX9_behind_50 (by decide)),
   px_Sp.of (ps_iload_n dX9_behind_53 rfl),
   ps_iret dX9_behind_54, trivial⟩
theorem mt_171 {l : Launch} {d : Nat} (IH : ∀ μ, μ < 196 → px_Met l px_P d μ) : px_Met l px_P (d + 1) 171 := px_met (own := RX9) rfl (by decide +kernel) (ok_171 IH)
theorem dX9_step_0 : decode cX9_step 0 = .ok (.iload_n 0, 1) := by decide +kernel
theorem dX9_step_1 : decode cX9_step 1 = .ok (.ifCond .ne 7, 3) := by decide +kernel
theorem dX9_step_4 : decode cX9_step 4 = .ok (.iconst 1, 1) := by decide +kernel
theorem dX9_step_5 : decode cX9_step 5 = .ok (.goto 27, 3) := by decide +kernel
theorem dX9_step_8 : decode cX9_step 8 = .ok (.iload_n 0, 1) := by decide +kernel
theorem dX9_step_9 : decode cX9_step 9 = .ok (.iconst 1, 1) := by decide +kernel
theorem dX9_step_10 : decode cX9_step 10 = .ok (.if_icmp .ne 8, 3) := by decide +kernel
theorem dX9_step_13 : decode cX9_step 13 = .ok (.bipush 15, 2) := by decide +kernel
theorem dX9_step_15 : decode cX9_step 15 = .ok (.goto 17, 3) := by decide +kernel
theorem dX9_step_18 : decode cX9_step 18 = .ok (.iload_n 0, 1) := by decide +kernel
theorem dX9_step_19 : decode cX9_step 19 = .ok (.iconst 2, 1) := by decide +kernel
theorem dX9_step_20 : decode cX9_step 20 = .ok (.if_icmp .ne 9, 3) := by decide +kernel
theorem dX9_step_23 : decode cX9_step 23 = .ok (.sipush 225, 3) := by decide +kernel
theorem dX9_step_26 : decode cX9_step 26 = .ok (.goto 6, 3) := by decide +kernel
theorem dX9_step_29 : decode cX9_step 29 = .ok (.sipush 3375, 3) := by decide +kernel
theorem dX9_step_32 : decode cX9_step 32 = .ok (.ireturn, 1) := by decide +kernel
set_option maxRecDepth 20000 in
theorem ok_172 {l : Launch} {d : Nat} (IH : ∀ μ, μ < 196 → px_Met l px_P d μ) : px_ok l px_P d RX9 cX9_step 1 (some .int) tb_172 :=
  ⟨px_Sp.of (ps_iload_n dX9_step_0 rfl),
   px_Sp.of (ps_if_ne dX9_step_1 (by decide)),
   px_Sp.of (ps_iconst dX9_step_4 (by decide)),
   px_Sp.of (ps_goto dX9_step_5 (by decide)),
   px_Sp.of (ps_iload_n dX9_step_8 rfl),
   px_Sp.of (ps_iconst dX9_step_9 (by decide)),
   px_Sp.of (ps_icmp_ne dX9_step_10 (by decide)),
   px_Sp.of (ps_bipush dX9_step_13 (by decide)),
   px_Sp.of (ps_goto dX9_step_15 (by decide)),
   px_Sp.of (ps_iload_n dX9_step_18 rfl),
   px_Sp.of (ps_iconst dX9_step_19 (by decide)),
   px_Sp.of (ps_icmp_ne dX9_step_20 (by decide)),
   px_Sp.of (ps_sipush dX9_step_23 (by decide)),
   px_Sp.of (ps_goto dX9_step_26 (by decide)),
   px_Sp.of (ps_sipush dX9_step_29 (by decide)),
   ps_iret dX9_step_32, trivial⟩
theorem mt_172 {l : Launch} {d : Nat} (IH : ∀ μ, μ < 196 → px_Met l px_P d μ) : px_Met l px_P (d + 1) 172 := px_met (own := RX9) rfl (by decide +kernel) (ok_172 IH)
theorem dX9_isLess_0 : decode cX9_isLess 0 = .ok (.iconst 0, 1) := by decide +kernel
theorem dX9_isLess_1 : decode cX9_isLess 1 = .ok (.istore_n 3, 1) := by decide +kernel
theorem dX9_isLess_2 : decode cX9_isLess 2 = .ok (.iload_n 3, 1) := by decide +kernel
theorem dX9_isLess_3 : decode cX9_isLess 3 = .ok (.bipush 8, 2) := by decide +kernel
theorem dX9_isLess_5 : decode cX9_isLess 5 = .ok (.if_icmp .ge 83, 3) := by decide +kernel
theorem dX9_isLess_8 : decode cX9_isLess 8 = .ok (.iload_n 3, 1) := by decide +kernel
theorem dX9_isLess_9 : decode cX9_isLess 9 = .ok (.aload_n 0, 1) := by decide +kernel
theorem dX9_isLess_10 : decode cX9_isLess 10 = .ok (.getfield 32, 3) := by decide +kernel
theorem dX9_isLess_13 : decode cX9_isLess 13 = .ok (.iload_n 1, 1) := by decide +kernel
theorem dX9_isLess_14 : decode cX9_isLess 14 = .ok (.iaload, 1) := by decide +kernel
theorem dX9_isLess_15 : decode cX9_isLess 15 = .ok (.if_icmp .ge 17, 3) := by decide +kernel
theorem dX9_isLess_18 : decode cX9_isLess 18 = .ok (.aload_n 0, 1) := by decide +kernel
theorem dX9_isLess_19 : decode cX9_isLess 19 = .ok (.getfield 35, 3) := by decide +kernel
theorem dX9_isLess_22 : decode cX9_isLess 22 = .ok (.bipush 8, 2) := by decide +kernel
theorem dX9_isLess_24 : decode cX9_isLess 24 = .ok (.iload_n 1, 1) := by decide +kernel
theorem dX9_isLess_25 : decode cX9_isLess 25 = .ok (.imul, 1) := by decide +kernel
theorem dX9_isLess_26 : decode cX9_isLess 26 = .ok (.iload_n 3, 1) := by decide +kernel
theorem dX9_isLess_27 : decode cX9_isLess 27 = .ok (.iadd, 1) := by decide +kernel
theorem dX9_isLess_28 : decode cX9_isLess 28 = .ok (.iaload, 1) := by decide +kernel
theorem dX9_isLess_29 : decode cX9_isLess 29 = .ok (.goto 4, 3) := by decide +kernel
theorem dX9_isLess_32 : decode cX9_isLess 32 = .ok (.iconst 0, 1) := by decide +kernel
theorem dX9_isLess_33 : decode cX9_isLess 33 = .ok (.istore 4, 2) := by decide +kernel
theorem dX9_isLess_35 : decode cX9_isLess 35 = .ok (.iload_n 3, 1) := by decide +kernel
theorem dX9_isLess_36 : decode cX9_isLess 36 = .ok (.aload_n 0, 1) := by decide +kernel
theorem dX9_isLess_37 : decode cX9_isLess 37 = .ok (.getfield 32, 3) := by decide +kernel
theorem dX9_isLess_40 : decode cX9_isLess 40 = .ok (.iload_n 2, 1) := by decide +kernel
theorem dX9_isLess_41 : decode cX9_isLess 41 = .ok (.iaload, 1) := by decide +kernel
theorem dX9_isLess_42 : decode cX9_isLess 42 = .ok (.if_icmp .ge 17, 3) := by decide +kernel
theorem dX9_isLess_45 : decode cX9_isLess 45 = .ok (.aload_n 0, 1) := by decide +kernel
theorem dX9_isLess_46 : decode cX9_isLess 46 = .ok (.getfield 35, 3) := by decide +kernel
theorem dX9_isLess_49 : decode cX9_isLess 49 = .ok (.bipush 8, 2) := by decide +kernel
theorem dX9_isLess_51 : decode cX9_isLess 51 = .ok (.iload_n 2, 1) := by decide +kernel
theorem dX9_isLess_52 : decode cX9_isLess 52 = .ok (.imul, 1) := by decide +kernel
theorem dX9_isLess_53 : decode cX9_isLess 53 = .ok (.iload_n 3, 1) := by decide +kernel
theorem dX9_isLess_54 : decode cX9_isLess 54 = .ok (.iadd, 1) := by decide +kernel
theorem dX9_isLess_55 : decode cX9_isLess 55 = .ok (.iaload, 1) := by decide +kernel
theorem dX9_isLess_56 : decode cX9_isLess 56 = .ok (.goto 4, 3) := by decide +kernel
theorem dX9_isLess_59 : decode cX9_isLess 59 = .ok (.iconst 0, 1) := by decide +kernel
theorem dX9_isLess_60 : decode cX9_isLess 60 = .ok (.istore 5, 2) := by decide +kernel
theorem dX9_isLess_62 : decode cX9_isLess 62 = .ok (.iload 4, 2) := by decide +kernel
theorem dX9_isLess_64 : decode cX9_isLess 64 = .ok (.iload 5, 2) := by decide +kernel
theorem dX9_isLess_66 : decode cX9_isLess 66 = .ok (.if_icmp .eq 16, 3) := by decide +kernel
theorem dX9_isLess_69 : decode cX9_isLess 69 = .ok (.iload 4, 2) := by decide +kernel
theorem dX9_isLess_71 : decode cX9_isLess 71 = .ok (.iload 5, 2) := by decide +kernel
theorem dX9_isLess_73 : decode cX9_isLess 73 = .ok (.if_icmp .ge 7, 3) := by decide +kernel
theorem dX9_isLess_76 : decode cX9_isLess 76 = .ok (.iconst 1, 1) := by decide +kernel
theorem dX9_isLess_77 : decode cX9_isLess 77 = .ok (.goto 4, 3) := by decide +kernel
theorem dX9_isLess_80 : decode cX9_isLess 80 = .ok (.iconst 0, 1) := by decide +kernel
theorem dX9_isLess_81 : decode cX9_isLess 81 = .ok (.ireturn, 1) := by decide +kernel
theorem dX9_isLess_82 : decode cX9_isLess 82 = .ok (.iinc 3 1, 3) := by decide +kernel
theorem dX9_isLess_85 : decode cX9_isLess 85 = .ok (.goto (-83), 3) := by decide +kernel
theorem dX9_isLess_88 : decode cX9_isLess 88 = .ok (.iconst 0, 1) := by decide +kernel
theorem dX9_isLess_89 : decode cX9_isLess 89 = .ok (.ireturn, 1) := by decide +kernel
set_option maxRecDepth 20000 in
theorem ok_173 {l : Launch} {d : Nat} (IH : ∀ μ, μ < 196 → px_Met l px_P d μ) : px_ok l px_P d RX9 cX9_isLess 6 (some .boolean) tb_173 :=
  ⟨px_Sp.of (ps_iconst dX9_isLess_0 (by decide)),
   px_Sp.of (ps_istore_n dX9_isLess_1 rfl (by decide)),
   px_Sp.of (ps_iload_n dX9_isLess_2 rfl),
   px_Sp.of (ps_bipush dX9_isLess_3 (by decide)),
   px_Sp.of (ps_icmp_ge dX9_isLess_5 (by decide)),
   px_Sp.of (ps_iload_n dX9_isLess_8 rfl),
   px_Sp.of (ps_aload_n dX9_isLess_9 rfl),
   px_Sp.of (ps_get kc_X9 (by decide) wf_RX9_32 dX9_isLess_10),
   px_Sp.of (ps_iload_n dX9_isLess_13 rfl),
   px_Sp.of (ps_iald dX9_isLess_14),
   px_Sp.of (ps_icmp_ge dX9_isLess_15 (by decide)),
   px_Sp.of (ps_aload_n dX9_isLess_18 rfl),
   px_Sp.of (ps_get kc_X9 (by decide) wf_RX9_35 dX9_isLess_19),
   px_Sp.of (ps_bipush dX9_isLess_22 (by decide)),
   px_Sp.of (ps_iload_n dX9_isLess_24 rfl),
   px_Sp.of (ps_imul dX9_isLess_25),
   px_Sp.of (ps_iload_n dX9_isLess_26 rfl),
   px_Sp.of (ps_iadd dX9_isLess_27),
   px_Sp.of (ps_iald dX9_isLess_28),
   px_Sp.of (ps_goto dX9_isLess_29 (by decide)),
   px_Sp.of (ps_iconst dX9_isLess_32 (by decide)),
   px_Sp.of (ps_istore dX9_isLess_33 (by decide)),
   px_Sp.of (ps_iload_n dX9_isLess_35 rfl),
   px_Sp.of (ps_aload_n dX9_isLess_36 rfl),
   px_Sp.of (ps_get kc_X9 (by decide) wf_RX9_32 dX9_isLess_37),
   px_Sp.of (ps_iload_n dX9_isLess_40 rfl),
   px_Sp.of (ps_iald dX9_isLess_41),
   px_Sp.of (ps_icmp_ge dX9_isLess_42 (by decide)),
   px_Sp.of (ps_aload_n dX9_isLess_45 rfl),
   px_Sp.of (ps_get kc_X9 (by decide) wf_RX9_35 dX9_isLess_46),
   px_Sp.of (ps_bipush dX9_isLess_49 (by decide)),
   px_Sp.of (ps_iload_n dX9_isLess_51 rfl),
   px_Sp.of (ps_imul dX9_isLess_52),
   px_Sp.of (ps_iload_n dX9_isLess_53 rfl),
   px_Sp.of (ps_iadd dX9_isLess_54),
   px_Sp.of (ps_iald dX9_isLess_55),
   px_Sp.of (ps_goto dX9_isLess_56 (by decide)),
   px_Sp.of (ps_iconst dX9_isLess_59 (by decide)),
   px_Sp.of (ps_istore dX9_isLess_60 (by decide)),
   px_Sp.of (ps_iload dX9_isLess_62),
   px_Sp.of (ps_iload dX9_isLess_64),
   px_Sp.of (ps_icmp_eq dX9_isLess_66 (by decide)),
   px_Sp.of (ps_iload dX9_isLess_69),
   px_Sp.of (ps_iload dX9_isLess_71),
   px_Sp.of (ps_icmp_ge dX9_isLess_73 (by decide)),
   px_Sp.of (ps_iconst dX9_isLess_76 (by decide)),
   px_Sp.of (ps_goto dX9_isLess_77 (by decide)),
   px_Sp.of (ps_iconst dX9_isLess_80 (by decide)),
   ps_zret dX9_isLess_81,
   px_Sp.of (ps_iinc dX9_isLess_82 (by decide) (by decide)),
   px_Sp.of (ps_goto dX9_isLess_85 (by decide)),
   px_Sp.of (ps_iconst dX9_isLess_88 (by decide)),
   ps_zret dX9_isLess_89, trivial⟩
theorem mt_173 {l : Launch} {d : Nat} (IH : ∀ μ, μ < 196 → px_Met l px_P d μ) : px_Met l px_P (d + 1) 173 := px_met (own := RX9) rfl (by decide +kernel) (ok_173 IH)
theorem dX9_lostWord_0 : decode cX9_lostWord 0 = .ok (.aload_n 0, 1) := by decide +kernel
theorem dX9_lostWord_1 : decode cX9_lostWord 1 = .ok (.invokevirtual 187, 3) := by decide +kernel
theorem dX9_lostWord_4 : decode cX9_lostWord 4 = .ok (.iload_n 1, 1) := by decide +kernel
theorem dX9_lostWord_5 : decode cX9_lostWord 5 = .ok (.i2l, 1) := by decide +kernel
theorem dX9_lostWord_6 : decode cX9_lostWord 6 = .ok (.lconst 0, 1) := by decide +kernel
theorem dX9_lostWord_7 : decode cX9_lostWord 7 = .ok (.aload_n 0, 1) := by decide +kernel
theorem dX9_lostWord_8 : decode cX9_lostWord 8 = .ok (.getfield 184, 3) := by decide +kernel
theorem dX9_lostWord_11 : decode cX9_lostWord 11 = .ok (.iconst 1, 1) := by decide +kernel
theorem dX9_lostWord_12 : decode cX9_lostWord 12 = .ok (.isub, 1) := by decide +kernel
theorem dX9_lostWord_13 : decode cX9_lostWord 13 = .ok (.i2l, 1) := by decide +kernel
theorem dX9_lostWord_14 : decode cX9_lostWord 14 = .ok (.invokestatic 95, 3) := by decide +kernel
theorem dX9_lostWord_17 : decode cX9_lostWord 17 = .ok (.ifCond .ne 7, 3) := by decide +kernel
theorem dX9_lostWord_20 : decode cX9_lostWord 20 = .ok (.sipush (-1001), 3) := by decide +kernel
theorem dX9_lostWord_23 : decode cX9_lostWord 23 = .ok (.ireturn, 1) := by decide +kernel
theorem dX9_lostWord_24 : decode cX9_lostWord 24 = .ok (.aload_n 0, 1) := by decide +kernel
theorem dX9_lostWord_25 : decode cX9_lostWord 25 = .ok (.iload_n 1, 1) := by decide +kernel
theorem dX9_lostWord_26 : decode cX9_lostWord 26 = .ok (.invokevirtual 211, 3) := by decide +kernel
theorem dX9_lostWord_29 : decode cX9_lostWord 29 = .ok (.aload_n 0, 1) := by decide +kernel
theorem dX9_lostWord_30 : decode cX9_lostWord 30 = .ok (.getfield 190, 3) := by decide +kernel
theorem dX9_lostWord_33 : decode cX9_lostWord 33 = .ok (.iconst 4, 1) := by decide +kernel
theorem dX9_lostWord_34 : decode cX9_lostWord 34 = .ok (.if_icmp .le 7, 3) := by decide +kernel
theorem dX9_lostWord_37 : decode cX9_lostWord 37 = .ok (.sipush (-1005), 3) := by decide +kernel
theorem dX9_lostWord_40 : decode cX9_lostWord 40 = .ok (.ireturn, 1) := by decide +kernel
theorem dX9_lostWord_41 : decode cX9_lostWord 41 = .ok (.aload_n 0, 1) := by decide +kernel
theorem dX9_lostWord_42 : decode cX9_lostWord 42 = .ok (.invokevirtual 215, 3) := by decide +kernel
theorem dX9_lostWord_45 : decode cX9_lostWord 45 = .ok (.iload_n 2, 1) := by decide +kernel
theorem dX9_lostWord_46 : decode cX9_lostWord 46 = .ok (.i2l, 1) := by decide +kernel
theorem dX9_lostWord_47 : decode cX9_lostWord 47 = .ok (.lconst 0, 1) := by decide +kernel
theorem dX9_lostWord_48 : decode cX9_lostWord 48 = .ok (.aload_n 0, 1) := by decide +kernel
theorem dX9_lostWord_49 : decode cX9_lostWord 49 = .ok (.getfield 205, 3) := by decide +kernel
theorem dX9_lostWord_52 : decode cX9_lostWord 52 = .ok (.iconst 1, 1) := by decide +kernel
theorem dX9_lostWord_53 : decode cX9_lostWord 53 = .ok (.isub, 1) := by decide +kernel
theorem dX9_lostWord_54 : decode cX9_lostWord 54 = .ok (.i2l, 1) := by decide +kernel
theorem dX9_lostWord_55 : decode cX9_lostWord 55 = .ok (.invokestatic 95, 3) := by decide +kernel
theorem dX9_lostWord_58 : decode cX9_lostWord 58 = .ok (.ifCond .ne 5, 3) := by decide +kernel
theorem dX9_lostWord_61 : decode cX9_lostWord 61 = .ok (.iconst (-1), 1) := by decide +kernel
theorem dX9_lostWord_62 : decode cX9_lostWord 62 = .ok (.ireturn, 1) := by decide +kernel
theorem dX9_lostWord_63 : decode cX9_lostWord 63 = .ok (.aload_n 0, 1) := by decide +kernel
theorem dX9_lostWord_64 : decode cX9_lostWord 64 = .ok (.getfield 73, 3) := by decide +kernel
theorem dX9_lostWord_67 : decode cX9_lostWord 67 = .ok (.iload_n 2, 1) := by decide +kernel
theorem dX9_lostWord_68 : decode cX9_lostWord 68 = .ok (.iaload, 1) := by decide +kernel
theorem dX9_lostWord_69 : decode cX9_lostWord 69 = .ok (.istore 4, 2) := by decide +kernel
theorem dX9_lostWord_71 : decode cX9_lostWord 71 = .ok (.iload_n 3, 1) := by decide +kernel
theorem dX9_lostWord_72 : decode cX9_lostWord 72 = .ok (.iconst (-1), 1) := by decide +kernel
theorem dX9_lostWord_73 : decode cX9_lostWord 73 = .ok (.if_icmp .ne 13, 3) := by decide +kernel
theorem dX9_lostWord_76 : decode cX9_lostWord 76 = .ok (.aload_n 0, 1) := by decide +kernel
theorem dX9_lostWord_77 : decode cX9_lostWord 77 = .ok (.getfield 32, 3) := by decide +kernel
theorem dX9_lostWord_80 : decode cX9_lostWord 80 = .ok (.iload 4, 2) := by decide +kernel
theorem dX9_lostWord_82 : decode cX9_lostWord 82 = .ok (.iaload, 1) := by decide +kernel
theorem dX9_lostWord_83 : decode cX9_lostWord 83 = .ok (.goto 38, 3) := by decide +kernel
theorem dX9_lostWord_86 : decode cX9_lostWord 86 = .ok (.iload_n 3, 1) := by decide +kernel
theorem dX9_lostWord_87 : decode cX9_lostWord 87 = .ok (.i2l, 1) := by decide +kernel
theorem dX9_lostWord_88 : decode cX9_lostWord 88 = .ok (.lconst 0, 1) := by decide +kernel
theorem dX9_lostWord_89 : decode cX9_lostWord 89 = .ok (.aload_n 0, 1) := by decide +kernel
theorem dX9_lostWord_90 : decode cX9_lostWord 90 = .ok (.getfield 32, 3) := by decide +kernel
theorem dX9_lostWord_93 : decode cX9_lostWord 93 = .ok (.iload 4, 2) := by decide +kernel
theorem dX9_lostWord_95 : decode cX9_lostWord 95 = .ok (.iaload, 1) := by decide +kernel
theorem dX9_lostWord_96 : decode cX9_lostWord 96 = .ok (.iconst 1, 1) := by decide +kernel
theorem dX9_lostWord_97 : decode cX9_lostWord 97 = .ok (.isub, 1) := by decide +kernel
theorem dX9_lostWord_98 : decode cX9_lostWord 98 = .ok (.i2l, 1) := by decide +kernel
theorem dX9_lostWord_99 : decode cX9_lostWord 99 = .ok (.invokestatic 95, 3) := by decide +kernel
theorem dX9_lostWord_102 : decode cX9_lostWord 102 = .ok (.ifCond .eq 18, 3) := by decide +kernel
theorem dX9_lostWord_105 : decode cX9_lostWord 105 = .ok (.aload_n 0, 1) := by decide +kernel
theorem dX9_lostWord_106 : decode cX9_lostWord 106 = .ok (.getfield 35, 3) := by decide +kernel
theorem dX9_lostWord_109 : decode cX9_lostWord 109 = .ok (.bipush 8, 2) := by decide +kernel
theorem dX9_lostWord_111 : decode cX9_lostWord 111 = .ok (.iload 4, 2) := by decide +kernel
theorem dX9_lostWord_113 : decode cX9_lostWord 113 = .ok (.imul, 1) := by decide +kernel
theorem dX9_lostWord_114 : decode cX9_lostWord 114 = .ok (.iload_n 3, 1) := by decide +kernel
theorem dX9_lostWord_115 : decode cX9_lostWord 115 = .ok (.iadd, 1) := by decide +kernel
theorem dX9_lostWord_116 : decode cX9_lostWord 116 = .ok (.iaload, 1) := by decide +kernel
theorem dX9_lostWord_117 : decode cX9_lostWord 117 = .ok (.goto 4, 3) := by decide +kernel
theorem dX9_lostWord_120 : decode cX9_lostWord 120 = .ok (.iconst (-1), 1) := by decide +kernel
theorem dX9_lostWord_121 : decode cX9_lostWord 121 = .ok (.ireturn, 1) := by decide +kernel
set_option maxRecDepth 20000 in
theorem ok_174 {l : Launch} {d : Nat} (IH : ∀ μ, μ < 196 → px_Met l px_P d μ) : px_ok l px_P d RX9 cX9_lostWord 5 (some .int) tb_174 :=
  ⟨px_Sp.of (ps_aload_n dX9_lostWord_0 rfl),
   ps_callV (IH 162 (by decide)) (C := RX9) (T := TX9) (N := 36) (ci := 8) rfl rfl (fc_162 _ _) wm_RX9_187 wi_yX9_findGroups wl_yX9_findGroups dX9_lostWord_1,
   px_Sp.of (ps_iload_n dX9_lostWord_4 rfl),
   px_Sp.of (ps_i2l dX9_lostWord_5),
   px_Sp.of (ps_lconst dX9_lostWord_6 (by decide)),
   px_Sp.of (ps_aload_n dX9_lostWord_7 rfl),
   px_Sp.of (ps_get kc_X9 (by decide) wf_RX9_184 dX9_lostWord_8),
   px_Sp.of (ps_iconst dX9_lostWord_11 (by decide)),
   px_Sp.of (ps_isub dX9_lostWord_12),
   px_Sp.of (ps_i2l dX9_lostWord_13),
   ps_callS (IH 130 (by decide)) (fc_130 _ _) wm_RX9_95 ws_yX9_in dX9_lostWord_14,
   px_Sp.of (ps_if_ne dX9_lostWord_17 (by decide)),
   px_Sp.of (ps_sipush dX9_lostWord_20 (by decide)),
   ps_iret dX9_lostWord_23,
   px_Sp.of (ps_aload_n dX9_lostWord_24 rfl),
   px_Sp.of (ps_iload_n dX9_lostWord_25 rfl),
   ps_callV (IH 167 (by decide)) (C := RX9) (T := TX9) (N := 36) (ci := 8) rfl rfl (fc_167 _ _) wm_RX9_211 wi_yX9_findPieces wl_yX9_findPieces dX9_lostWord_26,
   px_Sp.of (ps_aload_n dX9_lostWord_29 rfl),
   px_Sp.of (ps_get kc_X9 (by decide) wf_RX9_190 dX9_lostWord_30),
   px_Sp.of (ps_iconst dX9_lostWord_33 (by decide)),
   px_Sp.of (ps_icmp_le dX9_lostWord_34 (by decide)),
   px_Sp.of (ps_sipush dX9_lostWord_37 (by decide)),
   ps_iret dX9_lostWord_40,
   px_Sp.of (ps_aload_n dX9_lostWord_41 rfl),
   ps_callV (IH 168 (by decide)) (C := RX9) (T := TX9) (N := 36) (ci := 8) rfl rfl (fc_168 _ _) wm_RX9_215 wi_yX9_findRow wl_yX9_findRow dX9_lostWord_42,
   px_Sp.of (ps_iload_n dX9_lostWord_45 rfl),
   px_Sp.of (ps_i2l dX9_lostWord_46),
   px_Sp.of (ps_lconst dX9_lostWord_47 (by decide)),
   px_Sp.of (ps_aload_n dX9_lostWord_48 rfl),
   px_Sp.of (ps_get kc_X9 (by decide) wf_RX9_205 dX9_lostWord_49),
   px_Sp.of (ps_iconst dX9_lostWord_52 (by decide)),
   px_Sp.of (ps_isub dX9_lostWord_53),
   px_Sp.of (ps_i2l dX9_lostWord_54),
   ps_callS (IH 130 (by decide)) (fc_130 _ _) wm_RX9_95 ws_yX9_in dX9_lostWord_55,
   px_Sp.of (ps_if_ne dX9_lostWord_58 (by decide)),
   px_Sp.of (ps_iconst dX9_lostWord_61 (by decide)),
   ps_iret dX9_lostWord_62,
   px_Sp.of (ps_aload_n dX9_lostWord_63 rfl),
   px_Sp.of (ps_get kc_X9 (by decide) wf_RX9_73 dX9_lostWord_64),
   px_Sp.of (ps_iload_n dX9_lostWord_67 rfl),
   px_Sp.of (ps_iald dX9_lostWord_68),
   px_Sp.of (ps_istore dX9_lostWord_69 (by decide)),
   px_Sp.of (ps_iload_n dX9_lostWord_71 rfl),
   px_Sp.of (ps_iconst dX9_lostWord_72 (by decide)),
   px_Sp.of (ps_icmp_ne dX9_lostWord_73 (by decide)),
   px_Sp.of (ps_aload_n dX9_lostWord_76 rfl),
   px_Sp.of (ps_get kc_X9 (by decide) wf_RX9_32 dX9_lostWord_77),
   px_Sp.of (ps_iload dX9_lostWord_80),
   px_Sp.of (ps_iald dX9_lostWord_82),
   px_Sp.of (ps_goto dX9_lostWord_83 (by decide)),
   px_Sp.of (ps_iload_n dX9_lostWord_86 rfl),
   px_Sp.of (ps_i2l dX9_lostWord_87),
   px_Sp.of (ps_lconst dX9_lostWord_88 (by decide)),
   px_Sp.of (ps_aload_n dX9_lostWord_89 rfl),
   px_Sp.of (ps_get kc_X9 (by decide) wf_RX9_32 dX9_lostWord_90),
   px_Sp.of (ps_iload dX9_lostWord_93),
   px_Sp.of (ps_iald dX9_lostWord_95),
   px_Sp.of (ps_iconst dX9_lostWord_96 (by decide)),
   px_Sp.of (ps_isub dX9_lostWord_97),
   px_Sp.of (ps_i2l dX9_lostWord_98),
   ps_callS (IH 130 (by decide)) (fc_130 _ _) wm_RX9_95 ws_yX9_in dX9_lostWord_99,
   px_Sp.of (ps_if_eq dX9_lostWord_102 (by decide)),
   px_Sp.of (ps_aload_n dX9_lostWord_105 rfl),
   px_Sp.of (ps_get kc_X9 (by decide) wf_RX9_35 dX9_lostWord_106),
   px_Sp.of (ps_bipush dX9_lostWord_109 (by decide)),
   px_Sp.of (ps_iload dX9_lostWord_111),
   px_Sp.of (ps_imul dX9_lostWord_113),
   px_Sp.of (ps_iload_n dX9_lostWord_114 rfl),
   px_Sp.of (ps_iadd dX9_lostWord_115),
   px_Sp.of (ps_iald dX9_lostWord_116),
   px_Sp.of (ps_goto dX9_lostWord_117 (by decide)),
   px_Sp.of (ps_iconst dX9_lostWord_120 (by decide)),
   ps_iret dX9_lostWord_121, trivial⟩
theorem mt_174 {l : Launch} {d : Nat} (IH : ∀ μ, μ < 196 → px_Met l px_P d μ) : px_Met l px_P (d + 1) 174 := px_met (own := RX9) rfl (by decide +kernel) (ok_174 IH)
theorem dX9_order_0 : decode cX9_order 0 = .ok (.aload_n 0, 1) := by decide +kernel
theorem dX9_order_1 : decode cX9_order 1 = .ok (.invokevirtual 152, 3) := by decide +kernel
theorem dX9_order_4 : decode cX9_order 4 = .ok (.iconst 1, 1) := by decide +kernel
theorem dX9_order_5 : decode cX9_order 5 = .ok (.istore_n 2, 1) := by decide +kernel
theorem dX9_order_6 : decode cX9_order 6 = .ok (.lconst 0, 1) := by decide +kernel
theorem dX9_order_7 : decode cX9_order 7 = .ok (.lstore_n 3, 1) := by decide +kernel
theorem dX9_order_8 : decode cX9_order 8 = .ok (.iconst 0, 1) := by decide +kernel
theorem dX9_order_9 : decode cX9_order 9 = .ok (.istore 5, 2) := by decide +kernel
theorem dX9_order_11 : decode cX9_order 11 = .ok (.iload_n 2, 1) := by decide +kernel
theorem dX9_order_12 : decode cX9_order 12 = .ok (.ifCond .eq 129, 3) := by decide +kernel
theorem dX9_order_15 : decode cX9_order 15 = .ok (.iconst (-1), 1) := by decide +kernel
theorem dX9_order_16 : decode cX9_order 16 = .ok (.istore 6, 2) := by decide +kernel
theorem dX9_order_18 : decode cX9_order 18 = .ok (.aload_n 0, 1) := by decide +kernel
theorem dX9_order_19 : decode cX9_order 19 = .ok (.getfield 92, 3) := by decide +kernel
theorem dX9_order_22 : decode cX9_order 22 = .ok (.iconst 1, 1) := by decide +kernel
theorem dX9_order_23 : decode cX9_order 23 = .ok (.isub, 1) := by decide +kernel
theorem dX9_order_24 : decode cX9_order 24 = .ok (.istore 7, 2) := by decide +kernel
theorem dX9_order_26 : decode cX9_order 26 = .ok (.iload 7, 2) := by decide +kernel
theorem dX9_order_28 : decode cX9_order 28 = .ok (.ifCond .lt 76, 3) := by decide +kernel
theorem dX9_order_31 : decode cX9_order 31 = .ok (.aload_n 0, 1) := by decide +kernel
theorem dX9_order_32 : decode cX9_order 32 = .ok (.getfield 54, 3) := by decide +kernel
theorem dX9_order_35 : decode cX9_order 35 = .ok (.iload 7, 2) := by decide +kernel
theorem dX9_order_37 : decode cX9_order 37 = .ok (.iaload, 1) := by decide +kernel
theorem dX9_order_38 : decode cX9_order 38 = .ok (.ifCond .lt 19, 3) := by decide +kernel
theorem dX9_order_41 : decode cX9_order 41 = .ok (.lload_n 3, 1) := by decide +kernel
theorem dX9_order_42 : decode cX9_order 42 = .ok (.aload_n 0, 1) := by decide +kernel
theorem dX9_order_43 : decode cX9_order 43 = .ok (.getfield 54, 3) := by decide +kernel
theorem dX9_order_46 : decode cX9_order 46 = .ok (.iload 7, 2) := by decide +kernel
theorem dX9_order_48 : decode cX9_order 48 = .ok (.iaload, 1) := by decide +kernel
theorem dX9_order_49 : decode cX9_order 49 = .ok (.lshr, 1) := by decide +kernel
theorem dX9_order_50 : decode cX9_order 50 = .ok (.lconst 1, 1) := by decide +kernel
theorem dX9_order_51 : decode cX9_order 51 = .ok (.land, 1) := by decide +kernel
theorem dX9_order_52 : decode cX9_order 52 = .ok (.lconst 1, 1) := by decide +kernel
theorem dX9_order_53 : decode cX9_order 53 = .ok (.lcmp, 1) := by decide +kernel
theorem dX9_order_54 : decode cX9_order 54 = .ok (.ifCond .ne 7, 3) := by decide +kernel
theorem dX9_order_57 : decode cX9_order 57 = .ok (.iconst 1, 1) := by decide +kernel
theorem dX9_order_58 : decode cX9_order 58 = .ok (.goto 4, 3) := by decide +kernel
theorem dX9_order_61 : decode cX9_order 61 = .ok (.iconst 0, 1) := by decide +kernel
theorem dX9_order_62 : decode cX9_order 62 = .ok (.istore 8, 2) := by decide +kernel
theorem dX9_order_64 : decode cX9_order 64 = .ok (.aload_n 0, 1) := by decide +kernel
theorem dX9_order_65 : decode cX9_order 65 = .ok (.iload 7, 2) := by decide +kernel
theorem dX9_order_67 : decode cX9_order 67 = .ok (.invokevirtual 135, 3) := by decide +kernel
theorem dX9_order_70 : decode cX9_order 70 = .ok (.ifCond .eq 24, 3) := by decide +kernel
theorem dX9_order_73 : decode cX9_order 73 = .ok (.iload 8, 2) := by decide +kernel
theorem dX9_order_75 : decode cX9_order 75 = .ok (.ifCond .eq 19, 3) := by decide +kernel
theorem dX9_order_78 : decode cX9_order 78 = .ok (.lload_n 3, 1) := by decide +kernel
theorem dX9_order_79 : decode cX9_order 79 = .ok (.iload 7, 2) := by decide +kernel
theorem dX9_order_81 : decode cX9_order 81 = .ok (.lshr, 1) := by decide +kernel
theorem dX9_order_82 : decode cX9_order 82 = .ok (.lconst 1, 1) := by decide +kernel
theorem dX9_order_83 : decode cX9_order 83 = .ok (.land, 1) := by decide +kernel
theorem dX9_order_84 : decode cX9_order 84 = .ok (.lconst 0, 1) := by decide +kernel
theorem dX9_order_85 : decode cX9_order 85 = .ok (.lcmp, 1) := by decide +kernel
theorem dX9_order_86 : decode cX9_order 86 = .ok (.ifCond .ne 8, 3) := by decide +kernel
theorem dX9_order_89 : decode cX9_order 89 = .ok (.iload 7, 2) := by decide +kernel
theorem dX9_order_91 : decode cX9_order 91 = .ok (.goto 5, 3) := by decide +kernel
theorem dX9_order_94 : decode cX9_order 94 = .ok (.iload 6, 2) := by decide +kernel
theorem dX9_order_96 : decode cX9_order 96 = .ok (.istore 6, 2) := by decide +kernel
theorem dX9_order_98 : decode cX9_order 98 = .ok (.iinc 7 (-1), 3) := by decide +kernel
theorem dX9_order_101 : decode cX9_order 101 = .ok (.goto (-75), 3) := by decide +kernel
theorem dX9_order_104 : decode cX9_order 104 = .ok (.iload 6, 2) := by decide +kernel
theorem dX9_order_106 : decode cX9_order 106 = .ok (.ifCond .lt 7, 3) := by decide +kernel
theorem dX9_order_109 : decode cX9_order 109 = .ok (.iconst 1, 1) := by decide +kernel
theorem dX9_order_110 : decode cX9_order 110 = .ok (.goto 4, 3) := by decide +kernel
theorem dX9_order_113 : decode cX9_order 113 = .ok (.iconst 0, 1) := by decide +kernel
theorem dX9_order_114 : decode cX9_order 114 = .ok (.istore_n 2, 1) := by decide +kernel
theorem dX9_order_115 : decode cX9_order 115 = .ok (.iload_n 2, 1) := by decide +kernel
theorem dX9_order_116 : decode cX9_order 116 = .ok (.ifCond .eq 22, 3) := by decide +kernel
theorem dX9_order_119 : decode cX9_order 119 = .ok (.iload 5, 2) := by decide +kernel
theorem dX9_order_121 : decode cX9_order 121 = .ok (.iload_n 1, 1) := by decide +kernel
theorem dX9_order_122 : decode cX9_order 122 = .ok (.if_icmp .ne 6, 3) := by decide +kernel
theorem dX9_order_125 : decode cX9_order 125 = .ok (.iload 6, 2) := by decide +kernel
theorem dX9_order_127 : decode cX9_order 127 = .ok (.ireturn, 1) := by decide +kernel
theorem dX9_order_128 : decode cX9_order 128 = .ok (.lload_n 3, 1) := by decide +kernel
theorem dX9_order_129 : decode cX9_order 129 = .ok (.lconst 1, 1) := by decide +kernel
theorem dX9_order_130 : decode cX9_order 130 = .ok (.iload 6, 2) := by decide +kernel
theorem dX9_order_132 : decode cX9_order 132 = .ok (.lshl, 1) := by decide +kernel
theorem dX9_order_133 : decode cX9_order 133 = .ok (.lor, 1) := by decide +kernel
theorem dX9_order_134 : decode cX9_order 134 = .ok (.lstore_n 3, 1) := by decide +kernel
theorem dX9_order_135 : decode cX9_order 135 = .ok (.iinc 5 1, 3) := by decide +kernel
theorem dX9_order_138 : decode cX9_order 138 = .ok (.goto (-127), 3) := by decide +kernel
theorem dX9_order_141 : decode cX9_order 141 = .ok (.iconst (-1), 1) := by decide +kernel
theorem dX9_order_142 : decode cX9_order 142 = .ok (.ireturn, 1) := by decide +kernel
set_option maxRecDepth 20000 in
theorem ok_175 {l : Launch} {d : Nat} (IH : ∀ μ, μ < 196 → px_Met l px_P d μ) : px_ok l px_P d RX9 cX9_order 9 (some .int) tb_175 :=
  ⟨px_Sp.of (ps_aload_n dX9_order_0 rfl),
   ps_callV (IH 148 (by decide)) (C := RX9) (T := TX9) (N := 36) (ci := 8) rfl rfl (fc_148 _ _) wm_RX9_152 wi_yX9_findParents wl_yX9_findParents dX9_order_1,
   px_Sp.of (ps_iconst dX9_order_4 (by decide)),
   px_Sp.of (ps_istore_n dX9_order_5 rfl (by decide)),
   px_Sp.of (ps_lconst dX9_order_6 (by decide)),
   px_Sp.of (ps_lstore_n dX9_order_7 rfl (by decide)),
   px_Sp.of (ps_iconst dX9_order_8 (by decide)),
   px_Sp.of (ps_istore dX9_order_9 (by decide)),
   px_Sp.of (ps_iload_n dX9_order_11 rfl),
   px_Sp.of (ps_if_eq dX9_order_12 (by decide)),
   px_Sp.of (ps_iconst dX9_order_15 (by decide)),
   px_Sp.of (ps_istore dX9_order_16 (by decide)),
   px_Sp.of (ps_aload_n dX9_order_18 rfl),
   px_Sp.of (ps_get kc_X9 (by decide) wf_RX9_92 dX9_order_19),
   px_Sp.of (ps_iconst dX9_order_22 (by decide)),
   px_Sp.of (ps_isub dX9_order_23),
   px_Sp.of (ps_istore dX9_order_24 (by decide)),
   px_Sp.of (ps_iload dX9_order_26),
   px_Sp.of (ps_if_lt dX9_order_28 (by decide)),
   px_Sp.of (ps_aload_n dX9_order_31 rfl),
   px_Sp.of (ps_get kc_X9 (by decide) wf_RX9_54 dX9_order_32),
   px_Sp.of (ps_iload dX9_order_35),
   px_Sp.of (ps_iald dX9_order_37),
   px_Sp.of (ps_if_lt dX9_order_38 (by decide)),
   px_Sp.of (ps_lload_n dX9_order_41 rfl),
   px_Sp.of (ps_aload_n dX9_order_42 rfl),
   px_Sp.of (ps_get kc_X9 (by decide) wf_RX9_54 dX9_order_43),
   px_Sp.of (ps_iload dX9_order_46),
   px_Sp.of (ps_iald dX9_order_48),
   px_Sp.of (ps_lshr dX9_order_49),
   px_Sp.of (ps_lconst dX9_order_50 (by decide)),
   px_Sp.of (ps_land dX9_order_51),
   px_Sp.of (ps_lconst dX9_order_52 (by decide)),
   px_Sp.of (ps_lcmp dX9_order_53),
   px_Sp.of (ps_if_ne dX9_order_54 (by decide)),
   px_Sp.of (ps_iconst dX9_order_57 (by decide)),
   px_Sp.of (ps_goto dX9_order_58 (by decide)),
   px_Sp.of (ps_iconst dX9_order_61 (by decide)),
   px_Sp.of (ps_istore dX9_order_62 (by decide)),
   px_Sp.of (ps_aload_n dX9_order_64 rfl),
   px_Sp.of (ps_iload dX9_order_65),
   ps_callV (IH 143 (by decide)) (C := RX9) (T := TX9) (N := 36) (ci := 8) rfl rfl (fc_143 _ _) wm_RX9_135 wi_yX9_isSeen wl_yX9_isSeen dX9_order_67,
   px_Sp.of (ps_if_eq dX9_order_70 (by decide)),
   px_Sp.of (ps_iload dX9_order_73),
   px_Sp.of (ps_if_eq dX9_order_75 (by decide)),
   px_Sp.of (ps_lload_n dX9_order_78 rfl),
   px_Sp.of (ps_iload dX9_order_79),
   px_Sp.of (ps_lshr dX9_order_81),
   px_Sp.of (ps_lconst dX9_order_82 (by decide)),
   px_Sp.of (ps_land dX9_order_83),
   px_Sp.of (ps_lconst dX9_order_84 (by decide)),
   px_Sp.of (ps_lcmp dX9_order_85),
   px_Sp.of (ps_if_ne dX9_order_86 (by decide)),
   px_Sp.of (ps_iload dX9_order_89),
   px_Sp.of (ps_goto dX9_order_91 (by decide)),
   px_Sp.of (ps_iload dX9_order_94),
   px_Sp.of (ps_istore dX9_order_96 (by decide)),
   px_Sp.of (ps_iinc dX9_order_98 (by decide) (by decide)),
   px_Sp.of (ps_goto dX9_order_101 (by decide)),
   px_Sp.of (ps_iload dX9_order_104),
   px_Sp.of (ps_if_lt dX9_order_106 (by decide)),
   px_Sp.of (ps_iconst dX9_order_109 (by decide)),
   px_Sp.of (ps_goto dX9_order_110 (by decide)),
   px_Sp.of (ps_iconst dX9_order_113 (by decide)),
   px_Sp.of (ps_istore_n dX9_order_114 rfl (by decide)),
   px_Sp.of (ps_iload_n dX9_order_115 rfl),
   px_Sp.of (ps_if_eq dX9_order_116 (by decide)),
   px_Sp.of (ps_iload dX9_order_119),
   px_Sp.of (ps_iload_n dX9_order_121 rfl),
   px_Sp.of (ps_icmp_ne dX9_order_122 (by decide)),
   px_Sp.of (ps_iload dX9_order_125),
   ps_iret dX9_order_127,
   px_Sp.of (ps_lload_n dX9_order_128 rfl),
   px_Sp.of (ps_lconst dX9_order_129 (by decide)),
   px_Sp.of (ps_iload dX9_order_130),
   px_Sp.of (ps_lshl dX9_order_132),
   px_Sp.of (ps_lor dX9_order_133),
   px_Sp.of (ps_lstore_n dX9_order_134 rfl (by decide)),
   px_Sp.of (ps_iinc dX9_order_135 (by decide) (by decide)),
   px_Sp.of (ps_goto dX9_order_138 (by decide)),
   px_Sp.of (ps_iconst dX9_order_141 (by decide)),
   ps_iret dX9_order_142, trivial⟩
theorem mt_175 {l : Launch} {d : Nat} (IH : ∀ μ, μ < 196 → px_Met l px_P d μ) : px_Met l px_P (d + 1) 175 := px_met (own := RX9) rfl (by decide +kernel) (ok_175 IH)
theorem dX9_quarrel_0 : decode cX9_quarrel 0 = .ok (.aload_n 0, 1) := by decide +kernel
theorem dX9_quarrel_1 : decode cX9_quarrel 1 = .ok (.invokevirtual 152, 3) := by decide +kernel
theorem dX9_quarrel_4 : decode cX9_quarrel 4 = .ok (.iconst 0, 1) := by decide +kernel
theorem dX9_quarrel_5 : decode cX9_quarrel 5 = .ok (.istore_n 2, 1) := by decide +kernel
theorem dX9_quarrel_6 : decode cX9_quarrel 6 = .ok (.iconst 0, 1) := by decide +kernel
theorem dX9_quarrel_7 : decode cX9_quarrel 7 = .ok (.istore_n 3, 1) := by decide +kernel
theorem dX9_quarrel_8 : decode cX9_quarrel 8 = .ok (.iload_n 3, 1) := by decide +kernel
theorem dX9_quarrel_9 : decode cX9_quarrel 9 = .ok (.aload_n 0, 1) := by decide +kernel
theorem dX9_quarrel_10 : decode cX9_quarrel 10 = .ok (.getfield 92, 3) := by decide +kernel
theorem dX9_quarrel_13 : decode cX9_quarrel 13 = .ok (.if_icmp .ge 27, 3) := by decide +kernel
theorem dX9_quarrel_16 : decode cX9_quarrel 16 = .ok (.aload_n 0, 1) := by decide +kernel
theorem dX9_quarrel_17 : decode cX9_quarrel 17 = .ok (.iload_n 3, 1) := by decide +kernel
theorem dX9_quarrel_18 : decode cX9_quarrel 18 = .ok (.invokevirtual 218, 3) := by decide +kernel
theorem dX9_quarrel_21 : decode cX9_quarrel 21 = .ok (.ifCond .eq 13, 3) := by decide +kernel
theorem dX9_quarrel_24 : decode cX9_quarrel 24 = .ok (.iload_n 2, 1) := by decide +kernel
theorem dX9_quarrel_25 : decode cX9_quarrel 25 = .ok (.iload_n 1, 1) := by decide +kernel
theorem dX9_quarrel_26 : decode cX9_quarrel 26 = .ok (.if_icmp .ne 5, 3) := by decide +kernel
theorem dX9_quarrel_29 : decode cX9_quarrel 29 = .ok (.iload_n 3, 1) := by decide +kernel
theorem dX9_quarrel_30 : decode cX9_quarrel 30 = .ok (.ireturn, 1) := by decide +kernel
theorem dX9_quarrel_31 : decode cX9_quarrel 31 = .ok (.iinc 2 1, 3) := by decide +kernel
theorem dX9_quarrel_34 : decode cX9_quarrel 34 = .ok (.iinc 3 1, 3) := by decide +kernel
theorem dX9_quarrel_37 : decode cX9_quarrel 37 = .ok (.goto (-29), 3) := by decide +kernel
theorem dX9_quarrel_40 : decode cX9_quarrel 40 = .ok (.iconst (-1), 1) := by decide +kernel
theorem dX9_quarrel_41 : decode cX9_quarrel 41 = .ok (.ireturn, 1) := by decide +kernel
set_option maxRecDepth 20000 in
theorem ok_176 {l : Launch} {d : Nat} (IH : ∀ μ, μ < 196 → px_Met l px_P d μ) : px_ok l px_P d RX9 cX9_quarrel 4 (some .int) tb_176 :=
  ⟨px_Sp.of (ps_aload_n dX9_quarrel_0 rfl),
   ps_callV (IH 148 (by decide)) (C := RX9) (T := TX9) (N := 36) (ci := 8) rfl rfl (fc_148 _ _) wm_RX9_152 wi_yX9_findParents wl_yX9_findParents dX9_quarrel_1,
   px_Sp.of (ps_iconst dX9_quarrel_4 (by decide)),
   px_Sp.of (ps_istore_n dX9_quarrel_5 rfl (by decide)),
   px_Sp.of (ps_iconst dX9_quarrel_6 (by decide)),
   px_Sp.of (ps_istore_n dX9_quarrel_7 rfl (by decide)),
   px_Sp.of (ps_iload_n dX9_quarrel_8 rfl),
   px_Sp.of (ps_aload_n dX9_quarrel_9 rfl),
   px_Sp.of (ps_get kc_X9 (by decide) wf_RX9_92 dX9_quarrel_10),
   px_Sp.of (ps_icmp_ge dX9_quarrel_13 (by decide)),
   px_Sp.of (ps_aload_n dX9_quarrel_16 rfl),
   px_Sp.of (ps_iload_n dX9_quarrel_17 rfl),
   ps_callV (IH 177 (by decide)) (C := RX9) (T := TX9) (N := 36) (ci := 8) rfl rfl (fc_177 _ _) wm_RX9_218 wi_yX9_quarrels wl_yX9_quarrels dX9_quarrel_18,
   px_Sp.of (ps_if_eq dX9_quarrel_21 (by decide)),
   px_Sp.of (ps_iload_n dX9_quarrel_24 rfl),
   px_Sp.of (ps_iload_n dX9_quarrel_25 rfl),
   px_Sp.of (ps_icmp_ne dX9_quarrel_26 (by decide)),
   px_Sp.of (ps_iload_n dX9_quarrel_29 rfl),
   ps_iret dX9_quarrel_30,
   px_Sp.of (ps_iinc dX9_quarrel_31 (by decide) (by decide)),
   px_Sp.of (ps_iinc dX9_quarrel_34 (by decide) (by decide)),
   px_Sp.of (ps_goto dX9_quarrel_37 (by decide)),
   px_Sp.of (ps_iconst dX9_quarrel_40 (by decide)),
   ps_iret dX9_quarrel_41, trivial⟩
theorem mt_176 {l : Launch} {d : Nat} (IH : ∀ μ, μ < 196 → px_Met l px_P d μ) : px_Met l px_P (d + 1) 176 := px_met (own := RX9) rfl (by decide +kernel) (ok_176 IH)
