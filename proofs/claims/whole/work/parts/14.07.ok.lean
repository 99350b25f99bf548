/-! ===== tables that are right, 7 ===== -/
theorem dX9_fit_0 : decode cX9_fit 0 = .ok (.aload_n 0, 1) := by decide +kernel
theorem dX9_fit_1 : decode cX9_fit 1 = .ok (.iload_n 1, 1) := by decide +kernel
theorem dX9_fit_2 : decode cX9_fit 2 = .ok (.invokevirtual 99, 3) := by decide +kernel
theorem dX9_fit_5 : decode cX9_fit 5 = .ok (.ifCond .ne 11, 3) := by decide +kernel
theorem dX9_fit_8 : decode cX9_fit 8 = .ok (.aload_n 0, 1) := by decide +kernel
theorem dX9_fit_9 : decode cX9_fit 9 = .ok (.iload_n 2, 1) := by decide +kernel
theorem dX9_fit_10 : decode cX9_fit 10 = .ok (.invokevirtual 99, 3) := by decide +kernel
theorem dX9_fit_13 : decode cX9_fit 13 = .ok (.ifCond .eq 7, 3) := by decide +kernel
theorem dX9_fit_16 : decode cX9_fit 16 = .ok (.sipush (-1001), 3) := by decide +kernel
theorem dX9_fit_19 : decode cX9_fit 19 = .ok (.ireturn, 1) := by decide +kernel
theorem dX9_fit_20 : decode cX9_fit 20 = .ok (.iload_n 1, 1) := by decide +kernel
theorem dX9_fit_21 : decode cX9_fit 21 = .ok (.iload_n 2, 1) := by decide +kernel
theorem dX9_fit_22 : decode cX9_fit 22 = .ok (.if_icmp .eq 19, 3) := by decide +kernel
theorem dX9_fit_25 : decode cX9_fit 25 = .ok (.aload_n 0, 1) := by decide +kernel
theorem dX9_fit_26 : decode cX9_fit 26 = .ok (.iload_n 1, 1) := by decide +kernel
theorem dX9_fit_27 : decode cX9_fit 27 = .ok (.invokevirtual 135, 3) := by decide +kernel
theorem dX9_fit_30 : decode cX9_fit 30 = .ok (.ifCond .eq 11, 3) := by decide +kernel
theorem dX9_fit_33 : decode cX9_fit 33 = .ok (.aload_n 0, 1) := by decide +kernel
theorem dX9_fit_34 : decode cX9_fit 34 = .ok (.iload_n 2, 1) := by decide +kernel
theorem dX9_fit_35 : decode cX9_fit 35 = .ok (.invokevirtual 135, 3) := by decide +kernel
theorem dX9_fit_38 : decode cX9_fit 38 = .ok (.ifCond .ne 9, 3) := by decide +kernel
theorem dX9_fit_41 : decode cX9_fit 41 = .ok (.sipush (-1003), 3) := by decide +kernel
theorem dX9_fit_44 : decode cX9_fit 44 = .ok (.goto 9, 3) := by decide +kernel
theorem dX9_fit_47 : decode cX9_fit 47 = .ok (.aload_n 0, 1) := by decide +kernel
theorem dX9_fit_48 : decode cX9_fit 48 = .ok (.iload_n 1, 1) := by decide +kernel
theorem dX9_fit_49 : decode cX9_fit 49 = .ok (.iload_n 2, 1) := by decide +kernel
theorem dX9_fit_50 : decode cX9_fit 50 = .ok (.invokevirtual 138, 3) := by decide +kernel
theorem dX9_fit_53 : decode cX9_fit 53 = .ok (.ireturn, 1) := by decide +kernel
set_option maxRecDepth 20000 in
theorem ok_142 {l : Launch} {d : Nat} (IH : ∀ μ, μ < 196 → px_Met l px_P d μ) : px_ok l px_P d RX9 cX9_fit 3 (some .int) tb_142 :=
  ⟨px_Sp.of (ps_aload_n dX9_fit_0 rfl),
   px_Sp.of (ps_iload_n dX9_fit_1 rfl),
   ps_callV (IH 132 (by decide)) (C := RX9) (T := TX9) (N := 36) (ci := 8) rfl rfl (fc_132 _ _) wm_RX9_99 wi_yX9_noLetter wl_yX9_noLetter dX9_fit_2,
   px_Sp.of (ps_if_ne dX9_fit_5 (by decide)),
   px_Sp.of (ps_aload_n dX9_fit_8 rfl),
   px_Sp.of (ps_iload_n dX9_fit_9 rfl),
   ps_callV (IH 132 (by decide)) (C := RX9) (T := TX9) (N := 36) (ci := 8) rfl rfl (fc_132 _ _) wm_RX9_99 wi_yX9_noLetter wl_yX9_noLetter dX9_fit_10,
   px_Sp.of (ps_if_eq dX9_fit_13 (by decide)),
   px_Sp.of (ps_sipush dX9_fit_16 (by decide)),
   ps_iret dX9_fit_19,
   px_Sp.of (ps_iload_n dX9_fit_20 rfl),
   px_Sp.of (ps_iload_n dX9_fit_21 rfl),
   px_Sp.of (ps_icmp_eq dX9_fit_22 (by decide)),
   px_Sp.of (ps_aload_n dX9_fit_25 rfl),
   px_Sp.of (ps_iload_n dX9_fit_26 rfl),
   ps_callV (IH 143 (by decide)) (C := RX9) (T := TX9) (N := 36) (ci := 8) rfl rfl (fc_143 _ _) wm_RX9_135 wi_yX9_isSeen wl_yX9_isSeen dX9_fit_27,
   px_Sp.of (ps_if_eq dX9_fit_30 (by decide)),
   px_Sp.of (ps_aload_n dX9_fit_33 rfl),
   px_Sp.of (ps_iload_n dX9_fit_34 rfl),
   ps_callV (IH 143 (by decide)) (C := RX9) (T := TX9) (N := 36) (ci := 8) rfl rfl (fc_143 _ _) wm_RX9_135 wi_yX9_isSeen wl_yX9_isSeen dX9_fit_35,
   px_Sp.of (ps_if_ne dX9_fit_38 (by decide)),
   px_Sp.of (ps_sipush dX9_fit_41 (by decide)),
   px_Sp.of (ps_goto dX9_fit_44 (by decide)),
   px_Sp.of (ps_aload_n dX9_fit_47 rfl),
   px_Sp.of (ps_iload_n dX9_fit_48 rfl),
   px_Sp.of (ps_iload_n dX9_fit_49 rfl),
   ps_callV (IH 144 (by decide)) (C := RX9) (T := TX9) (N := 36) (ci := 8) rfl rfl (fc_144 _ _) wm_RX9_138 wi_yX9_fitOf wl_yX9_fitOf dX9_fit_50,
   ps_iret dX9_fit_53, trivial⟩
theorem mt_142 {l : Launch} {d : Nat} (IH : ∀ μ, μ < 196 → px_Met l px_P d μ) : px_Met l px_P (d + 1) 142 := px_met (own := RX9) rfl (by decide +kernel) (ok_142 IH)
theorem dX9_isSeen_0 : decode cX9_isSeen 0 = .ok (.aload_n 0, 1) := by decide +kernel
theorem dX9_isSeen_1 : decode cX9_isSeen 1 = .ok (.getfield 41, 3) := by decide +kernel
theorem dX9_isSeen_4 : decode cX9_isSeen 4 = .ok (.ifCond .lt 11, 3) := by decide +kernel
theorem dX9_isSeen_7 : decode cX9_isSeen 7 = .ok (.iload_n 1, 1) := by decide +kernel
theorem dX9_isSeen_8 : decode cX9_isSeen 8 = .ok (.aload_n 0, 1) := by decide +kernel
theorem dX9_isSeen_9 : decode cX9_isSeen 9 = .ok (.getfield 41, 3) := by decide +kernel
theorem dX9_isSeen_12 : decode cX9_isSeen 12 = .ok (.if_icmp .ge 24, 3) := by decide +kernel
theorem dX9_isSeen_15 : decode cX9_isSeen 15 = .ok (.aload_n 0, 1) := by decide +kernel
theorem dX9_isSeen_16 : decode cX9_isSeen 16 = .ok (.getfield 25, 3) := by decide +kernel
theorem dX9_isSeen_19 : decode cX9_isSeen 19 = .ok (.iload_n 1, 1) := by decide +kernel
theorem dX9_isSeen_20 : decode cX9_isSeen 20 = .ok (.baload, 1) := by decide +kernel
theorem dX9_isSeen_21 : decode cX9_isSeen 21 = .ok (.ifCond .eq 11, 3) := by decide +kernel
theorem dX9_isSeen_24 : decode cX9_isSeen 24 = .ok (.iload_n 1, 1) := by decide +kernel
theorem dX9_isSeen_25 : decode cX9_isSeen 25 = .ok (.aload_n 0, 1) := by decide +kernel
theorem dX9_isSeen_26 : decode cX9_isSeen 26 = .ok (.getfield 45, 3) := by decide +kernel
theorem dX9_isSeen_29 : decode cX9_isSeen 29 = .ok (.if_icmp .ne 7, 3) := by decide +kernel
theorem dX9_isSeen_32 : decode cX9_isSeen 32 = .ok (.iconst 1, 1) := by decide +kernel
theorem dX9_isSeen_33 : decode cX9_isSeen 33 = .ok (.goto 4, 3) := by decide +kernel
theorem dX9_isSeen_36 : decode cX9_isSeen 36 = .ok (.iconst 0, 1) := by decide +kernel
theorem dX9_isSeen_37 : decode cX9_isSeen 37 = .ok (.ireturn, 1) := by decide +kernel
set_option maxRecDepth 20000 in
theorem ok_143 {l : Launch} {d : Nat} (IH : ∀ μ, μ < 196 → px_Met l px_P d μ) : px_ok l px_P d RX9 cX9_isSeen 2 (some .boolean) tb_143 :=
  ⟨px_Sp.of (ps_aload_n dX9_isSeen_0 rfl),
   px_Sp.of (ps_get kc_X9 (by decide) wf_RX9_41 dX9_isSeen_1),
   px_Sp.of (ps_if_lt dX9_isSeen_4 (by decide)),
   px_Sp.of (ps_iload_n dX9_isSeen_7 rfl),
   px_Sp.of (ps_aload_n dX9_isSeen_8 rfl),
   px_Sp.of (ps_get kc_X9 (by decide) wf_RX9_41 dX9_isSeen_9),
   px_Sp.of (ps_icmp_ge dX9_isSeen_12 (by decide)),
   px_Sp.of (ps_aload_n dX9_isSeen_15 rfl),
   px_Sp.of (ps_get kc_X9 (by decide) wf_RX9_25 dX9_isSeen_16),
   px_Sp.of (ps_iload_n dX9_isSeen_19 rfl),
   px_Sp.of (ps_zald dX9_isSeen_20),
   px_Sp.of (ps_if_eq dX9_isSeen_21 (by decide)),
   px_Sp.of (ps_iload_n dX9_isSeen_24 rfl),
   px_Sp.of (ps_aload_n dX9_isSeen_25 rfl),
   px_Sp.of (ps_get kc_X9 (by decide) wf_RX9_45 dX9_isSeen_26),
   px_Sp.of (ps_icmp_ne dX9_isSeen_29 (by decide)),
   px_Sp.of (ps_iconst dX9_isSeen_32 (by decide)),
   px_Sp.of (ps_goto dX9_isSeen_33 (by decide)),
   px_Sp.of (ps_iconst dX9_isSeen_36 (by decide)),
   ps_zret dX9_isSeen_37, trivial⟩
theorem mt_143 {l : Launch} {d : Nat} (IH : ∀ μ, μ < 196 → px_Met l px_P d μ) : px_Met l px_P (d + 1) 143 := px_met (own := RX9) rfl (by decide +kernel) (ok_143 IH)
theorem dX9_fitOf_0 : decode cX9_fitOf 0 = .ok (.iconst 0, 1) := by decide +kernel
theorem dX9_fitOf_1 : decode cX9_fitOf 1 = .ok (.istore_n 3, 1) := by decide +kernel
theorem dX9_fitOf_2 : decode cX9_fitOf 2 = .ok (.iload_n 3, 1) := by decide +kernel
theorem dX9_fitOf_3 : decode cX9_fitOf 3 = .ok (.aload_n 0, 1) := by decide +kernel
theorem dX9_fitOf_4 : decode cX9_fitOf 4 = .ok (.getfield 22, 3) := by decide +kernel
theorem dX9_fitOf_7 : decode cX9_fitOf 7 = .ok (.iload_n 1, 1) := by decide +kernel
theorem dX9_fitOf_8 : decode cX9_fitOf 8 = .ok (.iaload, 1) := by decide +kernel
theorem dX9_fitOf_9 : decode cX9_fitOf 9 = .ok (.if_icmp .gt 162, 3) := by decide +kernel
theorem dX9_fitOf_12 : decode cX9_fitOf 12 = .ok (.iconst 0, 1) := by decide +kernel
theorem dX9_fitOf_13 : decode cX9_fitOf 13 = .ok (.istore 4, 2) := by decide +kernel
theorem dX9_fitOf_15 : decode cX9_fitOf 15 = .ok (.iload 4, 2) := by decide +kernel
theorem dX9_fitOf_17 : decode cX9_fitOf 17 = .ok (.aload_n 0, 1) := by decide +kernel
theorem dX9_fitOf_18 : decode cX9_fitOf 18 = .ok (.getfield 22, 3) := by decide +kernel
theorem dX9_fitOf_21 : decode cX9_fitOf 21 = .ok (.iload_n 2, 1) := by decide +kernel
theorem dX9_fitOf_22 : decode cX9_fitOf 22 = .ok (.iaload, 1) := by decide +kernel
theorem dX9_fitOf_23 : decode cX9_fitOf 23 = .ok (.if_icmp .gt 142, 3) := by decide +kernel
theorem dX9_fitOf_26 : decode cX9_fitOf 26 = .ok (.iconst 0, 1) := by decide +kernel
theorem dX9_fitOf_27 : decode cX9_fitOf 27 = .ok (.istore 5, 2) := by decide +kernel
theorem dX9_fitOf_29 : decode cX9_fitOf 29 = .ok (.iload_n 3, 1) := by decide +kernel
theorem dX9_fitOf_30 : decode cX9_fitOf 30 = .ok (.ifCond .le 115, 3) := by decide +kernel
theorem dX9_fitOf_33 : decode cX9_fitOf 33 = .ok (.iload 4, 2) := by decide +kernel
theorem dX9_fitOf_35 : decode cX9_fitOf 35 = .ok (.ifCond .le 110, 3) := by decide +kernel
theorem dX9_fitOf_38 : decode cX9_fitOf 38 = .ok (.aload_n 0, 1) := by decide +kernel
theorem dX9_fitOf_39 : decode cX9_fitOf 39 = .ok (.getfield 51, 3) := by decide +kernel
theorem dX9_fitOf_42 : decode cX9_fitOf 42 = .ok (.bipush 15, 2) := by decide +kernel
theorem dX9_fitOf_44 : decode cX9_fitOf 44 = .ok (.iload_n 3, 1) := by decide +kernel
theorem dX9_fitOf_45 : decode cX9_fitOf 45 = .ok (.iconst 1, 1) := by decide +kernel
theorem dX9_fitOf_46 : decode cX9_fitOf 46 = .ok (.isub, 1) := by decide +kernel
theorem dX9_fitOf_47 : decode cX9_fitOf 47 = .ok (.imul, 1) := by decide +kernel
theorem dX9_fitOf_48 : decode cX9_fitOf 48 = .ok (.iload 4, 2) := by decide +kernel
theorem dX9_fitOf_50 : decode cX9_fitOf 50 = .ok (.iadd, 1) := by decide +kernel
theorem dX9_fitOf_51 : decode cX9_fitOf 51 = .ok (.iaload, 1) := by decide +kernel
theorem dX9_fitOf_52 : decode cX9_fitOf 52 = .ok (.istore 6, 2) := by decide +kernel
theorem dX9_fitOf_54 : decode cX9_fitOf 54 = .ok (.aload_n 0, 1) := by decide +kernel
theorem dX9_fitOf_55 : decode cX9_fitOf 55 = .ok (.getfield 51, 3) := by decide +kernel
theorem dX9_fitOf_58 : decode cX9_fitOf 58 = .ok (.bipush 15, 2) := by decide +kernel
theorem dX9_fitOf_60 : decode cX9_fitOf 60 = .ok (.iload_n 3, 1) := by decide +kernel
theorem dX9_fitOf_61 : decode cX9_fitOf 61 = .ok (.imul, 1) := by decide +kernel
theorem dX9_fitOf_62 : decode cX9_fitOf 62 = .ok (.iload 4, 2) := by decide +kernel
theorem dX9_fitOf_64 : decode cX9_fitOf 64 = .ok (.iadd, 1) := by decide +kernel
theorem dX9_fitOf_65 : decode cX9_fitOf 65 = .ok (.iconst 1, 1) := by decide +kernel
theorem dX9_fitOf_66 : decode cX9_fitOf 66 = .ok (.isub, 1) := by decide +kernel
theorem dX9_fitOf_67 : decode cX9_fitOf 67 = .ok (.iaload, 1) := by decide +kernel
theorem dX9_fitOf_68 : decode cX9_fitOf 68 = .ok (.istore 7, 2) := by decide +kernel
theorem dX9_fitOf_70 : decode cX9_fitOf 70 = .ok (.iload 6, 2) := by decide +kernel
theorem dX9_fitOf_72 : decode cX9_fitOf 72 = .ok (.iload 7, 2) := by decide +kernel
theorem dX9_fitOf_74 : decode cX9_fitOf 74 = .ok (.if_icmp .le 8, 3) := by decide +kernel
theorem dX9_fitOf_77 : decode cX9_fitOf 77 = .ok (.iload 6, 2) := by decide +kernel
theorem dX9_fitOf_79 : decode cX9_fitOf 79 = .ok (.goto 5, 3) := by decide +kernel
theorem dX9_fitOf_82 : decode cX9_fitOf 82 = .ok (.iload 7, 2) := by decide +kernel
theorem dX9_fitOf_84 : decode cX9_fitOf 84 = .ok (.istore 5, 2) := by decide +kernel
theorem dX9_fitOf_86 : decode cX9_fitOf 86 = .ok (.aload_n 0, 1) := by decide +kernel
theorem dX9_fitOf_87 : decode cX9_fitOf 87 = .ok (.getfield 51, 3) := by decide +kernel
theorem dX9_fitOf_90 : decode cX9_fitOf 90 = .ok (.bipush 15, 2) := by decide +kernel
theorem dX9_fitOf_92 : decode cX9_fitOf 92 = .ok (.iload_n 3, 1) := by decide +kernel
theorem dX9_fitOf_93 : decode cX9_fitOf 93 = .ok (.iconst 1, 1) := by decide +kernel
theorem dX9_fitOf_94 : decode cX9_fitOf 94 = .ok (.isub, 1) := by decide +kernel
theorem dX9_fitOf_95 : decode cX9_fitOf 95 = .ok (.imul, 1) := by decide +kernel
theorem dX9_fitOf_96 : decode cX9_fitOf 96 = .ok (.iload 4, 2) := by decide +kernel
theorem dX9_fitOf_98 : decode cX9_fitOf 98 = .ok (.iadd, 1) := by decide +kernel
theorem dX9_fitOf_99 : decode cX9_fitOf 99 = .ok (.iconst 1, 1) := by decide +kernel
theorem dX9_fitOf_100 : decode cX9_fitOf 100 = .ok (.isub, 1) := by decide +kernel
theorem dX9_fitOf_101 : decode cX9_fitOf 101 = .ok (.iaload, 1) := by decide +kernel
theorem dX9_fitOf_102 : decode cX9_fitOf 102 = .ok (.aload_n 0, 1) := by decide +kernel
theorem dX9_fitOf_103 : decode cX9_fitOf 103 = .ok (.bipush 14, 2) := by decide +kernel
theorem dX9_fitOf_105 : decode cX9_fitOf 105 = .ok (.iload_n 1, 1) := by decide +kernel
theorem dX9_fitOf_106 : decode cX9_fitOf 106 = .ok (.imul, 1) := by decide +kernel
theorem dX9_fitOf_107 : decode cX9_fitOf 107 = .ok (.iload_n 3, 1) := by decide +kernel
theorem dX9_fitOf_108 : decode cX9_fitOf 108 = .ok (.iadd, 1) := by decide +kernel
theorem dX9_fitOf_109 : decode cX9_fitOf 109 = .ok (.iconst 1, 1) := by decide +kernel
theorem dX9_fitOf_110 : decode cX9_fitOf 110 = .ok (.isub, 1) := by decide +kernel
theorem dX9_fitOf_111 : decode cX9_fitOf 111 = .ok (.bipush 14, 2) := by decide +kernel
theorem dX9_fitOf_113 : decode cX9_fitOf 113 = .ok (.iload_n 2, 1) := by decide +kernel
theorem dX9_fitOf_114 : decode cX9_fitOf 114 = .ok (.imul, 1) := by decide +kernel
theorem dX9_fitOf_115 : decode cX9_fitOf 115 = .ok (.iload 4, 2) := by decide +kernel
theorem dX9_fitOf_117 : decode cX9_fitOf 117 = .ok (.iadd, 1) := by decide +kernel
theorem dX9_fitOf_118 : decode cX9_fitOf 118 = .ok (.iconst 1, 1) := by decide +kernel
theorem dX9_fitOf_119 : decode cX9_fitOf 119 = .ok (.isub, 1) := by decide +kernel
theorem dX9_fitOf_120 : decode cX9_fitOf 120 = .ok (.invokevirtual 132, 3) := by decide +kernel
theorem dX9_fitOf_123 : decode cX9_fitOf 123 = .ok (.invokestatic 120, 3) := by decide +kernel
theorem dX9_fitOf_126 : decode cX9_fitOf 126 = .ok (.iadd, 1) := by decide +kernel
theorem dX9_fitOf_127 : decode cX9_fitOf 127 = .ok (.istore 8, 2) := by decide +kernel
theorem dX9_fitOf_129 : decode cX9_fitOf 129 = .ok (.iload 8, 2) := by decide +kernel
theorem dX9_fitOf_131 : decode cX9_fitOf 131 = .ok (.iload 5, 2) := by decide +kernel
theorem dX9_fitOf_133 : decode cX9_fitOf 133 = .ok (.if_icmp .le 8, 3) := by decide +kernel
theorem dX9_fitOf_136 : decode cX9_fitOf 136 = .ok (.iload 8, 2) := by decide +kernel
theorem dX9_fitOf_138 : decode cX9_fitOf 138 = .ok (.goto 5, 3) := by decide +kernel
theorem dX9_fitOf_141 : decode cX9_fitOf 141 = .ok (.iload 5, 2) := by decide +kernel
theorem dX9_fitOf_143 : decode cX9_fitOf 143 = .ok (.istore 5, 2) := by decide +kernel
theorem dX9_fitOf_145 : decode cX9_fitOf 145 = .ok (.aload_n 0, 1) := by decide +kernel
theorem dX9_fitOf_146 : decode cX9_fitOf 146 = .ok (.getfield 51, 3) := by decide +kernel
theorem dX9_fitOf_149 : decode cX9_fitOf 149 = .ok (.bipush 15, 2) := by decide +kernel
theorem dX9_fitOf_151 : decode cX9_fitOf 151 = .ok (.iload_n 3, 1) := by decide +kernel
theorem dX9_fitOf_152 : decode cX9_fitOf 152 = .ok (.imul, 1) := by decide +kernel
theorem dX9_fitOf_153 : decode cX9_fitOf 153 = .ok (.iload 4, 2) := by decide +kernel
theorem dX9_fitOf_155 : decode cX9_fitOf 155 = .ok (.iadd, 1) := by decide +kernel
theorem dX9_fitOf_156 : decode cX9_fitOf 156 = .ok (.iload 5, 2) := by decide +kernel
theorem dX9_fitOf_158 : decode cX9_fitOf 158 = .ok (.iastore, 1) := by decide +kernel
theorem dX9_fitOf_159 : decode cX9_fitOf 159 = .ok (.iinc 4 1, 3) := by decide +kernel
theorem dX9_fitOf_162 : decode cX9_fitOf 162 = .ok (.goto (-147), 3) := by decide +kernel
theorem dX9_fitOf_165 : decode cX9_fitOf 165 = .ok (.iinc 3 1, 3) := by decide +kernel
theorem dX9_fitOf_168 : decode cX9_fitOf 168 = .ok (.goto (-166), 3) := by decide +kernel
theorem dX9_fitOf_171 : decode cX9_fitOf 171 = .ok (.aload_n 0, 1) := by decide +kernel
theorem dX9_fitOf_172 : decode cX9_fitOf 172 = .ok (.getfield 51, 3) := by decide +kernel
theorem dX9_fitOf_175 : decode cX9_fitOf 175 = .ok (.bipush 15, 2) := by decide +kernel
theorem dX9_fitOf_177 : decode cX9_fitOf 177 = .ok (.aload_n 0, 1) := by decide +kernel
theorem dX9_fitOf_178 : decode cX9_fitOf 178 = .ok (.getfield 22, 3) := by decide +kernel
theorem dX9_fitOf_181 : decode cX9_fitOf 181 = .ok (.iload_n 1, 1) := by decide +kernel
theorem dX9_fitOf_182 : decode cX9_fitOf 182 = .ok (.iaload, 1) := by decide +kernel
theorem dX9_fitOf_183 : decode cX9_fitOf 183 = .ok (.imul, 1) := by decide +kernel
theorem dX9_fitOf_184 : decode cX9_fitOf 184 = .ok (.aload_n 0, 1) := by decide +kernel
theorem dX9_fitOf_185 : decode cX9_fitOf 185 = .ok (.getfield 22, 3) := by decide +kernel
theorem dX9_fitOf_188 : decode cX9_fitOf 188 = .ok (.iload_n 2, 1) := by decide +kernel
theorem dX9_fitOf_189 : decode cX9_fitOf 189 = .ok (.iaload, 1) := by decide +kernel
theorem dX9_fitOf_190 : decode cX9_fitOf 190 = .ok (.iadd, 1) := by decide +kernel
theorem dX9_fitOf_191 : decode cX9_fitOf 191 = .ok (.iaload, 1) := by decide +kernel
theorem dX9_fitOf_192 : decode cX9_fitOf 192 = .ok (.ireturn, 1) := by decide +kernel
set_option maxRecDepth 20000 in
theorem ok_144 {l : Launch} {d : Nat} (IH : ∀ μ, μ < 196 → px_Met l px_P d μ) : px_ok l px_P d RX9 cX9_fitOf 9 (some .int) tb_144 :=
  ⟨px_Sp.of (ps_iconst dX9_fitOf_0 (by decide)),
   px_Sp.of (ps_istore_n dX9_fitOf_1 rfl (by decide)),
   px_Sp.of (ps_iload_n dX9_fitOf_2 rfl),
   px_Sp.of (ps_aload_n dX9_fitOf_3 rfl),
   px_Sp.of (ps_get kc_X9 (by decide) wf_RX9_22 dX9_fitOf_4),
   px_Sp.of (ps_iload_n dX9_fitOf_7 rfl),
   px_Sp.of (ps_iald dX9_fitOf_8),
   px_Sp.of (ps_icmp_gt dX9_fitOf_9 (by decide)),
   px_Sp.of (ps_iconst dX9_fitOf_12 (by decide)),
   px_Sp.of (ps_istore dX9_fitOf_13 (by decide)),
   px_Sp.of (ps_iload dX9_fitOf_15),
   px_Sp.of (ps_aload_n dX9_fitOf_17 rfl),
   px_Sp.of (ps_get kc_X9 (by decide) wf_RX9_22 dX9_fitOf_18),
   px_Sp.of (ps_iload_n dX9_fitOf_21 rfl),
   px_Sp.of (ps_iald dX9_fitOf_22),
   px_Sp.of (ps_icmp_gt dX9_fitOf_23 (by decide)),
   px_Sp.of (ps_iconst dX9_fitOf_26 (by decide)),
   px_Sp.of (ps_istore dX9_fitOf_27 (by decide)),
   px_Sp.of (ps_iload_n dX9_fitOf_29 rfl),
   px_Sp.of (ps_if_le dX9_fitOf_30 (by decide)),
   px_Sp.of (ps_iload dX9_fitOf_33),
   px_Sp.of (ps_if_le dX9_fitOf_35 (by decide)),
   px_Sp.of (ps_aload_n dX9_fitOf_38 rfl),
   px_Sp.of (ps_get kc_X9 (by decide) wf_RX9_51 dX9_fitOf_39),
   px_Sp.of (ps_bipush dX9_fitOf_42 (by decide)),
   px_Sp.of (ps_iload_n dX9_fitOf_44 rfl),
   px_Sp.of (ps_iconst dX9_fitOf_45 (by decide)),
   px_Sp.of (ps_isub dX9_fitOf_46),
   px_Sp.of (ps_imul dX9_fitOf_47),
   px_Sp.of (ps_iload dX9_fitOf_48),
   px_Sp.of (ps_iadd dX9_fitOf_50),
   px_Sp.of (ps_iald dX9_fitOf_51),
   px_Sp.of (ps_istore dX9_fitOf_52 (by decide)),
   px_Sp.of (ps_aload_n dX9_fitOf_54 rfl),
   px_Sp.of (ps_get kc_X9 (by decide) wf_RX9_51 dX9_fitOf_55),
   px_Sp.of (ps_bipush dX9_fitOf_58 (by decide)),
   px_Sp.of (ps_iload_n dX9_fitOf_60 rfl),
   px_Sp.of (ps_imul dX9_fitOf_61),
   px_Sp.of (ps_iload dX9_fitOf_62),
   px_Sp.of (ps_iadd dX9_fitOf_64),
   px_Sp.of (ps_iconst dX9_fitOf_65 (by decide)),
   px_Sp.of (ps_isub dX9_fitOf_66),
   px_Sp.of (ps_iald dX9_fitOf_67),
   px_Sp.of (ps_istore dX9_fitOf_68 (by decide)),
   px_Sp.of (ps_iload dX9_fitOf_70),
   px_Sp.of (ps_iload dX9_fitOf_72),
   px_Sp.of (ps_icmp_le dX9_fitOf_74 (by decide)),
   px_Sp.of (ps_iload dX9_fitOf_77),
   px_Sp.of (ps_goto dX9_fitOf_79 (by decide)),
   px_Sp.of (ps_iload dX9_fitOf_82),
   px_Sp.of (ps_istore dX9_fitOf_84 (by decide)),
   px_Sp.of (ps_aload_n dX9_fitOf_86 rfl),
   px_Sp.of (ps_get kc_X9 (by decide) wf_RX9_51 dX9_fitOf_87),
   px_Sp.of (ps_bipush dX9_fitOf_90 (by decide)),
   px_Sp.of (ps_iload_n dX9_fitOf_92 rfl),
   px_Sp.of (ps_iconst dX9_fitOf_93 (by decide)),
   px_Sp.of (ps_isub dX9_fitOf_94),
   px_Sp.of (ps_imul dX9_fitOf_95),
   px_Sp.of (ps_iload dX9_fitOf_96),
   px_Sp.of (ps_iadd dX9_fitOf_98),
   px_Sp.of (ps_iconst dX9_fitOf_99 (by decide)),
   px_Sp.of (ps_isub dX9_fitOf_100),
   px_Sp.of (ps_iald dX9_fitOf_101),
   px_Sp.of (ps_aload_n dX9_fitOf_102 rfl),
   px_Sp.of (ps_bipush dX9_fitOf_103 (by decide)),
   px_Sp.of (ps_iload_n dX9_fitOf_105 rfl),
   px_Sp.of (ps_imul dX9_fitOf_106),
   px_Sp.of (ps_iload_n dX9_fitOf_107 rfl),
   px_Sp.of (ps_iadd dX9_fitOf_108),
   px_Sp.of (ps_iconst dX9_fitOf_109 (by decide)),
   px_Sp.of (ps_isub dX9_fitOf_110),
   px_Sp.of (ps_bipush dX9_fitOf_111 (by decide)),
   px_Sp.of (ps_iload_n dX9_fitOf_113 rfl),
   px_Sp.of (ps_imul dX9_fitOf_114),
   px_Sp.of (ps_iload dX9_fitOf_115),
   px_Sp.of (ps_iadd dX9_fitOf_117),
   px_Sp.of (ps_iconst dX9_fitOf_118 (by decide)),
   px_Sp.of (ps_isub dX9_fitOf_119),
   ps_callV (IH 145 (by decide)) (C := RX9) (T := TX9) (N := 36) (ci := 8) rfl rfl (fc_145 _ _) wm_RX9_132 wi_yX9_isLike wl_yX9_isLike dX9_fitOf_120,
   ps_callS (IH 135 (by decide)) (fc_135 _ _) wm_RX9_120 ws_yX9_one dX9_fitOf_123,
   px_Sp.of (ps_iadd dX9_fitOf_126),
   px_Sp.of (ps_istore dX9_fitOf_127 (by decide)),
   px_Sp.of (ps_iload dX9_fitOf_129),
   px_Sp.of (ps_iload dX9_fitOf_131),
   px_Sp.of (ps_icmp_le dX9_fitOf_133 (by decide)),
   px_Sp.of (ps_iload dX9_fitOf_136),
   px_Sp.of (ps_goto dX9_fitOf_138 (by decide)),
   px_Sp.of (ps_iload dX9_fitOf_141),
   px_Sp.of (ps_istore dX9_fitOf_143 (by decide)),
   px_Sp.of (ps_aload_n dX9_fitOf_145 rfl),
   px_Sp.of (ps_get kc_X9 (by decide) wf_RX9_51 dX9_fitOf_146),
   px_Sp.of (ps_bipush dX9_fitOf_149 (by decide)),
   px_Sp.of (ps_iload_n dX9_fitOf_151 rfl),
   px_Sp.of (ps_imul dX9_fitOf_152),
   px_Sp.of (ps_iload dX9_fitOf_153),
   px_Sp.of (ps_iadd dX9_fitOf_155),
   px_Sp.of (ps_iload dX9_fitOf_156),
   px_Sp.ofm (ps_iast dX9_fitOf_158),
   px_Sp.of (ps_iinc dX9_fitOf_159 (by decide) (by decide)),
   px_Sp.of (ps_goto dX9_fitOf_162 (by decide)),
   px_Sp.of (ps_iinc dX9_fitOf_165 (by decide) (by decide)),
   px_Sp.of (ps_goto dX9_fitOf_168 (by decide)),
   px_Sp.of (ps_aload_n dX9_fitOf_171 rfl),
   px_Sp.of (ps_get kc_X9 (by decide) wf_RX9_51 dX9_fitOf_172),
   px_Sp.of (ps_bipush dX9_fitOf_175 (by decide)),
   px_Sp.of (ps_aload_n dX9_fitOf_177 rfl),
   px_Sp.of (ps_get kc_X9 (by decide) wf_RX9_22 dX9_fitOf_178),
   px_Sp.of (ps_iload_n dX9_fitOf_181 rfl),
   px_Sp.of (ps_iald dX9_fitOf_182),
   px_Sp.of (ps_imul dX9_fitOf_183),
   px_Sp.of (ps_aload_n dX9_fitOf_184 rfl),
   px_Sp.of (ps_get kc_X9 (by decide) wf_RX9_22 dX9_fitOf_185),
   px_Sp.of (ps_iload_n dX9_fitOf_188 rfl),
   px_Sp.of (ps_iald dX9_fitOf_189),
   px_Sp.of (ps_iadd dX9_fitOf_190),
   px_Sp.of (ps_iald dX9_fitOf_191),
   ps_iret dX9_fitOf_192, trivial⟩
theorem mt_144 {l : Launch} {d : Nat} (IH : ∀ μ, μ < 196 → px_Met l px_P d μ) : px_Met l px_P (d + 1) 144 := px_met (own := RX9) rfl (by decide +kernel) (ok_144 IH)
theorem dX9_isLike_0 : decode cX9_isLike 0 = .ok (.aload_n 0, 1) := by decide +kernel
theorem dX9_isLike_1 : decode cX9_isLike 1 = .ok (.getfield 29, 3) := by decide +kernel
theorem dX9_isLike_4 : decode cX9_isLike 4 = .ok (.iload_n 1, 1) := by decide +kernel
theorem dX9_isLike_5 : decode cX9_isLike 5 = .ok (.iaload, 1) := by decide +kernel
theorem dX9_isLike_6 : decode cX9_isLike 6 = .ok (.ifCond .le 39, 3) := by decide +kernel
theorem dX9_isLike_9 : decode cX9_isLike 9 = .ok (.aload_n 0, 1) := by decide +kernel
theorem dX9_isLike_10 : decode cX9_isLike 10 = .ok (.getfield 29, 3) := by decide +kernel
theorem dX9_isLike_13 : decode cX9_isLike 13 = .ok (.iload_n 2, 1) := by decide +kernel
theorem dX9_isLike_14 : decode cX9_isLike 14 = .ok (.iaload, 1) := by decide +kernel
theorem dX9_isLike_15 : decode cX9_isLike 15 = .ok (.aload_n 0, 1) := by decide +kernel
theorem dX9_isLike_16 : decode cX9_isLike 16 = .ok (.getfield 29, 3) := by decide +kernel
theorem dX9_isLike_19 : decode cX9_isLike 19 = .ok (.iload_n 1, 1) := by decide +kernel
theorem dX9_isLike_20 : decode cX9_isLike 20 = .ok (.iaload, 1) := by decide +kernel
theorem dX9_isLike_21 : decode cX9_isLike 21 = .ok (.iconst 1, 1) := by decide +kernel
theorem dX9_isLike_22 : decode cX9_isLike 22 = .ok (.isub, 1) := by decide +kernel
theorem dX9_isLike_23 : decode cX9_isLike 23 = .ok (.if_icmp .ne 22, 3) := by decide +kernel
theorem dX9_isLike_26 : decode cX9_isLike 26 = .ok (.aload_n 0, 1) := by decide +kernel
theorem dX9_isLike_27 : decode cX9_isLike 27 = .ok (.iload_n 1, 1) := by decide +kernel
theorem dX9_isLike_28 : decode cX9_isLike 28 = .ok (.iload_n 2, 1) := by decide +kernel
theorem dX9_isLike_29 : decode cX9_isLike 29 = .ok (.invokevirtual 124, 3) := by decide +kernel
theorem dX9_isLike_32 : decode cX9_isLike 32 = .ok (.aload_n 0, 1) := by decide +kernel
theorem dX9_isLike_33 : decode cX9_isLike 33 = .ok (.getfield 7, 3) := by decide +kernel
theorem dX9_isLike_36 : decode cX9_isLike 36 = .ok (.iconst 0, 1) := by decide +kernel
theorem dX9_isLike_37 : decode cX9_isLike 37 = .ok (.iaload, 1) := by decide +kernel
theorem dX9_isLike_38 : decode cX9_isLike 38 = .ok (.if_icmp .gt 7, 3) := by decide +kernel
theorem dX9_isLike_41 : decode cX9_isLike 41 = .ok (.iconst 1, 1) := by decide +kernel
theorem dX9_isLike_42 : decode cX9_isLike 42 = .ok (.goto 4, 3) := by decide +kernel
theorem dX9_isLike_45 : decode cX9_isLike 45 = .ok (.iconst 0, 1) := by decide +kernel
theorem dX9_isLike_46 : decode cX9_isLike 46 = .ok (.ireturn, 1) := by decide +kernel
set_option maxRecDepth 20000 in
theorem ok_145 {l : Launch} {d : Nat} (IH : ∀ μ, μ < 196 → px_Met l px_P d μ) : px_ok l px_P d RX9 cX9_isLike 3 (some .boolean) tb_145 :=
  ⟨px_Sp.of (ps_aload_n dX9_isLike_0 rfl),
   px_Sp.of (ps_get kc_X9 (by decide) wf_RX9_29 dX9_isLike_1),
   px_Sp.of (ps_iload_n dX9_isLike_4 rfl),
   px_Sp.of (ps_iald dX9_isLike_5),
   px_Sp.of (ps_if_le dX9_isLike_6 (by decide)),
   px_Sp.of (ps_aload_n dX9_isLike_9 rfl),
   px_Sp.of (ps_get kc_X9 (by decide) wf_RX9_29 dX9_isLike_10),
   px_Sp.of (ps_iload_n dX9_isLike_13 rfl),
   px_Sp.of (ps_iald dX9_isLike_14),
   px_Sp.of (ps_aload_n dX9_isLike_15 rfl),
   px_Sp.of (ps_get kc_X9 (by decide) wf_RX9_29 dX9_isLike_16),
   px_Sp.of (ps_iload_n dX9_isLike_19 rfl),
   px_Sp.of (ps_iald dX9_isLike_20),
   px_Sp.of (ps_iconst dX9_isLike_21 (by decide)),
   px_Sp.of (ps_isub dX9_isLike_22),
   px_Sp.of (ps_icmp_ne dX9_isLike_23 (by decide)),
   px_Sp.of (ps_aload_n dX9_isLike_26 rfl),
   px_Sp.of (ps_iload_n dX9_isLike_27 rfl),
   px_Sp.of (ps_iload_n dX9_isLike_28 rfl),
   ps_callV (IH 141 (by decide)) (C := RX9) (T := TX9) (N := 36) (ci := 8) rfl rfl (fc_141 _ _) wm_RX9_124 wi_yX9_differBy wl_yX9_differBy dX9_isLike_29,
   px_Sp.of (ps_aload_n dX9_isLike_32 rfl),
   px_Sp.of (ps_get kc_X9 (by decide) wf_RX9_7 dX9_isLike_33),
   px_Sp.of (ps_iconst dX9_isLike_36 (by decide)),
   px_Sp.of (ps_iald dX9_isLike_37),
   px_Sp.of (ps_icmp_gt dX9_isLike_38 (by decide)),
   px_Sp.of (ps_iconst dX9_isLike_41 (by decide)),
   px_Sp.of (ps_goto dX9_isLike_42 (by decide)),
   px_Sp.of (ps_iconst dX9_isLike_45 (by decide)),
   ps_zret dX9_isLike_46, trivial⟩
theorem mt_145 {l : Launch} {d : Nat} (IH : ∀ μ, μ < 196 → px_Met l px_P d μ) : px_Met l px_P (d + 1) 145 := px_met (own := RX9) rfl (by decide +kernel) (ok_145 IH)
theorem dX9_about_0 : decode cX9_about 0 = .ok (.aload_n 0, 1) := by decide +kernel
theorem dX9_about_1 : decode cX9_about 1 = .ok (.iload_n 1, 1) := by decide +kernel
theorem dX9_about_2 : decode cX9_about 2 = .ok (.invokevirtual 99, 3) := by decide +kernel
theorem dX9_about_5 : decode cX9_about 5 = .ok (.ifCond .eq 7, 3) := by decide +kernel
theorem dX9_about_8 : decode cX9_about 8 = .ok (.sipush (-1001), 3) := by decide +kernel
theorem dX9_about_11 : decode cX9_about 11 = .ok (.ireturn, 1) := by decide +kernel
theorem dX9_about_12 : decode cX9_about 12 = .ok (.iload_n 2, 1) := by decide +kernel
theorem dX9_about_13 : decode cX9_about 13 = .ok (.i2l, 1) := by decide +kernel
theorem dX9_about_14 : decode cX9_about 14 = .ok (.lconst 0, 1) := by decide +kernel
theorem dX9_about_15 : decode cX9_about 15 = .ok (.ldc2_w 150, 3) := by decide +kernel
theorem dX9_about_18 : decode cX9_about 18 = .ok (.invokestatic 95, 3) := by decide +kernel
theorem dX9_about_21 : decode cX9_about 21 = .ok (.ifCond .ne 7, 3) := by decide +kernel
theorem dX9_about_24 : decode cX9_about 24 = .ok (.sipush (-1002), 3) := by decide +kernel
theorem dX9_about_27 : decode cX9_about 27 = .ok (.ireturn, 1) := by decide +kernel
theorem dX9_about_28 : decode cX9_about 28 = .ok (.iload_n 2, 1) := by decide +kernel
theorem dX9_about_29 : decode cX9_about 29 = .ok (.bipush 6, 2) := by decide +kernel
theorem dX9_about_31 : decode cX9_about 31 = .ok (.if_icmp .ge 80, 3) := by decide +kernel
theorem dX9_about_34 : decode cX9_about 34 = .ok (.iload_n 2, 1) := by decide +kernel
theorem dX9_about_35 : decode cX9_about 35 = .ok (.ifCond .ne 12, 3) := by decide +kernel
theorem dX9_about_38 : decode cX9_about 38 = .ok (.aload_n 0, 1) := by decide +kernel
theorem dX9_about_39 : decode cX9_about 39 = .ok (.getfield 13, 3) := by decide +kernel
theorem dX9_about_42 : decode cX9_about 42 = .ok (.iload_n 1, 1) := by decide +kernel
theorem dX9_about_43 : decode cX9_about 43 = .ok (.iaload, 1) := by decide +kernel
theorem dX9_about_44 : decode cX9_about 44 = .ok (.goto 66, 3) := by decide +kernel
theorem dX9_about_47 : decode cX9_about 47 = .ok (.iload_n 2, 1) := by decide +kernel
theorem dX9_about_48 : decode cX9_about 48 = .ok (.iconst 1, 1) := by decide +kernel
theorem dX9_about_49 : decode cX9_about 49 = .ok (.if_icmp .ne 12, 3) := by decide +kernel
theorem dX9_about_52 : decode cX9_about 52 = .ok (.aload_n 0, 1) := by decide +kernel
theorem dX9_about_53 : decode cX9_about 53 = .ok (.getfield 16, 3) := by decide +kernel
theorem dX9_about_56 : decode cX9_about 56 = .ok (.iload_n 1, 1) := by decide +kernel
theorem dX9_about_57 : decode cX9_about 57 = .ok (.iaload, 1) := by decide +kernel
theorem dX9_about_58 : decode cX9_about 58 = .ok (.goto 52, 3) := by decide +kernel
theorem dX9_about_61 : decode cX9_about 61 = .ok (.iload_n 2, 1) := by decide +kernel
theorem dX9_about_62 : decode cX9_about 62 = .ok (.iconst 2, 1) := by decide +kernel
theorem dX9_about_63 : decode cX9_about 63 = .ok (.if_icmp .ne 12, 3) := by decide +kernel
theorem dX9_about_66 : decode cX9_about 66 = .ok (.aload_n 0, 1) := by decide +kernel
theorem dX9_about_67 : decode cX9_about 67 = .ok (.getfield 19, 3) := by decide +kernel
theorem dX9_about_70 : decode cX9_about 70 = .ok (.iload_n 1, 1) := by decide +kernel
theorem dX9_about_71 : decode cX9_about 71 = .ok (.iaload, 1) := by decide +kernel
theorem dX9_about_72 : decode cX9_about 72 = .ok (.goto 38, 3) := by decide +kernel
theorem dX9_about_75 : decode cX9_about 75 = .ok (.iload_n 2, 1) := by decide +kernel
theorem dX9_about_76 : decode cX9_about 76 = .ok (.iconst 3, 1) := by decide +kernel
theorem dX9_about_77 : decode cX9_about 77 = .ok (.if_icmp .ne 12, 3) := by decide +kernel
theorem dX9_about_80 : decode cX9_about 80 = .ok (.aload_n 0, 1) := by decide +kernel
theorem dX9_about_81 : decode cX9_about 81 = .ok (.getfield 22, 3) := by decide +kernel
theorem dX9_about_84 : decode cX9_about 84 = .ok (.iload_n 1, 1) := by decide +kernel
theorem dX9_about_85 : decode cX9_about 85 = .ok (.iaload, 1) := by decide +kernel
theorem dX9_about_86 : decode cX9_about 86 = .ok (.goto 24, 3) := by decide +kernel
theorem dX9_about_89 : decode cX9_about 89 = .ok (.iload_n 2, 1) := by decide +kernel
theorem dX9_about_90 : decode cX9_about 90 = .ok (.iconst 4, 1) := by decide +kernel
theorem dX9_about_91 : decode cX9_about 91 = .ok (.if_icmp .ne 11, 3) := by decide +kernel
theorem dX9_about_94 : decode cX9_about 94 = .ok (.aload_n 0, 1) := by decide +kernel
theorem dX9_about_95 : decode cX9_about 95 = .ok (.iload_n 1, 1) := by decide +kernel
theorem dX9_about_96 : decode cX9_about 96 = .ok (.invokevirtual 147, 3) := by decide +kernel
theorem dX9_about_99 : decode cX9_about 99 = .ok (.goto 11, 3) := by decide +kernel
theorem dX9_about_102 : decode cX9_about 102 = .ok (.aload_n 0, 1) := by decide +kernel
theorem dX9_about_103 : decode cX9_about 103 = .ok (.iload_n 1, 1) := by decide +kernel
theorem dX9_about_104 : decode cX9_about 104 = .ok (.invokevirtual 135, 3) := by decide +kernel
theorem dX9_about_107 : decode cX9_about 107 = .ok (.invokestatic 120, 3) := by decide +kernel
theorem dX9_about_110 : decode cX9_about 110 = .ok (.ireturn, 1) := by decide +kernel
theorem dX9_about_111 : decode cX9_about 111 = .ok (.aload_n 0, 1) := by decide +kernel
theorem dX9_about_112 : decode cX9_about 112 = .ok (.invokevirtual 152, 3) := by decide +kernel
theorem dX9_about_115 : decode cX9_about 115 = .ok (.aload_n 0, 1) := by decide +kernel
theorem dX9_about_116 : decode cX9_about 116 = .ok (.iload_n 1, 1) := by decide +kernel
theorem dX9_about_117 : decode cX9_about 117 = .ok (.invokevirtual 135, 3) := by decide +kernel
theorem dX9_about_120 : decode cX9_about 120 = .ok (.ifCond .ne 5, 3) := by decide +kernel
theorem dX9_about_123 : decode cX9_about 123 = .ok (.iconst (-1), 1) := by decide +kernel
theorem dX9_about_124 : decode cX9_about 124 = .ok (.ireturn, 1) := by decide +kernel
theorem dX9_about_125 : decode cX9_about 125 = .ok (.iconst 0, 1) := by decide +kernel
theorem dX9_about_126 : decode cX9_about 126 = .ok (.istore_n 3, 1) := by decide +kernel
theorem dX9_about_127 : decode cX9_about 127 = .ok (.iconst 0, 1) := by decide +kernel
theorem dX9_about_128 : decode cX9_about 128 = .ok (.istore 4, 2) := by decide +kernel
theorem dX9_about_130 : decode cX9_about 130 = .ok (.iconst 0, 1) := by decide +kernel
theorem dX9_about_131 : decode cX9_about 131 = .ok (.istore 5, 2) := by decide +kernel
theorem dX9_about_133 : decode cX9_about 133 = .ok (.iload 5, 2) := by decide +kernel
theorem dX9_about_135 : decode cX9_about 135 = .ok (.aload_n 0, 1) := by decide +kernel
theorem dX9_about_136 : decode cX9_about 136 = .ok (.getfield 92, 3) := by decide +kernel
theorem dX9_about_139 : decode cX9_about 139 = .ok (.if_icmp .ge 67, 3) := by decide +kernel
theorem dX9_about_142 : decode cX9_about 142 = .ok (.iload_n 3, 1) := by decide +kernel
theorem dX9_about_143 : decode cX9_about 143 = .ok (.aload_n 0, 1) := by decide +kernel
theorem dX9_about_144 : decode cX9_about 144 = .ok (.getfield 54, 3) := by decide +kernel
theorem dX9_about_147 : decode cX9_about 147 = .ok (.iload 5, 2) := by decide +kernel
theorem dX9_about_149 : decode cX9_about 149 = .ok (.iaload, 1) := by decide +kernel
theorem dX9_about_150 : decode cX9_about 150 = .ok (.iload_n 1, 1) := by decide +kernel
theorem dX9_about_151 : decode cX9_about 151 = .ok (.if_icmp .ne 7, 3) := by decide +kernel
theorem dX9_about_154 : decode cX9_about 154 = .ok (.iconst 1, 1) := by decide +kernel
theorem dX9_about_155 : decode cX9_about 155 = .ok (.goto 4, 3) := by decide +kernel
theorem dX9_about_158 : decode cX9_about 158 = .ok (.iconst 0, 1) := by decide +kernel
theorem dX9_about_159 : decode cX9_about 159 = .ok (.invokestatic 120, 3) := by decide +kernel
theorem dX9_about_162 : decode cX9_about 162 = .ok (.iadd, 1) := by decide +kernel
theorem dX9_about_163 : decode cX9_about 163 = .ok (.istore_n 3, 1) := by decide +kernel
theorem dX9_about_164 : decode cX9_about 164 = .ok (.iload 4, 2) := by decide +kernel
theorem dX9_about_166 : decode cX9_about 166 = .ok (.aload_n 0, 1) := by decide +kernel
theorem dX9_about_167 : decode cX9_about 167 = .ok (.iload 5, 2) := by decide +kernel
theorem dX9_about_169 : decode cX9_about 169 = .ok (.invokevirtual 135, 3) := by decide +kernel
theorem dX9_about_172 : decode cX9_about 172 = .ok (.ifCond .eq 21, 3) := by decide +kernel
theorem dX9_about_175 : decode cX9_about 175 = .ok (.aload_n 0, 1) := by decide +kernel
theorem dX9_about_176 : decode cX9_about 176 = .ok (.iload 5, 2) := by decide +kernel
theorem dX9_about_178 : decode cX9_about 178 = .ok (.invokevirtual 155, 3) := by decide +kernel
theorem dX9_about_181 : decode cX9_about 181 = .ok (.aload_n 0, 1) := by decide +kernel
theorem dX9_about_182 : decode cX9_about 182 = .ok (.iload_n 1, 1) := by decide +kernel
theorem dX9_about_183 : decode cX9_about 183 = .ok (.invokevirtual 155, 3) := by decide +kernel
theorem dX9_about_186 : decode cX9_about 186 = .ok (.if_icmp .ne 7, 3) := by decide +kernel
theorem dX9_about_189 : decode cX9_about 189 = .ok (.iconst 1, 1) := by decide +kernel
theorem dX9_about_190 : decode cX9_about 190 = .ok (.goto 4, 3) := by decide +kernel
theorem dX9_about_193 : decode cX9_about 193 = .ok (.iconst 0, 1) := by decide +kernel
theorem dX9_about_194 : decode cX9_about 194 = .ok (.invokestatic 120, 3) := by decide +kernel
theorem dX9_about_197 : decode cX9_about 197 = .ok (.iadd, 1) := by decide +kernel
theorem dX9_about_198 : decode cX9_about 198 = .ok (.istore 4, 2) := by decide +kernel
theorem dX9_about_200 : decode cX9_about 200 = .ok (.iinc 5 1, 3) := by decide +kernel
theorem dX9_about_203 : decode cX9_about 203 = .ok (.goto (-70), 3) := by decide +kernel
theorem dX9_about_206 : decode cX9_about 206 = .ok (.iload_n 2, 1) := by decide +kernel
theorem dX9_about_207 : decode cX9_about 207 = .ok (.tableswitch 57 6 10 #[33, 40, 46, 52, 54], 33) := by decide +kernel
theorem dX9_about_240 : decode cX9_about 240 = .ok (.aload_n 0, 1) := by decide +kernel
theorem dX9_about_241 : decode cX9_about 241 = .ok (.getfield 54, 3) := by decide +kernel
theorem dX9_about_244 : decode cX9_about 244 = .ok (.iload_n 1, 1) := by decide +kernel
theorem dX9_about_245 : decode cX9_about 245 = .ok (.iaload, 1) := by decide +kernel
theorem dX9_about_246 : decode cX9_about 246 = .ok (.ireturn, 1) := by decide +kernel
theorem dX9_about_247 : decode cX9_about 247 = .ok (.aload_n 0, 1) := by decide +kernel
theorem dX9_about_248 : decode cX9_about 248 = .ok (.iload_n 1, 1) := by decide +kernel
theorem dX9_about_249 : decode cX9_about 249 = .ok (.invokevirtual 155, 3) := by decide +kernel
theorem dX9_about_252 : decode cX9_about 252 = .ok (.ireturn, 1) := by decide +kernel
theorem dX9_about_253 : decode cX9_about 253 = .ok (.aload_n 0, 1) := by decide +kernel
theorem dX9_about_254 : decode cX9_about 254 = .ok (.iload_n 1, 1) := by decide +kernel
theorem dX9_about_255 : decode cX9_about 255 = .ok (.invokevirtual 158, 3) := by decide +kernel
theorem dX9_about_258 : decode cX9_about 258 = .ok (.ireturn, 1) := by decide +kernel
theorem dX9_about_259 : decode cX9_about 259 = .ok (.iload_n 3, 1) := by decide +kernel
theorem dX9_about_260 : decode cX9_about 260 = .ok (.ireturn, 1) := by decide +kernel
theorem dX9_about_261 : decode cX9_about 261 = .ok (.iload 4, 2) := by decide +kernel
theorem dX9_about_263 : decode cX9_about 263 = .ok (.ireturn, 1) := by decide +kernel
theorem dX9_about_264 : decode cX9_about 264 = .ok (.aload_n 0, 1) := by decide +kernel
theorem dX9_about_265 : decode cX9_about 265 = .ok (.getfield 54, 3) := by decide +kernel
theorem dX9_about_268 : decode cX9_about 268 = .ok (.iload_n 1, 1) := by decide +kernel
theorem dX9_about_269 : decode cX9_about 269 = .ok (.iaload, 1) := by decide +kernel
theorem dX9_about_270 : decode cX9_about 270 = .ok (.ifCond .ge 7, 3) := by decide +kernel
theorem dX9_about_273 : decode cX9_about 273 = .ok (.iconst (-1), 1) := by decide +kernel
theorem dX9_about_274 : decode cX9_about 274 = .ok (.goto 14, 3) := by decide +kernel
theorem dX9_about_277 : decode cX9_about 277 = .ok (.aload_n 0, 1) := by decide +kernel
theorem dX9_about_278 : decode cX9_about 278 = .ok (.iload_n 1, 1) := by decide +kernel
theorem dX9_about_279 : decode cX9_about 279 = .ok (.aload_n 0, 1) := by decide +kernel
theorem dX9_about_280 : decode cX9_about 280 = .ok (.getfield 54, 3) := by decide +kernel
theorem dX9_about_283 : decode cX9_about 283 = .ok (.iload_n 1, 1) := by decide +kernel
theorem dX9_about_284 : decode cX9_about 284 = .ok (.iaload, 1) := by decide +kernel
theorem dX9_about_285 : decode cX9_about 285 = .ok (.invokevirtual 138, 3) := by decide +kernel
theorem dX9_about_288 : decode cX9_about 288 = .ok (.ireturn, 1) := by decide +kernel
set_option maxRecDepth 20000 in
theorem ok_146 {l : Launch} {d : Nat} (IH : ∀ μ, μ < 196 → px_Met l px_P d μ) : px_ok l px_P d RX9 cX9_about 6 (some .int) tb_146 :=
  ⟨px_Sp.of (ps_aload_n dX9_about_0 rfl),
   px_Sp.of (ps_iload_n dX9_about_1 rfl),
   ps_callV (IH 132 (by decide)) (C := RX9) (T := TX9) (N := 36) (ci := 8) rfl rfl (fc_132 _ _) wm_RX9_99 wi_yX9_noLetter wl_yX9_noLetter dX9_about_2,
   px_Sp.of (ps_if_eq dX9_about_5 (by decide)),
   px_Sp.of (ps_sipush dX9_about_8 (by decide)),
   ps_iret dX9_about_11,
   px_Sp.of (ps_iload_n dX9_about_12 rfl),
   px_Sp.of (ps_i2l dX9_about_13),
   px_Sp.of (ps_lconst dX9_about_14 (by decide)),
   px_Sp.of (ps_ldc2 dX9_about_15 wk_RX9_150),
   ps_callS (IH 130 (by decide)) (fc_130 _ _) wm_RX9_95 ws_yX9_in dX9_about_18,
   px_Sp.of (ps_if_ne dX9_about_21 (by decide)),
   px_Sp.of (ps_sipush dX9_about_24 (by decide)),
   ps_iret dX9_about_27,
   px_Sp.of (ps_iload_n dX9_about_28 rfl),
   px_Sp.of (ps_bipush dX9_about_29 (by decide)),
   px_Sp.of (ps_icmp_ge dX9_about_31 (by decide)),
   px_Sp.of (ps_iload_n dX9_about_34 rfl),
   px_Sp.of (ps_if_ne dX9_about_35 (by decide)),
   px_Sp.of (ps_aload_n dX9_about_38 rfl),
   px_Sp.of (ps_get kc_X9 (by decide) wf_RX9_13 dX9_about_39),
   px_Sp.of (ps_iload_n dX9_about_42 rfl),
   px_Sp.of (ps_iald dX9_about_43),
   px_Sp.of (ps_goto dX9_about_44 (by decide)),
   px_Sp.of (ps_iload_n dX9_about_47 rfl),
   px_Sp.of (ps_iconst dX9_about_48 (by decide)),
   px_Sp.of (ps_icmp_ne dX9_about_49 (by decide)),
   px_Sp.of (ps_aload_n dX9_about_52 rfl),
   px_Sp.of (ps_get kc_X9 (by decide) wf_RX9_16 dX9_about_53),
   px_Sp.of (ps_iload_n dX9_about_56 rfl),
   px_Sp.of (ps_iald dX9_about_57),
   px_Sp.of (ps_goto dX9_about_58 (by decide)),
   px_Sp.of (ps_iload_n dX9_about_61 rfl),
   px_Sp.of (ps_iconst dX9_about_62 (by decide)),
   px_Sp.of (ps_icmp_ne dX9_about_63 (by decide)),
   px_Sp.of (ps_aload_n dX9_about_66 rfl),
   px_Sp.of (ps_get kc_X9 (by decide) wf_RX9_19 dX9_about_67),
   px_Sp.of (ps_iload_n dX9_about_70 rfl),
   px_Sp.of (ps_iald dX9_about_71),
   px_Sp.of (ps_goto dX9_about_72 (by decide)),
   px_Sp.of (ps_iload_n dX9_about_75 rfl),
   px_Sp.of (ps_iconst dX9_about_76 (by decide)),
   px_Sp.of (ps_icmp_ne dX9_about_77 (by decide)),
   px_Sp.of (ps_aload_n dX9_about_80 rfl),
   px_Sp.of (ps_get kc_X9 (by decide) wf_RX9_22 dX9_about_81),
   px_Sp.of (ps_iload_n dX9_about_84 rfl),
   px_Sp.of (ps_iald dX9_about_85),
   px_Sp.of (ps_goto dX9_about_86 (by decide)),
   px_Sp.of (ps_iload_n dX9_about_89 rfl),
   px_Sp.of (ps_iconst dX9_about_90 (by decide)),
   px_Sp.of (ps_icmp_ne dX9_about_91 (by decide)),
   px_Sp.of (ps_aload_n dX9_about_94 rfl),
   px_Sp.of (ps_iload_n dX9_about_95 rfl),
   ps_callV (IH 147 (by decide)) (C := RX9) (T := TX9) (N := 36) (ci := 8) rfl rfl (fc_147 _ _) wm_RX9_147 wi_yX9_quoted wl_yX9_quoted dX9_about_96,
   px_Sp.of (ps_goto dX9_about_99 (by decide)),
   px_Sp.of (ps_aload_n dX9_about_102 rfl),
   px_Sp.of (ps_iload_n dX9_about_103 rfl),
   ps_callV (IH 143 (by decide)) (C := RX9) (T := TX9) (N := 36) (ci := 8) rfl rfl (fc_143 _ _) wm_RX9_135 wi_yX9_isSeen wl_yX9_isSeen dX9_about_104,
   ps_callS (IH 135 (by decide)) (fc_135 _ _) wm_RX9_120 ws_yX9_one dX9_about_107,
   ps_iret dX9_about_110,
   px_Sp.of (ps_aload_n dX9_about_111 rfl),
   ps_callV (IH 148 (by decide)) (C := RX9) (T := TX9) (N := 36) (ci := 8) rfl rfl (fc_148 _ _) wm_RX9_152 wi_yX9_findParents wl_yX9_findParents dX9_about_112,
   px_Sp.of (ps_aload_n dX9_about_115 rfl),
   px_Sp.of (ps_iload_n dX9_about_116 rfl),
   ps_callV (IH 143 (by decide)) (C := RX9) (T := TX9) (N := 36) (ci := 8) rfl rfl (fc_143 _ _) wm_RX9_135 wi_yX9_isSeen wl_yX9_isSeen dX9_about_117,
   px_Sp.of (ps_if_ne dX9_about_120 (by decide)),
   px_Sp.of (ps_iconst dX9_about_123 (by decide)),
   ps_iret dX9_about_124,
   px_Sp.of (ps_iconst dX9_about_125 (by decide)),
   px_Sp.of (ps_istore_n dX9_about_126 rfl (by decide)),
   px_Sp.of (ps_iconst dX9_about_127 (by decide)),
   px_Sp.of (ps_istore dX9_about_128 (by decide)),
   px_Sp.of (ps_iconst dX9_about_130 (by decide)),
   px_Sp.of (ps_istore dX9_about_131 (by decide)),
   px_Sp.of (ps_iload dX9_about_133),
   px_Sp.of (ps_aload_n dX9_about_135 rfl),
   px_Sp.of (ps_get kc_X9 (by decide) wf_RX9_92 dX9_about_136),
   px_Sp.of (ps_icmp_ge dX9_about_139 (by decide)),
   px_Sp.of (ps_iload_n dX9_about_142 rfl),
   px_Sp.of (ps_aload_n dX9_about_143 rfl),
   px_Sp.of (ps_get kc_X9 (by decide) wf_RX9_54 dX9_about_144),
   px_Sp.of (ps_iload dX9_about_147),
   px_Sp.of (ps_iald dX9_about_149),
   px_Sp.of (ps_iload_n dX9_about_150 rfl),
   px_Sp.of (ps_icmp_ne dX9_about_151 (by decide)),
   px_Sp.of (ps_iconst dX9_about_154 (by decide)),
   px_Sp.of (ps_goto dX9_about_155 (by decide)),
   px_Sp.of (ps_iconst dX9_about_158 (by decide)),
   ps_callS (IH 135 (by decide)) (fc_135 _ _) wm_RX9_120 ws_yX9_one dX9_about_159,
   px_Sp.of (ps_iadd dX9_about_162),
   px_Sp.of (ps_istore_n dX9_about_163 rfl (by decide)),
   px_Sp.of (ps_iload dX9_about_164),
   px_Sp.of (ps_aload_n dX9_about_166 rfl),
   px_Sp.of (ps_iload dX9_about_167),
   ps_callV (IH 143 (by decide)) (C := RX9) (T := TX9) (N := 36) (ci := 8) rfl rfl (fc_143 _ _) wm_RX9_135 wi_yX9_isSeen wl_yX9_isSeen dX9_about_169,
   px_Sp.of (ps_if_eq dX9_about_172 (by decide)),
   px_Sp.of (ps_aload_n dX9_about_175 rfl),
   px_Sp.of (ps_iload dX9_about_176),
   ps_callV (IH 151 (by decide)) (C := RX9) (T := TX9) (N := 36) (ci := 8) rfl rfl (fc_151 _ _) wm_RX9_155 wi_yX9_rootOf wl_yX9_rootOf dX9_about_178,
   px_Sp.of (ps_aload_n dX9_about_181 rfl),
   px_Sp.of (ps_iload_n dX9_about_182 rfl),
   ps_callV (IH 151 (by decide)) (C := RX9) (T := TX9) (N := 36) (ci := 8) rfl rfl (fc_151 _ _) wm_RX9_155 wi_yX9_rootOf wl_yX9_rootOf dX9_about_183,
   px_Sp.of (ps_icmp_ne dX9_about_186 (by decide)),
   px_Sp.of (ps_iconst dX9_about_189 (by decide)),
   px_Sp.of (ps_goto dX9_about_190 (by decide)),
   px_Sp.of (ps_iconst dX9_about_193 (by decide)),
   ps_callS (IH 135 (by decide)) (fc_135 _ _) wm_RX9_120 ws_yX9_one dX9_about_194,
   px_Sp.of (ps_iadd dX9_about_197),
   px_Sp.of (ps_istore dX9_about_198 (by decide)),
   px_Sp.of (ps_iinc dX9_about_200 (by decide) (by decide)),
   px_Sp.of (ps_goto dX9_about_203 (by decide)),
   px_Sp.of (ps_iload_n dX9_about_206 rfl),
   px_Sp.of (ps_tsw dX9_about_207 (by decide) (by decide)),
   px_Sp.of (ps_aload_n dX9_about_240 rfl),
   px_Sp.of (ps_get kc_X9 (by decide) wf_RX9_54 dX9_about_241),
   px_Sp.of (ps_iload_n dX9_about_244 rfl),
   px_Sp.of (ps_iald dX9_about_245),
   ps_iret dX9_about_246,
   px_Sp.of (ps_aload_n dX9_about_247 rfl),
   px_Sp.of (ps_iload_n dX9_about_248 rfl),
   ps_callV (IH 151 (by decide)) (C := RX9) (T := TX9) (N := 36) (ci := 8) rfl rfl (fc_151 _ _) wm_RX9_155 wi_yX9_rootOf wl_yX9_rootOf dX9_about_249,
   ps_iret dX9_about_252,
   px_Sp.of (ps_aload_n dX9_about_253 rfl),
   px_Sp.of (ps_iload_n dX9_about_254 rfl),
   ps_callV (IH 152 (by decide)) (C := RX9) (T := TX9) (N := 36) (ci := 8) rfl rfl (fc_152 _ _) wm_RX9_158 wi_yX9_stepsOf wl_yX9_stepsOf dX9_about_255,
   ps_iret dX9_about_258,
   px_Sp.of (ps_iload_n dX9_about_259 rfl),
   ps_iret dX9_about_260,
   px_Sp.of (ps_iload dX9_about_261),
   ps_iret dX9_about_263,
   px_Sp.of (ps_aload_n dX9_about_264 rfl),
   px_Sp.of (ps_get kc_X9 (by decide) wf_RX9_54 dX9_about_265),
   px_Sp.of (ps_iload_n dX9_about_268 rfl),
   px_Sp.of (ps_iald dX9_about_269),
   px_Sp.of (ps_if_ge dX9_about_270 (by decide)),
   px_Sp.of (ps_iconst dX9_about_273 (by decide)),
   px_Sp.of (ps_goto dX9_about_274 (by decide)),
   px_Sp.of (ps_aload_n dX9_about_277 rfl),
   px_Sp.of (ps_iload_n dX9_about_278 rfl),
   px_Sp.of (ps_aload_n dX9_about_279 rfl),
   px_Sp.of (ps_get kc_X9 (by decide) wf_RX9_54 dX9_about_280),
   px_Sp.of (ps_iload_n dX9_about_283 rfl),
   px_Sp.of (ps_iald dX9_about_284),
   ps_callV (IH 144 (by decide)) (C := RX9) (T := TX9) (N := 36) (ci := 8) rfl rfl (fc_144 _ _) wm_RX9_138 wi_yX9_fitOf wl_yX9_fitOf dX9_about_285,
   ps_iret dX9_about_288, trivial⟩
theorem mt_146 {l : Launch} {d : Nat} (IH : ∀ μ, μ < 196 → px_Met l px_P d μ) : px_Met l px_P (d + 1) 146 := px_met (own := RX9) rfl (by decide +kernel) (ok_146 IH)
theorem dX9_quoted_0 : decode cX9_quoted 0 = .ok (.iconst 0, 1) := by decide +kernel
theorem dX9_quoted_1 : decode cX9_quoted 1 = .ok (.istore_n 2, 1) := by decide +kernel
theorem dX9_quoted_2 : decode cX9_quoted 2 = .ok (.iconst 0, 1) := by decide +kernel
theorem dX9_quoted_3 : decode cX9_quoted 3 = .ok (.istore_n 3, 1) := by decide +kernel
theorem dX9_quoted_4 : decode cX9_quoted 4 = .ok (.iload_n 3, 1) := by decide +kernel
theorem dX9_quoted_5 : decode cX9_quoted 5 = .ok (.aload_n 0, 1) := by decide +kernel
theorem dX9_quoted_6 : decode cX9_quoted 6 = .ok (.getfield 22, 3) := by decide +kernel
theorem dX9_quoted_9 : decode cX9_quoted 9 = .ok (.iload_n 1, 1) := by decide +kernel
theorem dX9_quoted_10 : decode cX9_quoted 10 = .ok (.iaload, 1) := by decide +kernel
theorem dX9_quoted_11 : decode cX9_quoted 11 = .ok (.if_icmp .ge 34, 3) := by decide +kernel
theorem dX9_quoted_14 : decode cX9_quoted 14 = .ok (.iload_n 2, 1) := by decide +kernel
theorem dX9_quoted_15 : decode cX9_quoted 15 = .ok (.aload_n 0, 1) := by decide +kernel
theorem dX9_quoted_16 : decode cX9_quoted 16 = .ok (.getfield 29, 3) := by decide +kernel
theorem dX9_quoted_19 : decode cX9_quoted 19 = .ok (.bipush 14, 2) := by decide +kernel
theorem dX9_quoted_21 : decode cX9_quoted 21 = .ok (.iload_n 1, 1) := by decide +kernel
theorem dX9_quoted_22 : decode cX9_quoted 22 = .ok (.imul, 1) := by decide +kernel
theorem dX9_quoted_23 : decode cX9_quoted 23 = .ok (.iload_n 3, 1) := by decide +kernel
theorem dX9_quoted_24 : decode cX9_quoted 24 = .ok (.iadd, 1) := by decide +kernel
theorem dX9_quoted_25 : decode cX9_quoted 25 = .ok (.iaload, 1) := by decide +kernel
theorem dX9_quoted_26 : decode cX9_quoted 26 = .ok (.ifCond .le 7, 3) := by decide +kernel
theorem dX9_quoted_29 : decode cX9_quoted 29 = .ok (.iconst 1, 1) := by decide +kernel
theorem dX9_quoted_30 : decode cX9_quoted 30 = .ok (.goto 4, 3) := by decide +kernel
theorem dX9_quoted_33 : decode cX9_quoted 33 = .ok (.iconst 0, 1) := by decide +kernel
theorem dX9_quoted_34 : decode cX9_quoted 34 = .ok (.invokestatic 120, 3) := by decide +kernel
theorem dX9_quoted_37 : decode cX9_quoted 37 = .ok (.iadd, 1) := by decide +kernel
theorem dX9_quoted_38 : decode cX9_quoted 38 = .ok (.istore_n 2, 1) := by decide +kernel
theorem dX9_quoted_39 : decode cX9_quoted 39 = .ok (.iinc 3 1, 3) := by decide +kernel
theorem dX9_quoted_42 : decode cX9_quoted 42 = .ok (.goto (-38), 3) := by decide +kernel
theorem dX9_quoted_45 : decode cX9_quoted 45 = .ok (.iload_n 2, 1) := by decide +kernel
theorem dX9_quoted_46 : decode cX9_quoted 46 = .ok (.ireturn, 1) := by decide +kernel
set_option maxRecDepth 20000 in
theorem ok_147 {l : Launch} {d : Nat} (IH : ∀ μ, μ < 196 → px_Met l px_P d μ) : px_ok l px_P d RX9 cX9_quoted 4 (some .int) tb_147 :=
  ⟨px_Sp.of (ps_iconst dX9_quoted_0 (by decide)),
   px_Sp.of (ps_istore_n dX9_quoted_1 rfl (by decide)),
   px_Sp.of (ps_iconst dX9_quoted_2 (by decide)),
   px_Sp.of (ps_istore_n dX9_quoted_3 rfl (by decide)),
   px_Sp.of (ps_iload_n dX9_quoted_4 rfl),
   px_Sp.of (ps_aload_n dX9_quoted_5 rfl),
   px_Sp.of (ps_get kc_X9 (by decide) wf_RX9_22 dX9_quoted_6),
   px_Sp.of (ps_iload_n dX9_quoted_9 rfl),
   px_Sp.of (ps_iald dX9_quoted_10),
   px_Sp.of (ps_icmp_ge dX9_quoted_11 (by decide)),
   px_Sp.of (ps_iload_n dX9_quoted_14 rfl),
   px_Sp.of (ps_aload_n dX9_quoted_15 rfl),
   px_Sp.of (ps_get kc_X9 (by decide) wf_RX9_29 dX9_quoted_16),
   px_Sp.of (ps_bipush dX9_quoted_19 (by decide)),
   px_Sp.of (ps_iload_n dX9_quoted_21 rfl),
   px_Sp.of (ps_imul dX9_quoted_22),
   px_Sp.of (ps_iload_n dX9_quoted_23 rfl),
   px_Sp.of (ps_iadd dX9_quoted_24),
   px_Sp.of (ps_iald dX9_quoted_25),
   px_Sp.of (ps_if_le dX9_quoted_26 (by decide)),
   px_Sp.of (ps_iconst dX9_quoted_29 (by decide)),
   px_Sp.of (ps_goto dX9_quoted_30 (by decide)),
   px_Sp.of (ps_iconst dX9_quoted_33 (by decide)),
   ps_callS (IH 135 (by decide)) (fc_135 _ _) wm_RX9_120 ws_yX9_one dX9_quoted_34,
   px_Sp.of (ps_iadd dX9_quoted_37),
   px_Sp.of (ps_istore_n dX9_quoted_38 rfl (by decide)),
   px_Sp.of (ps_iinc dX9_quoted_39 (by decide) (by decide)),
   px_Sp.of (ps_goto dX9_quoted_42 (by decide)),
   px_Sp.of (ps_iload_n dX9_quoted_45 rfl),
   ps_iret dX9_quoted_46, trivial⟩
theorem mt_147 {l : Launch} {d : Nat} (IH : ∀ μ, μ < 196 → px_Met l px_P d μ) : px_Met l px_P (d + 1) 147 := px_met (own := RX9) rfl (by decide +kernel) (ok_147 IH)
theorem dX9_findParents_0 : decode cX9_findParents 0 = .ok (.iconst 0, 1) := by decide +kernel
theorem dX9_findParents_1 : decode cX9_findParents 1 = .ok (.istore_n 1, 1) := by decide +kernel
theorem dX9_findParents_2 : decode cX9_findParents 2 = .ok (.iload_n 1, 1) := by decide +kernel
theorem dX9_findParents_3 : decode cX9_findParents 3 = .ok (.aload_n 0, 1) := by decide +kernel
theorem dX9_findParents_4 : decode cX9_findParents 4 = .ok (.getfield 92, 3) := by decide +kernel
theorem dX9_findParents_7 : decode cX9_findParents 7 = .ok (.if_icmp .ge 16, 3) := by decide +kernel
theorem dX9_findParents_10 : decode cX9_findParents 10 = .ok (.aload_n 0, 1) := by decide +kernel
theorem dX9_findParents_11 : decode cX9_findParents 11 = .ok (.getfield 54, 3) := by decide +kernel
theorem dX9_findParents_14 : decode cX9_findParents 14 = .ok (.iload_n 1, 1) := by decide +kernel
theorem dX9_findParents_15 : decode cX9_findParents 15 = .ok (.iconst (-1), 1) := by decide +kernel
theorem dX9_findParents_16 : decode cX9_findParents 16 = .ok (.iastore, 1) := by decide +kernel
theorem dX9_findParents_17 : decode cX9_findParents 17 = .ok (.iinc 1 1, 3) := by decide +kernel
theorem dX9_findParents_20 : decode cX9_findParents 20 = .ok (.goto (-18), 3) := by decide +kernel
theorem dX9_findParents_23 : decode cX9_findParents 23 = .ok (.iconst 0, 1) := by decide +kernel
theorem dX9_findParents_24 : decode cX9_findParents 24 = .ok (.istore_n 1, 1) := by decide +kernel
theorem dX9_findParents_25 : decode cX9_findParents 25 = .ok (.iload_n 1, 1) := by decide +kernel
theorem dX9_findParents_26 : decode cX9_findParents 26 = .ok (.aload_n 0, 1) := by decide +kernel
theorem dX9_findParents_27 : decode cX9_findParents 27 = .ok (.getfield 92, 3) := by decide +kernel
theorem dX9_findParents_30 : decode cX9_findParents 30 = .ok (.if_icmp .ge 80, 3) := by decide +kernel
theorem dX9_findParents_33 : decode cX9_findParents 33 = .ok (.aload_n 0, 1) := by decide +kernel
theorem dX9_findParents_34 : decode cX9_findParents 34 = .ok (.iload_n 1, 1) := by decide +kernel
theorem dX9_findParents_35 : decode cX9_findParents 35 = .ok (.invokevirtual 135, 3) := by decide +kernel
theorem dX9_findParents_38 : decode cX9_findParents 38 = .ok (.ifCond .eq 66, 3) := by decide +kernel
theorem dX9_findParents_41 : decode cX9_findParents 41 = .ok (.aload_n 0, 1) := by decide +kernel
theorem dX9_findParents_42 : decode cX9_findParents 42 = .ok (.getfield 19, 3) := by decide +kernel
theorem dX9_findParents_45 : decode cX9_findParents 45 = .ok (.iload_n 1, 1) := by decide +kernel
theorem dX9_findParents_46 : decode cX9_findParents 46 = .ok (.iaload, 1) := by decide +kernel
theorem dX9_findParents_47 : decode cX9_findParents 47 = .ok (.istore_n 2, 1) := by decide +kernel
theorem dX9_findParents_48 : decode cX9_findParents 48 = .ok (.iload_n 2, 1) := by decide +kernel
theorem dX9_findParents_49 : decode cX9_findParents 49 = .ok (.ifCond .lt 34, 3) := by decide +kernel
theorem dX9_findParents_52 : decode cX9_findParents 52 = .ok (.aload_n 0, 1) := by decide +kernel
theorem dX9_findParents_53 : decode cX9_findParents 53 = .ok (.getfield 7, 3) := by decide +kernel
theorem dX9_findParents_56 : decode cX9_findParents 56 = .ok (.iconst 2, 1) := by decide +kernel
theorem dX9_findParents_57 : decode cX9_findParents 57 = .ok (.iaload, 1) := by decide +kernel
theorem dX9_findParents_58 : decode cX9_findParents 58 = .ok (.iconst 1, 1) := by decide +kernel
theorem dX9_findParents_59 : decode cX9_findParents 59 = .ok (.if_icmp .ne 24, 3) := by decide +kernel
theorem dX9_findParents_62 : decode cX9_findParents 62 = .ok (.aload_n 0, 1) := by decide +kernel
theorem dX9_findParents_63 : decode cX9_findParents 63 = .ok (.iload_n 2, 1) := by decide +kernel
theorem dX9_findParents_64 : decode cX9_findParents 64 = .ok (.invokevirtual 135, 3) := by decide +kernel
theorem dX9_findParents_67 : decode cX9_findParents 67 = .ok (.ifCond .eq 16, 3) := by decide +kernel
theorem dX9_findParents_70 : decode cX9_findParents 70 = .ok (.aload_n 0, 1) := by decide +kernel
theorem dX9_findParents_71 : decode cX9_findParents 71 = .ok (.iload_n 2, 1) := by decide +kernel
theorem dX9_findParents_72 : decode cX9_findParents 72 = .ok (.iload_n 1, 1) := by decide +kernel
theorem dX9_findParents_73 : decode cX9_findParents 73 = .ok (.invokevirtual 141, 3) := by decide +kernel
theorem dX9_findParents_76 : decode cX9_findParents 76 = .ok (.ifCond .ne 7, 3) := by decide +kernel
theorem dX9_findParents_79 : decode cX9_findParents 79 = .ok (.iconst 1, 1) := by decide +kernel
theorem dX9_findParents_80 : decode cX9_findParents 80 = .ok (.goto 4, 3) := by decide +kernel
theorem dX9_findParents_83 : decode cX9_findParents 83 = .ok (.iconst 0, 1) := by decide +kernel
theorem dX9_findParents_84 : decode cX9_findParents 84 = .ok (.istore_n 3, 1) := by decide +kernel
theorem dX9_findParents_85 : decode cX9_findParents 85 = .ok (.aload_n 0, 1) := by decide +kernel
theorem dX9_findParents_86 : decode cX9_findParents 86 = .ok (.getfield 54, 3) := by decide +kernel
theorem dX9_findParents_89 : decode cX9_findParents 89 = .ok (.iload_n 1, 1) := by decide +kernel
theorem dX9_findParents_90 : decode cX9_findParents 90 = .ok (.iload_n 3, 1) := by decide +kernel
theorem dX9_findParents_91 : decode cX9_findParents 91 = .ok (.ifCond .eq 7, 3) := by decide +kernel
theorem dX9_findParents_94 : decode cX9_findParents 94 = .ok (.iload_n 2, 1) := by decide +kernel
theorem dX9_findParents_95 : decode cX9_findParents 95 = .ok (.goto 8, 3) := by decide +kernel
theorem dX9_findParents_98 : decode cX9_findParents 98 = .ok (.aload_n 0, 1) := by decide +kernel
theorem dX9_findParents_99 : decode cX9_findParents 99 = .ok (.iload_n 1, 1) := by decide +kernel
theorem dX9_findParents_100 : decode cX9_findParents 100 = .ok (.invokevirtual 144, 3) := by decide +kernel
theorem dX9_findParents_103 : decode cX9_findParents 103 = .ok (.iastore, 1) := by decide +kernel
theorem dX9_findParents_104 : decode cX9_findParents 104 = .ok (.iinc 1 1, 3) := by decide +kernel
theorem dX9_findParents_107 : decode cX9_findParents 107 = .ok (.goto (-82), 3) := by decide +kernel
theorem dX9_findParents_110 : decode cX9_findParents 110 = .ok (.return_, 1) := by decide +kernel
set_option maxRecDepth 20000 in
theorem ok_148 {l : Launch} {d : Nat} (IH : ∀ μ, μ < 196 → px_Met l px_P d μ) : px_ok l px_P d RX9 cX9_findParents 4 (none) tb_148 :=
  ⟨px_Sp.of (ps_iconst dX9_findParents_0 (by decide)),
   px_Sp.of (ps_istore_n dX9_findParents_1 rfl (by decide)),
   px_Sp.of (ps_iload_n dX9_findParents_2 rfl),
   px_Sp.of (ps_aload_n dX9_findParents_3 rfl),
   px_Sp.of (ps_get kc_X9 (by decide) wf_RX9_92 dX9_findParents_4),
   px_Sp.of (ps_icmp_ge dX9_findParents_7 (by decide)),
   px_Sp.of (ps_aload_n dX9_findParents_10 rfl),
   px_Sp.of (ps_get kc_X9 (by decide) wf_RX9_54 dX9_findParents_11),
   px_Sp.of (ps_iload_n dX9_findParents_14 rfl),
   px_Sp.of (ps_iconst dX9_findParents_15 (by decide)),
   px_Sp.ofm (ps_iast dX9_findParents_16),
   px_Sp.of (ps_iinc dX9_findParents_17 (by decide) (by decide)),
   px_Sp.of (ps_goto dX9_findParents_20 (by decide)),
   px_Sp.of (ps_iconst dX9_findParents_23 (by decide)),
   px_Sp.of (ps_istore_n dX9_findParents_24 rfl (by decide)),
   px_Sp.of (ps_iload_n dX9_findParents_25 rfl),
   px_Sp.of (ps_aload_n dX9_findParents_26 rfl),
   px_Sp.of (ps_get kc_X9 (by decide) wf_RX9_92 dX9_findParents_27),
   px_Sp.of (ps_icmp_ge dX9_findParents_30 (by decide)),
   px_Sp.of (ps_aload_n dX9_findParents_33 rfl),
   px_Sp.of (ps_iload_n dX9_findParents_34 rfl),
   ps_callV (IH 143 (by decide)) (C := RX9) (T := TX9) (N := 36) (ci := 8) rfl rfl (fc_143 _ _) wm_RX9_135 wi_yX9_isSeen wl_yX9_isSeen dX9_findParents_35,
   px_Sp.of (ps_if_eq dX9_findParents_38 (by decide)),
   px_Sp.of (ps_aload_n dX9_findParents_41 rfl),
   px_Sp.of (ps_get kc_X9 (by decide) wf_RX9_19 dX9_findParents_42),
   px_Sp.of (ps_iload_n dX9_findParents_45 rfl),
   px_Sp.of (ps_iald dX9_findParents_46),
   px_Sp.of (ps_istore_n dX9_findParents_47 rfl (by decide)),
   px_Sp.of (ps_iload_n dX9_findParents_48 rfl),
   px_Sp.of (ps_if_lt dX9_findParents_49 (by decide)),
   px_Sp.of (ps_aload_n dX9_findParents_52 rfl),
   px_Sp.of (ps_get kc_X9 (by decide) wf_RX9_7 dX9_findParents_53),
   px_Sp.of (ps_iconst dX9_findParents_56 (by decide)),
   px_Sp.of (ps_iald dX9_findParents_57),
   px_Sp.of (ps_iconst dX9_findParents_58 (by decide)),
   px_Sp.of (ps_icmp_ne dX9_findParents_59 (by decide)),
   px_Sp.of (ps_aload_n dX9_findParents_62 rfl),
   px_Sp.of (ps_iload_n dX9_findParents_63 rfl),
   ps_callV (IH 143 (by decide)) (C := RX9) (T := TX9) (N := 36) (ci := 8) rfl rfl (fc_143 _ _) wm_RX9_135 wi_yX9_isSeen wl_yX9_isSeen dX9_findParents_64,
   px_Sp.of (ps_if_eq dX9_findParents_67 (by decide)),
   px_Sp.of (ps_aload_n dX9_findParents_70 rfl),
   px_Sp.of (ps_iload_n dX9_findParents_71 rfl),
   px_Sp.of (ps_iload_n dX9_findParents_72 rfl),
   ps_callV (IH 149 (by decide)) (C := RX9) (T := TX9) (N := 36) (ci := 8) rfl rfl (fc_149 _ _) wm_RX9_141 wi_yX9_comesTo wl_yX9_comesTo dX9_findParents_73,
   px_Sp.of (ps_if_ne dX9_findParents_76 (by decide)),
   px_Sp.of (ps_iconst dX9_findParents_79 (by decide)),
   px_Sp.of (ps_goto dX9_findParents_80 (by decide)),
   px_Sp.of (ps_iconst dX9_findParents_83 (by decide)),
   px_Sp.of (ps_istore_n dX9_findParents_84 rfl (by decide)),
   px_Sp.of (ps_aload_n dX9_findParents_85 rfl),
   px_Sp.of (ps_get kc_X9 (by decide) wf_RX9_54 dX9_findParents_86),
   px_Sp.of (ps_iload_n dX9_findParents_89 rfl),
   px_Sp.of (ps_iload_n dX9_findParents_90 rfl),
   px_Sp.of (ps_if_eq dX9_findParents_91 (by decide)),
   px_Sp.of (ps_iload_n dX9_findParents_94 rfl),
   px_Sp.of (ps_goto dX9_findParents_95 (by decide)),
   px_Sp.of (ps_aload_n dX9_findParents_98 rfl),
   px_Sp.of (ps_iload_n dX9_findParents_99 rfl),
   ps_callV (IH 150 (by decide)) (C := RX9) (T := TX9) (N := 36) (ci := 8) rfl rfl (fc_150 _ _) wm_RX9_144 wi_yX9_fitting wl_yX9_fitting dX9_findParents_100,
   px_Sp.ofm (ps_iast dX9_findParents_103),
   px_Sp.of (ps_iinc dX9_findParents_104 (by decide) (by decide)),
   px_Sp.of (ps_goto dX9_findParents_107 (by decide)),
   ps_vret dX9_findParents_110, trivial⟩
theorem mt_148 {l : Launch} {d : Nat} (IH : ∀ μ, μ < 196 → px_Met l px_P d μ) : px_Met l px_P (d + 1) 148 := px_met (own := RX9) rfl (by decide +kernel) (ok_148 IH)
theorem dX9_comesTo_0 : decode cX9_comesTo 0 = .ok (.iload_n 1, 1) := by decide +kernel
theorem dX9_comesTo_1 : decode cX9_comesTo 1 = .ok (.istore_n 3, 1) := by decide +kernel
theorem dX9_comesTo_2 : decode cX9_comesTo 2 = .ok (.iload_n 3, 1) := by decide +kernel
theorem dX9_comesTo_3 : decode cX9_comesTo 3 = .ok (.ifCond .lt 18, 3) := by decide +kernel
theorem dX9_comesTo_6 : decode cX9_comesTo 6 = .ok (.iload_n 3, 1) := by decide +kernel
theorem dX9_comesTo_7 : decode cX9_comesTo 7 = .ok (.iload_n 2, 1) := by decide +kernel
theorem dX9_comesTo_8 : decode cX9_comesTo 8 = .ok (.if_icmp .eq 13, 3) := by decide +kernel
theorem dX9_comesTo_11 : decode cX9_comesTo 11 = .ok (.aload_n 0, 1) := by decide +kernel
theorem dX9_comesTo_12 : decode cX9_comesTo 12 = .ok (.getfield 54, 3) := by decide +kernel
theorem dX9_comesTo_15 : decode cX9_comesTo 15 = .ok (.iload_n 3, 1) := by decide +kernel
theorem dX9_comesTo_16 : decode cX9_comesTo 16 = .ok (.iaload, 1) := by decide +kernel
theorem dX9_comesTo_17 : decode cX9_comesTo 17 = .ok (.istore_n 3, 1) := by decide +kernel
theorem dX9_comesTo_18 : decode cX9_comesTo 18 = .ok (.goto (-16), 3) := by decide +kernel
theorem dX9_comesTo_21 : decode cX9_comesTo 21 = .ok (.iload_n 3, 1) := by decide +kernel
theorem dX9_comesTo_22 : decode cX9_comesTo 22 = .ok (.iload_n 2, 1) := by decide +kernel
theorem dX9_comesTo_23 : decode cX9_comesTo 23 = .ok (.if_icmp .ne 7, 3) := by decide +kernel
theorem dX9_comesTo_26 : decode cX9_comesTo 26 = .ok (.iconst 1, 1) := by decide +kernel
theorem dX9_comesTo_27 : decode cX9_comesTo 27 = .ok (.goto 4, 3) := by decide +kernel
theorem dX9_comesTo_30 : decode cX9_comesTo 30 = .ok (.iconst 0, 1) := by decide +kernel
theorem dX9_comesTo_31 : decode cX9_comesTo 31 = .ok (.ireturn, 1) := by decide +kernel
set_option maxRecDepth 20000 in
theorem ok_149 {l : Launch} {d : Nat} (IH : ∀ μ, μ < 196 → px_Met l px_P d μ) : px_ok l px_P d RX9 cX9_comesTo 4 (some .boolean) tb_149 :=
  ⟨px_Sp.of (ps_iload_n dX9_comesTo_0 rfl),
   px_Sp.of (ps_istore_n dX9_comesTo_1 rfl (by decide)),
   px_Sp.of (ps_iload_n dX9_comesTo_2 rfl),
   px_Sp.of (ps_if_lt dX9_comesTo_3 (by decide)),
   px_Sp.of (ps_iload_n dX9_comesTo_6 rfl),
   px_Sp.of (ps_iload_n dX9_comesTo_7 rfl),
   px_Sp.of (ps_icmp_eq dX9_comesTo_8 (by decide)),
   px_Sp.of (ps_aload_n dX9_comesTo_11 rfl),
   px_Sp.of (ps_get kc_X9 (by decide) wf_RX9_54 dX9_comesTo_12),
   px_Sp.of (ps_iload_n dX9_comesTo_15 rfl),
   px_Sp.of (ps_iald dX9_comesTo_16),
   px_Sp.of (ps_istore_n dX9_comesTo_17 rfl (by decide)),
   px_Sp.of (ps_goto dX9_comesTo_18 (by decide)),
   px_Sp.of (ps_iload_n dX9_comesTo_21 rfl),
   px_Sp.of (ps_iload_n dX9_comesTo_22 rfl),
   px_Sp.of (ps_icmp_ne dX9_comesTo_23 (by decide)),
   px_Sp.of (ps_iconst dX9_comesTo_26 (by decide)),
   px_Sp.of (ps_goto dX9_comesTo_27 (by decide)),
   px_Sp.of (ps_iconst dX9_comesTo_30 (by decide)),
   ps_zret dX9_comesTo_31, trivial⟩
theorem mt_149 {l : Launch} {d : Nat} (IH : ∀ μ, μ < 196 → px_Met l px_P d μ) : px_Met l px_P (d + 1) 149 := px_met (own := RX9) rfl (by decide +kernel) (ok_149 IH)
theorem dX9_fitting_0 : decode cX9_fitting 0 = .ok (.iconst (-1), 1) := by decide +kernel
theorem dX9_fitting_1 : decode cX9_fitting 1 = .ok (.istore_n 2, 1) := by decide +kernel
theorem dX9_fitting_2 : decode cX9_fitting 2 = .ok (.iconst 0, 1) := by decide +kernel
theorem dX9_fitting_3 : decode cX9_fitting 3 = .ok (.istore_n 3, 1) := by decide +kernel
theorem dX9_fitting_4 : decode cX9_fitting 4 = .ok (.aload_n 0, 1) := by decide +kernel
theorem dX9_fitting_5 : decode cX9_fitting 5 = .ok (.iload_n 1, 1) := by decide +kernel
theorem dX9_fitting_6 : decode cX9_fitting 6 = .ok (.invokevirtual 147, 3) := by decide +kernel
theorem dX9_fitting_9 : decode cX9_fitting 9 = .ok (.istore 4, 2) := by decide +kernel
theorem dX9_fitting_11 : decode cX9_fitting 11 = .ok (.iconst 0, 1) := by decide +kernel
theorem dX9_fitting_12 : decode cX9_fitting 12 = .ok (.istore 5, 2) := by decide +kernel
theorem dX9_fitting_14 : decode cX9_fitting 14 = .ok (.iload 5, 2) := by decide +kernel
theorem dX9_fitting_16 : decode cX9_fitting 16 = .ok (.aload_n 0, 1) := by decide +kernel
theorem dX9_fitting_17 : decode cX9_fitting 17 = .ok (.getfield 92, 3) := by decide +kernel
theorem dX9_fitting_20 : decode cX9_fitting 20 = .ok (.if_icmp .ge 115, 3) := by decide +kernel
theorem dX9_fitting_23 : decode cX9_fitting 23 = .ok (.iload 5, 2) := by decide +kernel
theorem dX9_fitting_25 : decode cX9_fitting 25 = .ok (.iload_n 1, 1) := by decide +kernel
theorem dX9_fitting_26 : decode cX9_fitting 26 = .ok (.if_icmp .eq 32, 3) := by decide +kernel
theorem dX9_fitting_29 : decode cX9_fitting 29 = .ok (.aload_n 0, 1) := by decide +kernel
theorem dX9_fitting_30 : decode cX9_fitting 30 = .ok (.getfield 16, 3) := by decide +kernel
theorem dX9_fitting_33 : decode cX9_fitting 33 = .ok (.iload_n 1, 1) := by decide +kernel
theorem dX9_fitting_34 : decode cX9_fitting 34 = .ok (.iaload, 1) := by decide +kernel
theorem dX9_fitting_35 : decode cX9_fitting 35 = .ok (.ifCond .lt 23, 3) := by decide +kernel
theorem dX9_fitting_38 : decode cX9_fitting 38 = .ok (.aload_n 0, 1) := by decide +kernel
theorem dX9_fitting_39 : decode cX9_fitting 39 = .ok (.getfield 16, 3) := by decide +kernel
theorem dX9_fitting_42 : decode cX9_fitting 42 = .ok (.iload 5, 2) := by decide +kernel
theorem dX9_fitting_44 : decode cX9_fitting 44 = .ok (.iaload, 1) := by decide +kernel
theorem dX9_fitting_45 : decode cX9_fitting 45 = .ok (.aload_n 0, 1) := by decide +kernel
theorem dX9_fitting_46 : decode cX9_fitting 46 = .ok (.getfield 16, 3) := by decide +kernel
theorem dX9_fitting_49 : decode cX9_fitting 49 = .ok (.iload_n 1, 1) := by decide +kernel
theorem dX9_fitting_50 : decode cX9_fitting 50 = .ok (.iaload, 1) := by decide +kernel
theorem dX9_fitting_51 : decode cX9_fitting 51 = .ok (.if_icmp .le 7, 3) := by decide +kernel
theorem dX9_fitting_54 : decode cX9_fitting 54 = .ok (.iconst 1, 1) := by decide +kernel
theorem dX9_fitting_55 : decode cX9_fitting 55 = .ok (.goto 4, 3) := by decide +kernel
theorem dX9_fitting_58 : decode cX9_fitting 58 = .ok (.iconst 0, 1) := by decide +kernel
theorem dX9_fitting_59 : decode cX9_fitting 59 = .ok (.istore 6, 2) := by decide +kernel
theorem dX9_fitting_61 : decode cX9_fitting 61 = .ok (.iload 5, 2) := by decide +kernel
theorem dX9_fitting_63 : decode cX9_fitting 63 = .ok (.iload_n 1, 1) := by decide +kernel
theorem dX9_fitting_64 : decode cX9_fitting 64 = .ok (.if_icmp .eq 65, 3) := by decide +kernel
theorem dX9_fitting_67 : decode cX9_fitting 67 = .ok (.aload_n 0, 1) := by decide +kernel
theorem dX9_fitting_68 : decode cX9_fitting 68 = .ok (.iload 5, 2) := by decide +kernel
theorem dX9_fitting_70 : decode cX9_fitting 70 = .ok (.invokevirtual 135, 3) := by decide +kernel
theorem dX9_fitting_73 : decode cX9_fitting 73 = .ok (.ifCond .eq 56, 3) := by decide +kernel
theorem dX9_fitting_76 : decode cX9_fitting 76 = .ok (.iload 6, 2) := by decide +kernel
theorem dX9_fitting_78 : decode cX9_fitting 78 = .ok (.ifCond .ne 51, 3) := by decide +kernel
theorem dX9_fitting_81 : decode cX9_fitting 81 = .ok (.aload_n 0, 1) := by decide +kernel
theorem dX9_fitting_82 : decode cX9_fitting 82 = .ok (.iload 5, 2) := by decide +kernel
theorem dX9_fitting_84 : decode cX9_fitting 84 = .ok (.iload_n 1, 1) := by decide +kernel
theorem dX9_fitting_85 : decode cX9_fitting 85 = .ok (.invokevirtual 141, 3) := by decide +kernel
theorem dX9_fitting_88 : decode cX9_fitting 88 = .ok (.ifCond .ne 41, 3) := by decide +kernel
theorem dX9_fitting_91 : decode cX9_fitting 91 = .ok (.aload_n 0, 1) := by decide +kernel
theorem dX9_fitting_92 : decode cX9_fitting 92 = .ok (.iload_n 1, 1) := by decide +kernel
theorem dX9_fitting_93 : decode cX9_fitting 93 = .ok (.iload 5, 2) := by decide +kernel
theorem dX9_fitting_95 : decode cX9_fitting 95 = .ok (.invokevirtual 138, 3) := by decide +kernel
theorem dX9_fitting_98 : decode cX9_fitting 98 = .ok (.istore 7, 2) := by decide +kernel
theorem dX9_fitting_100 : decode cX9_fitting 100 = .ok (.iload 7, 2) := by decide +kernel
theorem dX9_fitting_102 : decode cX9_fitting 102 = .ok (.iload_n 3, 1) := by decide +kernel
theorem dX9_fitting_103 : decode cX9_fitting 103 = .ok (.if_icmp .le 26, 3) := by decide +kernel
theorem dX9_fitting_106 : decode cX9_fitting 106 = .ok (.bipush 100, 2) := by decide +kernel
theorem dX9_fitting_108 : decode cX9_fitting 108 = .ok (.iload 7, 2) := by decide +kernel
theorem dX9_fitting_110 : decode cX9_fitting 110 = .ok (.imul, 1) := by decide +kernel
theorem dX9_fitting_111 : decode cX9_fitting 111 = .ok (.aload_n 0, 1) := by decide +kernel
theorem dX9_fitting_112 : decode cX9_fitting 112 = .ok (.getfield 7, 3) := by decide +kernel
theorem dX9_fitting_115 : decode cX9_fitting 115 = .ok (.iconst 1, 1) := by decide +kernel
theorem dX9_fitting_116 : decode cX9_fitting 116 = .ok (.iaload, 1) := by decide +kernel
theorem dX9_fitting_117 : decode cX9_fitting 117 = .ok (.iload 4, 2) := by decide +kernel
theorem dX9_fitting_119 : decode cX9_fitting 119 = .ok (.imul, 1) := by decide +kernel
theorem dX9_fitting_120 : decode cX9_fitting 120 = .ok (.if_icmp .lt 9, 3) := by decide +kernel
theorem dX9_fitting_123 : decode cX9_fitting 123 = .ok (.iload 5, 2) := by decide +kernel
theorem dX9_fitting_125 : decode cX9_fitting 125 = .ok (.istore_n 2, 1) := by decide +kernel
theorem dX9_fitting_126 : decode cX9_fitting 126 = .ok (.iload 7, 2) := by decide +kernel
theorem dX9_fitting_128 : decode cX9_fitting 128 = .ok (.istore_n 3, 1) := by decide +kernel
theorem dX9_fitting_129 : decode cX9_fitting 129 = .ok (.iinc 5 1, 3) := by decide +kernel
theorem dX9_fitting_132 : decode cX9_fitting 132 = .ok (.goto (-118), 3) := by decide +kernel
theorem dX9_fitting_135 : decode cX9_fitting 135 = .ok (.iload_n 2, 1) := by decide +kernel
theorem dX9_fitting_136 : decode cX9_fitting 136 = .ok (.ireturn, 1) := by decide +kernel
set_option maxRecDepth 20000 in
theorem ok_150 {l : Launch} {d : Nat} (IH : ∀ μ, μ < 196 → px_Met l px_P d μ) : px_ok l px_P d RX9 cX9_fitting 8 (some .int) tb_150 :=
  ⟨px_Sp.of (ps_iconst dX9_fitting_0 (by decide)),
   px_Sp.of (ps_istore_n dX9_fitting_1 rfl (by decide)),
   px_Sp.of (ps_iconst dX9_fitting_2 (by decide)),
   px_Sp.of (ps_istore_n dX9_fitting_3 rfl (by decide)),
   px_Sp.of (ps_aload_n dX9_fitting_4 rfl),
   px_Sp.of (ps_iload_n dX9_fitting_5 rfl),
   ps_callV (IH 147 (by decide)) (C := RX9) (T := TX9) (N := 36) (ci := 8) rfl rfl (fc_147 _ _) wm_RX9_147 wi_yX9_quoted wl_yX9_quoted dX9_fitting_6,
   px_Sp.of (ps_istore dX9_fitting_9 (by decide)),
   px_Sp.of (ps_iconst dX9_fitting_11 (by decide)),
   px_Sp.of (ps_istore dX9_fitting_12 (by decide)),
   px_Sp.of (ps_iload dX9_fitting_14),
   px_Sp.of (ps_aload_n dX9_fitting_16 rfl),
   px_Sp.of (ps_get kc_X9 (by decide) wf_RX9_92 dX9_fitting_17),
   px_Sp.of (ps_icmp_ge dX9_fitting_20 (by decide)),
   px_Sp.of (ps_iload dX9_fitting_23),
   px_Sp.of (ps_iload_n dX9_fitting_25 rfl),
   px_Sp.of (ps_icmp_eq dX9_fitting_26 (by decide)),
   px_Sp.of (ps_aload_n dX9_fitting_29 rfl),
   px_Sp.of (ps_get kc_X9 (by decide) wf_RX9_16 dX9_fitting_30),
   px_Sp.of (ps_iload_n dX9_fitting_33 rfl),
   px_Sp.of (ps_iald dX9_fitting_34),
   px_Sp.of (ps_if_lt dX9_fitting_35 (by decide)),
   px_Sp.of (ps_aload_n dX9_fitting_38 rfl),
   px_Sp.of (ps_get kc_X9 (by decide) wf_RX9_16 dX9_fitting_39),
   px_Sp.of (ps_iload dX9_fitting_42),
   px_Sp.of (ps_iald dX9_fitting_44),
   px_Sp.of (ps_aload_n dX9_fitting_45 rfl),
   px_Sp.of (ps_get kc_X9 (by decide) wf_RX9_16 dX9_fitting_46),
   px_Sp.of (ps_iload_n dX9_fitting_49 rfl),
   px_Sp.of (ps_iald dX9_fitting_50),
   px_Sp.of (ps_icmp_le dX9_fitting_51 (by decide)),
   px_Sp.of (ps_iconst dX9_fitting_54 (by decide)),
   px_Sp.of (ps_goto dX9_fitting_55 (by decide)),
   px_Sp.of (ps_iconst dX9_fitting_58 (by decide)),
   px_Sp.of (ps_istore dX9_fitting_59 (by decide)),
   px_Sp.of (ps_iload dX9_fitting_61),
   px_Sp.of (ps_iload_n dX9_fitting_63 rfl),
   px_Sp.of (ps_icmp_eq dX9_fitting_64 (by decide)),
   px_Sp.of (ps_aload_n dX9_fitting_67 rfl),
   px_Sp.of (ps_iload dX9_fitting_68),
   ps_callV (IH 143 (by decide)) (C := RX9) (T := TX9) (N := 36) (ci := 8) rfl rfl (fc_143 _ _) wm_RX9_135 wi_yX9_isSeen wl_yX9_isSeen dX9_fitting_70,
   px_Sp.of (ps_if_eq dX9_fitting_73 (by decide)),
   px_Sp.of (ps_iload dX9_fitting_76),
   px_Sp.of (ps_if_ne dX9_fitting_78 (by decide)),
   px_Sp.of (ps_aload_n dX9_fitting_81 rfl),
   px_Sp.of (ps_iload dX9_fitting_82),
   px_Sp.of (ps_iload_n dX9_fitting_84 rfl),
   ps_callV (IH 149 (by decide)) (C := RX9) (T := TX9) (N := 36) (ci := 8) rfl rfl (fc_149 _ _) wm_RX9_141 wi_yX9_comesTo wl_yX9_comesTo dX9_fitting_85,
   px_Sp.of (ps_if_ne dX9_fitting_88 (by decide)),
   px_Sp.of (ps_aload_n dX9_fitting_91 rfl),
   px_Sp.of (ps_iload_n dX9_fitting_92 rfl),
   px_Sp.of (ps_iload dX9_fitting_93),
   ps_callV (IH 144 (by decide)) (C := RX9) (T := TX9) (N := 36) (ci := 8) rfl rfl (fc_144 _ _) wm_RX9_138 wi_yX9_fitOf wl_yX9_fitOf dX9_fitting_95,
   px_Sp.of (ps_istore dX9_fitting_98 (by decide)),
   px_Sp.of (ps_iload dX9_fitting_100),
   px_Sp.of (ps_iload_n dX9_fitting_102 rfl),
   px_Sp.of (ps_icmp_le dX9_fitting_103 (by decide)),
   px_Sp.of (ps_bipush dX9_fitting_106 (by decide)),
   px_Sp.of (ps_iload dX9_fitting_108),
   px_Sp.of (ps_imul dX9_fitting_110),
   px_Sp.of (ps_aload_n dX9_fitting_111 rfl),
   px_Sp.of (ps_get kc_X9 (by decide) wf_RX9_7 dX9_fitting_112),
   px_Sp.of (ps_iconst dX9_fitting_115 (by decide)),
   px_Sp.of (ps_iald dX9_fitting_116),
   px_Sp.of (ps_iload dX9_fitting_117),
   px_Sp.of (ps_imul dX9_fitting_119),
   px_Sp.of (ps_icmp_lt dX9_fitting_120 (by decide)),
   px_Sp.of (ps_iload dX9_fitting_123),
   px_Sp.of (ps_istore_n dX9_fitting_125 rfl (by decide)),
   px_Sp.of (ps_iload dX9_fitting_126),
   px_Sp.of (ps_istore_n dX9_fitting_128 rfl (by decide)),
   px_Sp.of (ps_iinc dX9_fitting_129 (by decide) (by decide)),
   px_Sp.of (ps_goto dX9_fitting_132 (by decide)),
   px_Sp.of (ps_iload_n dX9_fitting_135 rfl),
   ps_iret dX9_fitting_136, trivial⟩
theorem mt_150 {l : Launch} {d : Nat} (IH : ∀ μ, μ < 196 → px_Met l px_P d μ) : px_Met l px_P (d + 1) 150 := px_met (own := RX9) rfl (by decide +kernel) (ok_150 IH)
theorem dX9_rootOf_0 : decode cX9_rootOf 0 = .ok (.iload_n 1, 1) := by decide +kernel
theorem dX9_rootOf_1 : decode cX9_rootOf 1 = .ok (.istore_n 2, 1) := by decide +kernel
theorem dX9_rootOf_2 : decode cX9_rootOf 2 = .ok (.aload_n 0, 1) := by decide +kernel
theorem dX9_rootOf_3 : decode cX9_rootOf 3 = .ok (.getfield 54, 3) := by decide +kernel
theorem dX9_rootOf_6 : decode cX9_rootOf 6 = .ok (.iload_n 2, 1) := by decide +kernel
theorem dX9_rootOf_7 : decode cX9_rootOf 7 = .ok (.iaload, 1) := by decide +kernel
theorem dX9_rootOf_8 : decode cX9_rootOf 8 = .ok (.ifCond .lt 13, 3) := by decide +kernel
theorem dX9_rootOf_11 : decode cX9_rootOf 11 = .ok (.aload_n 0, 1) := by decide +kernel
theorem dX9_rootOf_12 : decode cX9_rootOf 12 = .ok (.getfield 54, 3) := by decide +kernel
theorem dX9_rootOf_15 : decode cX9_rootOf 15 = .ok (.iload_n 2, 1) := by decide +kernel
theorem dX9_rootOf_16 : decode cX9_rootOf 16 = .ok (.iaload, 1) := by decide +kernel
theorem dX9_rootOf_17 : decode cX9_rootOf 17 = .ok (.istore_n 2, 1) := by decide +kernel
theorem dX9_rootOf_18 : decode cX9_rootOf 18 = .ok (.goto (-16), 3) := by decide +kernel
theorem dX9_rootOf_21 : decode cX9_rootOf 21 = .ok (.iload_n 2, 1) := by decide +kernel
theorem dX9_rootOf_22 : decode cX9_rootOf 22 = .ok (.ireturn, 1) := by decide +kernel
set_option maxRecDepth 20000 in
theorem ok_151 {l : Launch} {d : Nat} (IH : ∀ μ, μ < 196 → px_Met l px_P d μ) : px_ok l px_P d RX9 cX9_rootOf 3 (some .int) tb_151 :=
  ⟨px_Sp.of (ps_iload_n dX9_rootOf_0 rfl),
   px_Sp.of (ps_istore_n dX9_rootOf_1 rfl (by decide)),
   px_Sp.of (ps_aload_n dX9_rootOf_2 rfl),
   px_Sp.of (ps_get kc_X9 (by decide) wf_RX9_54 dX9_rootOf_3),
   px_Sp.of (ps_iload_n dX9_rootOf_6 rfl),
   px_Sp.of (ps_iald dX9_rootOf_7),
   px_Sp.of (ps_if_lt dX9_rootOf_8 (by decide)),
   px_Sp.of (ps_aload_n dX9_rootOf_11 rfl),
   px_Sp.of (ps_get kc_X9 (by decide) wf_RX9_54 dX9_rootOf_12),
   px_Sp.of (ps_iload_n dX9_rootOf_15 rfl),
   px_Sp.of (ps_iald dX9_rootOf_16),
   px_Sp.of (ps_istore_n dX9_rootOf_17 rfl (by decide)),
   px_Sp.of (ps_goto dX9_rootOf_18 (by decide)),
   px_Sp.of (ps_iload_n dX9_rootOf_21 rfl),
   ps_iret dX9_rootOf_22, trivial⟩
theorem mt_151 {l : Launch} {d : Nat} (IH : ∀ μ, μ < 196 → px_Met l px_P d μ) : px_Met l px_P (d + 1) 151 := px_met (own := RX9) rfl (by decide +kernel) (ok_151 IH)
theorem dX9_stepsOf_0 : decode cX9_stepsOf 0 = .ok (.iconst 0, 1) := by decide +kernel
theorem dX9_stepsOf_1 : decode cX9_stepsOf 1 = .ok (.istore_n 2, 1) := by decide +kernel
theorem dX9_stepsOf_2 : decode cX9_stepsOf 2 = .ok (.iload_n 1, 1) := by decide +kernel
theorem dX9_stepsOf_3 : decode cX9_stepsOf 3 = .ok (.istore_n 3, 1) := by decide +kernel
theorem dX9_stepsOf_4 : decode cX9_stepsOf 4 = .ok (.aload_n 0, 1) := by decide +kernel
theorem dX9_stepsOf_5 : decode cX9_stepsOf 5 = .ok (.getfield 54, 3) := by decide +kernel
theorem dX9_stepsOf_8 : decode cX9_stepsOf 8 = .ok (.iload_n 3, 1) := by decide +kernel
theorem dX9_stepsOf_9 : decode cX9_stepsOf 9 = .ok (.iaload, 1) := by decide +kernel
theorem dX9_stepsOf_10 : decode cX9_stepsOf 10 = .ok (.ifCond .lt 16, 3) := by decide +kernel
theorem dX9_stepsOf_13 : decode cX9_stepsOf 13 = .ok (.iinc 2 1, 3) := by decide +kernel
theorem dX9_stepsOf_16 : decode cX9_stepsOf 16 = .ok (.aload_n 0, 1) := by decide +kernel
theorem dX9_stepsOf_17 : decode cX9_stepsOf 17 = .ok (.getfield 54, 3) := by decide +kernel
theorem dX9_stepsOf_20 : decode cX9_stepsOf 20 = .ok (.iload_n 3, 1) := by decide +kernel
theorem dX9_stepsOf_21 : decode cX9_stepsOf 21 = .ok (.iaload, 1) := by decide +kernel
theorem dX9_stepsOf_22 : decode cX9_stepsOf 22 = .ok (.istore_n 3, 1) := by decide +kernel
theorem dX9_stepsOf_23 : decode cX9_stepsOf 23 = .ok (.goto (-19), 3) := by decide +kernel
theorem dX9_stepsOf_26 : decode cX9_stepsOf 26 = .ok (.iload_n 2, 1) := by decide +kernel
theorem dX9_stepsOf_27 : decode cX9_stepsOf 27 = .ok (.ireturn, 1) := by decide +kernel
set_option maxRecDepth 20000 in
theorem ok_152 {l : Launch} {d : Nat} (IH : ∀ μ, μ < 196 → px_Met l px_P d μ) : px_ok l px_P d RX9 cX9_stepsOf 4 (some .int) tb_152 :=
  ⟨px_Sp.of (ps_iconst dX9_stepsOf_0 (by decide)),
   px_Sp.of (ps_istore_n dX9_stepsOf_1 rfl (by decide)),
   px_Sp.of (ps_iload_n dX9_stepsOf_2 rfl),
   px_Sp.of (ps_istore_n dX9_stepsOf_3 rfl (by decide)),
   px_Sp.of (ps_aload_n dX9_stepsOf_4 rfl),
   px_Sp.of (ps_get kc_X9 (by decide) wf_RX9_54 dX9_stepsOf_5),
   px_Sp.of (ps_iload_n dX9_stepsOf_8 rfl),
   px_Sp.of (ps_iald dX9_stepsOf_9),
   px_Sp.of (ps_if_lt dX9_stepsOf_10 (by decide)),
   px_Sp.of (ps_iinc dX9_stepsOf_13 (by decide) (by decide)),
   px_Sp.of (ps_aload_n dX9_stepsOf_16 rfl),
   px_Sp.of (ps_get kc_X9 (by decide) wf_RX9_54 dX9_stepsOf_17),
   px_Sp.of (ps_iload_n dX9_stepsOf_20 rfl),
   px_Sp.of (ps_iald dX9_stepsOf_21),
   px_Sp.of (ps_istore_n dX9_stepsOf_22 rfl (by decide)),
   px_Sp.of (ps_goto dX9_stepsOf_23 (by decide)),
   px_Sp.of (ps_iload_n dX9_stepsOf_26 rfl),
   ps_iret dX9_stepsOf_27, trivial⟩
theorem mt_152 {l : Launch} {d : Nat} (IH : ∀ μ, μ < 196 → px_Met l px_P d μ) : px_Met l px_P (d + 1) 152 := px_met (own := RX9) rfl (by decide +kernel) (ok_152 IH)
theorem dX9_told_0 : decode cX9_told 0 = .ok (.aload_n 0, 1) := by decide +kernel
theorem dX9_told_1 : decode cX9_told 1 = .ok (.iload_n 1, 1) := by decide +kernel
theorem dX9_told_2 : decode cX9_told 2 = .ok (.iload_n 2, 1) := by decide +kernel
theorem dX9_told_3 : decode cX9_told 3 = .ok (.invokevirtual 128, 3) := by decide +kernel
theorem dX9_told_6 : decode cX9_told 6 = .ok (.ifCond .eq 7, 3) := by decide +kernel
theorem dX9_told_9 : decode cX9_told 9 = .ok (.sipush (-1001), 3) := by decide +kernel
theorem dX9_told_12 : decode cX9_told 12 = .ok (.ireturn, 1) := by decide +kernel
theorem dX9_told_13 : decode cX9_told 13 = .ok (.bipush 14, 2) := by decide +kernel
theorem dX9_told_15 : decode cX9_told 15 = .ok (.iload_n 1, 1) := by decide +kernel
theorem dX9_told_16 : decode cX9_told 16 = .ok (.imul, 1) := by decide +kernel
theorem dX9_told_17 : decode cX9_told 17 = .ok (.iload_n 2, 1) := by decide +kernel
theorem dX9_told_18 : decode cX9_told 18 = .ok (.iadd, 1) := by decide +kernel
theorem dX9_told_19 : decode cX9_told 19 = .ok (.istore 4, 2) := by decide +kernel
theorem dX9_told_21 : decode cX9_told 21 = .ok (.iload_n 3, 1) := by decide +kernel
theorem dX9_told_22 : decode cX9_told 22 = .ok (.i2l, 1) := by decide +kernel
theorem dX9_told_23 : decode cX9_told 23 = .ok (.lconst 0, 1) := by decide +kernel
theorem dX9_told_24 : decode cX9_told 24 = .ok (.ldc2_w 108, 3) := by decide +kernel
theorem dX9_told_27 : decode cX9_told 27 = .ok (.invokestatic 95, 3) := by decide +kernel
theorem dX9_told_30 : decode cX9_told 30 = .ok (.ifCond .ne 7, 3) := by decide +kernel
theorem dX9_told_33 : decode cX9_told 33 = .ok (.sipush (-1002), 3) := by decide +kernel
theorem dX9_told_36 : decode cX9_told 36 = .ok (.ireturn, 1) := by decide +kernel
theorem dX9_told_37 : decode cX9_told 37 = .ok (.iload_n 3, 1) := by decide +kernel
theorem dX9_told_38 : decode cX9_told 38 = .ok (.ifCond .ne 13, 3) := by decide +kernel
theorem dX9_told_41 : decode cX9_told 41 = .ok (.aload_n 0, 1) := by decide +kernel
theorem dX9_told_42 : decode cX9_told 42 = .ok (.getfield 29, 3) := by decide +kernel
theorem dX9_told_45 : decode cX9_told 45 = .ok (.iload 4, 2) := by decide +kernel
theorem dX9_told_47 : decode cX9_told 47 = .ok (.iaload, 1) := by decide +kernel
theorem dX9_told_48 : decode cX9_told 48 = .ok (.goto 49, 3) := by decide +kernel
theorem dX9_told_51 : decode cX9_told 51 = .ok (.iload_n 3, 1) := by decide +kernel
theorem dX9_told_52 : decode cX9_told 52 = .ok (.iconst 1, 1) := by decide +kernel
theorem dX9_told_53 : decode cX9_told 53 = .ok (.if_icmp .ne 13, 3) := by decide +kernel
theorem dX9_told_56 : decode cX9_told 56 = .ok (.aload_n 0, 1) := by decide +kernel
theorem dX9_told_57 : decode cX9_told 57 = .ok (.getfield 32, 3) := by decide +kernel
theorem dX9_told_60 : decode cX9_told 60 = .ok (.iload 4, 2) := by decide +kernel
theorem dX9_told_62 : decode cX9_told 62 = .ok (.iaload, 1) := by decide +kernel
theorem dX9_told_63 : decode cX9_told 63 = .ok (.goto 34, 3) := by decide +kernel
theorem dX9_told_66 : decode cX9_told 66 = .ok (.iload_n 3, 1) := by decide +kernel
theorem dX9_told_67 : decode cX9_told 67 = .ok (.iconst 2, 1) := by decide +kernel
theorem dX9_told_68 : decode cX9_told 68 = .ok (.isub, 1) := by decide +kernel
theorem dX9_told_69 : decode cX9_told 69 = .ok (.aload_n 0, 1) := by decide +kernel
theorem dX9_told_70 : decode cX9_told 70 = .ok (.getfield 32, 3) := by decide +kernel
theorem dX9_told_73 : decode cX9_told 73 = .ok (.iload 4, 2) := by decide +kernel
theorem dX9_told_75 : decode cX9_told 75 = .ok (.iaload, 1) := by decide +kernel
theorem dX9_told_76 : decode cX9_told 76 = .ok (.if_icmp .ge 20, 3) := by decide +kernel
theorem dX9_told_79 : decode cX9_told 79 = .ok (.aload_n 0, 1) := by decide +kernel
theorem dX9_told_80 : decode cX9_told 80 = .ok (.getfield 35, 3) := by decide +kernel
theorem dX9_told_83 : decode cX9_told 83 = .ok (.bipush 8, 2) := by decide +kernel
theorem dX9_told_85 : decode cX9_told 85 = .ok (.iload 4, 2) := by decide +kernel
theorem dX9_told_87 : decode cX9_told 87 = .ok (.imul, 1) := by decide +kernel
theorem dX9_told_88 : decode cX9_told 88 = .ok (.iload_n 3, 1) := by decide +kernel
theorem dX9_told_89 : decode cX9_told 89 = .ok (.iadd, 1) := by decide +kernel
theorem dX9_told_90 : decode cX9_told 90 = .ok (.iconst 2, 1) := by decide +kernel
theorem dX9_told_91 : decode cX9_told 91 = .ok (.isub, 1) := by decide +kernel
theorem dX9_told_92 : decode cX9_told 92 = .ok (.iaload, 1) := by decide +kernel
theorem dX9_told_93 : decode cX9_told 93 = .ok (.goto 4, 3) := by decide +kernel
theorem dX9_told_96 : decode cX9_told 96 = .ok (.iconst (-1), 1) := by decide +kernel
theorem dX9_told_97 : decode cX9_told 97 = .ok (.ireturn, 1) := by decide +kernel
set_option maxRecDepth 20000 in
theorem ok_153 {l : Launch} {d : Nat} (IH : ∀ μ, μ < 196 → px_Met l px_P d μ) : px_ok l px_P d RX9 cX9_told 5 (some .int) tb_153 :=
  ⟨px_Sp.of (ps_aload_n dX9_told_0 rfl),
   px_Sp.of (ps_iload_n dX9_told_1 rfl),
   px_Sp.of (ps_iload_n dX9_told_2 rfl),
   ps_callV (IH 140 (by decide)) (C := RX9) (T := TX9) (N := 36) (ci := 8) rfl rfl (fc_140 _ _) wm_RX9_128 wi_yX9_noLine wl_yX9_noLine dX9_told_3,
   px_Sp.of (ps_if_eq dX9_told_6 (by decide)),
   px_Sp.of (ps_sipush dX9_told_9 (by decide)),
   ps_iret dX9_told_12,
   px_Sp.of (ps_bipush dX9_told_13 (by decide)),
   px_Sp.of (ps_iload_n dX9_told_15 rfl),
   px_Sp.of (ps_imul dX9_told_16),
   px_Sp.of (ps_iload_n dX9_told_17 rfl),
   px_Sp.of (ps_iadd dX9_told_18),
   px_Sp.of (ps_istore dX9_told_19 (by decide)),
   px_Sp.of (ps_iload_n dX9_told_21 rfl),
   px_Sp.of (ps_i2l dX9_told_22),
   px_Sp.of (ps_lconst dX9_told_23 (by decide)),
   px_Sp.of (ps_ldc2 dX9_told_24 wk_RX9_108),
   ps_callS (IH 130 (by decide)) (fc_130 _ _) wm_RX9_95 ws_yX9_in dX9_told_27,
   px_Sp.of (ps_if_ne dX9_told_30 (by decide)),
   px_Sp.of (ps_sipush dX9_told_33 (by decide)),
   ps_iret dX9_told_36,
   px_Sp.of (ps_iload_n dX9_told_37 rfl),
   px_Sp.of (ps_if_ne dX9_told_38 (by decide)),
   px_Sp.of (ps_aload_n dX9_told_41 rfl),
   px_Sp.of (ps_get kc_X9 (by decide) wf_RX9_29 dX9_told_42),
   px_Sp.of (ps_iload dX9_told_45),
   px_Sp.of (ps_iald dX9_told_47),
   px_Sp.of (ps_goto dX9_told_48 (by decide)),
   px_Sp.of (ps_iload_n dX9_told_51 rfl),
   px_Sp.of (ps_iconst dX9_told_52 (by decide)),
   px_Sp.of (ps_icmp_ne dX9_told_53 (by decide)),
   px_Sp.of (ps_aload_n dX9_told_56 rfl),
   px_Sp.of (ps_get kc_X9 (by decide) wf_RX9_32 dX9_told_57),
   px_Sp.of (ps_iload dX9_told_60),
   px_Sp.of (ps_iald dX9_told_62),
   px_Sp.of (ps_goto dX9_told_63 (by decide)),
   px_Sp.of (ps_iload_n dX9_told_66 rfl),
   px_Sp.of (ps_iconst dX9_told_67 (by decide)),
   px_Sp.of (ps_isub dX9_told_68),
   px_Sp.of (ps_aload_n dX9_told_69 rfl),
   px_Sp.of (ps_get kc_X9 (by decide) wf_RX9_32 dX9_told_70),
   px_Sp.of (ps_iload dX9_told_73),
   px_Sp.of (ps_iald dX9_told_75),
   px_Sp.of (ps_icmp_ge dX9_told_76 (by decide)),
   px_Sp.of (ps_aload_n dX9_told_79 rfl),
   px_Sp.of (ps_get kc_X9 (by decide) wf_RX9_35 dX9_told_80),
   px_Sp.of (ps_bipush dX9_told_83 (by decide)),
   px_Sp.of (ps_iload dX9_told_85),
   px_Sp.of (ps_imul dX9_told_87),
   px_Sp.of (ps_iload_n dX9_told_88 rfl),
   px_Sp.of (ps_iadd dX9_told_89),
   px_Sp.of (ps_iconst dX9_told_90 (by decide)),
   px_Sp.of (ps_isub dX9_told_91),
   px_Sp.of (ps_iald dX9_told_92),
   px_Sp.of (ps_goto dX9_told_93 (by decide)),
   px_Sp.of (ps_iconst dX9_told_96 (by decide)),
   ps_iret dX9_told_97, trivial⟩
theorem mt_153 {l : Launch} {d : Nat} (IH : ∀ μ, μ < 196 → px_Met l px_P d μ) : px_Met l px_P (d + 1) 153 := px_met (own := RX9) rfl (by decide +kernel) (ok_153 IH)
