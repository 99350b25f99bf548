/-! ===== tables that are right, 10 ===== -/
theorem dX9_quarrels_0 : decode cX9_quarrels 0 = .ok (.aload_n 0, 1) := by decide +kernel
theorem dX9_quarrels_1 : decode cX9_quarrels 1 = .ok (.getfield 54, 3) := by decide +kernel
theorem dX9_quarrels_4 : decode cX9_quarrels 4 = .ok (.iload_n 1, 1) := by decide +kernel
theorem dX9_quarrels_5 : decode cX9_quarrels 5 = .ok (.iaload, 1) := by decide +kernel
theorem dX9_quarrels_6 : decode cX9_quarrels 6 = .ok (.istore_n 2, 1) := by decide +kernel
theorem dX9_quarrels_7 : decode cX9_quarrels 7 = .ok (.iload_n 2, 1) := by decide +kernel
theorem dX9_quarrels_8 : decode cX9_quarrels 8 = .ok (.ifCond .lt 40, 3) := by decide +kernel
theorem dX9_quarrels_11 : decode cX9_quarrels 11 = .ok (.aload_n 0, 1) := by decide +kernel
theorem dX9_quarrels_12 : decode cX9_quarrels 12 = .ok (.getfield 16, 3) := by decide +kernel
theorem dX9_quarrels_15 : decode cX9_quarrels 15 = .ok (.iload_n 1, 1) := by decide +kernel
theorem dX9_quarrels_16 : decode cX9_quarrels 16 = .ok (.iaload, 1) := by decide +kernel
theorem dX9_quarrels_17 : decode cX9_quarrels 17 = .ok (.ifCond .lt 31, 3) := by decide +kernel
theorem dX9_quarrels_20 : decode cX9_quarrels 20 = .ok (.aload_n 0, 1) := by decide +kernel
theorem dX9_quarrels_21 : decode cX9_quarrels 21 = .ok (.getfield 16, 3) := by decide +kernel
theorem dX9_quarrels_24 : decode cX9_quarrels 24 = .ok (.iload_n 2, 1) := by decide +kernel
theorem dX9_quarrels_25 : decode cX9_quarrels 25 = .ok (.iaload, 1) := by decide +kernel
theorem dX9_quarrels_26 : decode cX9_quarrels 26 = .ok (.ifCond .lt 22, 3) := by decide +kernel
theorem dX9_quarrels_29 : decode cX9_quarrels 29 = .ok (.aload_n 0, 1) := by decide +kernel
theorem dX9_quarrels_30 : decode cX9_quarrels 30 = .ok (.getfield 16, 3) := by decide +kernel
theorem dX9_quarrels_33 : decode cX9_quarrels 33 = .ok (.iload_n 1, 1) := by decide +kernel
theorem dX9_quarrels_34 : decode cX9_quarrels 34 = .ok (.iaload, 1) := by decide +kernel
theorem dX9_quarrels_35 : decode cX9_quarrels 35 = .ok (.aload_n 0, 1) := by decide +kernel
theorem dX9_quarrels_36 : decode cX9_quarrels 36 = .ok (.getfield 16, 3) := by decide +kernel
theorem dX9_quarrels_39 : decode cX9_quarrels 39 = .ok (.iload_n 2, 1) := by decide +kernel
theorem dX9_quarrels_40 : decode cX9_quarrels 40 = .ok (.iaload, 1) := by decide +kernel
theorem dX9_quarrels_41 : decode cX9_quarrels 41 = .ok (.if_icmp .ge 7, 3) := by decide +kernel
theorem dX9_quarrels_44 : decode cX9_quarrels 44 = .ok (.iconst 1, 1) := by decide +kernel
theorem dX9_quarrels_45 : decode cX9_quarrels 45 = .ok (.goto 4, 3) := by decide +kernel
theorem dX9_quarrels_48 : decode cX9_quarrels 48 = .ok (.iconst 0, 1) := by decide +kernel
theorem dX9_quarrels_49 : decode cX9_quarrels 49 = .ok (.ireturn, 1) := by decide +kernel
set_option maxRecDepth 20000 in
theorem ok_177 {l : Launch} {d : Nat} (IH : ∀ μ, μ < 196 → px_Met l px_P d μ) : px_ok l px_P d RX9 cX9_quarrels 3 (some .boolean) tb_177 :=
  ⟨px_Sp.of (ps_aload_n dX9_quarrels_0 rfl),
   px_Sp.of (ps_get kc_X9 (by decide) wf_RX9_54 dX9_quarrels_1),
   px_Sp.of (ps_iload_n dX9_quarrels_4 rfl),
   px_Sp.of (ps_iald dX9_quarrels_5),
   px_Sp.of (ps_istore_n dX9_quarrels_6 rfl (by decide)),
   px_Sp.of (ps_iload_n dX9_quarrels_7 rfl),
   px_Sp.of (ps_if_lt dX9_quarrels_8 (by decide)),
   px_Sp.of (ps_aload_n dX9_quarrels_11 rfl),
   px_Sp.of (ps_get kc_X9 (by decide) wf_RX9_16 dX9_quarrels_12),
   px_Sp.of (ps_iload_n dX9_quarrels_15 rfl),
   px_Sp.of (ps_iald dX9_quarrels_16),
   px_Sp.of (ps_if_lt dX9_quarrels_17 (by decide)),
   px_Sp.of (ps_aload_n dX9_quarrels_20 rfl),
   px_Sp.of (ps_get kc_X9 (by decide) wf_RX9_16 dX9_quarrels_21),
   px_Sp.of (ps_iload_n dX9_quarrels_24 rfl),
   px_Sp.of (ps_iald dX9_quarrels_25),
   px_Sp.of (ps_if_lt dX9_quarrels_26 (by decide)),
   px_Sp.of (ps_aload_n dX9_quarrels_29 rfl),
   px_Sp.of (ps_get kc_X9 (by decide) wf_RX9_16 dX9_quarrels_30),
   px_Sp.of (ps_iload_n dX9_quarrels_33 rfl),
   px_Sp.of (ps_iald dX9_quarrels_34),
   px_Sp.of (ps_aload_n dX9_quarrels_35 rfl),
   px_Sp.of (ps_get kc_X9 (by decide) wf_RX9_16 dX9_quarrels_36),
   px_Sp.of (ps_iload_n dX9_quarrels_39 rfl),
   px_Sp.of (ps_iald dX9_quarrels_40),
   px_Sp.of (ps_icmp_ge dX9_quarrels_41 (by decide)),
   px_Sp.of (ps_iconst dX9_quarrels_44 (by decide)),
   px_Sp.of (ps_goto dX9_quarrels_45 (by decide)),
   px_Sp.of (ps_iconst dX9_quarrels_48 (by decide)),
   ps_zret dX9_quarrels_49, trivial⟩
theorem mt_177 {l : Launch} {d : Nat} (IH : ∀ μ, μ < 196 → px_Met l px_P d μ) : px_Met l px_P (d + 1) 177 := px_met (own := RX9) rfl (by decide +kernel) (ok_177 IH)
theorem dX9_span_0 : decode cX9_span 0 = .ok (.aload_n 0, 1) := by decide +kernel
theorem dX9_span_1 : decode cX9_span 1 = .ok (.iload_n 1, 1) := by decide +kernel
theorem dX9_span_2 : decode cX9_span 2 = .ok (.invokevirtual 99, 3) := by decide +kernel
theorem dX9_span_5 : decode cX9_span 5 = .ok (.ifCond .eq 7, 3) := by decide +kernel
theorem dX9_span_8 : decode cX9_span 8 = .ok (.sipush (-1001), 3) := by decide +kernel
theorem dX9_span_11 : decode cX9_span 11 = .ok (.ireturn, 1) := by decide +kernel
theorem dX9_span_12 : decode cX9_span 12 = .ok (.iload_n 2, 1) := by decide +kernel
theorem dX9_span_13 : decode cX9_span 13 = .ok (.i2l, 1) := by decide +kernel
theorem dX9_span_14 : decode cX9_span 14 = .ok (.lconst 0, 1) := by decide +kernel
theorem dX9_span_15 : decode cX9_span 15 = .ok (.lconst 1, 1) := by decide +kernel
theorem dX9_span_16 : decode cX9_span 16 = .ok (.invokestatic 95, 3) := by decide +kernel
theorem dX9_span_19 : decode cX9_span 19 = .ok (.ifCond .ne 7, 3) := by decide +kernel
theorem dX9_span_22 : decode cX9_span 22 = .ok (.sipush (-1002), 3) := by decide +kernel
theorem dX9_span_25 : decode cX9_span 25 = .ok (.ireturn, 1) := by decide +kernel
theorem dX9_span_26 : decode cX9_span 26 = .ok (.aload_n 0, 1) := by decide +kernel
theorem dX9_span_27 : decode cX9_span 27 = .ok (.iload_n 1, 1) := by decide +kernel
theorem dX9_span_28 : decode cX9_span 28 = .ok (.invokevirtual 135, 3) := by decide +kernel
theorem dX9_span_31 : decode cX9_span 31 = .ok (.ifCond .ne 7, 3) := by decide +kernel
theorem dX9_span_34 : decode cX9_span 34 = .ok (.sipush (-1003), 3) := by decide +kernel
theorem dX9_span_37 : decode cX9_span 37 = .ok (.ireturn, 1) := by decide +kernel
theorem dX9_span_38 : decode cX9_span 38 = .ok (.aload_n 0, 1) := by decide +kernel
theorem dX9_span_39 : decode cX9_span 39 = .ok (.getfield 16, 3) := by decide +kernel
theorem dX9_span_42 : decode cX9_span 42 = .ok (.iload_n 1, 1) := by decide +kernel
theorem dX9_span_43 : decode cX9_span 43 = .ok (.iaload, 1) := by decide +kernel
theorem dX9_span_44 : decode cX9_span 44 = .ok (.ifCond .lt 10, 3) := by decide +kernel
theorem dX9_span_47 : decode cX9_span 47 = .ok (.aload_n 0, 1) := by decide +kernel
theorem dX9_span_48 : decode cX9_span 48 = .ok (.getfield 16, 3) := by decide +kernel
theorem dX9_span_51 : decode cX9_span 51 = .ok (.iload_n 1, 1) := by decide +kernel
theorem dX9_span_52 : decode cX9_span 52 = .ok (.iaload, 1) := by decide +kernel
theorem dX9_span_53 : decode cX9_span 53 = .ok (.ireturn, 1) := by decide +kernel
theorem dX9_span_54 : decode cX9_span 54 = .ok (.aload_n 0, 1) := by decide +kernel
theorem dX9_span_55 : decode cX9_span 55 = .ok (.invokevirtual 152, 3) := by decide +kernel
theorem dX9_span_58 : decode cX9_span 58 = .ok (.iconst 0, 1) := by decide +kernel
theorem dX9_span_59 : decode cX9_span 59 = .ok (.istore_n 3, 1) := by decide +kernel
theorem dX9_span_60 : decode cX9_span 60 = .ok (.sipush 9999, 3) := by decide +kernel
theorem dX9_span_63 : decode cX9_span 63 = .ok (.istore 4, 2) := by decide +kernel
theorem dX9_span_65 : decode cX9_span 65 = .ok (.aload_n 0, 1) := by decide +kernel
theorem dX9_span_66 : decode cX9_span 66 = .ok (.getfield 54, 3) := by decide +kernel
theorem dX9_span_69 : decode cX9_span 69 = .ok (.iload_n 1, 1) := by decide +kernel
theorem dX9_span_70 : decode cX9_span 70 = .ok (.iaload, 1) := by decide +kernel
theorem dX9_span_71 : decode cX9_span 71 = .ok (.istore 5, 2) := by decide +kernel
theorem dX9_span_73 : decode cX9_span 73 = .ok (.iload 5, 2) := by decide +kernel
theorem dX9_span_75 : decode cX9_span 75 = .ok (.ifCond .lt 38, 3) := by decide +kernel
theorem dX9_span_78 : decode cX9_span 78 = .ok (.aload_n 0, 1) := by decide +kernel
theorem dX9_span_79 : decode cX9_span 79 = .ok (.getfield 16, 3) := by decide +kernel
theorem dX9_span_82 : decode cX9_span 82 = .ok (.iload 5, 2) := by decide +kernel
theorem dX9_span_84 : decode cX9_span 84 = .ok (.iaload, 1) := by decide +kernel
theorem dX9_span_85 : decode cX9_span 85 = .ok (.iload_n 3, 1) := by decide +kernel
theorem dX9_span_86 : decode cX9_span 86 = .ok (.if_icmp .le 13, 3) := by decide +kernel
theorem dX9_span_89 : decode cX9_span 89 = .ok (.aload_n 0, 1) := by decide +kernel
theorem dX9_span_90 : decode cX9_span 90 = .ok (.getfield 16, 3) := by decide +kernel
theorem dX9_span_93 : decode cX9_span 93 = .ok (.iload 5, 2) := by decide +kernel
theorem dX9_span_95 : decode cX9_span 95 = .ok (.iaload, 1) := by decide +kernel
theorem dX9_span_96 : decode cX9_span 96 = .ok (.goto 4, 3) := by decide +kernel
theorem dX9_span_99 : decode cX9_span 99 = .ok (.iload_n 3, 1) := by decide +kernel
theorem dX9_span_100 : decode cX9_span 100 = .ok (.istore_n 3, 1) := by decide +kernel
theorem dX9_span_101 : decode cX9_span 101 = .ok (.aload_n 0, 1) := by decide +kernel
theorem dX9_span_102 : decode cX9_span 102 = .ok (.getfield 54, 3) := by decide +kernel
theorem dX9_span_105 : decode cX9_span 105 = .ok (.iload 5, 2) := by decide +kernel
theorem dX9_span_107 : decode cX9_span 107 = .ok (.iaload, 1) := by decide +kernel
theorem dX9_span_108 : decode cX9_span 108 = .ok (.istore 5, 2) := by decide +kernel
theorem dX9_span_110 : decode cX9_span 110 = .ok (.goto (-37), 3) := by decide +kernel
theorem dX9_span_113 : decode cX9_span 113 = .ok (.iconst 0, 1) := by decide +kernel
theorem dX9_span_114 : decode cX9_span 114 = .ok (.istore 5, 2) := by decide +kernel
theorem dX9_span_116 : decode cX9_span 116 = .ok (.iload 5, 2) := by decide +kernel
theorem dX9_span_118 : decode cX9_span 118 = .ok (.aload_n 0, 1) := by decide +kernel
theorem dX9_span_119 : decode cX9_span 119 = .ok (.getfield 92, 3) := by decide +kernel
theorem dX9_span_122 : decode cX9_span 122 = .ok (.if_icmp .ge 70, 3) := by decide +kernel
theorem dX9_span_125 : decode cX9_span 125 = .ok (.iload 5, 2) := by decide +kernel
theorem dX9_span_127 : decode cX9_span 127 = .ok (.iload_n 1, 1) := by decide +kernel
theorem dX9_span_128 : decode cX9_span 128 = .ok (.if_icmp .eq 54, 3) := by decide +kernel
theorem dX9_span_131 : decode cX9_span 131 = .ok (.aload_n 0, 1) := by decide +kernel
theorem dX9_span_132 : decode cX9_span 132 = .ok (.iload 5, 2) := by decide +kernel
theorem dX9_span_134 : decode cX9_span 134 = .ok (.invokevirtual 135, 3) := by decide +kernel
theorem dX9_span_137 : decode cX9_span 137 = .ok (.ifCond .eq 45, 3) := by decide +kernel
theorem dX9_span_140 : decode cX9_span 140 = .ok (.aload_n 0, 1) := by decide +kernel
theorem dX9_span_141 : decode cX9_span 141 = .ok (.getfield 16, 3) := by decide +kernel
theorem dX9_span_144 : decode cX9_span 144 = .ok (.iload 5, 2) := by decide +kernel
theorem dX9_span_146 : decode cX9_span 146 = .ok (.iaload, 1) := by decide +kernel
theorem dX9_span_147 : decode cX9_span 147 = .ok (.ifCond .lt 35, 3) := by decide +kernel
theorem dX9_span_150 : decode cX9_span 150 = .ok (.aload_n 0, 1) := by decide +kernel
theorem dX9_span_151 : decode cX9_span 151 = .ok (.getfield 16, 3) := by decide +kernel
theorem dX9_span_154 : decode cX9_span 154 = .ok (.iload 5, 2) := by decide +kernel
theorem dX9_span_156 : decode cX9_span 156 = .ok (.iaload, 1) := by decide +kernel
theorem dX9_span_157 : decode cX9_span 157 = .ok (.iload 4, 2) := by decide +kernel
theorem dX9_span_159 : decode cX9_span 159 = .ok (.if_icmp .ge 23, 3) := by decide +kernel
theorem dX9_span_162 : decode cX9_span 162 = .ok (.aload_n 0, 1) := by decide +kernel
theorem dX9_span_163 : decode cX9_span 163 = .ok (.iload 5, 2) := by decide +kernel
theorem dX9_span_165 : decode cX9_span 165 = .ok (.iload_n 1, 1) := by decide +kernel
theorem dX9_span_166 : decode cX9_span 166 = .ok (.invokevirtual 141, 3) := by decide +kernel
theorem dX9_span_169 : decode cX9_span 169 = .ok (.ifCond .eq 13, 3) := by decide +kernel
theorem dX9_span_172 : decode cX9_span 172 = .ok (.aload_n 0, 1) := by decide +kernel
theorem dX9_span_173 : decode cX9_span 173 = .ok (.getfield 16, 3) := by decide +kernel
theorem dX9_span_176 : decode cX9_span 176 = .ok (.iload 5, 2) := by decide +kernel
theorem dX9_span_178 : decode cX9_span 178 = .ok (.iaload, 1) := by decide +kernel
theorem dX9_span_179 : decode cX9_span 179 = .ok (.goto 5, 3) := by decide +kernel
theorem dX9_span_182 : decode cX9_span 182 = .ok (.iload 4, 2) := by decide +kernel
theorem dX9_span_184 : decode cX9_span 184 = .ok (.istore 4, 2) := by decide +kernel
theorem dX9_span_186 : decode cX9_span 186 = .ok (.iinc 5 1, 3) := by decide +kernel
theorem dX9_span_189 : decode cX9_span 189 = .ok (.goto (-73), 3) := by decide +kernel
theorem dX9_span_192 : decode cX9_span 192 = .ok (.iload_n 2, 1) := by decide +kernel
theorem dX9_span_193 : decode cX9_span 193 = .ok (.ifCond .ne 7, 3) := by decide +kernel
theorem dX9_span_196 : decode cX9_span 196 = .ok (.iload_n 3, 1) := by decide +kernel
theorem dX9_span_197 : decode cX9_span 197 = .ok (.goto 5, 3) := by decide +kernel
theorem dX9_span_200 : decode cX9_span 200 = .ok (.iload 4, 2) := by decide +kernel
theorem dX9_span_202 : decode cX9_span 202 = .ok (.ireturn, 1) := by decide +kernel
set_option maxRecDepth 20000 in
theorem ok_178 {l : Launch} {d : Nat} (IH : ∀ μ, μ < 196 → px_Met l px_P d μ) : px_ok l px_P d RX9 cX9_span 6 (some .int) tb_178 :=
  ⟨px_Sp.of (ps_aload_n dX9_span_0 rfl),
   px_Sp.of (ps_iload_n dX9_span_1 rfl),
   ps_callV (IH 132 (by decide)) (C := RX9) (T := TX9) (N := 36) (ci := 8) rfl rfl (fc_132 _ _) wm_RX9_99 wi_yX9_noLetter wl_yX9_noLetter dX9_span_2,
   px_Sp.of (ps_if_eq dX9_span_5 (by decide)),
   px_Sp.of (ps_sipush dX9_span_8 (by decide)),
   ps_iret dX9_span_11,
   px_Sp.of (ps_iload_n dX9_span_12 rfl),
   px_Sp.of (ps_i2l dX9_span_13),
   px_Sp.of (ps_lconst dX9_span_14 (by decide)),
   px_Sp.of (ps_lconst dX9_span_15 (by decide)),
   ps_callS (IH 130 (by decide)) (fc_130 _ _) wm_RX9_95 ws_yX9_in dX9_span_16,
   px_Sp.of (ps_if_ne dX9_span_19 (by decide)),
   px_Sp.of (ps_sipush dX9_span_22 (by decide)),
   ps_iret dX9_span_25,
   px_Sp.of (ps_aload_n dX9_span_26 rfl),
   px_Sp.of (ps_iload_n dX9_span_27 rfl),
   ps_callV (IH 143 (by decide)) (C := RX9) (T := TX9) (N := 36) (ci := 8) rfl rfl (fc_143 _ _) wm_RX9_135 wi_yX9_isSeen wl_yX9_isSeen dX9_span_28,
   px_Sp.of (ps_if_ne dX9_span_31 (by decide)),
   px_Sp.of (ps_sipush dX9_span_34 (by decide)),
   ps_iret dX9_span_37,
   px_Sp.of (ps_aload_n dX9_span_38 rfl),
   px_Sp.of (ps_get kc_X9 (by decide) wf_RX9_16 dX9_span_39),
   px_Sp.of (ps_iload_n dX9_span_42 rfl),
   px_Sp.of (ps_iald dX9_span_43),
   px_Sp.of (ps_if_lt dX9_span_44 (by decide)),
   px_Sp.of (ps_aload_n dX9_span_47 rfl),
   px_Sp.of (ps_get kc_X9 (by decide) wf_RX9_16 dX9_span_48),
   px_Sp.of (ps_iload_n dX9_span_51 rfl),
   px_Sp.of (ps_iald dX9_span_52),
   ps_iret dX9_span_53,
   px_Sp.of (ps_aload_n dX9_span_54 rfl),
   ps_callV (IH 148 (by decide)) (C := RX9) (T := TX9) (N := 36) (ci := 8) rfl rfl (fc_148 _ _) wm_RX9_152 wi_yX9_findParents wl_yX9_findParents dX9_span_55,
   px_Sp.of (ps_iconst dX9_span_58 (by decide)),
   px_Sp.of (ps_istore_n dX9_span_59 rfl (by decide)),
   px_Sp.of (ps_sipush dX9_span_60 (by decide)),
   px_Sp.of (ps_istore dX9_span_63 (by decide)),
   px_Sp.of (ps_aload_n dX9_span_65 rfl),
   px_Sp.of (ps_get kc_X9 (by decide) wf_RX9_54 dX9_span_66),
   px_Sp.of (ps_iload_n dX9_span_69 rfl),
   px_Sp.of (ps_iald dX9_span_70),
   px_Sp.of (ps_istore dX9_span_71 (by decide)),
   px_Sp.of (ps_iload dX9_span_73),
   px_Sp.of (ps_if_lt dX9_span_75 (by decide)),
   px_Sp.of (ps_aload_n dX9_span_78 rfl),
   px_Sp.of (ps_get kc_X9 (by decide) wf_RX9_16 dX9_span_79),
   px_Sp.of (ps_iload dX9_span_82),
   px_Sp.of (ps_iald dX9_span_84),
   px_Sp.of (ps_iload_n dX9_span_85 rfl),
   px_Sp.of (ps_icmp_le dX9_span_86 (by decide)),
   px_Sp.of (ps_aload_n dX9_span_89 rfl),
   px_Sp.of (ps_get kc_X9 (by decide) wf_RX9_16 dX9_span_90),
   px_Sp.of (ps_iload dX9_span_93),
   px_Sp.of (ps_iald dX9_span_95),
   px_Sp.of (ps_goto dX9_span_96 (by decide)),
   px_Sp.of (ps_iload_n dX9_span_99 rfl),
   px_Sp.of (ps_istore_n dX9_span_100 rfl (by decide)),
   px_Sp.of (ps_aload_n dX9_span_101 rfl),
   px_Sp.of (ps_get kc_X9 (by decide) wf_RX9_54 dX9_span_102),
   px_Sp.of (ps_iload dX9_span_105),
   px_Sp.of (ps_iald dX9_span_107),
   px_Sp.of (ps_istore dX9_span_108 (by decide)),
   px_Sp.of (ps_goto dX9_span_110 (by decide)),
   px_Sp.of (ps_iconst dX9_span_113 (by decide)),
   px_Sp.of (ps_istore dX9_span_114 (by decide)),
   px_Sp.of (ps_iload dX9_span_116),
   px_Sp.of (ps_aload_n dX9_span_118 rfl),
   px_Sp.of (ps_get kc_X9 (by decide) wf_RX9_92 dX9_span_119),
   px_Sp.of (ps_icmp_ge dX9_span_122 (by decide)),
   px_Sp.of (ps_iload dX9_span_125),
   px_Sp.of (ps_iload_n dX9_span_127 rfl),
   px_Sp.of (ps_icmp_eq dX9_span_128 (by decide)),
   px_Sp.of (ps_aload_n dX9_span_131 rfl),
   px_Sp.of (ps_iload dX9_span_132),
   ps_callV (IH 143 (by decide)) (C := RX9) (T := TX9) (N := 36) (ci := 8) rfl rfl (fc_143 _ _) wm_RX9_135 wi_yX9_isSeen wl_yX9_isSeen dX9_span_134,
   px_Sp.of (ps_if_eq dX9_span_137 (by decide)),
   px_Sp.of (ps_aload_n dX9_span_140 rfl),
   px_Sp.of (ps_get kc_X9 (by decide) wf_RX9_16 dX9_span_141),
   px_Sp.of (ps_iload dX9_span_144),
   px_Sp.of (ps_iald dX9_span_146),
   px_Sp.of (ps_if_lt dX9_span_147 (by decide)),
   px_Sp.of (ps_aload_n dX9_span_150 rfl),
   px_Sp.of (ps_get kc_X9 (by decide) wf_RX9_16 dX9_span_151),
   px_Sp.of (ps_iload dX9_span_154),
   px_Sp.of (ps_iald dX9_span_156),
   px_Sp.of (ps_iload dX9_span_157),
   px_Sp.of (ps_icmp_ge dX9_span_159 (by decide)),
   px_Sp.of (ps_aload_n dX9_span_162 rfl),
   px_Sp.of (ps_iload dX9_span_163),
   px_Sp.of (ps_iload_n dX9_span_165 rfl),
   ps_callV (IH 149 (by decide)) (C := RX9) (T := TX9) (N := 36) (ci := 8) rfl rfl (fc_149 _ _) wm_RX9_141 wi_yX9_comesTo wl_yX9_comesTo dX9_span_166,
   px_Sp.of (ps_if_eq dX9_span_169 (by decide)),
   px_Sp.of (ps_aload_n dX9_span_172 rfl),
   px_Sp.of (ps_get kc_X9 (by decide) wf_RX9_16 dX9_span_173),
   px_Sp.of (ps_iload dX9_span_176),
   px_Sp.of (ps_iald dX9_span_178),
   px_Sp.of (ps_goto dX9_span_179 (by decide)),
   px_Sp.of (ps_iload dX9_span_182),
   px_Sp.of (ps_istore dX9_span_184 (by decide)),
   px_Sp.of (ps_iinc dX9_span_186 (by decide) (by decide)),
   px_Sp.of (ps_goto dX9_span_189 (by decide)),
   px_Sp.of (ps_iload_n dX9_span_192 rfl),
   px_Sp.of (ps_if_ne dX9_span_193 (by decide)),
   px_Sp.of (ps_iload_n dX9_span_196 rfl),
   px_Sp.of (ps_goto dX9_span_197 (by decide)),
   px_Sp.of (ps_iload dX9_span_200),
   ps_iret dX9_span_202, trivial⟩
theorem mt_178 {l : Launch} {d : Nat} (IH : ∀ μ, μ < 196 → px_Met l px_P d μ) : px_Met l px_P (d + 1) 178 := px_met (own := RX9) rfl (by decide +kernel) (ok_178 IH)
theorem dX9_sign_0 : decode cX9_sign 0 = .ok (.iload_n 1, 1) := by decide +kernel
theorem dX9_sign_1 : decode cX9_sign 1 = .ok (.i2l, 1) := by decide +kernel
theorem dX9_sign_2 : decode cX9_sign 2 = .ok (.lconst 0, 1) := by decide +kernel
theorem dX9_sign_3 : decode cX9_sign 3 = .ok (.ldc2_w 103, 3) := by decide +kernel
theorem dX9_sign_6 : decode cX9_sign 6 = .ok (.invokestatic 95, 3) := by decide +kernel
theorem dX9_sign_9 : decode cX9_sign 9 = .ok (.ifCond .ne 7, 3) := by decide +kernel
theorem dX9_sign_12 : decode cX9_sign 12 = .ok (.sipush (-1002), 3) := by decide +kernel
theorem dX9_sign_15 : decode cX9_sign 15 = .ok (.ireturn, 1) := by decide +kernel
theorem dX9_sign_16 : decode cX9_sign 16 = .ok (.aload_n 0, 1) := by decide +kernel
theorem dX9_sign_17 : decode cX9_sign 17 = .ok (.getfield 221, 3) := by decide +kernel
theorem dX9_sign_20 : decode cX9_sign 20 = .ok (.iconst 4, 1) := by decide +kernel
theorem dX9_sign_21 : decode cX9_sign 21 = .ok (.if_icmp .ne 7, 3) := by decide +kernel
theorem dX9_sign_24 : decode cX9_sign 24 = .ok (.sipush (-1004), 3) := by decide +kernel
theorem dX9_sign_27 : decode cX9_sign 27 = .ok (.ireturn, 1) := by decide +kernel
theorem dX9_sign_28 : decode cX9_sign 28 = .ok (.aload_n 0, 1) := by decide +kernel
theorem dX9_sign_29 : decode cX9_sign 29 = .ok (.getfield 76, 3) := by decide +kernel
theorem dX9_sign_32 : decode cX9_sign 32 = .ok (.aload_n 0, 1) := by decide +kernel
theorem dX9_sign_33 : decode cX9_sign 33 = .ok (.getfield 221, 3) := by decide +kernel
theorem dX9_sign_36 : decode cX9_sign 36 = .ok (.iload_n 1, 1) := by decide +kernel
theorem dX9_sign_37 : decode cX9_sign 37 = .ok (.iastore, 1) := by decide +kernel
theorem dX9_sign_38 : decode cX9_sign 38 = .ok (.aload_n 0, 1) := by decide +kernel
theorem dX9_sign_39 : decode cX9_sign 39 = .ok (.dup, 1) := by decide +kernel
theorem dX9_sign_40 : decode cX9_sign 40 = .ok (.getfield 221, 3) := by decide +kernel
theorem dX9_sign_43 : decode cX9_sign 43 = .ok (.iconst 1, 1) := by decide +kernel
theorem dX9_sign_44 : decode cX9_sign 44 = .ok (.iadd, 1) := by decide +kernel
theorem dX9_sign_45 : decode cX9_sign 45 = .ok (.putfield 221, 3) := by decide +kernel
theorem dX9_sign_48 : decode cX9_sign 48 = .ok (.aload_n 0, 1) := by decide +kernel
theorem dX9_sign_49 : decode cX9_sign 49 = .ok (.getfield 221, 3) := by decide +kernel
theorem dX9_sign_52 : decode cX9_sign 52 = .ok (.ireturn, 1) := by decide +kernel
set_option maxRecDepth 20000 in
theorem ok_179 {l : Launch} {d : Nat} (IH : ∀ μ, μ < 196 → px_Met l px_P d μ) : px_ok l px_P d RX9 cX9_sign 2 (some .int) tb_179 :=
  ⟨px_Sp.of (ps_iload_n dX9_sign_0 rfl),
   px_Sp.of (ps_i2l dX9_sign_1),
   px_Sp.of (ps_lconst dX9_sign_2 (by decide)),
   px_Sp.of (ps_ldc2 dX9_sign_3 wk_RX9_103),
   ps_callS (IH 130 (by decide)) (fc_130 _ _) wm_RX9_95 ws_yX9_in dX9_sign_6,
   px_Sp.of (ps_if_ne dX9_sign_9 (by decide)),
   px_Sp.of (ps_sipush dX9_sign_12 (by decide)),
   ps_iret dX9_sign_15,
   px_Sp.of (ps_aload_n dX9_sign_16 rfl),
   px_Sp.of (ps_get kc_X9 (by decide) wf_RX9_221 dX9_sign_17),
   px_Sp.of (ps_iconst dX9_sign_20 (by decide)),
   px_Sp.of (ps_icmp_ne dX9_sign_21 (by decide)),
   px_Sp.of (ps_sipush dX9_sign_24 (by decide)),
   ps_iret dX9_sign_27,
   px_Sp.of (ps_aload_n dX9_sign_28 rfl),
   px_Sp.of (ps_get kc_X9 (by decide) wf_RX9_76 dX9_sign_29),
   px_Sp.of (ps_aload_n dX9_sign_32 rfl),
   px_Sp.of (ps_get kc_X9 (by decide) wf_RX9_221 dX9_sign_33),
   px_Sp.of (ps_iload_n dX9_sign_36 rfl),
   px_Sp.ofm (ps_iast dX9_sign_37),
   px_Sp.of (ps_aload_n dX9_sign_38 rfl),
   px_Sp.of (ps_dup dX9_sign_39),
   px_Sp.of (ps_get kc_X9 (by decide) wf_RX9_221 dX9_sign_40),
   px_Sp.of (ps_iconst dX9_sign_43 (by decide)),
   px_Sp.of (ps_iadd dX9_sign_44),
   px_Sp.ofm (ps_putI kc_X9 (by decide) wf_RX9_221 rfl (by decide +kernel) kp_X9_26 dX9_sign_45),
   px_Sp.of (ps_aload_n dX9_sign_48 rfl),
   px_Sp.of (ps_get kc_X9 (by decide) wf_RX9_221 dX9_sign_49),
   ps_iret dX9_sign_52, trivial⟩
theorem mt_179 {l : Launch} {d : Nat} (IH : ∀ μ, μ < 196 → px_Met l px_P d μ) : px_Met l px_P (d + 1) 179 := px_met (own := RX9) rfl (by decide +kernel) (ok_179 IH)
theorem dX9_clear_0 : decode cX9_clear 0 = .ok (.aload_n 0, 1) := by decide +kernel
theorem dX9_clear_1 : decode cX9_clear 1 = .ok (.getfield 221, 3) := by decide +kernel
theorem dX9_clear_4 : decode cX9_clear 4 = .ok (.istore_n 1, 1) := by decide +kernel
theorem dX9_clear_5 : decode cX9_clear 5 = .ok (.aload_n 0, 1) := by decide +kernel
theorem dX9_clear_6 : decode cX9_clear 6 = .ok (.iconst 0, 1) := by decide +kernel
theorem dX9_clear_7 : decode cX9_clear 7 = .ok (.putfield 221, 3) := by decide +kernel
theorem dX9_clear_10 : decode cX9_clear 10 = .ok (.iload_n 1, 1) := by decide +kernel
theorem dX9_clear_11 : decode cX9_clear 11 = .ok (.ireturn, 1) := by decide +kernel
set_option maxRecDepth 20000 in
theorem ok_180 {l : Launch} {d : Nat} (IH : ∀ μ, μ < 196 → px_Met l px_P d μ) : px_ok l px_P d RX9 cX9_clear 2 (some .int) tb_180 :=
  ⟨px_Sp.of (ps_aload_n dX9_clear_0 rfl),
   px_Sp.of (ps_get kc_X9 (by decide) wf_RX9_221 dX9_clear_1),
   px_Sp.of (ps_istore_n dX9_clear_4 rfl (by decide)),
   px_Sp.of (ps_aload_n dX9_clear_5 rfl),
   px_Sp.of (ps_iconst dX9_clear_6 (by decide)),
   px_Sp.ofm (ps_putI kc_X9 (by decide) wf_RX9_221 rfl (by decide +kernel) kp_X9_26 dX9_clear_7),
   px_Sp.of (ps_iload_n dX9_clear_10 rfl),
   ps_iret dX9_clear_11, trivial⟩
theorem mt_180 {l : Launch} {d : Nat} (IH : ∀ μ, μ < 196 → px_Met l px_P d μ) : px_Met l px_P (d + 1) 180 := px_met (own := RX9) rfl (by decide +kernel) (ok_180 IH)
theorem dX9_seek_0 : decode cX9_seek 0 = .ok (.iload_n 1, 1) := by decide +kernel
theorem dX9_seek_1 : decode cX9_seek 1 = .ok (.i2l, 1) := by decide +kernel
theorem dX9_seek_2 : decode cX9_seek 2 = .ok (.ldc2_w 110, 3) := by decide +kernel
theorem dX9_seek_5 : decode cX9_seek 5 = .ok (.ldc2_w 108, 3) := by decide +kernel
theorem dX9_seek_8 : decode cX9_seek 8 = .ok (.invokestatic 95, 3) := by decide +kernel
theorem dX9_seek_11 : decode cX9_seek 11 = .ok (.ifCond .eq 15, 3) := by decide +kernel
theorem dX9_seek_14 : decode cX9_seek 14 = .ok (.iload_n 2, 1) := by decide +kernel
theorem dX9_seek_15 : decode cX9_seek 15 = .ok (.i2l, 1) := by decide +kernel
theorem dX9_seek_16 : decode cX9_seek 16 = .ok (.lconst 0, 1) := by decide +kernel
theorem dX9_seek_17 : decode cX9_seek 17 = .ok (.ldc2_w 167, 3) := by decide +kernel
theorem dX9_seek_20 : decode cX9_seek 20 = .ok (.invokestatic 95, 3) := by decide +kernel
theorem dX9_seek_23 : decode cX9_seek 23 = .ok (.ifCond .ne 7, 3) := by decide +kernel
theorem dX9_seek_26 : decode cX9_seek 26 = .ok (.sipush (-1002), 3) := by decide +kernel
theorem dX9_seek_29 : decode cX9_seek 29 = .ok (.ireturn, 1) := by decide +kernel
theorem dX9_seek_30 : decode cX9_seek 30 = .ok (.aload_n 0, 1) := by decide +kernel
theorem dX9_seek_31 : decode cX9_seek 31 = .ok (.getfield 221, 3) := by decide +kernel
theorem dX9_seek_34 : decode cX9_seek 34 = .ok (.ifCond .ne 7, 3) := by decide +kernel
theorem dX9_seek_37 : decode cX9_seek 37 = .ok (.sipush (-1003), 3) := by decide +kernel
theorem dX9_seek_40 : decode cX9_seek 40 = .ok (.ireturn, 1) := by decide +kernel
theorem dX9_seek_41 : decode cX9_seek 41 = .ok (.iconst 0, 1) := by decide +kernel
theorem dX9_seek_42 : decode cX9_seek 42 = .ok (.istore 4, 2) := by decide +kernel
theorem dX9_seek_44 : decode cX9_seek 44 = .ok (.iconst (-1), 1) := by decide +kernel
theorem dX9_seek_45 : decode cX9_seek 45 = .ok (.istore 5, 2) := by decide +kernel
theorem dX9_seek_47 : decode cX9_seek 47 = .ok (.iconst 0, 1) := by decide +kernel
theorem dX9_seek_48 : decode cX9_seek 48 = .ok (.istore 6, 2) := by decide +kernel
theorem dX9_seek_50 : decode cX9_seek 50 = .ok (.iload 6, 2) := by decide +kernel
theorem dX9_seek_52 : decode cX9_seek 52 = .ok (.bipush 14, 2) := by decide +kernel
theorem dX9_seek_54 : decode cX9_seek 54 = .ok (.aload_n 0, 1) := by decide +kernel
theorem dX9_seek_55 : decode cX9_seek 55 = .ok (.getfield 92, 3) := by decide +kernel
theorem dX9_seek_58 : decode cX9_seek 58 = .ok (.imul, 1) := by decide +kernel
theorem dX9_seek_59 : decode cX9_seek 59 = .ok (.if_icmp .ge 139, 3) := by decide +kernel
theorem dX9_seek_62 : decode cX9_seek 62 = .ok (.iload 6, 2) := by decide +kernel
theorem dX9_seek_64 : decode cX9_seek 64 = .ok (.bipush 14, 2) := by decide +kernel
theorem dX9_seek_66 : decode cX9_seek 66 = .ok (.idiv, 1) := by decide +kernel
theorem dX9_seek_67 : decode cX9_seek 67 = .ok (.istore 7, 2) := by decide +kernel
theorem dX9_seek_69 : decode cX9_seek 69 = .ok (.iload 6, 2) := by decide +kernel
theorem dX9_seek_71 : decode cX9_seek 71 = .ok (.bipush 14, 2) := by decide +kernel
theorem dX9_seek_73 : decode cX9_seek 73 = .ok (.irem, 1) := by decide +kernel
theorem dX9_seek_74 : decode cX9_seek 74 = .ok (.aload_n 0, 1) := by decide +kernel
theorem dX9_seek_75 : decode cX9_seek 75 = .ok (.getfield 22, 3) := by decide +kernel
theorem dX9_seek_78 : decode cX9_seek 78 = .ok (.iload 7, 2) := by decide +kernel
theorem dX9_seek_80 : decode cX9_seek 80 = .ok (.iaload, 1) := by decide +kernel
theorem dX9_seek_81 : decode cX9_seek 81 = .ok (.if_icmp .ge 32, 3) := by decide +kernel
theorem dX9_seek_84 : decode cX9_seek 84 = .ok (.aload_n 0, 1) := by decide +kernel
theorem dX9_seek_85 : decode cX9_seek 85 = .ok (.iload 7, 2) := by decide +kernel
theorem dX9_seek_87 : decode cX9_seek 87 = .ok (.invokevirtual 135, 3) := by decide +kernel
theorem dX9_seek_90 : decode cX9_seek 90 = .ok (.ifCond .eq 23, 3) := by decide +kernel
theorem dX9_seek_93 : decode cX9_seek 93 = .ok (.iload_n 1, 1) := by decide +kernel
theorem dX9_seek_94 : decode cX9_seek 94 = .ok (.iconst (-1), 1) := by decide +kernel
theorem dX9_seek_95 : decode cX9_seek 95 = .ok (.if_icmp .eq 14, 3) := by decide +kernel
theorem dX9_seek_98 : decode cX9_seek 98 = .ok (.aload_n 0, 1) := by decide +kernel
theorem dX9_seek_99 : decode cX9_seek 99 = .ok (.getfield 13, 3) := by decide +kernel
theorem dX9_seek_102 : decode cX9_seek 102 = .ok (.iload 7, 2) := by decide +kernel
theorem dX9_seek_104 : decode cX9_seek 104 = .ok (.iaload, 1) := by decide +kernel
theorem dX9_seek_105 : decode cX9_seek 105 = .ok (.iload_n 1, 1) := by decide +kernel
theorem dX9_seek_106 : decode cX9_seek 106 = .ok (.if_icmp .ne 7, 3) := by decide +kernel
theorem dX9_seek_109 : decode cX9_seek 109 = .ok (.iconst 1, 1) := by decide +kernel
theorem dX9_seek_110 : decode cX9_seek 110 = .ok (.goto 4, 3) := by decide +kernel
theorem dX9_seek_113 : decode cX9_seek 113 = .ok (.iconst 0, 1) := by decide +kernel
theorem dX9_seek_114 : decode cX9_seek 114 = .ok (.istore 8, 2) := by decide +kernel
theorem dX9_seek_116 : decode cX9_seek 116 = .ok (.iload_n 2, 1) := by decide +kernel
theorem dX9_seek_117 : decode cX9_seek 117 = .ok (.ifCond .eq 31, 3) := by decide +kernel
theorem dX9_seek_120 : decode cX9_seek 120 = .ok (.iload_n 2, 1) := by decide +kernel
theorem dX9_seek_121 : decode cX9_seek 121 = .ok (.iconst 1, 1) := by decide +kernel
theorem dX9_seek_122 : decode cX9_seek 122 = .ok (.if_icmp .ne 7, 3) := by decide +kernel
theorem dX9_seek_125 : decode cX9_seek 125 = .ok (.iconst 1, 1) := by decide +kernel
theorem dX9_seek_126 : decode cX9_seek 126 = .ok (.goto 4, 3) := by decide +kernel
theorem dX9_seek_129 : decode cX9_seek 129 = .ok (.iconst 0, 1) := by decide +kernel
theorem dX9_seek_130 : decode cX9_seek 130 = .ok (.aload_n 0, 1) := by decide +kernel
theorem dX9_seek_131 : decode cX9_seek 131 = .ok (.getfield 29, 3) := by decide +kernel
theorem dX9_seek_134 : decode cX9_seek 134 = .ok (.iload 6, 2) := by decide +kernel
theorem dX9_seek_136 : decode cX9_seek 136 = .ok (.iaload, 1) := by decide +kernel
theorem dX9_seek_137 : decode cX9_seek 137 = .ok (.ifCond .ne 7, 3) := by decide +kernel
theorem dX9_seek_140 : decode cX9_seek 140 = .ok (.iconst 1, 1) := by decide +kernel
theorem dX9_seek_141 : decode cX9_seek 141 = .ok (.goto 4, 3) := by decide +kernel
theorem dX9_seek_144 : decode cX9_seek 144 = .ok (.iconst 0, 1) := by decide +kernel
theorem dX9_seek_145 : decode cX9_seek 145 = .ok (.if_icmp .ne 7, 3) := by decide +kernel
theorem dX9_seek_148 : decode cX9_seek 148 = .ok (.iconst 1, 1) := by decide +kernel
theorem dX9_seek_149 : decode cX9_seek 149 = .ok (.goto 4, 3) := by decide +kernel
theorem dX9_seek_152 : decode cX9_seek 152 = .ok (.iconst 0, 1) := by decide +kernel
theorem dX9_seek_153 : decode cX9_seek 153 = .ok (.istore 9, 2) := by decide +kernel
theorem dX9_seek_155 : decode cX9_seek 155 = .ok (.iload 8, 2) := by decide +kernel
theorem dX9_seek_157 : decode cX9_seek 157 = .ok (.ifCond .eq 35, 3) := by decide +kernel
theorem dX9_seek_160 : decode cX9_seek 160 = .ok (.iload 9, 2) := by decide +kernel
theorem dX9_seek_162 : decode cX9_seek 162 = .ok (.ifCond .eq 30, 3) := by decide +kernel
theorem dX9_seek_165 : decode cX9_seek 165 = .ok (.aload_n 0, 1) := by decide +kernel
theorem dX9_seek_166 : decode cX9_seek 166 = .ok (.iload 6, 2) := by decide +kernel
theorem dX9_seek_168 : decode cX9_seek 168 = .ok (.invokevirtual 224, 3) := by decide +kernel
theorem dX9_seek_171 : decode cX9_seek 171 = .ok (.ifCond .eq 21, 3) := by decide +kernel
theorem dX9_seek_174 : decode cX9_seek 174 = .ok (.iload 4, 2) := by decide +kernel
theorem dX9_seek_176 : decode cX9_seek 176 = .ok (.iload_n 3, 1) := by decide +kernel
theorem dX9_seek_177 : decode cX9_seek 177 = .ok (.if_icmp .ne 8, 3) := by decide +kernel
theorem dX9_seek_180 : decode cX9_seek 180 = .ok (.iload 6, 2) := by decide +kernel
theorem dX9_seek_182 : decode cX9_seek 182 = .ok (.goto 5, 3) := by decide +kernel
theorem dX9_seek_185 : decode cX9_seek 185 = .ok (.iload 5, 2) := by decide +kernel
theorem dX9_seek_187 : decode cX9_seek 187 = .ok (.istore 5, 2) := by decide +kernel
theorem dX9_seek_189 : decode cX9_seek 189 = .ok (.iinc 4 1, 3) := by decide +kernel
theorem dX9_seek_192 : decode cX9_seek 192 = .ok (.iinc 6 1, 3) := by decide +kernel
theorem dX9_seek_195 : decode cX9_seek 195 = .ok (.goto (-145), 3) := by decide +kernel
theorem dX9_seek_198 : decode cX9_seek 198 = .ok (.iload_n 3, 1) := by decide +kernel
theorem dX9_seek_199 : decode cX9_seek 199 = .ok (.iconst (-1), 1) := by decide +kernel
theorem dX9_seek_200 : decode cX9_seek 200 = .ok (.if_icmp .ne 8, 3) := by decide +kernel
theorem dX9_seek_203 : decode cX9_seek 203 = .ok (.iload 4, 2) := by decide +kernel
theorem dX9_seek_205 : decode cX9_seek 205 = .ok (.goto 5, 3) := by decide +kernel
theorem dX9_seek_208 : decode cX9_seek 208 = .ok (.iload 5, 2) := by decide +kernel
theorem dX9_seek_210 : decode cX9_seek 210 = .ok (.ireturn, 1) := by decide +kernel
set_option maxRecDepth 20000 in
theorem ok_181 {l : Launch} {d : Nat} (IH : ∀ μ, μ < 196 → px_Met l px_P d μ) : px_ok l px_P d RX9 cX9_seek 10 (some .int) tb_181 :=
  ⟨px_Sp.of (ps_iload_n dX9_seek_0 rfl),
   px_Sp.of (ps_i2l dX9_seek_1),
   px_Sp.of (ps_ldc2 dX9_seek_2 wk_RX9_110),
   px_Sp.of (ps_ldc2 dX9_seek_5 wk_RX9_108),
   ps_callS (IH 130 (by decide)) (fc_130 _ _) wm_RX9_95 ws_yX9_in dX9_seek_8,
   px_Sp.of (ps_if_eq dX9_seek_11 (by decide)),
   px_Sp.of (ps_iload_n dX9_seek_14 rfl),
   px_Sp.of (ps_i2l dX9_seek_15),
   px_Sp.of (ps_lconst dX9_seek_16 (by decide)),
   px_Sp.of (ps_ldc2 dX9_seek_17 wk_RX9_167),
   ps_callS (IH 130 (by decide)) (fc_130 _ _) wm_RX9_95 ws_yX9_in dX9_seek_20,
   px_Sp.of (ps_if_ne dX9_seek_23 (by decide)),
   px_Sp.of (ps_sipush dX9_seek_26 (by decide)),
   ps_iret dX9_seek_29,
   px_Sp.of (ps_aload_n dX9_seek_30 rfl),
   px_Sp.of (ps_get kc_X9 (by decide) wf_RX9_221 dX9_seek_31),
   px_Sp.of (ps_if_ne dX9_seek_34 (by decide)),
   px_Sp.of (ps_sipush dX9_seek_37 (by decide)),
   ps_iret dX9_seek_40,
   px_Sp.of (ps_iconst dX9_seek_41 (by decide)),
   px_Sp.of (ps_istore dX9_seek_42 (by decide)),
   px_Sp.of (ps_iconst dX9_seek_44 (by decide)),
   px_Sp.of (ps_istore dX9_seek_45 (by decide)),
   px_Sp.of (ps_iconst dX9_seek_47 (by decide)),
   px_Sp.of (ps_istore dX9_seek_48 (by decide)),
   px_Sp.of (ps_iload dX9_seek_50),
   px_Sp.of (ps_bipush dX9_seek_52 (by decide)),
   px_Sp.of (ps_aload_n dX9_seek_54 rfl),
   px_Sp.of (ps_get kc_X9 (by decide) wf_RX9_92 dX9_seek_55),
   px_Sp.of (ps_imul dX9_seek_58),
   px_Sp.of (ps_icmp_ge dX9_seek_59 (by decide)),
   px_Sp.of (ps_iload dX9_seek_62),
   px_Sp.of (ps_bipush dX9_seek_64 (by decide)),
   px_Sp.of (ps_idiv dX9_seek_66),
   px_Sp.of (ps_istore dX9_seek_67 (by decide)),
   px_Sp.of (ps_iload dX9_seek_69),
   px_Sp.of (ps_bipush dX9_seek_71 (by decide)),
   px_Sp.of (ps_irem dX9_seek_73),
   px_Sp.of (ps_aload_n dX9_seek_74 rfl),
   px_Sp.of (ps_get kc_X9 (by decide) wf_RX9_22 dX9_seek_75),
   px_Sp.of (ps_iload dX9_seek_78),
   px_Sp.of (ps_iald dX9_seek_80),
   px_Sp.of (ps_icmp_ge dX9_seek_81 (by decide)),
   px_Sp.of (ps_aload_n dX9_seek_84 rfl),
   px_Sp.of (ps_iload dX9_seek_85),
   ps_callV (IH 143 (by decide)) (C := RX9) (T := TX9) (N := 36) (ci := 8) rfl rfl (fc_143 _ _) wm_RX9_135 wi_yX9_isSeen wl_yX9_isSeen dX9_seek_87,
   px_Sp.of (ps_if_eq dX9_seek_90 (by decide)),
   px_Sp.of (ps_iload_n dX9_seek_93 rfl),
   px_Sp.of (ps_iconst dX9_seek_94 (by decide)),
   px_Sp.of (ps_icmp_eq dX9_seek_95 (by decide)),
   px_Sp.of (ps_aload_n dX9_seek_98 rfl),
   px_Sp.of (ps_get kc_X9 (by decide) wf_RX9_13 dX9_seek_99),
   px_Sp.of (ps_iload dX9_seek_102),
   px_Sp.of (ps_iald dX9_seek_104),
   px_Sp.of (ps_iload_n dX9_seek_105 rfl),
   px_Sp.of (ps_icmp_ne dX9_seek_106 (by decide)),
   px_Sp.of (ps_iconst dX9_seek_109 (by decide)),
   px_Sp.of (ps_goto dX9_seek_110 (by decide)),
   px_Sp.of (ps_iconst dX9_seek_113 (by decide)),
   px_Sp.of (ps_istore dX9_seek_114 (by decide)),
   px_Sp.of (ps_iload_n dX9_seek_116 rfl),
   px_Sp.of (ps_if_eq dX9_seek_117 (by decide)),
   px_Sp.of (ps_iload_n dX9_seek_120 rfl),
   px_Sp.of (ps_iconst dX9_seek_121 (by decide)),
   px_Sp.of (ps_icmp_ne dX9_seek_122 (by decide)),
   px_Sp.of (ps_iconst dX9_seek_125 (by decide)),
   px_Sp.of (ps_goto dX9_seek_126 (by decide)),
   px_Sp.of (ps_iconst dX9_seek_129 (by decide)),
   px_Sp.of (ps_aload_n dX9_seek_130 rfl),
   px_Sp.of (ps_get kc_X9 (by decide) wf_RX9_29 dX9_seek_131),
   px_Sp.of (ps_iload dX9_seek_134),
   px_Sp.of (ps_iald dX9_seek_136),
   px_Sp.of (ps_if_ne dX9_seek_137 (by decide)),
   px_Sp.of (ps_iconst dX9_seek_140 (by decide)),
   px_Sp.of (ps_goto dX9_seek_141 (by decide)),
   px_Sp.of (ps_iconst dX9_seek_144 (by decide)),
   px_Sp.of (ps_icmp_ne dX9_seek_145 (by decide)),
   px_Sp.of (ps_iconst dX9_seek_148 (by decide)),
   px_Sp.of (ps_goto dX9_seek_149 (by decide)),
   px_Sp.of (ps_iconst dX9_seek_152 (by decide)),
   px_Sp.of (ps_istore dX9_seek_153 (by decide)),
   px_Sp.of (ps_iload dX9_seek_155),
   px_Sp.of (ps_if_eq dX9_seek_157 (by decide)),
   px_Sp.of (ps_iload dX9_seek_160),
   px_Sp.of (ps_if_eq dX9_seek_162 (by decide)),
   px_Sp.of (ps_aload_n dX9_seek_165 rfl),
   px_Sp.of (ps_iload dX9_seek_166),
   ps_callV (IH 182 (by decide)) (C := RX9) (T := TX9) (N := 36) (ci := 8) rfl rfl (fc_182 _ _) wm_RX9_224 wi_yX9_hasSigns wl_yX9_hasSigns dX9_seek_168,
   px_Sp.of (ps_if_eq dX9_seek_171 (by decide)),
   px_Sp.of (ps_iload dX9_seek_174),
   px_Sp.of (ps_iload_n dX9_seek_176 rfl),
   px_Sp.of (ps_icmp_ne dX9_seek_177 (by decide)),
   px_Sp.of (ps_iload dX9_seek_180),
   px_Sp.of (ps_goto dX9_seek_182 (by decide)),
   px_Sp.of (ps_iload dX9_seek_185),
   px_Sp.of (ps_istore dX9_seek_187 (by decide)),
   px_Sp.of (ps_iinc dX9_seek_189 (by decide) (by decide)),
   px_Sp.of (ps_iinc dX9_seek_192 (by decide) (by decide)),
   px_Sp.of (ps_goto dX9_seek_195 (by decide)),
   px_Sp.of (ps_iload_n dX9_seek_198 rfl),
   px_Sp.of (ps_iconst dX9_seek_199 (by decide)),
   px_Sp.of (ps_icmp_ne dX9_seek_200 (by decide)),
   px_Sp.of (ps_iload dX9_seek_203),
   px_Sp.of (ps_goto dX9_seek_205 (by decide)),
   px_Sp.of (ps_iload dX9_seek_208),
   ps_iret dX9_seek_210, trivial⟩
theorem mt_181 {l : Launch} {d : Nat} (IH : ∀ μ, μ < 196 → px_Met l px_P d μ) : px_Met l px_P (d + 1) 181 := px_met (own := RX9) rfl (by decide +kernel) (ok_181 IH)
theorem dX9_hasSigns_0 : decode cX9_hasSigns 0 = .ok (.iconst 0, 1) := by decide +kernel
theorem dX9_hasSigns_1 : decode cX9_hasSigns 1 = .ok (.istore_n 2, 1) := by decide +kernel
theorem dX9_hasSigns_2 : decode cX9_hasSigns 2 = .ok (.iconst 0, 1) := by decide +kernel
theorem dX9_hasSigns_3 : decode cX9_hasSigns 3 = .ok (.istore_n 3, 1) := by decide +kernel
theorem dX9_hasSigns_4 : decode cX9_hasSigns 4 = .ok (.iload_n 3, 1) := by decide +kernel
theorem dX9_hasSigns_5 : decode cX9_hasSigns 5 = .ok (.aload_n 0, 1) := by decide +kernel
theorem dX9_hasSigns_6 : decode cX9_hasSigns 6 = .ok (.getfield 221, 3) := by decide +kernel
theorem dX9_hasSigns_9 : decode cX9_hasSigns 9 = .ok (.iadd, 1) := by decide +kernel
theorem dX9_hasSigns_10 : decode cX9_hasSigns 10 = .ok (.aload_n 0, 1) := by decide +kernel
theorem dX9_hasSigns_11 : decode cX9_hasSigns 11 = .ok (.getfield 32, 3) := by decide +kernel
theorem dX9_hasSigns_14 : decode cX9_hasSigns 14 = .ok (.iload_n 1, 1) := by decide +kernel
theorem dX9_hasSigns_15 : decode cX9_hasSigns 15 = .ok (.iaload, 1) := by decide +kernel
theorem dX9_hasSigns_16 : decode cX9_hasSigns 16 = .ok (.if_icmp .gt 77, 3) := by decide +kernel
theorem dX9_hasSigns_19 : decode cX9_hasSigns 19 = .ok (.iload_n 2, 1) := by decide +kernel
theorem dX9_hasSigns_20 : decode cX9_hasSigns 20 = .ok (.ifCond .ne 73, 3) := by decide +kernel
theorem dX9_hasSigns_23 : decode cX9_hasSigns 23 = .ok (.iconst 1, 1) := by decide +kernel
theorem dX9_hasSigns_24 : decode cX9_hasSigns 24 = .ok (.istore_n 2, 1) := by decide +kernel
theorem dX9_hasSigns_25 : decode cX9_hasSigns 25 = .ok (.iconst 0, 1) := by decide +kernel
theorem dX9_hasSigns_26 : decode cX9_hasSigns 26 = .ok (.istore 4, 2) := by decide +kernel
theorem dX9_hasSigns_28 : decode cX9_hasSigns 28 = .ok (.iload 4, 2) := by decide +kernel
theorem dX9_hasSigns_30 : decode cX9_hasSigns 30 = .ok (.aload_n 0, 1) := by decide +kernel
theorem dX9_hasSigns_31 : decode cX9_hasSigns 31 = .ok (.getfield 221, 3) := by decide +kernel
theorem dX9_hasSigns_34 : decode cX9_hasSigns 34 = .ok (.if_icmp .ge 53, 3) := by decide +kernel
theorem dX9_hasSigns_37 : decode cX9_hasSigns 37 = .ok (.iload_n 2, 1) := by decide +kernel
theorem dX9_hasSigns_38 : decode cX9_hasSigns 38 = .ok (.ifCond .eq 41, 3) := by decide +kernel
theorem dX9_hasSigns_41 : decode cX9_hasSigns 41 = .ok (.aload_n 0, 1) := by decide +kernel
theorem dX9_hasSigns_42 : decode cX9_hasSigns 42 = .ok (.getfield 76, 3) := by decide +kernel
theorem dX9_hasSigns_45 : decode cX9_hasSigns 45 = .ok (.iload 4, 2) := by decide +kernel
theorem dX9_hasSigns_47 : decode cX9_hasSigns 47 = .ok (.iaload, 1) := by decide +kernel
theorem dX9_hasSigns_48 : decode cX9_hasSigns 48 = .ok (.ifCond .eq 27, 3) := by decide +kernel
theorem dX9_hasSigns_51 : decode cX9_hasSigns 51 = .ok (.aload_n 0, 1) := by decide +kernel
theorem dX9_hasSigns_52 : decode cX9_hasSigns 52 = .ok (.getfield 76, 3) := by decide +kernel
theorem dX9_hasSigns_55 : decode cX9_hasSigns 55 = .ok (.iload 4, 2) := by decide +kernel
theorem dX9_hasSigns_57 : decode cX9_hasSigns 57 = .ok (.iaload, 1) := by decide +kernel
theorem dX9_hasSigns_58 : decode cX9_hasSigns 58 = .ok (.aload_n 0, 1) := by decide +kernel
theorem dX9_hasSigns_59 : decode cX9_hasSigns 59 = .ok (.getfield 35, 3) := by decide +kernel
theorem dX9_hasSigns_62 : decode cX9_hasSigns 62 = .ok (.bipush 8, 2) := by decide +kernel
theorem dX9_hasSigns_64 : decode cX9_hasSigns 64 = .ok (.iload_n 1, 1) := by decide +kernel
theorem dX9_hasSigns_65 : decode cX9_hasSigns 65 = .ok (.imul, 1) := by decide +kernel
theorem dX9_hasSigns_66 : decode cX9_hasSigns 66 = .ok (.iload_n 3, 1) := by decide +kernel
theorem dX9_hasSigns_67 : decode cX9_hasSigns 67 = .ok (.iadd, 1) := by decide +kernel
theorem dX9_hasSigns_68 : decode cX9_hasSigns 68 = .ok (.iload 4, 2) := by decide +kernel
theorem dX9_hasSigns_70 : decode cX9_hasSigns 70 = .ok (.iadd, 1) := by decide +kernel
theorem dX9_hasSigns_71 : decode cX9_hasSigns 71 = .ok (.iaload, 1) := by decide +kernel
theorem dX9_hasSigns_72 : decode cX9_hasSigns 72 = .ok (.if_icmp .ne 7, 3) := by decide +kernel
theorem dX9_hasSigns_75 : decode cX9_hasSigns 75 = .ok (.iconst 1, 1) := by decide +kernel
theorem dX9_hasSigns_76 : decode cX9_hasSigns 76 = .ok (.goto 4, 3) := by decide +kernel
theorem dX9_hasSigns_79 : decode cX9_hasSigns 79 = .ok (.iconst 0, 1) := by decide +kernel
theorem dX9_hasSigns_80 : decode cX9_hasSigns 80 = .ok (.istore_n 2, 1) := by decide +kernel
theorem dX9_hasSigns_81 : decode cX9_hasSigns 81 = .ok (.iinc 4 1, 3) := by decide +kernel
theorem dX9_hasSigns_84 : decode cX9_hasSigns 84 = .ok (.goto (-56), 3) := by decide +kernel
theorem dX9_hasSigns_87 : decode cX9_hasSigns 87 = .ok (.iinc 3 1, 3) := by decide +kernel
theorem dX9_hasSigns_90 : decode cX9_hasSigns 90 = .ok (.goto (-86), 3) := by decide +kernel
theorem dX9_hasSigns_93 : decode cX9_hasSigns 93 = .ok (.iload_n 2, 1) := by decide +kernel
theorem dX9_hasSigns_94 : decode cX9_hasSigns 94 = .ok (.ireturn, 1) := by decide +kernel
set_option maxRecDepth 20000 in
theorem ok_182 {l : Launch} {d : Nat} (IH : ∀ μ, μ < 196 → px_Met l px_P d μ) : px_ok l px_P d RX9 cX9_hasSigns 5 (some .boolean) tb_182 :=
  ⟨px_Sp.of (ps_iconst dX9_hasSigns_0 (by decide)),
   px_Sp.of (ps_istore_n dX9_hasSigns_1 rfl (by decide)),
   px_Sp.of (ps_iconst dX9_hasSigns_2 (by decide)),
   px_Sp.of (ps_istore_n dX9_hasSigns_3 rfl (by decide)),
   px_Sp.of (ps_iload_n dX9_hasSigns_4 rfl),
   px_Sp.of (ps_aload_n dX9_hasSigns_5 rfl),
   px_Sp.of (ps_get kc_X9 (by decide) wf_RX9_221 dX9_hasSigns_6),
   px_Sp.of (ps_iadd dX9_hasSigns_9),
   px_Sp.of (ps_aload_n dX9_hasSigns_10 rfl),
   px_Sp.of (ps_get kc_X9 (by decide) wf_RX9_32 dX9_hasSigns_11),
   px_Sp.of (ps_iload_n dX9_hasSigns_14 rfl),
   px_Sp.of (ps_iald dX9_hasSigns_15),
   px_Sp.of (ps_icmp_gt dX9_hasSigns_16 (by decide)),
   px_Sp.of (ps_iload_n dX9_hasSigns_19 rfl),
   px_Sp.of (ps_if_ne dX9_hasSigns_20 (by decide)),
   px_Sp.of (ps_iconst dX9_hasSigns_23 (by decide)),
   px_Sp.of (ps_istore_n dX9_hasSigns_24 rfl (by decide)),
   px_Sp.of (ps_iconst dX9_hasSigns_25 (by decide)),
   px_Sp.of (ps_istore dX9_hasSigns_26 (by decide)),
   px_Sp.of (ps_iload dX9_hasSigns_28),
   px_Sp.of (ps_aload_n dX9_hasSigns_30 rfl),
   px_Sp.of (ps_get kc_X9 (by decide) wf_RX9_221 dX9_hasSigns_31),
   px_Sp.of (ps_icmp_ge dX9_hasSigns_34 (by decide)),
   px_Sp.of (ps_iload_n dX9_hasSigns_37 rfl),
   px_Sp.of (ps_if_eq dX9_hasSigns_38 (by decide)),
   px_Sp.of (ps_aload_n dX9_hasSigns_41 rfl),
   px_Sp.of (ps_get kc_X9 (by decide) wf_RX9_76 dX9_hasSigns_42),
   px_Sp.of (ps_iload dX9_hasSigns_45),
   px_Sp.of (ps_iald dX9_hasSigns_47),
   px_Sp.of (ps_if_eq dX9_hasSigns_48 (by decide)),
   px_Sp.of (ps_aload_n dX9_hasSigns_51 rfl),
   px_Sp.of (ps_get kc_X9 (by decide) wf_RX9_76 dX9_hasSigns_52),
   px_Sp.of (ps_iload dX9_hasSigns_55),
   px_Sp.of (ps_iald dX9_hasSigns_57),
   px_Sp.of (ps_aload_n dX9_hasSigns_58 rfl),
   px_Sp.of (ps_get kc_X9 (by decide) wf_RX9_35 dX9_hasSigns_59),
   px_Sp.of (ps_bipush dX9_hasSigns_62 (by decide)),
   px_Sp.of (ps_iload_n dX9_hasSigns_64 rfl),
   px_Sp.of (ps_imul dX9_hasSigns_65),
   px_Sp.of (ps_iload_n dX9_hasSigns_66 rfl),
   px_Sp.of (ps_iadd dX9_hasSigns_67),
   px_Sp.of (ps_iload dX9_hasSigns_68),
   px_Sp.of (ps_iadd dX9_hasSigns_70),
   px_Sp.of (ps_iald dX9_hasSigns_71),
   px_Sp.of (ps_icmp_ne dX9_hasSigns_72 (by decide)),
   px_Sp.of (ps_iconst dX9_hasSigns_75 (by decide)),
   px_Sp.of (ps_goto dX9_hasSigns_76 (by decide)),
   px_Sp.of (ps_iconst dX9_hasSigns_79 (by decide)),
   px_Sp.of (ps_istore_n dX9_hasSigns_80 rfl (by decide)),
   px_Sp.of (ps_iinc dX9_hasSigns_81 (by decide) (by decide)),
   px_Sp.of (ps_goto dX9_hasSigns_84 (by decide)),
   px_Sp.of (ps_iinc dX9_hasSigns_87 (by decide) (by decide)),
   px_Sp.of (ps_goto dX9_hasSigns_90 (by decide)),
   px_Sp.of (ps_iload_n dX9_hasSigns_93 rfl),
   ps_zret dX9_hasSigns_94, trivial⟩
theorem mt_182 {l : Launch} {d : Nat} (IH : ∀ μ, μ < 196 → px_Met l px_P d μ) : px_Met l px_P (d + 1) 182 := px_met (own := RX9) rfl (by decide +kernel) (ok_182 IH)
theorem dX9_still_0 : decode cX9_still 0 = .ok (.aload_n 0, 1) := by decide +kernel
theorem dX9_still_1 : decode cX9_still 1 = .ok (.iload_n 1, 1) := by decide +kernel
theorem dX9_still_2 : decode cX9_still 2 = .ok (.invokevirtual 99, 3) := by decide +kernel
theorem dX9_still_5 : decode cX9_still 5 = .ok (.ifCond .eq 7, 3) := by decide +kernel
theorem dX9_still_8 : decode cX9_still 8 = .ok (.sipush (-1001), 3) := by decide +kernel
theorem dX9_still_11 : decode cX9_still 11 = .ok (.ireturn, 1) := by decide +kernel
theorem dX9_still_12 : decode cX9_still 12 = .ok (.aload_n 0, 1) := by decide +kernel
theorem dX9_still_13 : decode cX9_still 13 = .ok (.getfield 25, 3) := by decide +kernel
theorem dX9_still_16 : decode cX9_still 16 = .ok (.iload_n 1, 1) := by decide +kernel
theorem dX9_still_17 : decode cX9_still 17 = .ok (.baload, 1) := by decide +kernel
theorem dX9_still_18 : decode cX9_still 18 = .ok (.ifCond .ne 7, 3) := by decide +kernel
theorem dX9_still_21 : decode cX9_still 21 = .ok (.sipush (-1003), 3) := by decide +kernel
theorem dX9_still_24 : decode cX9_still 24 = .ok (.ireturn, 1) := by decide +kernel
theorem dX9_still_25 : decode cX9_still 25 = .ok (.aload_n 0, 1) := by decide +kernel
theorem dX9_still_26 : decode cX9_still 26 = .ok (.iload_n 1, 1) := by decide +kernel
theorem dX9_still_27 : decode cX9_still 27 = .ok (.putfield 45, 3) := by decide +kernel
theorem dX9_still_30 : decode cX9_still 30 = .ok (.aload_n 0, 1) := by decide +kernel
theorem dX9_still_31 : decode cX9_still 31 = .ok (.invokevirtual 152, 3) := by decide +kernel
theorem dX9_still_34 : decode cX9_still 34 = .ok (.iconst 0, 1) := by decide +kernel
theorem dX9_still_35 : decode cX9_still 35 = .ok (.istore_n 2, 1) := by decide +kernel
theorem dX9_still_36 : decode cX9_still 36 = .ok (.iconst 0, 1) := by decide +kernel
theorem dX9_still_37 : decode cX9_still 37 = .ok (.istore_n 3, 1) := by decide +kernel
theorem dX9_still_38 : decode cX9_still 38 = .ok (.iload_n 3, 1) := by decide +kernel
theorem dX9_still_39 : decode cX9_still 39 = .ok (.aload_n 0, 1) := by decide +kernel
theorem dX9_still_40 : decode cX9_still 40 = .ok (.getfield 92, 3) := by decide +kernel
theorem dX9_still_43 : decode cX9_still 43 = .ok (.if_icmp .ge 108, 3) := by decide +kernel
theorem dX9_still_46 : decode cX9_still 46 = .ok (.iconst 0, 1) := by decide +kernel
theorem dX9_still_47 : decode cX9_still 47 = .ok (.istore 4, 2) := by decide +kernel
theorem dX9_still_49 : decode cX9_still 49 = .ok (.iload 4, 2) := by decide +kernel
theorem dX9_still_51 : decode cX9_still 51 = .ok (.aload_n 0, 1) := by decide +kernel
theorem dX9_still_52 : decode cX9_still 52 = .ok (.getfield 22, 3) := by decide +kernel
theorem dX9_still_55 : decode cX9_still 55 = .ok (.iload_n 3, 1) := by decide +kernel
theorem dX9_still_56 : decode cX9_still 56 = .ok (.iaload, 1) := by decide +kernel
theorem dX9_still_57 : decode cX9_still 57 = .ok (.if_icmp .ge 88, 3) := by decide +kernel
theorem dX9_still_60 : decode cX9_still 60 = .ok (.iload_n 3, 1) := by decide +kernel
theorem dX9_still_61 : decode cX9_still 61 = .ok (.iload_n 1, 1) := by decide +kernel
theorem dX9_still_62 : decode cX9_still 62 = .ok (.if_icmp .eq 83, 3) := by decide +kernel
theorem dX9_still_65 : decode cX9_still 65 = .ok (.aload_n 0, 1) := by decide +kernel
theorem dX9_still_66 : decode cX9_still 66 = .ok (.iload_n 3, 1) := by decide +kernel
theorem dX9_still_67 : decode cX9_still 67 = .ok (.invokevirtual 135, 3) := by decide +kernel
theorem dX9_still_70 : decode cX9_still 70 = .ok (.ifCond .eq 75, 3) := by decide +kernel
theorem dX9_still_73 : decode cX9_still 73 = .ok (.bipush 14, 2) := by decide +kernel
theorem dX9_still_75 : decode cX9_still 75 = .ok (.iload_n 3, 1) := by decide +kernel
theorem dX9_still_76 : decode cX9_still 76 = .ok (.imul, 1) := by decide +kernel
theorem dX9_still_77 : decode cX9_still 77 = .ok (.iload 4, 2) := by decide +kernel
theorem dX9_still_79 : decode cX9_still 79 = .ok (.iadd, 1) := by decide +kernel
theorem dX9_still_80 : decode cX9_still 80 = .ok (.istore 5, 2) := by decide +kernel
theorem dX9_still_82 : decode cX9_still 82 = .ok (.aload_n 0, 1) := by decide +kernel
theorem dX9_still_83 : decode cX9_still 83 = .ok (.getfield 29, 3) := by decide +kernel
theorem dX9_still_86 : decode cX9_still 86 = .ok (.iload 5, 2) := by decide +kernel
theorem dX9_still_88 : decode cX9_still 88 = .ok (.iaload, 1) := by decide +kernel
theorem dX9_still_89 : decode cX9_still 89 = .ok (.ifCond .le 12, 3) := by decide +kernel
theorem dX9_still_92 : decode cX9_still 92 = .ok (.aload_n 0, 1) := by decide +kernel
theorem dX9_still_93 : decode cX9_still 93 = .ok (.iload 5, 2) := by decide +kernel
theorem dX9_still_95 : decode cX9_still 95 = .ok (.invokevirtual 169, 3) := by decide +kernel
theorem dX9_still_98 : decode cX9_still 98 = .ok (.goto 4, 3) := by decide +kernel
theorem dX9_still_101 : decode cX9_still 101 = .ok (.iconst (-1), 1) := by decide +kernel
theorem dX9_still_102 : decode cX9_still 102 = .ok (.istore 6, 2) := by decide +kernel
theorem dX9_still_104 : decode cX9_still 104 = .ok (.iload 6, 2) := by decide +kernel
theorem dX9_still_106 : decode cX9_still 106 = .ok (.ifCond .lt 33, 3) := by decide +kernel
theorem dX9_still_109 : decode cX9_still 109 = .ok (.iload 6, 2) := by decide +kernel
theorem dX9_still_111 : decode cX9_still 111 = .ok (.bipush 14, 2) := by decide +kernel
theorem dX9_still_113 : decode cX9_still 113 = .ok (.idiv, 1) := by decide +kernel
theorem dX9_still_114 : decode cX9_still 114 = .ok (.iload_n 1, 1) := by decide +kernel
theorem dX9_still_115 : decode cX9_still 115 = .ok (.if_icmp .ne 24, 3) := by decide +kernel
theorem dX9_still_118 : decode cX9_still 118 = .ok (.aload_n 0, 1) := by decide +kernel
theorem dX9_still_119 : decode cX9_still 119 = .ok (.iload 6, 2) := by decide +kernel
theorem dX9_still_121 : decode cX9_still 121 = .ok (.iload 5, 2) := by decide +kernel
theorem dX9_still_123 : decode cX9_still 123 = .ok (.invokevirtual 161, 3) := by decide +kernel
theorem dX9_still_126 : decode cX9_still 126 = .ok (.ifCond .eq 13, 3) := by decide +kernel
theorem dX9_still_129 : decode cX9_still 129 = .ok (.iload_n 2, 1) := by decide +kernel
theorem dX9_still_130 : decode cX9_still 130 = .ok (.iconst 1, 1) := by decide +kernel
theorem dX9_still_131 : decode cX9_still 131 = .ok (.iload 6, 2) := by decide +kernel
theorem dX9_still_133 : decode cX9_still 133 = .ok (.bipush 14, 2) := by decide +kernel
theorem dX9_still_135 : decode cX9_still 135 = .ok (.irem, 1) := by decide +kernel
theorem dX9_still_136 : decode cX9_still 136 = .ok (.ishl, 1) := by decide +kernel
theorem dX9_still_137 : decode cX9_still 137 = .ok (.ior, 1) := by decide +kernel
theorem dX9_still_138 : decode cX9_still 138 = .ok (.istore_n 2, 1) := by decide +kernel
theorem dX9_still_139 : decode cX9_still 139 = .ok (.iinc 4 1, 3) := by decide +kernel
theorem dX9_still_142 : decode cX9_still 142 = .ok (.goto (-93), 3) := by decide +kernel
theorem dX9_still_145 : decode cX9_still 145 = .ok (.iinc 3 1, 3) := by decide +kernel
theorem dX9_still_148 : decode cX9_still 148 = .ok (.goto (-110), 3) := by decide +kernel
theorem dX9_still_151 : decode cX9_still 151 = .ok (.aload_n 0, 1) := by decide +kernel
theorem dX9_still_152 : decode cX9_still 152 = .ok (.iconst (-1), 1) := by decide +kernel
theorem dX9_still_153 : decode cX9_still 153 = .ok (.putfield 45, 3) := by decide +kernel
theorem dX9_still_156 : decode cX9_still 156 = .ok (.iload_n 2, 1) := by decide +kernel
theorem dX9_still_157 : decode cX9_still 157 = .ok (.ireturn, 1) := by decide +kernel
set_option maxRecDepth 20000 in
theorem ok_183 {l : Launch} {d : Nat} (IH : ∀ μ, μ < 196 → px_Met l px_P d μ) : px_ok l px_P d RX9 cX9_still 7 (some .int) tb_183 :=
  ⟨px_Sp.of (ps_aload_n dX9_still_0 rfl),
   px_Sp.of (ps_iload_n dX9_still_1 rfl),
   ps_callV (IH 132 (by decide)) (C := RX9) (T := TX9) (N := 36) (ci := 8) rfl rfl (fc_132 _ _) wm_RX9_99 wi_yX9_noLetter wl_yX9_noLetter dX9_still_2,
   px_Sp.of (ps_if_eq dX9_still_5 (by decide)),
   px_Sp.of (ps_sipush dX9_still_8 (by decide)),
   ps_iret dX9_still_11,
   px_Sp.of (ps_aload_n dX9_still_12 rfl),
   px_Sp.of (ps_get kc_X9 (by decide) wf_RX9_25 dX9_still_13),
   px_Sp.of (ps_iload_n dX9_still_16 rfl),
   px_Sp.of (ps_zald dX9_still_17),
   px_Sp.of (ps_if_ne dX9_still_18 (by decide)),
   px_Sp.of (ps_sipush dX9_still_21 (by decide)),
   ps_iret dX9_still_24,
   px_Sp.of (ps_aload_n dX9_still_25 rfl),
   px_Sp.of (ps_iload_n dX9_still_26 rfl),
   px_Sp.ofm (ps_putI kc_X9 (by decide) wf_RX9_45 rfl (by decide +kernel) kp_X9_13 dX9_still_27),
   px_Sp.of (ps_aload_n dX9_still_30 rfl),
   ps_callV (IH 148 (by decide)) (C := RX9) (T := TX9) (N := 36) (ci := 8) rfl rfl (fc_148 _ _) wm_RX9_152 wi_yX9_findParents wl_yX9_findParents dX9_still_31,
   px_Sp.of (ps_iconst dX9_still_34 (by decide)),
   px_Sp.of (ps_istore_n dX9_still_35 rfl (by decide)),
   px_Sp.of (ps_iconst dX9_still_36 (by decide)),
   px_Sp.of (ps_istore_n dX9_still_37 rfl (by decide)),
   px_Sp.of (ps_iload_n dX9_still_38 rfl),
   px_Sp.of (ps_aload_n dX9_still_39 rfl),
   px_Sp.of (ps_get kc_X9 (by decide) wf_RX9_92 dX9_still_40),
   px_Sp.of (ps_icmp_ge dX9_still_43 (by decide)),
   px_Sp.of (ps_iconst dX9_still_46 (by decide)),
   px_Sp.of (ps_istore dX9_still_47 (by decide)),
   px_Sp.of (ps_iload dX9_still_49),
   px_Sp.of (ps_aload_n dX9_still_51 rfl),
   px_Sp.of (ps_get kc_X9 (by decide) wf_RX9_22 dX9_still_52),
   px_Sp.of (ps_iload_n dX9_still_55 rfl),
   px_Sp.of (ps_iald dX9_still_56),
   px_Sp.of (ps_icmp_ge dX9_still_57 (by decide)),
   px_Sp.of (ps_iload_n dX9_still_60 rfl),
   px_Sp.of (ps_iload_n dX9_still_61 rfl),
   px_Sp.of (ps_icmp_eq dX9_still_62 (by decide)),
   px_Sp.of (ps_aload_n dX9_still_65 rfl),
   px_Sp.of (ps_iload_n dX9_still_66 rfl),
   ps_callV (IH 143 (by decide)) (C := RX9) (T := TX9) (N := 36) (ci := 8) rfl rfl (fc_143 _ _) wm_RX9_135 wi_yX9_isSeen wl_yX9_isSeen dX9_still_67,
   px_Sp.of (ps_if_eq dX9_still_70 (by decide)),
   px_Sp.of (ps_bipush dX9_still_73 (by decide)),
   px_Sp.of (ps_iload_n dX9_still_75 rfl),
   px_Sp.of (ps_imul dX9_still_76),
   px_Sp.of (ps_iload dX9_still_77),
   px_Sp.of (ps_iadd dX9_still_79),
   px_Sp.of (ps_istore dX9_still_80 (by decide)),
   px_Sp.of (ps_aload_n dX9_still_82 rfl),
   px_Sp.of (ps_get kc_X9 (by decide) wf_RX9_29 dX9_still_83),
   px_Sp.of (ps_iload dX9_still_86),
   px_Sp.of (ps_iald dX9_still_88),
   px_Sp.of (ps_if_le dX9_still_89 (by decide)),
   px_Sp.of (ps_aload_n dX9_still_92 rfl),
   px_Sp.of (ps_iload dX9_still_93),
   ps_callV (IH 155 (by decide)) (C := RX9) (T := TX9) (N := 36) (ci := 8) rfl rfl (fc_155 _ _) wm_RX9_169 wi_yX9_originOf wl_yX9_originOf dX9_still_95,
   px_Sp.of (ps_goto dX9_still_98 (by decide)),
   px_Sp.of (ps_iconst dX9_still_101 (by decide)),
   px_Sp.of (ps_istore dX9_still_102 (by decide)),
   px_Sp.of (ps_iload dX9_still_104),
   px_Sp.of (ps_if_lt dX9_still_106 (by decide)),
   px_Sp.of (ps_iload dX9_still_109),
   px_Sp.of (ps_bipush dX9_still_111 (by decide)),
   px_Sp.of (ps_idiv dX9_still_113),
   px_Sp.of (ps_iload_n dX9_still_114 rfl),
   px_Sp.of (ps_icmp_ne dX9_still_115 (by decide)),
   px_Sp.of (ps_aload_n dX9_still_118 rfl),
   px_Sp.of (ps_iload dX9_still_119),
   px_Sp.of (ps_iload dX9_still_121),
   ps_callV (IH 157 (by decide)) (C := RX9) (T := TX9) (N := 36) (ci := 8) rfl rfl (fc_157 _ _) wm_RX9_161 wi_yX9_isSame wl_yX9_isSame dX9_still_123,
   px_Sp.of (ps_if_eq dX9_still_126 (by decide)),
   px_Sp.of (ps_iload_n dX9_still_129 rfl),
   px_Sp.of (ps_iconst dX9_still_130 (by decide)),
   px_Sp.of (ps_iload dX9_still_131),
   px_Sp.of (ps_bipush dX9_still_133 (by decide)),
   px_Sp.of (ps_irem dX9_still_135),
   px_Sp.of (ps_ishl dX9_still_136),
   px_Sp.of (ps_ior dX9_still_137),
   px_Sp.of (ps_istore_n dX9_still_138 rfl (by decide)),
   px_Sp.of (ps_iinc dX9_still_139 (by decide) (by decide)),
   px_Sp.of (ps_goto dX9_still_142 (by decide)),
   px_Sp.of (ps_iinc dX9_still_145 (by decide) (by decide)),
   px_Sp.of (ps_goto dX9_still_148 (by decide)),
   px_Sp.of (ps_aload_n dX9_still_151 rfl),
   px_Sp.of (ps_iconst dX9_still_152 (by decide)),
   px_Sp.ofm (ps_putI kc_X9 (by decide) wf_RX9_45 rfl (by decide +kernel) kp_X9_13 dX9_still_153),
   px_Sp.of (ps_iload_n dX9_still_156 rfl),
   ps_iret dX9_still_157, trivial⟩
theorem mt_183 {l : Launch} {d : Nat} (IH : ∀ μ, μ < 196 → px_Met l px_P d μ) : px_Met l px_P (d + 1) 183 := px_met (own := RX9) rfl (by decide +kernel) (ok_183 IH)
theorem dX9_count_0 : decode cX9_count 0 = .ok (.iload_n 1, 1) := by decide +kernel
theorem dX9_count_1 : decode cX9_count 1 = .ok (.iconst 3, 1) := by decide +kernel
theorem dX9_count_2 : decode cX9_count 2 = .ok (.if_icmp .lt 13, 3) := by decide +kernel
theorem dX9_count_5 : decode cX9_count 5 = .ok (.iload_n 1, 1) := by decide +kernel
theorem dX9_count_6 : decode cX9_count 6 = .ok (.bipush 7, 2) := by decide +kernel
theorem dX9_count_8 : decode cX9_count 8 = .ok (.if_icmp .gt 7, 3) := by decide +kernel
theorem dX9_count_11 : decode cX9_count 11 = .ok (.aload_n 0, 1) := by decide +kernel
theorem dX9_count_12 : decode cX9_count 12 = .ok (.invokevirtual 187, 3) := by decide +kernel
theorem dX9_count_15 : decode cX9_count 15 = .ok (.iconst 0, 1) := by decide +kernel
theorem dX9_count_16 : decode cX9_count 16 = .ok (.istore_n 2, 1) := by decide +kernel
theorem dX9_count_17 : decode cX9_count 17 = .ok (.iconst 0, 1) := by decide +kernel
theorem dX9_count_18 : decode cX9_count 18 = .ok (.istore_n 3, 1) := by decide +kernel
theorem dX9_count_19 : decode cX9_count 19 = .ok (.iconst 0, 1) := by decide +kernel
theorem dX9_count_20 : decode cX9_count 20 = .ok (.istore 4, 2) := by decide +kernel
theorem dX9_count_22 : decode cX9_count 22 = .ok (.iconst 0, 1) := by decide +kernel
theorem dX9_count_23 : decode cX9_count 23 = .ok (.istore 5, 2) := by decide +kernel
theorem dX9_count_25 : decode cX9_count 25 = .ok (.iconst 0, 1) := by decide +kernel
theorem dX9_count_26 : decode cX9_count 26 = .ok (.istore 6, 2) := by decide +kernel
theorem dX9_count_28 : decode cX9_count 28 = .ok (.iconst 0, 1) := by decide +kernel
theorem dX9_count_29 : decode cX9_count 29 = .ok (.istore 7, 2) := by decide +kernel
theorem dX9_count_31 : decode cX9_count 31 = .ok (.iload 7, 2) := by decide +kernel
theorem dX9_count_33 : decode cX9_count 33 = .ok (.aload_n 0, 1) := by decide +kernel
theorem dX9_count_34 : decode cX9_count 34 = .ok (.getfield 92, 3) := by decide +kernel
theorem dX9_count_37 : decode cX9_count 37 = .ok (.if_icmp .ge 174, 3) := by decide +kernel
theorem dX9_count_40 : decode cX9_count 40 = .ok (.iload_n 2, 1) := by decide +kernel
theorem dX9_count_41 : decode cX9_count 41 = .ok (.aload_n 0, 1) := by decide +kernel
theorem dX9_count_42 : decode cX9_count 42 = .ok (.iload 7, 2) := by decide +kernel
theorem dX9_count_44 : decode cX9_count 44 = .ok (.invokevirtual 135, 3) := by decide +kernel
theorem dX9_count_47 : decode cX9_count 47 = .ok (.invokestatic 120, 3) := by decide +kernel
theorem dX9_count_50 : decode cX9_count 50 = .ok (.iadd, 1) := by decide +kernel
theorem dX9_count_51 : decode cX9_count 51 = .ok (.istore_n 2, 1) := by decide +kernel
theorem dX9_count_52 : decode cX9_count 52 = .ok (.iconst 0, 1) := by decide +kernel
theorem dX9_count_53 : decode cX9_count 53 = .ok (.istore 8, 2) := by decide +kernel
theorem dX9_count_55 : decode cX9_count 55 = .ok (.iload 8, 2) := by decide +kernel
theorem dX9_count_57 : decode cX9_count 57 = .ok (.aload_n 0, 1) := by decide +kernel
theorem dX9_count_58 : decode cX9_count 58 = .ok (.getfield 22, 3) := by decide +kernel
theorem dX9_count_61 : decode cX9_count 61 = .ok (.iload 7, 2) := by decide +kernel
theorem dX9_count_63 : decode cX9_count 63 = .ok (.iaload, 1) := by decide +kernel
theorem dX9_count_64 : decode cX9_count 64 = .ok (.if_icmp .ge 80, 3) := by decide +kernel
theorem dX9_count_67 : decode cX9_count 67 = .ok (.aload_n 0, 1) := by decide +kernel
theorem dX9_count_68 : decode cX9_count 68 = .ok (.iload 7, 2) := by decide +kernel
theorem dX9_count_70 : decode cX9_count 70 = .ok (.invokevirtual 135, 3) := by decide +kernel
theorem dX9_count_73 : decode cX9_count 73 = .ok (.ifCond .eq 71, 3) := by decide +kernel
theorem dX9_count_76 : decode cX9_count 76 = .ok (.iload_n 1, 1) := by decide +kernel
theorem dX9_count_77 : decode cX9_count 77 = .ok (.i2l, 1) := by decide +kernel
theorem dX9_count_78 : decode cX9_count 78 = .ok (.ldc2_w 227, 3) := by decide +kernel
theorem dX9_count_81 : decode cX9_count 81 = .ok (.ldc2_w 114, 3) := by decide +kernel
theorem dX9_count_84 : decode cX9_count 84 = .ok (.invokestatic 95, 3) := by decide +kernel
theorem dX9_count_87 : decode cX9_count 87 = .ok (.ifCond .eq 57, 3) := by decide +kernel
theorem dX9_count_90 : decode cX9_count 90 = .ok (.iload 4, 2) := by decide +kernel
theorem dX9_count_92 : decode cX9_count 92 = .ok (.aload_n 0, 1) := by decide +kernel
theorem dX9_count_93 : decode cX9_count 93 = .ok (.bipush 14, 2) := by decide +kernel
theorem dX9_count_95 : decode cX9_count 95 = .ok (.iload 7, 2) := by decide +kernel
theorem dX9_count_97 : decode cX9_count 97 = .ok (.imul, 1) := by decide +kernel
theorem dX9_count_98 : decode cX9_count 98 = .ok (.iload 8, 2) := by decide +kernel
theorem dX9_count_100 : decode cX9_count 100 = .ok (.iadd, 1) := by decide +kernel
theorem dX9_count_101 : decode cX9_count 101 = .ok (.invokevirtual 172, 3) := by decide +kernel
theorem dX9_count_104 : decode cX9_count 104 = .ok (.invokestatic 120, 3) := by decide +kernel
theorem dX9_count_107 : decode cX9_count 107 = .ok (.iadd, 1) := by decide +kernel
theorem dX9_count_108 : decode cX9_count 108 = .ok (.istore 4, 2) := by decide +kernel
theorem dX9_count_110 : decode cX9_count 110 = .ok (.iload 5, 2) := by decide +kernel
theorem dX9_count_112 : decode cX9_count 112 = .ok (.aload_n 0, 1) := by decide +kernel
theorem dX9_count_113 : decode cX9_count 113 = .ok (.bipush 14, 2) := by decide +kernel
theorem dX9_count_115 : decode cX9_count 115 = .ok (.iload 7, 2) := by decide +kernel
theorem dX9_count_117 : decode cX9_count 117 = .ok (.imul, 1) := by decide +kernel
theorem dX9_count_118 : decode cX9_count 118 = .ok (.iload 8, 2) := by decide +kernel
theorem dX9_count_120 : decode cX9_count 120 = .ok (.iadd, 1) := by decide +kernel
theorem dX9_count_121 : decode cX9_count 121 = .ok (.invokevirtual 169, 3) := by decide +kernel
theorem dX9_count_124 : decode cX9_count 124 = .ok (.ifCond .ge 7, 3) := by decide +kernel
theorem dX9_count_127 : decode cX9_count 127 = .ok (.iconst 1, 1) := by decide +kernel
theorem dX9_count_128 : decode cX9_count 128 = .ok (.goto 4, 3) := by decide +kernel
theorem dX9_count_131 : decode cX9_count 131 = .ok (.iconst 0, 1) := by decide +kernel
theorem dX9_count_132 : decode cX9_count 132 = .ok (.invokestatic 120, 3) := by decide +kernel
theorem dX9_count_135 : decode cX9_count 135 = .ok (.iadd, 1) := by decide +kernel
theorem dX9_count_136 : decode cX9_count 136 = .ok (.istore 5, 2) := by decide +kernel
theorem dX9_count_138 : decode cX9_count 138 = .ok (.iinc 8 1, 3) := by decide +kernel
theorem dX9_count_141 : decode cX9_count 141 = .ok (.goto (-86), 3) := by decide +kernel
theorem dX9_count_144 : decode cX9_count 144 = .ok (.iload_n 3, 1) := by decide +kernel
theorem dX9_count_145 : decode cX9_count 145 = .ok (.aload_n 0, 1) := by decide +kernel
theorem dX9_count_146 : decode cX9_count 146 = .ok (.iload 7, 2) := by decide +kernel
theorem dX9_count_148 : decode cX9_count 148 = .ok (.invokevirtual 135, 3) := by decide +kernel
theorem dX9_count_151 : decode cX9_count 151 = .ok (.ifCond .eq 17, 3) := by decide +kernel
theorem dX9_count_154 : decode cX9_count 154 = .ok (.aload_n 0, 1) := by decide +kernel
theorem dX9_count_155 : decode cX9_count 155 = .ok (.getfield 54, 3) := by decide +kernel
theorem dX9_count_158 : decode cX9_count 158 = .ok (.iload 7, 2) := by decide +kernel
theorem dX9_count_160 : decode cX9_count 160 = .ok (.iaload, 1) := by decide +kernel
theorem dX9_count_161 : decode cX9_count 161 = .ok (.ifCond .ge 7, 3) := by decide +kernel
theorem dX9_count_164 : decode cX9_count 164 = .ok (.iconst 1, 1) := by decide +kernel
theorem dX9_count_165 : decode cX9_count 165 = .ok (.goto 4, 3) := by decide +kernel
theorem dX9_count_168 : decode cX9_count 168 = .ok (.iconst 0, 1) := by decide +kernel
theorem dX9_count_169 : decode cX9_count 169 = .ok (.invokestatic 120, 3) := by decide +kernel
theorem dX9_count_172 : decode cX9_count 172 = .ok (.iadd, 1) := by decide +kernel
theorem dX9_count_173 : decode cX9_count 173 = .ok (.istore_n 3, 1) := by decide +kernel
theorem dX9_count_174 : decode cX9_count 174 = .ok (.iload 6, 2) := by decide +kernel
theorem dX9_count_176 : decode cX9_count 176 = .ok (.aload_n 0, 1) := by decide +kernel
theorem dX9_count_177 : decode cX9_count 177 = .ok (.iload 7, 2) := by decide +kernel
theorem dX9_count_179 : decode cX9_count 179 = .ok (.invokevirtual 135, 3) := by decide +kernel
theorem dX9_count_182 : decode cX9_count 182 = .ok (.ifCond .eq 16, 3) := by decide +kernel
theorem dX9_count_185 : decode cX9_count 185 = .ok (.aload_n 0, 1) := by decide +kernel
theorem dX9_count_186 : decode cX9_count 186 = .ok (.iload 7, 2) := by decide +kernel
theorem dX9_count_188 : decode cX9_count 188 = .ok (.invokevirtual 218, 3) := by decide +kernel
theorem dX9_count_191 : decode cX9_count 191 = .ok (.ifCond .eq 7, 3) := by decide +kernel
theorem dX9_count_194 : decode cX9_count 194 = .ok (.iconst 1, 1) := by decide +kernel
theorem dX9_count_195 : decode cX9_count 195 = .ok (.goto 4, 3) := by decide +kernel
theorem dX9_count_198 : decode cX9_count 198 = .ok (.iconst 0, 1) := by decide +kernel
theorem dX9_count_199 : decode cX9_count 199 = .ok (.invokestatic 120, 3) := by decide +kernel
theorem dX9_count_202 : decode cX9_count 202 = .ok (.iadd, 1) := by decide +kernel
theorem dX9_count_203 : decode cX9_count 203 = .ok (.istore 6, 2) := by decide +kernel
theorem dX9_count_205 : decode cX9_count 205 = .ok (.iinc 7 1, 3) := by decide +kernel
theorem dX9_count_208 : decode cX9_count 208 = .ok (.goto (-177), 3) := by decide +kernel
theorem dX9_count_211 : decode cX9_count 211 = .ok (.iload_n 1, 1) := by decide +kernel
theorem dX9_count_212 : decode cX9_count 212 = .ok (.tableswitch 103 0 10 #[60, 65, 67, 72, 74, 77, 80, 85, 88, 93, 98], 60) := by decide +kernel
theorem dX9_count_272 : decode cX9_count 272 = .ok (.aload_n 0, 1) := by decide +kernel
theorem dX9_count_273 : decode cX9_count 273 = .ok (.getfield 92, 3) := by decide +kernel
theorem dX9_count_276 : decode cX9_count 276 = .ok (.ireturn, 1) := by decide +kernel
theorem dX9_count_277 : decode cX9_count 277 = .ok (.iload_n 2, 1) := by decide +kernel
theorem dX9_count_278 : decode cX9_count 278 = .ok (.ireturn, 1) := by decide +kernel
theorem dX9_count_279 : decode cX9_count 279 = .ok (.aload_n 0, 1) := by decide +kernel
theorem dX9_count_280 : decode cX9_count 280 = .ok (.getfield 105, 3) := by decide +kernel
theorem dX9_count_283 : decode cX9_count 283 = .ok (.ireturn, 1) := by decide +kernel
theorem dX9_count_284 : decode cX9_count 284 = .ok (.iload_n 3, 1) := by decide +kernel
theorem dX9_count_285 : decode cX9_count 285 = .ok (.ireturn, 1) := by decide +kernel
theorem dX9_count_286 : decode cX9_count 286 = .ok (.iload 4, 2) := by decide +kernel
theorem dX9_count_288 : decode cX9_count 288 = .ok (.ireturn, 1) := by decide +kernel
theorem dX9_count_289 : decode cX9_count 289 = .ok (.iload 5, 2) := by decide +kernel
theorem dX9_count_291 : decode cX9_count 291 = .ok (.ireturn, 1) := by decide +kernel
theorem dX9_count_292 : decode cX9_count 292 = .ok (.aload_n 0, 1) := by decide +kernel
theorem dX9_count_293 : decode cX9_count 293 = .ok (.getfield 184, 3) := by decide +kernel
theorem dX9_count_296 : decode cX9_count 296 = .ok (.ireturn, 1) := by decide +kernel
theorem dX9_count_297 : decode cX9_count 297 = .ok (.iload 6, 2) := by decide +kernel
theorem dX9_count_299 : decode cX9_count 299 = .ok (.ireturn, 1) := by decide +kernel
theorem dX9_count_300 : decode cX9_count 300 = .ok (.aload_n 0, 1) := by decide +kernel
theorem dX9_count_301 : decode cX9_count 301 = .ok (.getfield 221, 3) := by decide +kernel
theorem dX9_count_304 : decode cX9_count 304 = .ok (.ireturn, 1) := by decide +kernel
theorem dX9_count_305 : decode cX9_count 305 = .ok (.aload_n 0, 1) := by decide +kernel
theorem dX9_count_306 : decode cX9_count 306 = .ok (.getfield 229, 3) := by decide +kernel
theorem dX9_count_309 : decode cX9_count 309 = .ok (.ireturn, 1) := by decide +kernel
theorem dX9_count_310 : decode cX9_count 310 = .ok (.aload_n 0, 1) := by decide +kernel
theorem dX9_count_311 : decode cX9_count 311 = .ok (.getfield 41, 3) := by decide +kernel
theorem dX9_count_314 : decode cX9_count 314 = .ok (.ireturn, 1) := by decide +kernel
theorem dX9_count_315 : decode cX9_count 315 = .ok (.sipush (-1002), 3) := by decide +kernel
theorem dX9_count_318 : decode cX9_count 318 = .ok (.ireturn, 1) := by decide +kernel
set_option maxRecDepth 20000 in
theorem ok_184 {l : Launch} {d : Nat} (IH : ∀ μ, μ < 196 → px_Met l px_P d μ) : px_ok l px_P d RX9 cX9_count 9 (some .int) tb_184 :=
  ⟨px_Sp.of (ps_iload_n dX9_count_0 rfl),
   px_Sp.of (ps_iconst dX9_count_1 (by decide)),
   px_Sp.of (ps_icmp_lt dX9_count_2 (by decide)),
   px_Sp.of (ps_iload_n dX9_count_5 rfl),
   px_Sp.of (ps_bipush dX9_count_6 (by decide)),
   px_Sp.of (ps_icmp_gt dX9_count_8 (by decide)),
   px_Sp.of (ps_aload_n dX9_count_11 rfl),
   ps_callV (IH 162 (by decide)) (C := RX9) (T := TX9) (N := 36) (ci := 8) rfl rfl (fc_162 _ _) wm_RX9_187 wi_yX9_findGroups wl_yX9_findGroups dX9_count_12,
   px_Sp.of (ps_iconst dX9_count_15 (by decide)),
   px_Sp.of (ps_istore_n dX9_count_16 rfl (by decide)),
   px_Sp.of (ps_iconst dX9_count_17 (by decide)),
   px_Sp.of (ps_istore_n dX9_count_18 rfl (by decide)),
   px_Sp.of (ps_iconst dX9_count_19 (by decide)),
   px_Sp.of (ps_istore dX9_count_20 (by decide)),
   px_Sp.of (ps_iconst dX9_count_22 (by decide)),
   px_Sp.of (ps_istore dX9_count_23 (by decide)),
   px_Sp.of (ps_iconst dX9_count_25 (by decide)),
   px_Sp.of (ps_istore dX9_count_26 (by decide)),
   px_Sp.of (ps_iconst dX9_count_28 (by decide)),
   px_Sp.of (ps_istore dX9_count_29 (by decide)),
   px_Sp.of (ps_iload dX9_count_31),
   px_Sp.of (ps_aload_n dX9_count_33 rfl),
   px_Sp.of (ps_get kc_X9 (by decide) wf_RX9_92 dX9_count_34),
   px_Sp.of (ps_icmp_ge dX9_count_37 (by decide)),
   px_Sp.of (ps_iload_n dX9_count_40 rfl),
   px_Sp.of (ps_aload_n dX9_count_41 rfl),
   px_Sp.of (ps_iload dX9_count_42),
   ps_callV (IH 143 (by decide)) (C := RX9) (T := TX9) (N := 36) (ci := 8) rfl rfl (fc_143 _ _) wm_RX9_135 wi_yX9_isSeen wl_yX9_isSeen dX9_count_44,
   ps_callS (IH 135 (by decide)) (fc_135 _ _) wm_RX9_120 ws_yX9_one dX9_count_47,
   px_Sp.of (ps_iadd dX9_count_50),
   px_Sp.of (ps_istore_n dX9_count_51 rfl (by decide)),
   px_Sp.of (ps_iconst dX9_count_52 (by decide)),
   px_Sp.of (ps_istore dX9_count_53 (by decide)),
   px_Sp.of (ps_iload dX9_count_55),
   px_Sp.of (ps_aload_n dX9_count_57 rfl),
   px_Sp.of (ps_get kc_X9 (by decide) wf_RX9_22 dX9_count_58),
   px_Sp.of (ps_iload dX9_count_61),
   px_Sp.of (ps_iald dX9_count_63),
   px_Sp.of (ps_icmp_ge dX9_count_64 (by decide)),
   px_Sp.of (ps_aload_n dX9_count_67 rfl),
   px_Sp.of (ps_iload dX9_count_68),
   ps_callV (IH 143 (by decide)) (C := RX9) (T := TX9) (N := 36) (ci := 8) rfl rfl (fc_143 _ _) wm_RX9_135 wi_yX9_isSeen wl_yX9_isSeen dX9_count_70,
   px_Sp.of (ps_if_eq dX9_count_73 (by decide)),
   px_Sp.of (ps_iload_n dX9_count_76 rfl),
   px_Sp.of (ps_i2l dX9_count_77),
   px_Sp.of (ps_ldc2 dX9_count_78 wk_RX9_227),
   px_Sp.of (ps_ldc2 dX9_count_81 wk_RX9_114),
   ps_callS (IH 130 (by decide)) (fc_130 _ _) wm_RX9_95 ws_yX9_in dX9_count_84,
   px_Sp.of (ps_if_eq dX9_count_87 (by decide)),
   px_Sp.of (ps_iload dX9_count_90),
   px_Sp.of (ps_aload_n dX9_count_92 rfl),
   px_Sp.of (ps_bipush dX9_count_93 (by decide)),
   px_Sp.of (ps_iload dX9_count_95),
   px_Sp.of (ps_imul dX9_count_97),
   px_Sp.of (ps_iload dX9_count_98),
   px_Sp.of (ps_iadd dX9_count_100),
   ps_callV (IH 159 (by decide)) (C := RX9) (T := TX9) (N := 36) (ci := 8) rfl rfl (fc_159 _ _) wm_RX9_172 wi_yX9_isAltered wl_yX9_isAltered dX9_count_101,
   ps_callS (IH 135 (by decide)) (fc_135 _ _) wm_RX9_120 ws_yX9_one dX9_count_104,
   px_Sp.of (ps_iadd dX9_count_107),
   px_Sp.of (ps_istore dX9_count_108 (by decide)),
   px_Sp.of (ps_iload dX9_count_110),
   px_Sp.of (ps_aload_n dX9_count_112 rfl),
   px_Sp.of (ps_bipush dX9_count_113 (by decide)),
   px_Sp.of (ps_iload dX9_count_115),
   px_Sp.of (ps_imul dX9_count_117),
   px_Sp.of (ps_iload dX9_count_118),
   px_Sp.of (ps_iadd dX9_count_120),
   ps_callV (IH 155 (by decide)) (C := RX9) (T := TX9) (N := 36) (ci := 8) rfl rfl (fc_155 _ _) wm_RX9_169 wi_yX9_originOf wl_yX9_originOf dX9_count_121,
   px_Sp.of (ps_if_ge dX9_count_124 (by decide)),
   px_Sp.of (ps_iconst dX9_count_127 (by decide)),
   px_Sp.of (ps_goto dX9_count_128 (by decide)),
   px_Sp.of (ps_iconst dX9_count_131 (by decide)),
   ps_callS (IH 135 (by decide)) (fc_135 _ _) wm_RX9_120 ws_yX9_one dX9_count_132,
   px_Sp.of (ps_iadd dX9_count_135),
   px_Sp.of (ps_istore dX9_count_136 (by decide)),
   px_Sp.of (ps_iinc dX9_count_138 (by decide) (by decide)),
   px_Sp.of (ps_goto dX9_count_141 (by decide)),
   px_Sp.of (ps_iload_n dX9_count_144 rfl),
   px_Sp.of (ps_aload_n dX9_count_145 rfl),
   px_Sp.of (ps_iload dX9_count_146),
   ps_callV (IH 143 (by decide)) (C := RX9) (T := TX9) (N := 36) (ci := 8) rfl rfl (fc_143 _ _) wm_RX9_135 wi_yX9_isSeen wl_yX9_isSeen dX9_count_148,
   px_Sp.of (ps_if_eq dX9_count_151 (by decide)),
   px_Sp.of (ps_aload_n dX9_count_154 rfl),
   px_Sp.of (ps_get kc_X9 (by decide) wf_RX9_54 dX9_count_155),
   px_Sp.of (ps_iload dX9_count_158),
   px_Sp.of (ps_iald dX9_count_160),
   px_Sp.of (ps_if_ge dX9_count_161 (by decide)),
   px_Sp.of (ps_iconst dX9_count_164 (by decide)),
   px_Sp.of (ps_goto dX9_count_165 (by decide)),
   px_Sp.of (ps_iconst dX9_count_168 (by decide)),
   ps_callS (IH 135 (by decide)) (fc_135 _ _) wm_RX9_120 ws_yX9_one dX9_count_169,
   px_Sp.of (ps_iadd dX9_count_172),
   px_Sp.of (ps_istore_n dX9_count_173 rfl (by decide)),
   px_Sp.of (ps_iload dX9_count_174),
   px_Sp.of (ps_aload_n dX9_count_176 rfl),
   px_Sp.of (ps_iload dX9_count_177),
   ps_callV (IH 143 (by decide)) (C := RX9) (T := TX9) (N := 36) (ci := 8) rfl rfl (fc_143 _ _) wm_RX9_135 wi_yX9_isSeen wl_yX9_isSeen dX9_count_179,
   px_Sp.of (ps_if_eq dX9_count_182 (by decide)),
   px_Sp.of (ps_aload_n dX9_count_185 rfl),
   px_Sp.of (ps_iload dX9_count_186),
   ps_callV (IH 177 (by decide)) (C := RX9) (T := TX9) (N := 36) (ci := 8) rfl rfl (fc_177 _ _) wm_RX9_218 wi_yX9_quarrels wl_yX9_quarrels dX9_count_188,
   px_Sp.of (ps_if_eq dX9_count_191 (by decide)),
   px_Sp.of (ps_iconst dX9_count_194 (by decide)),
   px_Sp.of (ps_goto dX9_count_195 (by decide)),
   px_Sp.of (ps_iconst dX9_count_198 (by decide)),
   ps_callS (IH 135 (by decide)) (fc_135 _ _) wm_RX9_120 ws_yX9_one dX9_count_199,
   px_Sp.of (ps_iadd dX9_count_202),
   px_Sp.of (ps_istore dX9_count_203 (by decide)),
   px_Sp.of (ps_iinc dX9_count_205 (by decide) (by decide)),
   px_Sp.of (ps_goto dX9_count_208 (by decide)),
   px_Sp.of (ps_iload_n dX9_count_211 rfl),
   px_Sp.of (ps_tsw dX9_count_212 (by decide) (by decide)),
   px_Sp.of (ps_aload_n dX9_count_272 rfl),
   px_Sp.of (ps_get kc_X9 (by decide) wf_RX9_92 dX9_count_273),
   ps_iret dX9_count_276,
   px_Sp.of (ps_iload_n dX9_count_277 rfl),
   ps_iret dX9_count_278,
   px_Sp.of (ps_aload_n dX9_count_279 rfl),
   px_Sp.of (ps_get kc_X9 (by decide) wf_RX9_105 dX9_count_280),
   ps_iret dX9_count_283,
   px_Sp.of (ps_iload_n dX9_count_284 rfl),
   ps_iret dX9_count_285,
   px_Sp.of (ps_iload dX9_count_286),
   ps_iret dX9_count_288,
   px_Sp.of (ps_iload dX9_count_289),
   ps_iret dX9_count_291,
   px_Sp.of (ps_aload_n dX9_count_292 rfl),
   px_Sp.of (ps_get kc_X9 (by decide) wf_RX9_184 dX9_count_293),
   ps_iret dX9_count_296,
   px_Sp.of (ps_iload dX9_count_297),
   ps_iret dX9_count_299,
   px_Sp.of (ps_aload_n dX9_count_300 rfl),
   px_Sp.of (ps_get kc_X9 (by decide) wf_RX9_221 dX9_count_301),
   ps_iret dX9_count_304,
   px_Sp.of (ps_aload_n dX9_count_305 rfl),
   px_Sp.of (ps_get kc_X9 (by decide) wf_RX9_229 dX9_count_306),
   ps_iret dX9_count_309,
   px_Sp.of (ps_aload_n dX9_count_310 rfl),
   px_Sp.of (ps_get kc_X9 (by decide) wf_RX9_41 dX9_count_311),
   ps_iret dX9_count_314,
   px_Sp.of (ps_sipush dX9_count_315 (by decide)),
   ps_iret dX9_count_318, trivial⟩
theorem mt_184 {l : Launch} {d : Nat} (IH : ∀ μ, μ < 196 → px_Met l px_P d μ) : px_Met l px_P (d + 1) 184 := px_met (own := RX9) rfl (by decide +kernel) (ok_184 IH)
theorem dX9_feed_0 : decode cX9_feed 0 = .ok (.iload_n 1, 1) := by decide +kernel
theorem dX9_feed_1 : decode cX9_feed 1 = .ok (.i2l, 1) := by decide +kernel
theorem dX9_feed_2 : decode cX9_feed 2 = .ok (.lconst 1, 1) := by decide +kernel
theorem dX9_feed_3 : decode cX9_feed 3 = .ok (.ldc2_w 232, 3) := by decide +kernel
theorem dX9_feed_6 : decode cX9_feed 6 = .ok (.invokestatic 95, 3) := by decide +kernel
theorem dX9_feed_9 : decode cX9_feed 9 = .ok (.ifCond .ne 7, 3) := by decide +kernel
theorem dX9_feed_12 : decode cX9_feed 12 = .ok (.sipush (-1002), 3) := by decide +kernel
theorem dX9_feed_15 : decode cX9_feed 15 = .ok (.ireturn, 1) := by decide +kernel
theorem dX9_feed_16 : decode cX9_feed 16 = .ok (.aload_n 0, 1) := by decide +kernel
theorem dX9_feed_17 : decode cX9_feed 17 = .ok (.getfield 229, 3) := by decide +kernel
theorem dX9_feed_20 : decode cX9_feed 20 = .ok (.iload_n 1, 1) := by decide +kernel
theorem dX9_feed_21 : decode cX9_feed 21 = .ok (.iadd, 1) := by decide +kernel
theorem dX9_feed_22 : decode cX9_feed 22 = .ok (.bipush 120, 2) := by decide +kernel
theorem dX9_feed_24 : decode cX9_feed 24 = .ok (.if_icmp .le 7, 3) := by decide +kernel
theorem dX9_feed_27 : decode cX9_feed 27 = .ok (.sipush (-1004), 3) := by decide +kernel
theorem dX9_feed_30 : decode cX9_feed 30 = .ok (.ireturn, 1) := by decide +kernel
theorem dX9_feed_31 : decode cX9_feed 31 = .ok (.iload_n 1, 1) := by decide +kernel
theorem dX9_feed_32 : decode cX9_feed 32 = .ok (.iconst 1, 1) := by decide +kernel
theorem dX9_feed_33 : decode cX9_feed 33 = .ok (.isub, 1) := by decide +kernel
theorem dX9_feed_34 : decode cX9_feed 34 = .ok (.istore 4, 2) := by decide +kernel
theorem dX9_feed_36 : decode cX9_feed 36 = .ok (.iload 4, 2) := by decide +kernel
theorem dX9_feed_38 : decode cX9_feed 38 = .ok (.ifCond .lt 40, 3) := by decide +kernel
theorem dX9_feed_41 : decode cX9_feed 41 = .ok (.aload_n 0, 1) := by decide +kernel
theorem dX9_feed_42 : decode cX9_feed 42 = .ok (.getfield 79, 3) := by decide +kernel
theorem dX9_feed_45 : decode cX9_feed 45 = .ok (.aload_n 0, 1) := by decide +kernel
theorem dX9_feed_46 : decode cX9_feed 46 = .ok (.getfield 229, 3) := by decide +kernel
theorem dX9_feed_49 : decode cX9_feed 49 = .ok (.lload_n 2, 1) := by decide +kernel
theorem dX9_feed_50 : decode cX9_feed 50 = .ok (.bipush 8, 2) := by decide +kernel
theorem dX9_feed_52 : decode cX9_feed 52 = .ok (.iload 4, 2) := by decide +kernel
theorem dX9_feed_54 : decode cX9_feed 54 = .ok (.imul, 1) := by decide +kernel
theorem dX9_feed_55 : decode cX9_feed 55 = .ok (.lshr, 1) := by decide +kernel
theorem dX9_feed_56 : decode cX9_feed 56 = .ok (.ldc2_w 234, 3) := by decide +kernel
theorem dX9_feed_59 : decode cX9_feed 59 = .ok (.land, 1) := by decide +kernel
theorem dX9_feed_60 : decode cX9_feed 60 = .ok (.l2i, 1) := by decide +kernel
theorem dX9_feed_61 : decode cX9_feed 61 = .ok (.iastore, 1) := by decide +kernel
theorem dX9_feed_62 : decode cX9_feed 62 = .ok (.aload_n 0, 1) := by decide +kernel
theorem dX9_feed_63 : decode cX9_feed 63 = .ok (.dup, 1) := by decide +kernel
theorem dX9_feed_64 : decode cX9_feed 64 = .ok (.getfield 229, 3) := by decide +kernel
theorem dX9_feed_67 : decode cX9_feed 67 = .ok (.iconst 1, 1) := by decide +kernel
theorem dX9_feed_68 : decode cX9_feed 68 = .ok (.iadd, 1) := by decide +kernel
theorem dX9_feed_69 : decode cX9_feed 69 = .ok (.putfield 229, 3) := by decide +kernel
theorem dX9_feed_72 : decode cX9_feed 72 = .ok (.iinc 4 (-1), 3) := by decide +kernel
theorem dX9_feed_75 : decode cX9_feed 75 = .ok (.goto (-39), 3) := by decide +kernel
theorem dX9_feed_78 : decode cX9_feed 78 = .ok (.aload_n 0, 1) := by decide +kernel
theorem dX9_feed_79 : decode cX9_feed 79 = .ok (.getfield 229, 3) := by decide +kernel
theorem dX9_feed_82 : decode cX9_feed 82 = .ok (.ireturn, 1) := by decide +kernel
set_option maxRecDepth 20000 in
theorem ok_185 {l : Launch} {d : Nat} (IH : ∀ μ, μ < 196 → px_Met l px_P d μ) : px_ok l px_P d RX9 cX9_feed 5 (some .int) tb_185 :=
  ⟨px_Sp.of (ps_iload_n dX9_feed_0 rfl),
   px_Sp.of (ps_i2l dX9_feed_1),
   px_Sp.of (ps_lconst dX9_feed_2 (by decide)),
   px_Sp.of (ps_ldc2 dX9_feed_3 wk_RX9_232),
   ps_callS (IH 130 (by decide)) (fc_130 _ _) wm_RX9_95 ws_yX9_in dX9_feed_6,
   px_Sp.of (ps_if_ne dX9_feed_9 (by decide)),
   px_Sp.of (ps_sipush dX9_feed_12 (by decide)),
   ps_iret dX9_feed_15,
   px_Sp.of (ps_aload_n dX9_feed_16 rfl),
   px_Sp.of (ps_get kc_X9 (by decide) wf_RX9_229 dX9_feed_17),
   px_Sp.of (ps_iload_n dX9_feed_20 rfl),
   px_Sp.of (ps_iadd dX9_feed_21),
   px_Sp.of (ps_bipush dX9_feed_22 (by decide)),
   px_Sp.of (ps_icmp_le dX9_feed_24 (by decide)),
   px_Sp.of (ps_sipush dX9_feed_27 (by decide)),
   ps_iret dX9_feed_30,
   px_Sp.of (ps_iload_n dX9_feed_31 rfl),
   px_Sp.of (ps_iconst dX9_feed_32 (by decide)),
   px_Sp.of (ps_isub dX9_feed_33),
   px_Sp.of (ps_istore dX9_feed_34 (by decide)),
   px_Sp.of (ps_iload dX9_feed_36),
   px_Sp.of (ps_if_lt dX9_feed_38 (by decide)),
   px_Sp.of (ps_aload_n dX9_feed_41 rfl),
   px_Sp.of (ps_get kc_X9 (by decide) wf_RX9_79 dX9_feed_42),
   px_Sp.of (ps_aload_n dX9_feed_45 rfl),
   px_Sp.of (ps_get kc_X9 (by decide) wf_RX9_229 dX9_feed_46),
   px_Sp.of (ps_lload_n dX9_feed_49 rfl),
   px_Sp.of (ps_bipush dX9_feed_50 (by decide)),
   px_Sp.of (ps_iload dX9_feed_52),
   px_Sp.of (ps_imul dX9_feed_54),
   px_Sp.of (ps_lshr dX9_feed_55),
   px_Sp.of (ps_ldc2 dX9_feed_56 wk_RX9_234),
   px_Sp.of (ps_land dX9_feed_59),
   px_Sp.of (ps_l2i dX9_feed_60),
   px_Sp.ofm (ps_iast dX9_feed_61),
   px_Sp.of (ps_aload_n dX9_feed_62 rfl),
   px_Sp.of (ps_dup dX9_feed_63),
   px_Sp.of (ps_get kc_X9 (by decide) wf_RX9_229 dX9_feed_64),
   px_Sp.of (ps_iconst dX9_feed_67 (by decide)),
   px_Sp.of (ps_iadd dX9_feed_68),
   px_Sp.ofm (ps_putI kc_X9 (by decide) wf_RX9_229 rfl (by decide +kernel) kp_X9_29 dX9_feed_69),
   px_Sp.of (ps_iinc dX9_feed_72 (by decide) (by decide)),
   px_Sp.of (ps_goto dX9_feed_75 (by decide)),
   px_Sp.of (ps_aload_n dX9_feed_78 rfl),
   px_Sp.of (ps_get kc_X9 (by decide) wf_RX9_229 dX9_feed_79),
   ps_iret dX9_feed_82, trivial⟩
theorem mt_185 {l : Launch} {d : Nat} (IH : ∀ μ, μ < 196 → px_Met l px_P d μ) : px_Met l px_P (d + 1) 185 := px_met (own := RX9) rfl (by decide +kernel) (ok_185 IH)
