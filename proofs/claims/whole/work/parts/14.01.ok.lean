/-! ===== tables that are right, 1 ===== -/
theorem dX2_isSeen_0 : decode cX2_isSeen 0 = .ok (.aload_n 0, 1) := by decide +kernel
theorem dX2_isSeen_1 : decode cX2_isSeen 1 = .ok (.getfield 37, 3) := by decide +kernel
theorem dX2_isSeen_4 : decode cX2_isSeen 4 = .ok (.iload_n 1, 1) := by decide +kernel
theorem dX2_isSeen_5 : decode cX2_isSeen 5 = .ok (.lushr, 1) := by decide +kernel
theorem dX2_isSeen_6 : decode cX2_isSeen 6 = .ok (.lconst 1, 1) := by decide +kernel
theorem dX2_isSeen_7 : decode cX2_isSeen 7 = .ok (.land, 1) := by decide +kernel
theorem dX2_isSeen_8 : decode cX2_isSeen 8 = .ok (.lconst 0, 1) := by decide +kernel
theorem dX2_isSeen_9 : decode cX2_isSeen 9 = .ok (.lcmp, 1) := by decide +kernel
theorem dX2_isSeen_10 : decode cX2_isSeen 10 = .ok (.ifCond .eq 7, 3) := by decide +kernel
theorem dX2_isSeen_13 : decode cX2_isSeen 13 = .ok (.iconst 1, 1) := by decide +kernel
theorem dX2_isSeen_14 : decode cX2_isSeen 14 = .ok (.goto 4, 3) := by decide +kernel
theorem dX2_isSeen_17 : decode cX2_isSeen 17 = .ok (.iconst 0, 1) := by decide +kernel
theorem dX2_isSeen_18 : decode cX2_isSeen 18 = .ok (.ireturn, 1) := by decide +kernel
set_option maxRecDepth 20000 in
theorem ok_24 {l : Launch} {d : Nat} (IH : ∀ μ, μ < 196 → px_Met l px_P d μ) : px_ok l px_P d RX2 cX2_isSeen 2 (some .boolean) tb_24 :=
  ⟨px_Sp.of (ps_aload_n dX2_isSeen_0 rfl),
   px_Sp.of (ps_get kc_X2 (by decide) wf_RX2_37 dX2_isSeen_1),
   px_Sp.of (ps_iload_n dX2_isSeen_4 rfl),
   px_Sp.of (ps_lushr dX2_isSeen_5),
   px_Sp.of (ps_lconst dX2_isSeen_6 (by decide)),
   px_Sp.of (ps_land dX2_isSeen_7),
   px_Sp.of (ps_lconst dX2_isSeen_8 (by decide)),
   px_Sp.of (ps_lcmp dX2_isSeen_9),
   px_Sp.of (ps_if_eq dX2_isSeen_10 (by decide)),
   px_Sp.of (ps_iconst dX2_isSeen_13 (by decide)),
   px_Sp.of (ps_goto dX2_isSeen_14 (by decide)),
   px_Sp.of (ps_iconst dX2_isSeen_17 (by decide)),
   ps_zret dX2_isSeen_18, trivial⟩
theorem mt_24 {l : Launch} {d : Nat} (IH : ∀ μ, μ < 196 → px_Met l px_P d μ) : px_Met l px_P (d + 1) 24 := px_met (own := RX2) rfl (by decide +kernel) (ok_24 IH)
theorem dX2_findParent_0 : decode cX2_findParent 0 = .ok (.aload_n 0, 1) := by decide +kernel
theorem dX2_findParent_1 : decode cX2_findParent 1 = .ok (.getfield 22, 3) := by decide +kernel
theorem dX2_findParent_4 : decode cX2_findParent 4 = .ok (.getfield 62, 3) := by decide +kernel
theorem dX2_findParent_7 : decode cX2_findParent 7 = .ok (.iload_n 1, 1) := by decide +kernel
theorem dX2_findParent_8 : decode cX2_findParent 8 = .ok (.iaload, 1) := by decide +kernel
theorem dX2_findParent_9 : decode cX2_findParent 9 = .ok (.istore_n 2, 1) := by decide +kernel
theorem dX2_findParent_10 : decode cX2_findParent 10 = .ok (.aload_n 0, 1) := by decide +kernel
theorem dX2_findParent_11 : decode cX2_findParent 11 = .ok (.getfield 30, 3) := by decide +kernel
theorem dX2_findParent_14 : decode cX2_findParent 14 = .ok (.iconst 2, 1) := by decide +kernel
theorem dX2_findParent_15 : decode cX2_findParent 15 = .ok (.iaload, 1) := by decide +kernel
theorem dX2_findParent_16 : decode cX2_findParent 16 = .ok (.iconst 1, 1) := by decide +kernel
theorem dX2_findParent_17 : decode cX2_findParent 17 = .ok (.if_icmp .ne 25, 3) := by decide +kernel
theorem dX2_findParent_20 : decode cX2_findParent 20 = .ok (.aload_n 0, 1) := by decide +kernel
theorem dX2_findParent_21 : decode cX2_findParent 21 = .ok (.getfield 22, 3) := by decide +kernel
theorem dX2_findParent_24 : decode cX2_findParent 24 = .ok (.iload_n 2, 1) := by decide +kernel
theorem dX2_findParent_25 : decode cX2_findParent 25 = .ok (.invokevirtual 65, 3) := by decide +kernel
theorem dX2_findParent_28 : decode cX2_findParent 28 = .ok (.ifCond .eq 14, 3) := by decide +kernel
theorem dX2_findParent_31 : decode cX2_findParent 31 = .ok (.aload_n 0, 1) := by decide +kernel
theorem dX2_findParent_32 : decode cX2_findParent 32 = .ok (.iload_n 2, 1) := by decide +kernel
theorem dX2_findParent_33 : decode cX2_findParent 33 = .ok (.iload_n 1, 1) := by decide +kernel
theorem dX2_findParent_34 : decode cX2_findParent 34 = .ok (.invokevirtual 68, 3) := by decide +kernel
theorem dX2_findParent_37 : decode cX2_findParent 37 = .ok (.ifCond .eq 5, 3) := by decide +kernel
theorem dX2_findParent_40 : decode cX2_findParent 40 = .ok (.iload_n 2, 1) := by decide +kernel
theorem dX2_findParent_41 : decode cX2_findParent 41 = .ok (.ireturn, 1) := by decide +kernel
theorem dX2_findParent_42 : decode cX2_findParent 42 = .ok (.iconst (-1), 1) := by decide +kernel
theorem dX2_findParent_43 : decode cX2_findParent 43 = .ok (.istore_n 3, 1) := by decide +kernel
theorem dX2_findParent_44 : decode cX2_findParent 44 = .ok (.iconst 0, 1) := by decide +kernel
theorem dX2_findParent_45 : decode cX2_findParent 45 = .ok (.istore 4, 2) := by decide +kernel
theorem dX2_findParent_47 : decode cX2_findParent 47 = .ok (.iconst 0, 1) := by decide +kernel
theorem dX2_findParent_48 : decode cX2_findParent 48 = .ok (.istore 5, 2) := by decide +kernel
theorem dX2_findParent_50 : decode cX2_findParent 50 = .ok (.iload 5, 2) := by decide +kernel
theorem dX2_findParent_52 : decode cX2_findParent 52 = .ok (.aload_n 0, 1) := by decide +kernel
theorem dX2_findParent_53 : decode cX2_findParent 53 = .ok (.getfield 22, 3) := by decide +kernel
theorem dX2_findParent_56 : decode cX2_findParent 56 = .ok (.getfield 41, 3) := by decide +kernel
theorem dX2_findParent_59 : decode cX2_findParent 59 = .ok (.if_icmp .ge 70, 3) := by decide +kernel
theorem dX2_findParent_62 : decode cX2_findParent 62 = .ok (.aload_n 0, 1) := by decide +kernel
theorem dX2_findParent_63 : decode cX2_findParent 63 = .ok (.getfield 22, 3) := by decide +kernel
theorem dX2_findParent_66 : decode cX2_findParent 66 = .ok (.getfield 71, 3) := by decide +kernel
theorem dX2_findParent_69 : decode cX2_findParent 69 = .ok (.iload_n 1, 1) := by decide +kernel
theorem dX2_findParent_70 : decode cX2_findParent 70 = .ok (.iaload, 1) := by decide +kernel
theorem dX2_findParent_71 : decode cX2_findParent 71 = .ok (.ifCond .le 58, 3) := by decide +kernel
theorem dX2_findParent_74 : decode cX2_findParent 74 = .ok (.aload_n 0, 1) := by decide +kernel
theorem dX2_findParent_75 : decode cX2_findParent 75 = .ok (.iload 5, 2) := by decide +kernel
theorem dX2_findParent_77 : decode cX2_findParent 77 = .ok (.iload_n 1, 1) := by decide +kernel
theorem dX2_findParent_78 : decode cX2_findParent 78 = .ok (.invokevirtual 74, 3) := by decide +kernel
theorem dX2_findParent_81 : decode cX2_findParent 81 = .ok (.ifCond .ne 42, 3) := by decide +kernel
theorem dX2_findParent_84 : decode cX2_findParent 84 = .ok (.aload_n 0, 1) := by decide +kernel
theorem dX2_findParent_85 : decode cX2_findParent 85 = .ok (.iload 5, 2) := by decide +kernel
theorem dX2_findParent_87 : decode cX2_findParent 87 = .ok (.iload_n 1, 1) := by decide +kernel
theorem dX2_findParent_88 : decode cX2_findParent 88 = .ok (.invokevirtual 68, 3) := by decide +kernel
theorem dX2_findParent_91 : decode cX2_findParent 91 = .ok (.ifCond .ne 6, 3) := by decide +kernel
theorem dX2_findParent_94 : decode cX2_findParent 94 = .ok (.goto 29, 3) := by decide +kernel
theorem dX2_findParent_97 : decode cX2_findParent 97 = .ok (.aload_n 0, 1) := by decide +kernel
theorem dX2_findParent_98 : decode cX2_findParent 98 = .ok (.getfield 26, 3) := by decide +kernel
theorem dX2_findParent_101 : decode cX2_findParent 101 = .ok (.iload_n 1, 1) := by decide +kernel
theorem dX2_findParent_102 : decode cX2_findParent 102 = .ok (.iload 5, 2) := by decide +kernel
theorem dX2_findParent_104 : decode cX2_findParent 104 = .ok (.invokevirtual 77, 3) := by decide +kernel
theorem dX2_findParent_107 : decode cX2_findParent 107 = .ok (.istore 6, 2) := by decide +kernel
theorem dX2_findParent_109 : decode cX2_findParent 109 = .ok (.iload 6, 2) := by decide +kernel
theorem dX2_findParent_111 : decode cX2_findParent 111 = .ok (.iload 4, 2) := by decide +kernel
theorem dX2_findParent_113 : decode cX2_findParent 113 = .ok (.if_icmp .le 10, 3) := by decide +kernel
theorem dX2_findParent_116 : decode cX2_findParent 116 = .ok (.iload 5, 2) := by decide +kernel
theorem dX2_findParent_118 : decode cX2_findParent 118 = .ok (.istore_n 3, 1) := by decide +kernel
theorem dX2_findParent_119 : decode cX2_findParent 119 = .ok (.iload 6, 2) := by decide +kernel
theorem dX2_findParent_121 : decode cX2_findParent 121 = .ok (.istore 4, 2) := by decide +kernel
theorem dX2_findParent_123 : decode cX2_findParent 123 = .ok (.iinc 5 1, 3) := by decide +kernel
theorem dX2_findParent_126 : decode cX2_findParent 126 = .ok (.goto (-76), 3) := by decide +kernel
theorem dX2_findParent_129 : decode cX2_findParent 129 = .ok (.bipush 100, 2) := by decide +kernel
theorem dX2_findParent_131 : decode cX2_findParent 131 = .ok (.iload 4, 2) := by decide +kernel
theorem dX2_findParent_133 : decode cX2_findParent 133 = .ok (.imul, 1) := by decide +kernel
theorem dX2_findParent_134 : decode cX2_findParent 134 = .ok (.aload_n 0, 1) := by decide +kernel
theorem dX2_findParent_135 : decode cX2_findParent 135 = .ok (.getfield 30, 3) := by decide +kernel
theorem dX2_findParent_138 : decode cX2_findParent 138 = .ok (.iconst 1, 1) := by decide +kernel
theorem dX2_findParent_139 : decode cX2_findParent 139 = .ok (.iaload, 1) := by decide +kernel
theorem dX2_findParent_140 : decode cX2_findParent 140 = .ok (.aload_n 0, 1) := by decide +kernel
theorem dX2_findParent_141 : decode cX2_findParent 141 = .ok (.getfield 22, 3) := by decide +kernel
theorem dX2_findParent_144 : decode cX2_findParent 144 = .ok (.getfield 71, 3) := by decide +kernel
theorem dX2_findParent_147 : decode cX2_findParent 147 = .ok (.iload_n 1, 1) := by decide +kernel
theorem dX2_findParent_148 : decode cX2_findParent 148 = .ok (.iaload, 1) := by decide +kernel
theorem dX2_findParent_149 : decode cX2_findParent 149 = .ok (.imul, 1) := by decide +kernel
theorem dX2_findParent_150 : decode cX2_findParent 150 = .ok (.if_icmp .lt 7, 3) := by decide +kernel
theorem dX2_findParent_153 : decode cX2_findParent 153 = .ok (.iload_n 3, 1) := by decide +kernel
theorem dX2_findParent_154 : decode cX2_findParent 154 = .ok (.goto 4, 3) := by decide +kernel
theorem dX2_findParent_157 : decode cX2_findParent 157 = .ok (.iconst (-1), 1) := by decide +kernel
theorem dX2_findParent_158 : decode cX2_findParent 158 = .ok (.ireturn, 1) := by decide +kernel
set_option maxRecDepth 20000 in
theorem ok_25 {l : Launch} {d : Nat} (IH : ∀ μ, μ < 196 → px_Met l px_P d μ) : px_ok l px_P d RX2 cX2_findParent 7 (some .int) tb_25 :=
  ⟨px_Sp.of (ps_aload_n dX2_findParent_0 rfl),
   px_Sp.of (ps_get kc_X2 (by decide) wf_RX2_22 dX2_findParent_1),
   px_Sp.of (ps_get kc_X1 (by decide) wf_RX2_62 dX2_findParent_4),
   px_Sp.of (ps_iload_n dX2_findParent_7 rfl),
   px_Sp.of (ps_iald dX2_findParent_8),
   px_Sp.of (ps_istore_n dX2_findParent_9 rfl (by decide)),
   px_Sp.of (ps_aload_n dX2_findParent_10 rfl),
   px_Sp.of (ps_get kc_X2 (by decide) wf_RX2_30 dX2_findParent_11),
   px_Sp.of (ps_iconst dX2_findParent_14 (by decide)),
   px_Sp.of (ps_iald dX2_findParent_15),
   px_Sp.of (ps_iconst dX2_findParent_16 (by decide)),
   px_Sp.of (ps_icmp_ne dX2_findParent_17 (by decide)),
   px_Sp.of (ps_aload_n dX2_findParent_20 rfl),
   px_Sp.of (ps_get kc_X2 (by decide) wf_RX2_22 dX2_findParent_21),
   px_Sp.of (ps_iload_n dX2_findParent_24 rfl),
   ps_callV (IH 4 (by decide)) (C := RX1) (T := TX1) (N := 10) (ci := 1) rfl rfl (fc_4 _ _) wm_RX2_65 wi_yX1_has wl_yX1_has dX2_findParent_25,
   px_Sp.of (ps_if_eq dX2_findParent_28 (by decide)),
   px_Sp.of (ps_aload_n dX2_findParent_31 rfl),
   px_Sp.of (ps_iload_n dX2_findParent_32 rfl),
   px_Sp.of (ps_iload_n dX2_findParent_33 rfl),
   ps_callV (IH 26 (by decide)) (C := RX2) (T := TX2) (N := 8) (ci := 2) rfl rfl (fc_26 _ _) wm_RX2_68 wi_yX2_isFree wl_yX2_isFree dX2_findParent_34,
   px_Sp.of (ps_if_eq dX2_findParent_37 (by decide)),
   px_Sp.of (ps_iload_n dX2_findParent_40 rfl),
   ps_iret dX2_findParent_41,
   px_Sp.of (ps_iconst dX2_findParent_42 (by decide)),
   px_Sp.of (ps_istore_n dX2_findParent_43 rfl (by decide)),
   px_Sp.of (ps_iconst dX2_findParent_44 (by decide)),
   px_Sp.of (ps_istore dX2_findParent_45 (by decide)),
   px_Sp.of (ps_iconst dX2_findParent_47 (by decide)),
   px_Sp.of (ps_istore dX2_findParent_48 (by decide)),
   px_Sp.of (ps_iload dX2_findParent_50),
   px_Sp.of (ps_aload_n dX2_findParent_52 rfl),
   px_Sp.of (ps_get kc_X2 (by decide) wf_RX2_22 dX2_findParent_53),
   px_Sp.of (ps_get kc_X1 (by decide) wf_RX2_41 dX2_findParent_56),
   px_Sp.of (ps_icmp_ge dX2_findParent_59 (by decide)),
   px_Sp.of (ps_aload_n dX2_findParent_62 rfl),
   px_Sp.of (ps_get kc_X2 (by decide) wf_RX2_22 dX2_findParent_63),
   px_Sp.of (ps_get kc_X1 (by decide) wf_RX2_71 dX2_findParent_66),
   px_Sp.of (ps_iload_n dX2_findParent_69 rfl),
   px_Sp.of (ps_iald dX2_findParent_70),
   px_Sp.of (ps_if_le dX2_findParent_71 (by decide)),
   px_Sp.of (ps_aload_n dX2_findParent_74 rfl),
   px_Sp.of (ps_iload dX2_findParent_75),
   px_Sp.of (ps_iload_n dX2_findParent_77 rfl),
   ps_callV (IH 28 (by decide)) (C := RX2) (T := TX2) (N := 8) (ci := 2) rfl rfl (fc_28 _ _) wm_RX2_74 wi_yX2_isAfter wl_yX2_isAfter dX2_findParent_78,
   px_Sp.of (ps_if_ne dX2_findParent_81 (by decide)),
   px_Sp.of (ps_aload_n dX2_findParent_84 rfl),
   px_Sp.of (ps_iload dX2_findParent_85),
   px_Sp.of (ps_iload_n dX2_findParent_87 rfl),
   ps_callV (IH 26 (by decide)) (C := RX2) (T := TX2) (N := 8) (ci := 2) rfl rfl (fc_26 _ _) wm_RX2_68 wi_yX2_isFree wl_yX2_isFree dX2_findParent_88,
   px_Sp.of (ps_if_ne dX2_findParent_91 (by decide)),
   px_Sp.of (ps_goto dX2_findParent_94 (by decide)),
   px_Sp.of (ps_aload_n dX2_findParent_97 rfl),
   px_Sp.of (ps_get kc_X2 (by decide) wf_RX2_26 dX2_findParent_98),
   px_Sp.of (ps_iload_n dX2_findParent_101 rfl),
   px_Sp.of (ps_iload dX2_findParent_102),
   ps_callV (IH 29 (by decide)) (C := RX0) (T := TX0) (N := 5) (ci := 0) rfl rfl (fc_29 _ _) wm_RX2_77 wi_yX0_of wl_yX0_of dX2_findParent_104,
   px_Sp.of (ps_istore dX2_findParent_107 (by decide)),
   px_Sp.of (ps_iload dX2_findParent_109),
   px_Sp.of (ps_iload dX2_findParent_111),
   px_Sp.of (ps_icmp_le dX2_findParent_113 (by decide)),
   px_Sp.of (ps_iload dX2_findParent_116),
   px_Sp.of (ps_istore_n dX2_findParent_118 rfl (by decide)),
   px_Sp.of (ps_iload dX2_findParent_119),
   px_Sp.of (ps_istore dX2_findParent_121 (by decide)),
   px_Sp.of (ps_iinc dX2_findParent_123 (by decide) (by decide)),
   px_Sp.of (ps_goto dX2_findParent_126 (by decide)),
   px_Sp.of (ps_bipush dX2_findParent_129 (by decide)),
   px_Sp.of (ps_iload dX2_findParent_131),
   px_Sp.of (ps_imul dX2_findParent_133),
   px_Sp.of (ps_aload_n dX2_findParent_134 rfl),
   px_Sp.of (ps_get kc_X2 (by decide) wf_RX2_30 dX2_findParent_135),
   px_Sp.of (ps_iconst dX2_findParent_138 (by decide)),
   px_Sp.of (ps_iald dX2_findParent_139),
   px_Sp.of (ps_aload_n dX2_findParent_140 rfl),
   px_Sp.of (ps_get kc_X2 (by decide) wf_RX2_22 dX2_findParent_141),
   px_Sp.of (ps_get kc_X1 (by decide) wf_RX2_71 dX2_findParent_144),
   px_Sp.of (ps_iload_n dX2_findParent_147 rfl),
   px_Sp.of (ps_iald dX2_findParent_148),
   px_Sp.of (ps_imul dX2_findParent_149),
   px_Sp.of (ps_icmp_lt dX2_findParent_150 (by decide)),
   px_Sp.of (ps_iload_n dX2_findParent_153 rfl),
   px_Sp.of (ps_goto dX2_findParent_154 (by decide)),
   px_Sp.of (ps_iconst dX2_findParent_157 (by decide)),
   ps_iret dX2_findParent_158, trivial⟩
theorem mt_25 {l : Launch} {d : Nat} (IH : ∀ μ, μ < 196 → px_Met l px_P d μ) : px_Met l px_P (d + 1) 25 := px_met (own := RX2) rfl (by decide +kernel) (ok_25 IH)
theorem dX2_isFree_0 : decode cX2_isFree 0 = .ok (.aload_n 0, 1) := by decide +kernel
theorem dX2_isFree_1 : decode cX2_isFree 1 = .ok (.iload_n 1, 1) := by decide +kernel
theorem dX2_isFree_2 : decode cX2_isFree 2 = .ok (.invokevirtual 50, 3) := by decide +kernel
theorem dX2_isFree_5 : decode cX2_isFree 5 = .ok (.ifCond .eq 21, 3) := by decide +kernel
theorem dX2_isFree_8 : decode cX2_isFree 8 = .ok (.iload_n 1, 1) := by decide +kernel
theorem dX2_isFree_9 : decode cX2_isFree 9 = .ok (.iload_n 2, 1) := by decide +kernel
theorem dX2_isFree_10 : decode cX2_isFree 10 = .ok (.if_icmp .eq 16, 3) := by decide +kernel
theorem dX2_isFree_13 : decode cX2_isFree 13 = .ok (.aload_n 0, 1) := by decide +kernel
theorem dX2_isFree_14 : decode cX2_isFree 14 = .ok (.iload_n 1, 1) := by decide +kernel
theorem dX2_isFree_15 : decode cX2_isFree 15 = .ok (.iload_n 2, 1) := by decide +kernel
theorem dX2_isFree_16 : decode cX2_isFree 16 = .ok (.invokevirtual 83, 3) := by decide +kernel
theorem dX2_isFree_19 : decode cX2_isFree 19 = .ok (.ifCond .ne 7, 3) := by decide +kernel
theorem dX2_isFree_22 : decode cX2_isFree 22 = .ok (.iconst 1, 1) := by decide +kernel
theorem dX2_isFree_23 : decode cX2_isFree 23 = .ok (.goto 4, 3) := by decide +kernel
theorem dX2_isFree_26 : decode cX2_isFree 26 = .ok (.iconst 0, 1) := by decide +kernel
theorem dX2_isFree_27 : decode cX2_isFree 27 = .ok (.ireturn, 1) := by decide +kernel
set_option maxRecDepth 20000 in
theorem ok_26 {l : Launch} {d : Nat} (IH : ∀ μ, μ < 196 → px_Met l px_P d μ) : px_ok l px_P d RX2 cX2_isFree 3 (some .boolean) tb_26 :=
  ⟨px_Sp.of (ps_aload_n dX2_isFree_0 rfl),
   px_Sp.of (ps_iload_n dX2_isFree_1 rfl),
   ps_callV (IH 24 (by decide)) (C := RX2) (T := TX2) (N := 8) (ci := 2) rfl rfl (fc_24 _ _) wm_RX2_50 wi_yX2_isSeen wl_yX2_isSeen dX2_isFree_2,
   px_Sp.of (ps_if_eq dX2_isFree_5 (by decide)),
   px_Sp.of (ps_iload_n dX2_isFree_8 rfl),
   px_Sp.of (ps_iload_n dX2_isFree_9 rfl),
   px_Sp.of (ps_icmp_eq dX2_isFree_10 (by decide)),
   px_Sp.of (ps_aload_n dX2_isFree_13 rfl),
   px_Sp.of (ps_iload_n dX2_isFree_14 rfl),
   px_Sp.of (ps_iload_n dX2_isFree_15 rfl),
   ps_callV (IH 27 (by decide)) (C := RX2) (T := TX2) (N := 8) (ci := 2) rfl rfl (fc_27 _ _) wm_RX2_83 wi_yX2_leadsTo wl_yX2_leadsTo dX2_isFree_16,
   px_Sp.of (ps_if_ne dX2_isFree_19 (by decide)),
   px_Sp.of (ps_iconst dX2_isFree_22 (by decide)),
   px_Sp.of (ps_goto dX2_isFree_23 (by decide)),
   px_Sp.of (ps_iconst dX2_isFree_26 (by decide)),
   ps_zret dX2_isFree_27, trivial⟩
theorem mt_26 {l : Launch} {d : Nat} (IH : ∀ μ, μ < 196 → px_Met l px_P d μ) : px_Met l px_P (d + 1) 26 := px_met (own := RX2) rfl (by decide +kernel) (ok_26 IH)
theorem dX2_leadsTo_0 : decode cX2_leadsTo 0 = .ok (.iload_n 1, 1) := by decide +kernel
theorem dX2_leadsTo_1 : decode cX2_leadsTo 1 = .ok (.istore_n 3, 1) := by decide +kernel
theorem dX2_leadsTo_2 : decode cX2_leadsTo 2 = .ok (.iconst 0, 1) := by decide +kernel
theorem dX2_leadsTo_3 : decode cX2_leadsTo 3 = .ok (.istore 4, 2) := by decide +kernel
theorem dX2_leadsTo_5 : decode cX2_leadsTo 5 = .ok (.iload 4, 2) := by decide +kernel
theorem dX2_leadsTo_7 : decode cX2_leadsTo 7 = .ok (.bipush 40, 2) := by decide +kernel
theorem dX2_leadsTo_9 : decode cX2_leadsTo 9 = .ok (.if_icmp .ge 28, 3) := by decide +kernel
theorem dX2_leadsTo_12 : decode cX2_leadsTo 12 = .ok (.iload_n 3, 1) := by decide +kernel
theorem dX2_leadsTo_13 : decode cX2_leadsTo 13 = .ok (.iconst (-1), 1) := by decide +kernel
theorem dX2_leadsTo_14 : decode cX2_leadsTo 14 = .ok (.if_icmp .eq 23, 3) := by decide +kernel
theorem dX2_leadsTo_17 : decode cX2_leadsTo 17 = .ok (.iload_n 3, 1) := by decide +kernel
theorem dX2_leadsTo_18 : decode cX2_leadsTo 18 = .ok (.iload_n 2, 1) := by decide +kernel
theorem dX2_leadsTo_19 : decode cX2_leadsTo 19 = .ok (.if_icmp .ne 5, 3) := by decide +kernel
theorem dX2_leadsTo_22 : decode cX2_leadsTo 22 = .ok (.iconst 1, 1) := by decide +kernel
theorem dX2_leadsTo_23 : decode cX2_leadsTo 23 = .ok (.ireturn, 1) := by decide +kernel
theorem dX2_leadsTo_24 : decode cX2_leadsTo 24 = .ok (.aload_n 0, 1) := by decide +kernel
theorem dX2_leadsTo_25 : decode cX2_leadsTo 25 = .ok (.getfield 9, 3) := by decide +kernel
theorem dX2_leadsTo_28 : decode cX2_leadsTo 28 = .ok (.iload_n 3, 1) := by decide +kernel
theorem dX2_leadsTo_29 : decode cX2_leadsTo 29 = .ok (.iaload, 1) := by decide +kernel
theorem dX2_leadsTo_30 : decode cX2_leadsTo 30 = .ok (.istore_n 3, 1) := by decide +kernel
theorem dX2_leadsTo_31 : decode cX2_leadsTo 31 = .ok (.iinc 4 1, 3) := by decide +kernel
theorem dX2_leadsTo_34 : decode cX2_leadsTo 34 = .ok (.goto (-29), 3) := by decide +kernel
theorem dX2_leadsTo_37 : decode cX2_leadsTo 37 = .ok (.iconst 0, 1) := by decide +kernel
theorem dX2_leadsTo_38 : decode cX2_leadsTo 38 = .ok (.ireturn, 1) := by decide +kernel
set_option maxRecDepth 20000 in
theorem ok_27 {l : Launch} {d : Nat} (IH : ∀ μ, μ < 196 → px_Met l px_P d μ) : px_ok l px_P d RX2 cX2_leadsTo 5 (some .boolean) tb_27 :=
  ⟨px_Sp.of (ps_iload_n dX2_leadsTo_0 rfl),
   px_Sp.of (ps_istore_n dX2_leadsTo_1 rfl (by decide)),
   px_Sp.of (ps_iconst dX2_leadsTo_2 (by decide)),
   px_Sp.of (ps_istore dX2_leadsTo_3 (by decide)),
   px_Sp.of (ps_iload dX2_leadsTo_5),
   px_Sp.of (ps_bipush dX2_leadsTo_7 (by decide)),
   px_Sp.of (ps_icmp_ge dX2_leadsTo_9 (by decide)),
   px_Sp.of (ps_iload_n dX2_leadsTo_12 rfl),
   px_Sp.of (ps_iconst dX2_leadsTo_13 (by decide)),
   px_Sp.of (ps_icmp_eq dX2_leadsTo_14 (by decide)),
   px_Sp.of (ps_iload_n dX2_leadsTo_17 rfl),
   px_Sp.of (ps_iload_n dX2_leadsTo_18 rfl),
   px_Sp.of (ps_icmp_ne dX2_leadsTo_19 (by decide)),
   px_Sp.of (ps_iconst dX2_leadsTo_22 (by decide)),
   ps_zret dX2_leadsTo_23,
   px_Sp.of (ps_aload_n dX2_leadsTo_24 rfl),
   px_Sp.of (ps_get kc_X2 (by decide) wf_RX2_9 dX2_leadsTo_25),
   px_Sp.of (ps_iload_n dX2_leadsTo_28 rfl),
   px_Sp.of (ps_iald dX2_leadsTo_29),
   px_Sp.of (ps_istore_n dX2_leadsTo_30 rfl (by decide)),
   px_Sp.of (ps_iinc dX2_leadsTo_31 (by decide) (by decide)),
   px_Sp.of (ps_goto dX2_leadsTo_34 (by decide)),
   px_Sp.of (ps_iconst dX2_leadsTo_37 (by decide)),
   ps_zret dX2_leadsTo_38, trivial⟩
theorem mt_27 {l : Launch} {d : Nat} (IH : ∀ μ, μ < 196 → px_Met l px_P d μ) : px_Met l px_P (d + 1) 27 := px_met (own := RX2) rfl (by decide +kernel) (ok_27 IH)
theorem dX2_isAfter_0 : decode cX2_isAfter 0 = .ok (.aload_n 0, 1) := by decide +kernel
theorem dX2_isAfter_1 : decode cX2_isAfter 1 = .ok (.getfield 22, 3) := by decide +kernel
theorem dX2_isAfter_4 : decode cX2_isAfter 4 = .ok (.getfield 86, 3) := by decide +kernel
theorem dX2_isAfter_7 : decode cX2_isAfter 7 = .ok (.iload_n 2, 1) := by decide +kernel
theorem dX2_isAfter_8 : decode cX2_isAfter 8 = .ok (.iaload, 1) := by decide +kernel
theorem dX2_isAfter_9 : decode cX2_isAfter 9 = .ok (.iconst (-1), 1) := by decide +kernel
theorem dX2_isAfter_10 : decode cX2_isAfter 10 = .ok (.if_icmp .eq 41, 3) := by decide +kernel
theorem dX2_isAfter_13 : decode cX2_isAfter 13 = .ok (.aload_n 0, 1) := by decide +kernel
theorem dX2_isAfter_14 : decode cX2_isAfter 14 = .ok (.getfield 22, 3) := by decide +kernel
theorem dX2_isAfter_17 : decode cX2_isAfter 17 = .ok (.getfield 86, 3) := by decide +kernel
theorem dX2_isAfter_20 : decode cX2_isAfter 20 = .ok (.iload_n 1, 1) := by decide +kernel
theorem dX2_isAfter_21 : decode cX2_isAfter 21 = .ok (.iaload, 1) := by decide +kernel
theorem dX2_isAfter_22 : decode cX2_isAfter 22 = .ok (.iconst (-1), 1) := by decide +kernel
theorem dX2_isAfter_23 : decode cX2_isAfter 23 = .ok (.if_icmp .eq 28, 3) := by decide +kernel
theorem dX2_isAfter_26 : decode cX2_isAfter 26 = .ok (.aload_n 0, 1) := by decide +kernel
theorem dX2_isAfter_27 : decode cX2_isAfter 27 = .ok (.getfield 22, 3) := by decide +kernel
theorem dX2_isAfter_30 : decode cX2_isAfter 30 = .ok (.getfield 86, 3) := by decide +kernel
theorem dX2_isAfter_33 : decode cX2_isAfter 33 = .ok (.iload_n 1, 1) := by decide +kernel
theorem dX2_isAfter_34 : decode cX2_isAfter 34 = .ok (.iaload, 1) := by decide +kernel
theorem dX2_isAfter_35 : decode cX2_isAfter 35 = .ok (.aload_n 0, 1) := by decide +kernel
theorem dX2_isAfter_36 : decode cX2_isAfter 36 = .ok (.getfield 22, 3) := by decide +kernel
theorem dX2_isAfter_39 : decode cX2_isAfter 39 = .ok (.getfield 86, 3) := by decide +kernel
theorem dX2_isAfter_42 : decode cX2_isAfter 42 = .ok (.iload_n 2, 1) := by decide +kernel
theorem dX2_isAfter_43 : decode cX2_isAfter 43 = .ok (.iaload, 1) := by decide +kernel
theorem dX2_isAfter_44 : decode cX2_isAfter 44 = .ok (.if_icmp .le 7, 3) := by decide +kernel
theorem dX2_isAfter_47 : decode cX2_isAfter 47 = .ok (.iconst 1, 1) := by decide +kernel
theorem dX2_isAfter_48 : decode cX2_isAfter 48 = .ok (.goto 4, 3) := by decide +kernel
theorem dX2_isAfter_51 : decode cX2_isAfter 51 = .ok (.iconst 0, 1) := by decide +kernel
theorem dX2_isAfter_52 : decode cX2_isAfter 52 = .ok (.ireturn, 1) := by decide +kernel
set_option maxRecDepth 20000 in
theorem ok_28 {l : Launch} {d : Nat} (IH : ∀ μ, μ < 196 → px_Met l px_P d μ) : px_ok l px_P d RX2 cX2_isAfter 3 (some .boolean) tb_28 :=
  ⟨px_Sp.of (ps_aload_n dX2_isAfter_0 rfl),
   px_Sp.of (ps_get kc_X2 (by decide) wf_RX2_22 dX2_isAfter_1),
   px_Sp.of (ps_get kc_X1 (by decide) wf_RX2_86 dX2_isAfter_4),
   px_Sp.of (ps_iload_n dX2_isAfter_7 rfl),
   px_Sp.of (ps_iald dX2_isAfter_8),
   px_Sp.of (ps_iconst dX2_isAfter_9 (by decide)),
   px_Sp.of (ps_icmp_eq dX2_isAfter_10 (by decide)),
   px_Sp.of (ps_aload_n dX2_isAfter_13 rfl),
   px_Sp.of (ps_get kc_X2 (by decide) wf_RX2_22 dX2_isAfter_14),
   px_Sp.of (ps_get kc_X1 (by decide) wf_RX2_86 dX2_isAfter_17),
   px_Sp.of (ps_iload_n dX2_isAfter_20 rfl),
   px_Sp.of (ps_iald dX2_isAfter_21),
   px_Sp.of (ps_iconst dX2_isAfter_22 (by decide)),
   px_Sp.of (ps_icmp_eq dX2_isAfter_23 (by decide)),
   px_Sp.of (ps_aload_n dX2_isAfter_26 rfl),
   px_Sp.of (ps_get kc_X2 (by decide) wf_RX2_22 dX2_isAfter_27),
   px_Sp.of (ps_get kc_X1 (by decide) wf_RX2_86 dX2_isAfter_30),
   px_Sp.of (ps_iload_n dX2_isAfter_33 rfl),
   px_Sp.of (ps_iald dX2_isAfter_34),
   px_Sp.of (ps_aload_n dX2_isAfter_35 rfl),
   px_Sp.of (ps_get kc_X2 (by decide) wf_RX2_22 dX2_isAfter_36),
   px_Sp.of (ps_get kc_X1 (by decide) wf_RX2_86 dX2_isAfter_39),
   px_Sp.of (ps_iload_n dX2_isAfter_42 rfl),
   px_Sp.of (ps_iald dX2_isAfter_43),
   px_Sp.of (ps_icmp_le dX2_isAfter_44 (by decide)),
   px_Sp.of (ps_iconst dX2_isAfter_47 (by decide)),
   px_Sp.of (ps_goto dX2_isAfter_48 (by decide)),
   px_Sp.of (ps_iconst dX2_isAfter_51 (by decide)),
   ps_zret dX2_isAfter_52, trivial⟩
theorem mt_28 {l : Launch} {d : Nat} (IH : ∀ μ, μ < 196 → px_Met l px_P d μ) : px_Met l px_P (d + 1) 28 := px_met (own := RX2) rfl (by decide +kernel) (ok_28 IH)
theorem dX0_of_0 : decode cX0_of 0 = .ok (.bipush 40, 2) := by decide +kernel
theorem dX0_of_2 : decode cX0_of 2 = .ok (.iload_n 1, 1) := by decide +kernel
theorem dX0_of_3 : decode cX0_of 3 = .ok (.imul, 1) := by decide +kernel
theorem dX0_of_4 : decode cX0_of 4 = .ok (.iload_n 2, 1) := by decide +kernel
theorem dX0_of_5 : decode cX0_of 5 = .ok (.iadd, 1) := by decide +kernel
theorem dX0_of_6 : decode cX0_of 6 = .ok (.istore_n 3, 1) := by decide +kernel
theorem dX0_of_7 : decode cX0_of 7 = .ok (.aload_n 0, 1) := by decide +kernel
theorem dX0_of_8 : decode cX0_of 8 = .ok (.getfield 9, 3) := by decide +kernel
theorem dX0_of_11 : decode cX0_of 11 = .ok (.iload_n 3, 1) := by decide +kernel
theorem dX0_of_12 : decode cX0_of 12 = .ok (.iaload, 1) := by decide +kernel
theorem dX0_of_13 : decode cX0_of 13 = .ok (.iconst (-1), 1) := by decide +kernel
theorem dX0_of_14 : decode cX0_of 14 = .ok (.if_icmp .ne 15, 3) := by decide +kernel
theorem dX0_of_17 : decode cX0_of 17 = .ok (.aload_n 0, 1) := by decide +kernel
theorem dX0_of_18 : decode cX0_of 18 = .ok (.getfield 9, 3) := by decide +kernel
theorem dX0_of_21 : decode cX0_of 21 = .ok (.iload_n 3, 1) := by decide +kernel
theorem dX0_of_22 : decode cX0_of 22 = .ok (.aload_n 0, 1) := by decide +kernel
theorem dX0_of_23 : decode cX0_of 23 = .ok (.iload_n 1, 1) := by decide +kernel
theorem dX0_of_24 : decode cX0_of 24 = .ok (.iload_n 2, 1) := by decide +kernel
theorem dX0_of_25 : decode cX0_of 25 = .ok (.invokevirtual 34, 3) := by decide +kernel
theorem dX0_of_28 : decode cX0_of 28 = .ok (.iastore, 1) := by decide +kernel
theorem dX0_of_29 : decode cX0_of 29 = .ok (.aload_n 0, 1) := by decide +kernel
theorem dX0_of_30 : decode cX0_of 30 = .ok (.getfield 9, 3) := by decide +kernel
theorem dX0_of_33 : decode cX0_of 33 = .ok (.iload_n 3, 1) := by decide +kernel
theorem dX0_of_34 : decode cX0_of 34 = .ok (.iaload, 1) := by decide +kernel
theorem dX0_of_35 : decode cX0_of 35 = .ok (.ireturn, 1) := by decide +kernel
set_option maxRecDepth 20000 in
theorem ok_29 {l : Launch} {d : Nat} (IH : ∀ μ, μ < 196 → px_Met l px_P d μ) : px_ok l px_P d RX0 cX0_of 4 (some .int) tb_29 :=
  ⟨px_Sp.of (ps_bipush dX0_of_0 (by decide)),
   px_Sp.of (ps_iload_n dX0_of_2 rfl),
   px_Sp.of (ps_imul dX0_of_3),
   px_Sp.of (ps_iload_n dX0_of_4 rfl),
   px_Sp.of (ps_iadd dX0_of_5),
   px_Sp.of (ps_istore_n dX0_of_6 rfl (by decide)),
   px_Sp.of (ps_aload_n dX0_of_7 rfl),
   px_Sp.of (ps_get kc_X0 (by decide) wf_RX0_9 dX0_of_8),
   px_Sp.of (ps_iload_n dX0_of_11 rfl),
   px_Sp.of (ps_iald dX0_of_12),
   px_Sp.of (ps_iconst dX0_of_13 (by decide)),
   px_Sp.of (ps_icmp_ne dX0_of_14 (by decide)),
   px_Sp.of (ps_aload_n dX0_of_17 rfl),
   px_Sp.of (ps_get kc_X0 (by decide) wf_RX0_9 dX0_of_18),
   px_Sp.of (ps_iload_n dX0_of_21 rfl),
   px_Sp.of (ps_aload_n dX0_of_22 rfl),
   px_Sp.of (ps_iload_n dX0_of_23 rfl),
   px_Sp.of (ps_iload_n dX0_of_24 rfl),
   ps_callV (IH 30 (by decide)) (C := RX0) (T := TX0) (N := 5) (ci := 0) rfl rfl (fc_30 _ _) wm_RX0_34 wi_yX0_mostPairs wl_yX0_mostPairs dX0_of_25,
   px_Sp.ofm (ps_iast dX0_of_28),
   px_Sp.of (ps_aload_n dX0_of_29 rfl),
   px_Sp.of (ps_get kc_X0 (by decide) wf_RX0_9 dX0_of_30),
   px_Sp.of (ps_iload_n dX0_of_33 rfl),
   px_Sp.of (ps_iald dX0_of_34),
   ps_iret dX0_of_35, trivial⟩
theorem mt_29 {l : Launch} {d : Nat} (IH : ∀ μ, μ < 196 → px_Met l px_P d μ) : px_Met l px_P (d + 1) 29 := px_met (own := RX0) rfl (by decide +kernel) (ok_29 IH)
theorem dX0_mostPairs_0 : decode cX0_mostPairs 0 = .ok (.aload_n 0, 1) := by decide +kernel
theorem dX0_mostPairs_1 : decode cX0_mostPairs 1 = .ok (.getfield 15, 3) := by decide +kernel
theorem dX0_mostPairs_4 : decode cX0_mostPairs 4 = .ok (.iconst 0, 1) := by decide +kernel
theorem dX0_mostPairs_5 : decode cX0_mostPairs 5 = .ok (.invokestatic 28, 3) := by decide +kernel
theorem dX0_mostPairs_8 : decode cX0_mostPairs 8 = .ok (.iconst 0, 1) := by decide +kernel
theorem dX0_mostPairs_9 : decode cX0_mostPairs 9 = .ok (.istore_n 3, 1) := by decide +kernel
theorem dX0_mostPairs_10 : decode cX0_mostPairs 10 = .ok (.iload_n 3, 1) := by decide +kernel
theorem dX0_mostPairs_11 : decode cX0_mostPairs 11 = .ok (.aload_n 0, 1) := by decide +kernel
theorem dX0_mostPairs_12 : decode cX0_mostPairs 12 = .ok (.getfield 21, 3) := by decide +kernel
theorem dX0_mostPairs_15 : decode cX0_mostPairs 15 = .ok (.getfield 38, 3) := by decide +kernel
theorem dX0_mostPairs_18 : decode cX0_mostPairs 18 = .ok (.iload_n 1, 1) := by decide +kernel
theorem dX0_mostPairs_19 : decode cX0_mostPairs 19 = .ok (.iaload, 1) := by decide +kernel
theorem dX0_mostPairs_20 : decode cX0_mostPairs 20 = .ok (.if_icmp .ge 106, 3) := by decide +kernel
theorem dX0_mostPairs_23 : decode cX0_mostPairs 23 = .ok (.iconst 0, 1) := by decide +kernel
theorem dX0_mostPairs_24 : decode cX0_mostPairs 24 = .ok (.istore 4, 2) := by decide +kernel
theorem dX0_mostPairs_26 : decode cX0_mostPairs 26 = .ok (.iconst 0, 1) := by decide +kernel
theorem dX0_mostPairs_27 : decode cX0_mostPairs 27 = .ok (.istore 5, 2) := by decide +kernel
theorem dX0_mostPairs_29 : decode cX0_mostPairs 29 = .ok (.iload 5, 2) := by decide +kernel
theorem dX0_mostPairs_31 : decode cX0_mostPairs 31 = .ok (.aload_n 0, 1) := by decide +kernel
theorem dX0_mostPairs_32 : decode cX0_mostPairs 32 = .ok (.getfield 21, 3) := by decide +kernel
theorem dX0_mostPairs_35 : decode cX0_mostPairs 35 = .ok (.getfield 38, 3) := by decide +kernel
theorem dX0_mostPairs_38 : decode cX0_mostPairs 38 = .ok (.iload_n 2, 1) := by decide +kernel
theorem dX0_mostPairs_39 : decode cX0_mostPairs 39 = .ok (.iaload, 1) := by decide +kernel
theorem dX0_mostPairs_40 : decode cX0_mostPairs 40 = .ok (.if_icmp .ge 80, 3) := by decide +kernel
theorem dX0_mostPairs_43 : decode cX0_mostPairs 43 = .ok (.aload_n 0, 1) := by decide +kernel
theorem dX0_mostPairs_44 : decode cX0_mostPairs 44 = .ok (.getfield 15, 3) := by decide +kernel
theorem dX0_mostPairs_47 : decode cX0_mostPairs 47 = .ok (.iload 5, 2) := by decide +kernel
theorem dX0_mostPairs_49 : decode cX0_mostPairs 49 = .ok (.iconst 1, 1) := by decide +kernel
theorem dX0_mostPairs_50 : decode cX0_mostPairs 50 = .ok (.iadd, 1) := by decide +kernel
theorem dX0_mostPairs_51 : decode cX0_mostPairs 51 = .ok (.iaload, 1) := by decide +kernel
theorem dX0_mostPairs_52 : decode cX0_mostPairs 52 = .ok (.istore 6, 2) := by decide +kernel
theorem dX0_mostPairs_54 : decode cX0_mostPairs 54 = .ok (.iload 6, 2) := by decide +kernel
theorem dX0_mostPairs_56 : decode cX0_mostPairs 56 = .ok (.aload_n 0, 1) := by decide +kernel
theorem dX0_mostPairs_57 : decode cX0_mostPairs 57 = .ok (.getfield 15, 3) := by decide +kernel
theorem dX0_mostPairs_60 : decode cX0_mostPairs 60 = .ok (.iload 5, 2) := by decide +kernel
theorem dX0_mostPairs_62 : decode cX0_mostPairs 62 = .ok (.iaload, 1) := by decide +kernel
theorem dX0_mostPairs_63 : decode cX0_mostPairs 63 = .ok (.invokestatic 43, 3) := by decide +kernel
theorem dX0_mostPairs_66 : decode cX0_mostPairs 66 = .ok (.istore 7, 2) := by decide +kernel
theorem dX0_mostPairs_68 : decode cX0_mostPairs 68 = .ok (.iload 4, 2) := by decide +kernel
theorem dX0_mostPairs_70 : decode cX0_mostPairs 70 = .ok (.iload 7, 2) := by decide +kernel
theorem dX0_mostPairs_72 : decode cX0_mostPairs 72 = .ok (.if_icmp .ne 27, 3) := by decide +kernel
theorem dX0_mostPairs_75 : decode cX0_mostPairs 75 = .ok (.aload_n 0, 1) := by decide +kernel
theorem dX0_mostPairs_76 : decode cX0_mostPairs 76 = .ok (.iload_n 1, 1) := by decide +kernel
theorem dX0_mostPairs_77 : decode cX0_mostPairs 77 = .ok (.iload_n 3, 1) := by decide +kernel
theorem dX0_mostPairs_78 : decode cX0_mostPairs 78 = .ok (.invokestatic 48, 3) := by decide +kernel
theorem dX0_mostPairs_81 : decode cX0_mostPairs 81 = .ok (.iload_n 2, 1) := by decide +kernel
theorem dX0_mostPairs_82 : decode cX0_mostPairs 82 = .ok (.iload 5, 2) := by decide +kernel
theorem dX0_mostPairs_84 : decode cX0_mostPairs 84 = .ok (.invokestatic 48, 3) := by decide +kernel
theorem dX0_mostPairs_87 : decode cX0_mostPairs 87 = .ok (.invokevirtual 51, 3) := by decide +kernel
theorem dX0_mostPairs_90 : decode cX0_mostPairs 90 = .ok (.ifCond .eq 9, 3) := by decide +kernel
theorem dX0_mostPairs_93 : decode cX0_mostPairs 93 = .ok (.iload 4, 2) := by decide +kernel
theorem dX0_mostPairs_95 : decode cX0_mostPairs 95 = .ok (.iconst 1, 1) := by decide +kernel
theorem dX0_mostPairs_96 : decode cX0_mostPairs 96 = .ok (.iadd, 1) := by decide +kernel
theorem dX0_mostPairs_97 : decode cX0_mostPairs 97 = .ok (.istore 7, 2) := by decide +kernel
theorem dX0_mostPairs_99 : decode cX0_mostPairs 99 = .ok (.aload_n 0, 1) := by decide +kernel
theorem dX0_mostPairs_100 : decode cX0_mostPairs 100 = .ok (.getfield 15, 3) := by decide +kernel
theorem dX0_mostPairs_103 : decode cX0_mostPairs 103 = .ok (.iload 5, 2) := by decide +kernel
theorem dX0_mostPairs_105 : decode cX0_mostPairs 105 = .ok (.iconst 1, 1) := by decide +kernel
theorem dX0_mostPairs_106 : decode cX0_mostPairs 106 = .ok (.iadd, 1) := by decide +kernel
theorem dX0_mostPairs_107 : decode cX0_mostPairs 107 = .ok (.iload 7, 2) := by decide +kernel
theorem dX0_mostPairs_109 : decode cX0_mostPairs 109 = .ok (.iastore, 1) := by decide +kernel
theorem dX0_mostPairs_110 : decode cX0_mostPairs 110 = .ok (.iload 6, 2) := by decide +kernel
theorem dX0_mostPairs_112 : decode cX0_mostPairs 112 = .ok (.istore 4, 2) := by decide +kernel
theorem dX0_mostPairs_114 : decode cX0_mostPairs 114 = .ok (.iinc 5 1, 3) := by decide +kernel
theorem dX0_mostPairs_117 : decode cX0_mostPairs 117 = .ok (.goto (-88), 3) := by decide +kernel
theorem dX0_mostPairs_120 : decode cX0_mostPairs 120 = .ok (.iinc 3 1, 3) := by decide +kernel
theorem dX0_mostPairs_123 : decode cX0_mostPairs 123 = .ok (.goto (-113), 3) := by decide +kernel
theorem dX0_mostPairs_126 : decode cX0_mostPairs 126 = .ok (.aload_n 0, 1) := by decide +kernel
theorem dX0_mostPairs_127 : decode cX0_mostPairs 127 = .ok (.getfield 15, 3) := by decide +kernel
theorem dX0_mostPairs_130 : decode cX0_mostPairs 130 = .ok (.aload_n 0, 1) := by decide +kernel
theorem dX0_mostPairs_131 : decode cX0_mostPairs 131 = .ok (.getfield 21, 3) := by decide +kernel
theorem dX0_mostPairs_134 : decode cX0_mostPairs 134 = .ok (.getfield 38, 3) := by decide +kernel
theorem dX0_mostPairs_137 : decode cX0_mostPairs 137 = .ok (.iload_n 2, 1) := by decide +kernel
theorem dX0_mostPairs_138 : decode cX0_mostPairs 138 = .ok (.iaload, 1) := by decide +kernel
theorem dX0_mostPairs_139 : decode cX0_mostPairs 139 = .ok (.iaload, 1) := by decide +kernel
theorem dX0_mostPairs_140 : decode cX0_mostPairs 140 = .ok (.ireturn, 1) := by decide +kernel
set_option maxRecDepth 20000 in
theorem ok_30 {l : Launch} {d : Nat} (IH : ∀ μ, μ < 196 → px_Met l px_P d μ) : px_ok l px_P d RX0 cX0_mostPairs 8 (some .int) tb_30 :=
  ⟨px_Sp.of (ps_aload_n dX0_mostPairs_0 rfl),
   px_Sp.of (ps_get kc_X0 (by decide) wf_RX0_15 dX0_mostPairs_1),
   px_Sp.of (ps_iconst dX0_mostPairs_4 (by decide)),
   ps_callS (IH 0 (by decide)) (fc_0 _ _) wm_RX0_28 ws_yJ7_fill_53178 dX0_mostPairs_5,
   px_Sp.of (ps_iconst dX0_mostPairs_8 (by decide)),
   px_Sp.of (ps_istore_n dX0_mostPairs_9 rfl (by decide)),
   px_Sp.of (ps_iload_n dX0_mostPairs_10 rfl),
   px_Sp.of (ps_aload_n dX0_mostPairs_11 rfl),
   px_Sp.of (ps_get kc_X0 (by decide) wf_RX0_21 dX0_mostPairs_12),
   px_Sp.of (ps_get kc_X1 (by decide) wf_RX0_38 dX0_mostPairs_15),
   px_Sp.of (ps_iload_n dX0_mostPairs_18 rfl),
   px_Sp.of (ps_iald dX0_mostPairs_19),
   px_Sp.of (ps_icmp_ge dX0_mostPairs_20 (by decide)),
   px_Sp.of (ps_iconst dX0_mostPairs_23 (by decide)),
   px_Sp.of (ps_istore dX0_mostPairs_24 (by decide)),
   px_Sp.of (ps_iconst dX0_mostPairs_26 (by decide)),
   px_Sp.of (ps_istore dX0_mostPairs_27 (by decide)),
   px_Sp.of (ps_iload dX0_mostPairs_29),
   px_Sp.of (ps_aload_n dX0_mostPairs_31 rfl),
   px_Sp.of (ps_get kc_X0 (by decide) wf_RX0_21 dX0_mostPairs_32),
   px_Sp.of (ps_get kc_X1 (by decide) wf_RX0_38 dX0_mostPairs_35),
   px_Sp.of (ps_iload_n dX0_mostPairs_38 rfl),
   px_Sp.of (ps_iald dX0_mostPairs_39),
   px_Sp.of (ps_icmp_ge dX0_mostPairs_40 (by decide)),
   px_Sp.of (ps_aload_n dX0_mostPairs_43 rfl),
   px_Sp.of (ps_get kc_X0 (by decide) wf_RX0_15 dX0_mostPairs_44),
   px_Sp.of (ps_iload dX0_mostPairs_47),
   px_Sp.of (ps_iconst dX0_mostPairs_49 (by decide)),
   px_Sp.of (ps_iadd dX0_mostPairs_50),
   px_Sp.of (ps_iald dX0_mostPairs_51),
   px_Sp.of (ps_istore dX0_mostPairs_52 (by decide)),
   px_Sp.of (ps_iload dX0_mostPairs_54),
   px_Sp.of (ps_aload_n dX0_mostPairs_56 rfl),
   px_Sp.of (ps_get kc_X0 (by decide) wf_RX0_15 dX0_mostPairs_57),
   px_Sp.of (ps_iload dX0_mostPairs_60),
   px_Sp.of (ps_iald dX0_mostPairs_62),
   px_Sp.of (ps_max wm_RX0_43 ws_max wn_RJ9 wc_max dX0_mostPairs_63),
   px_Sp.of (ps_istore dX0_mostPairs_66 (by decide)),
   px_Sp.of (ps_iload dX0_mostPairs_68),
   px_Sp.of (ps_iload dX0_mostPairs_70),
   px_Sp.of (ps_icmp_ne dX0_mostPairs_72 (by decide)),
   px_Sp.of (ps_aload_n dX0_mostPairs_75 rfl),
   px_Sp.of (ps_iload_n dX0_mostPairs_76 rfl),
   px_Sp.of (ps_iload_n dX0_mostPairs_77 rfl),
   ps_callSN (IH 11 (by decide)) (fc_11 _ _) (fun _ _ _ _ h => h.1.2.1) ws_yX8_spotOf dX0_mostPairs_78,
   px_Sp.of (ps_iload_n dX0_mostPairs_81 rfl),
   px_Sp.of (ps_iload dX0_mostPairs_82),
   ps_callSN (IH 11 (by decide)) (fc_11 _ _) (fun _ _ _ _ h => h.1.2.1) ws_yX8_spotOf dX0_mostPairs_84,
   ps_callV (IH 31 (by decide)) (C := RX0) (T := TX0) (N := 5) (ci := 0) rfl rfl (fc_31 _ _) wm_RX0_51 wi_yX0_isLike wl_yX0_isLike dX0_mostPairs_87,
   px_Sp.of (ps_if_eq dX0_mostPairs_90 (by decide)),
   px_Sp.of (ps_iload dX0_mostPairs_93),
   px_Sp.of (ps_iconst dX0_mostPairs_95 (by decide)),
   px_Sp.of (ps_iadd dX0_mostPairs_96),
   px_Sp.of (ps_istore dX0_mostPairs_97 (by decide)),
   px_Sp.of (ps_aload_n dX0_mostPairs_99 rfl),
   px_Sp.of (ps_get kc_X0 (by decide) wf_RX0_15 dX0_mostPairs_100),
   px_Sp.of (ps_iload dX0_mostPairs_103),
   px_Sp.of (ps_iconst dX0_mostPairs_105 (by decide)),
   px_Sp.of (ps_iadd dX0_mostPairs_106),
   px_Sp.of (ps_iload dX0_mostPairs_107),
   px_Sp.ofm (ps_iast dX0_mostPairs_109),
   px_Sp.of (ps_iload dX0_mostPairs_110),
   px_Sp.of (ps_istore dX0_mostPairs_112 (by decide)),
   px_Sp.of (ps_iinc dX0_mostPairs_114 (by decide) (by decide)),
   px_Sp.of (ps_goto dX0_mostPairs_117 (by decide)),
   px_Sp.of (ps_iinc dX0_mostPairs_120 (by decide) (by decide)),
   px_Sp.of (ps_goto dX0_mostPairs_123 (by decide)),
   px_Sp.of (ps_aload_n dX0_mostPairs_126 rfl),
   px_Sp.of (ps_get kc_X0 (by decide) wf_RX0_15 dX0_mostPairs_127),
   px_Sp.of (ps_aload_n dX0_mostPairs_130 rfl),
   px_Sp.of (ps_get kc_X0 (by decide) wf_RX0_21 dX0_mostPairs_131),
   px_Sp.of (ps_get kc_X1 (by decide) wf_RX0_38 dX0_mostPairs_134),
   px_Sp.of (ps_iload_n dX0_mostPairs_137 rfl),
   px_Sp.of (ps_iald dX0_mostPairs_138),
   px_Sp.of (ps_iald dX0_mostPairs_139),
   ps_iret dX0_mostPairs_140, trivial⟩
theorem mt_30 {l : Launch} {d : Nat} (IH : ∀ μ, μ < 196 → px_Met l px_P d μ) : px_Met l px_P (d + 1) 30 := px_met (own := RX0) rfl (by decide +kernel) (ok_30 IH)
theorem dX0_isLike_0 : decode cX0_isLike 0 = .ok (.aload_n 0, 1) := by decide +kernel
theorem dX0_isLike_1 : decode cX0_isLike 1 = .ok (.getfield 21, 3) := by decide +kernel
theorem dX0_isLike_4 : decode cX0_isLike 4 = .ok (.getfield 55, 3) := by decide +kernel
theorem dX0_isLike_7 : decode cX0_isLike 7 = .ok (.iload_n 1, 1) := by decide +kernel
theorem dX0_isLike_8 : decode cX0_isLike 8 = .ok (.iaload, 1) := by decide +kernel
theorem dX0_isLike_9 : decode cX0_isLike 9 = .ok (.ifCond .eq 26, 3) := by decide +kernel
theorem dX0_isLike_12 : decode cX0_isLike 12 = .ok (.aload_n 0, 1) := by decide +kernel
theorem dX0_isLike_13 : decode cX0_isLike 13 = .ok (.getfield 21, 3) := by decide +kernel
theorem dX0_isLike_16 : decode cX0_isLike 16 = .ok (.getfield 55, 3) := by decide +kernel
theorem dX0_isLike_19 : decode cX0_isLike 19 = .ok (.iload_n 2, 1) := by decide +kernel
theorem dX0_isLike_20 : decode cX0_isLike 20 = .ok (.iaload, 1) := by decide +kernel
theorem dX0_isLike_21 : decode cX0_isLike 21 = .ok (.aload_n 0, 1) := by decide +kernel
theorem dX0_isLike_22 : decode cX0_isLike 22 = .ok (.getfield 21, 3) := by decide +kernel
theorem dX0_isLike_25 : decode cX0_isLike 25 = .ok (.getfield 55, 3) := by decide +kernel
theorem dX0_isLike_28 : decode cX0_isLike 28 = .ok (.iload_n 1, 1) := by decide +kernel
theorem dX0_isLike_29 : decode cX0_isLike 29 = .ok (.iaload, 1) := by decide +kernel
theorem dX0_isLike_30 : decode cX0_isLike 30 = .ok (.iconst 1, 1) := by decide +kernel
theorem dX0_isLike_31 : decode cX0_isLike 31 = .ok (.isub, 1) := by decide +kernel
theorem dX0_isLike_32 : decode cX0_isLike 32 = .ok (.if_icmp .eq 5, 3) := by decide +kernel
theorem dX0_isLike_35 : decode cX0_isLike 35 = .ok (.iconst 0, 1) := by decide +kernel
theorem dX0_isLike_36 : decode cX0_isLike 36 = .ok (.ireturn, 1) := by decide +kernel
theorem dX0_isLike_37 : decode cX0_isLike 37 = .ok (.aload_n 0, 1) := by decide +kernel
theorem dX0_isLike_38 : decode cX0_isLike 38 = .ok (.getfield 21, 3) := by decide +kernel
theorem dX0_isLike_41 : decode cX0_isLike 41 = .ok (.getfield 58, 3) := by decide +kernel
theorem dX0_isLike_44 : decode cX0_isLike 44 = .ok (.iload_n 1, 1) := by decide +kernel
theorem dX0_isLike_45 : decode cX0_isLike 45 = .ok (.laload, 1) := by decide +kernel
theorem dX0_isLike_46 : decode cX0_isLike 46 = .ok (.aload_n 0, 1) := by decide +kernel
theorem dX0_isLike_47 : decode cX0_isLike 47 = .ok (.getfield 21, 3) := by decide +kernel
theorem dX0_isLike_50 : decode cX0_isLike 50 = .ok (.getfield 58, 3) := by decide +kernel
theorem dX0_isLike_53 : decode cX0_isLike 53 = .ok (.iload_n 2, 1) := by decide +kernel
theorem dX0_isLike_54 : decode cX0_isLike 54 = .ok (.laload, 1) := by decide +kernel
theorem dX0_isLike_55 : decode cX0_isLike 55 = .ok (.lcmp, 1) := by decide +kernel
theorem dX0_isLike_56 : decode cX0_isLike 56 = .ok (.ifCond .ne 5, 3) := by decide +kernel
theorem dX0_isLike_59 : decode cX0_isLike 59 = .ok (.iconst 1, 1) := by decide +kernel
theorem dX0_isLike_60 : decode cX0_isLike 60 = .ok (.ireturn, 1) := by decide +kernel
theorem dX0_isLike_61 : decode cX0_isLike 61 = .ok (.aload_n 0, 1) := by decide +kernel
theorem dX0_isLike_62 : decode cX0_isLike 62 = .ok (.getfield 25, 3) := by decide +kernel
theorem dX0_isLike_65 : decode cX0_isLike 65 = .ok (.iconst 0, 1) := by decide +kernel
theorem dX0_isLike_66 : decode cX0_isLike 66 = .ok (.iaload, 1) := by decide +kernel
theorem dX0_isLike_67 : decode cX0_isLike 67 = .ok (.ifCond .le 38, 3) := by decide +kernel
theorem dX0_isLike_70 : decode cX0_isLike 70 = .ok (.aload_n 0, 1) := by decide +kernel
theorem dX0_isLike_71 : decode cX0_isLike 71 = .ok (.aload_n 0, 1) := by decide +kernel
theorem dX0_isLike_72 : decode cX0_isLike 72 = .ok (.getfield 21, 3) := by decide +kernel
theorem dX0_isLike_75 : decode cX0_isLike 75 = .ok (.getfield 58, 3) := by decide +kernel
theorem dX0_isLike_78 : decode cX0_isLike 78 = .ok (.iload_n 1, 1) := by decide +kernel
theorem dX0_isLike_79 : decode cX0_isLike 79 = .ok (.laload, 1) := by decide +kernel
theorem dX0_isLike_80 : decode cX0_isLike 80 = .ok (.aload_n 0, 1) := by decide +kernel
theorem dX0_isLike_81 : decode cX0_isLike 81 = .ok (.getfield 21, 3) := by decide +kernel
theorem dX0_isLike_84 : decode cX0_isLike 84 = .ok (.getfield 58, 3) := by decide +kernel
theorem dX0_isLike_87 : decode cX0_isLike 87 = .ok (.iload_n 2, 1) := by decide +kernel
theorem dX0_isLike_88 : decode cX0_isLike 88 = .ok (.laload, 1) := by decide +kernel
theorem dX0_isLike_89 : decode cX0_isLike 89 = .ok (.invokevirtual 62, 3) := by decide +kernel
theorem dX0_isLike_92 : decode cX0_isLike 92 = .ok (.aload_n 0, 1) := by decide +kernel
theorem dX0_isLike_93 : decode cX0_isLike 93 = .ok (.getfield 25, 3) := by decide +kernel
theorem dX0_isLike_96 : decode cX0_isLike 96 = .ok (.iconst 0, 1) := by decide +kernel
theorem dX0_isLike_97 : decode cX0_isLike 97 = .ok (.iaload, 1) := by decide +kernel
theorem dX0_isLike_98 : decode cX0_isLike 98 = .ok (.if_icmp .gt 7, 3) := by decide +kernel
theorem dX0_isLike_101 : decode cX0_isLike 101 = .ok (.iconst 1, 1) := by decide +kernel
theorem dX0_isLike_102 : decode cX0_isLike 102 = .ok (.goto 4, 3) := by decide +kernel
theorem dX0_isLike_105 : decode cX0_isLike 105 = .ok (.iconst 0, 1) := by decide +kernel
theorem dX0_isLike_106 : decode cX0_isLike 106 = .ok (.ireturn, 1) := by decide +kernel
set_option maxRecDepth 20000 in
theorem ok_31 {l : Launch} {d : Nat} (IH : ∀ μ, μ < 196 → px_Met l px_P d μ) : px_ok l px_P d RX0 cX0_isLike 3 (some .boolean) tb_31 :=
  ⟨px_Sp.of (ps_aload_n dX0_isLike_0 rfl),
   px_Sp.of (ps_get kc_X0 (by decide) wf_RX0_21 dX0_isLike_1),
   px_Sp.of (ps_get kc_X1 (by decide) wf_RX0_55 dX0_isLike_4),
   px_Sp.of (ps_iload_n dX0_isLike_7 rfl),
   px_Sp.of (ps_iald dX0_isLike_8),
   px_Sp.of (ps_if_eq dX0_isLike_9 (by decide)),
   px_Sp.of (ps_aload_n dX0_isLike_12 rfl),
   px_Sp.of (ps_get kc_X0 (by decide) wf_RX0_21 dX0_isLike_13),
   px_Sp.of (ps_get kc_X1 (by decide) wf_RX0_55 dX0_isLike_16),
   px_Sp.of (ps_iload_n dX0_isLike_19 rfl),
   px_Sp.of (ps_iald dX0_isLike_20),
   px_Sp.of (ps_aload_n dX0_isLike_21 rfl),
   px_Sp.of (ps_get kc_X0 (by decide) wf_RX0_21 dX0_isLike_22),
   px_Sp.of (ps_get kc_X1 (by decide) wf_RX0_55 dX0_isLike_25),
   px_Sp.of (ps_iload_n dX0_isLike_28 rfl),
   px_Sp.of (ps_iald dX0_isLike_29),
   px_Sp.of (ps_iconst dX0_isLike_30 (by decide)),
   px_Sp.of (ps_isub dX0_isLike_31),
   px_Sp.of (ps_icmp_eq dX0_isLike_32 (by decide)),
   px_Sp.of (ps_iconst dX0_isLike_35 (by decide)),
   ps_zret dX0_isLike_36,
   px_Sp.of (ps_aload_n dX0_isLike_37 rfl),
   px_Sp.of (ps_get kc_X0 (by decide) wf_RX0_21 dX0_isLike_38),
   px_Sp.of (ps_get kc_X1 (by decide) wf_RX0_58 dX0_isLike_41),
   px_Sp.of (ps_iload_n dX0_isLike_44 rfl),
   px_Sp.of (ps_lald dX0_isLike_45),
   px_Sp.of (ps_aload_n dX0_isLike_46 rfl),
   px_Sp.of (ps_get kc_X0 (by decide) wf_RX0_21 dX0_isLike_47),
   px_Sp.of (ps_get kc_X1 (by decide) wf_RX0_58 dX0_isLike_50),
   px_Sp.of (ps_iload_n dX0_isLike_53 rfl),
   px_Sp.of (ps_lald dX0_isLike_54),
   px_Sp.of (ps_lcmp dX0_isLike_55),
   px_Sp.of (ps_if_ne dX0_isLike_56 (by decide)),
   px_Sp.of (ps_iconst dX0_isLike_59 (by decide)),
   ps_zret dX0_isLike_60,
   px_Sp.of (ps_aload_n dX0_isLike_61 rfl),
   px_Sp.of (ps_get kc_X0 (by decide) wf_RX0_25 dX0_isLike_62),
   px_Sp.of (ps_iconst dX0_isLike_65 (by decide)),
   px_Sp.of (ps_iald dX0_isLike_66),
   px_Sp.of (ps_if_le dX0_isLike_67 (by decide)),
   px_Sp.of (ps_aload_n dX0_isLike_70 rfl),
   px_Sp.of (ps_aload_n dX0_isLike_71 rfl),
   px_Sp.of (ps_get kc_X0 (by decide) wf_RX0_21 dX0_isLike_72),
   px_Sp.of (ps_get kc_X1 (by decide) wf_RX0_58 dX0_isLike_75),
   px_Sp.of (ps_iload_n dX0_isLike_78 rfl),
   px_Sp.of (ps_lald dX0_isLike_79),
   px_Sp.of (ps_aload_n dX0_isLike_80 rfl),
   px_Sp.of (ps_get kc_X0 (by decide) wf_RX0_21 dX0_isLike_81),
   px_Sp.of (ps_get kc_X1 (by decide) wf_RX0_58 dX0_isLike_84),
   px_Sp.of (ps_iload_n dX0_isLike_87 rfl),
   px_Sp.of (ps_lald dX0_isLike_88),
   ps_callV (IH 32 (by decide)) (C := RX0) (T := TX0) (N := 5) (ci := 0) rfl rfl (fc_32 _ _) wm_RX0_62 wi_yX0_distance wl_yX0_distance dX0_isLike_89,
   px_Sp.of (ps_aload_n dX0_isLike_92 rfl),
   px_Sp.of (ps_get kc_X0 (by decide) wf_RX0_25 dX0_isLike_93),
   px_Sp.of (ps_iconst dX0_isLike_96 (by decide)),
   px_Sp.of (ps_iald dX0_isLike_97),
   px_Sp.of (ps_icmp_gt dX0_isLike_98 (by decide)),
   px_Sp.of (ps_iconst dX0_isLike_101 (by decide)),
   px_Sp.of (ps_goto dX0_isLike_102 (by decide)),
   px_Sp.of (ps_iconst dX0_isLike_105 (by decide)),
   ps_zret dX0_isLike_106, trivial⟩
theorem mt_31 {l : Launch} {d : Nat} (IH : ∀ μ, μ < 196 → px_Met l px_P d μ) : px_Met l px_P (d + 1) 31 := px_met (own := RX0) rfl (by decide +kernel) (ok_31 IH)
theorem dX0_distance_0 : decode cX0_distance 0 = .ok (.lload_n 1, 1) := by decide +kernel
theorem dX0_distance_1 : decode cX0_distance 1 = .ok (.invokestatic 66, 3) := by decide +kernel
theorem dX0_distance_4 : decode cX0_distance 4 = .ok (.istore 5, 2) := by decide +kernel
theorem dX0_distance_6 : decode cX0_distance 6 = .ok (.lload_n 3, 1) := by decide +kernel
theorem dX0_distance_7 : decode cX0_distance 7 = .ok (.invokestatic 66, 3) := by decide +kernel
theorem dX0_distance_10 : decode cX0_distance 10 = .ok (.istore 6, 2) := by decide +kernel
theorem dX0_distance_12 : decode cX0_distance 12 = .ok (.iconst 0, 1) := by decide +kernel
theorem dX0_distance_13 : decode cX0_distance 13 = .ok (.istore 7, 2) := by decide +kernel
theorem dX0_distance_15 : decode cX0_distance 15 = .ok (.iload 7, 2) := by decide +kernel
theorem dX0_distance_17 : decode cX0_distance 17 = .ok (.iload 6, 2) := by decide +kernel
theorem dX0_distance_19 : decode cX0_distance 19 = .ok (.if_icmp .gt 18, 3) := by decide +kernel
theorem dX0_distance_22 : decode cX0_distance 22 = .ok (.aload_n 0, 1) := by decide +kernel
theorem dX0_distance_23 : decode cX0_distance 23 = .ok (.getfield 18, 3) := by decide +kernel
theorem dX0_distance_26 : decode cX0_distance 26 = .ok (.iload 7, 2) := by decide +kernel
theorem dX0_distance_28 : decode cX0_distance 28 = .ok (.iload 7, 2) := by decide +kernel
theorem dX0_distance_30 : decode cX0_distance 30 = .ok (.iastore, 1) := by decide +kernel
theorem dX0_distance_31 : decode cX0_distance 31 = .ok (.iinc 7 1, 3) := by decide +kernel
theorem dX0_distance_34 : decode cX0_distance 34 = .ok (.goto (-19), 3) := by decide +kernel
theorem dX0_distance_37 : decode cX0_distance 37 = .ok (.iconst 1, 1) := by decide +kernel
theorem dX0_distance_38 : decode cX0_distance 38 = .ok (.istore 7, 2) := by decide +kernel
theorem dX0_distance_40 : decode cX0_distance 40 = .ok (.iload 7, 2) := by decide +kernel
theorem dX0_distance_42 : decode cX0_distance 42 = .ok (.iload 5, 2) := by decide +kernel
theorem dX0_distance_44 : decode cX0_distance 44 = .ok (.if_icmp .gt 120, 3) := by decide +kernel
theorem dX0_distance_47 : decode cX0_distance 47 = .ok (.aload_n 0, 1) := by decide +kernel
theorem dX0_distance_48 : decode cX0_distance 48 = .ok (.getfield 18, 3) := by decide +kernel
theorem dX0_distance_51 : decode cX0_distance 51 = .ok (.iconst 0, 1) := by decide +kernel
theorem dX0_distance_52 : decode cX0_distance 52 = .ok (.iaload, 1) := by decide +kernel
theorem dX0_distance_53 : decode cX0_distance 53 = .ok (.istore 8, 2) := by decide +kernel
theorem dX0_distance_55 : decode cX0_distance 55 = .ok (.aload_n 0, 1) := by decide +kernel
theorem dX0_distance_56 : decode cX0_distance 56 = .ok (.getfield 18, 3) := by decide +kernel
theorem dX0_distance_59 : decode cX0_distance 59 = .ok (.iconst 0, 1) := by decide +kernel
theorem dX0_distance_60 : decode cX0_distance 60 = .ok (.iload 7, 2) := by decide +kernel
theorem dX0_distance_62 : decode cX0_distance 62 = .ok (.iastore, 1) := by decide +kernel
theorem dX0_distance_63 : decode cX0_distance 63 = .ok (.iconst 1, 1) := by decide +kernel
theorem dX0_distance_64 : decode cX0_distance 64 = .ok (.istore 9, 2) := by decide +kernel
theorem dX0_distance_66 : decode cX0_distance 66 = .ok (.iload 9, 2) := by decide +kernel
theorem dX0_distance_68 : decode cX0_distance 68 = .ok (.iload 6, 2) := by decide +kernel
theorem dX0_distance_70 : decode cX0_distance 70 = .ok (.if_icmp .gt 88, 3) := by decide +kernel
theorem dX0_distance_73 : decode cX0_distance 73 = .ok (.lload_n 1, 1) := by decide +kernel
theorem dX0_distance_74 : decode cX0_distance 74 = .ok (.iload 7, 2) := by decide +kernel
theorem dX0_distance_76 : decode cX0_distance 76 = .ok (.iconst 1, 1) := by decide +kernel
theorem dX0_distance_77 : decode cX0_distance 77 = .ok (.isub, 1) := by decide +kernel
theorem dX0_distance_78 : decode cX0_distance 78 = .ok (.invokestatic 72, 3) := by decide +kernel
theorem dX0_distance_81 : decode cX0_distance 81 = .ok (.lload_n 3, 1) := by decide +kernel
theorem dX0_distance_82 : decode cX0_distance 82 = .ok (.iload 9, 2) := by decide +kernel
theorem dX0_distance_84 : decode cX0_distance 84 = .ok (.iconst 1, 1) := by decide +kernel
theorem dX0_distance_85 : decode cX0_distance 85 = .ok (.isub, 1) := by decide +kernel
theorem dX0_distance_86 : decode cX0_distance 86 = .ok (.invokestatic 72, 3) := by decide +kernel
theorem dX0_distance_89 : decode cX0_distance 89 = .ok (.if_icmp .ne 7, 3) := by decide +kernel
theorem dX0_distance_92 : decode cX0_distance 92 = .ok (.iconst 1, 1) := by decide +kernel
theorem dX0_distance_93 : decode cX0_distance 93 = .ok (.goto 4, 3) := by decide +kernel
theorem dX0_distance_96 : decode cX0_distance 96 = .ok (.iconst 0, 1) := by decide +kernel
theorem dX0_distance_97 : decode cX0_distance 97 = .ok (.istore 10, 2) := by decide +kernel
theorem dX0_distance_99 : decode cX0_distance 99 = .ok (.iload 10, 2) := by decide +kernel
theorem dX0_distance_101 : decode cX0_distance 101 = .ok (.ifCond .eq 8, 3) := by decide +kernel
theorem dX0_distance_104 : decode cX0_distance 104 = .ok (.iload 8, 2) := by decide +kernel
theorem dX0_distance_106 : decode cX0_distance 106 = .ok (.goto 7, 3) := by decide +kernel
theorem dX0_distance_109 : decode cX0_distance 109 = .ok (.iload 8, 2) := by decide +kernel
theorem dX0_distance_111 : decode cX0_distance 111 = .ok (.iconst 1, 1) := by decide +kernel
theorem dX0_distance_112 : decode cX0_distance 112 = .ok (.iadd, 1) := by decide +kernel
theorem dX0_distance_113 : decode cX0_distance 113 = .ok (.istore 11, 2) := by decide +kernel
theorem dX0_distance_115 : decode cX0_distance 115 = .ok (.aload_n 0, 1) := by decide +kernel
theorem dX0_distance_116 : decode cX0_distance 116 = .ok (.getfield 18, 3) := by decide +kernel
theorem dX0_distance_119 : decode cX0_distance 119 = .ok (.iload 9, 2) := by decide +kernel
theorem dX0_distance_121 : decode cX0_distance 121 = .ok (.iaload, 1) := by decide +kernel
theorem dX0_distance_122 : decode cX0_distance 122 = .ok (.istore 8, 2) := by decide +kernel
theorem dX0_distance_124 : decode cX0_distance 124 = .ok (.aload_n 0, 1) := by decide +kernel
theorem dX0_distance_125 : decode cX0_distance 125 = .ok (.getfield 18, 3) := by decide +kernel
theorem dX0_distance_128 : decode cX0_distance 128 = .ok (.iload 9, 2) := by decide +kernel
theorem dX0_distance_130 : decode cX0_distance 130 = .ok (.iload 11, 2) := by decide +kernel
theorem dX0_distance_132 : decode cX0_distance 132 = .ok (.iconst 1, 1) := by decide +kernel
theorem dX0_distance_133 : decode cX0_distance 133 = .ok (.iload 8, 2) := by decide +kernel
theorem dX0_distance_135 : decode cX0_distance 135 = .ok (.aload_n 0, 1) := by decide +kernel
theorem dX0_distance_136 : decode cX0_distance 136 = .ok (.getfield 18, 3) := by decide +kernel
theorem dX0_distance_139 : decode cX0_distance 139 = .ok (.iload 9, 2) := by decide +kernel
theorem dX0_distance_141 : decode cX0_distance 141 = .ok (.iconst 1, 1) := by decide +kernel
theorem dX0_distance_142 : decode cX0_distance 142 = .ok (.isub, 1) := by decide +kernel
theorem dX0_distance_143 : decode cX0_distance 143 = .ok (.iaload, 1) := by decide +kernel
theorem dX0_distance_144 : decode cX0_distance 144 = .ok (.invokestatic 76, 3) := by decide +kernel
theorem dX0_distance_147 : decode cX0_distance 147 = .ok (.iadd, 1) := by decide +kernel
theorem dX0_distance_148 : decode cX0_distance 148 = .ok (.invokestatic 76, 3) := by decide +kernel
theorem dX0_distance_151 : decode cX0_distance 151 = .ok (.iastore, 1) := by decide +kernel
theorem dX0_distance_152 : decode cX0_distance 152 = .ok (.iinc 9 1, 3) := by decide +kernel
theorem dX0_distance_155 : decode cX0_distance 155 = .ok (.goto (-89), 3) := by decide +kernel
theorem dX0_distance_158 : decode cX0_distance 158 = .ok (.iinc 7 1, 3) := by decide +kernel
theorem dX0_distance_161 : decode cX0_distance 161 = .ok (.goto (-121), 3) := by decide +kernel
theorem dX0_distance_164 : decode cX0_distance 164 = .ok (.aload_n 0, 1) := by decide +kernel
theorem dX0_distance_165 : decode cX0_distance 165 = .ok (.getfield 18, 3) := by decide +kernel
theorem dX0_distance_168 : decode cX0_distance 168 = .ok (.iload 6, 2) := by decide +kernel
theorem dX0_distance_170 : decode cX0_distance 170 = .ok (.iaload, 1) := by decide +kernel
theorem dX0_distance_171 : decode cX0_distance 171 = .ok (.ireturn, 1) := by decide +kernel
set_option maxRecDepth 20000 in
theorem ok_32 {l : Launch} {d : Nat} (IH : ∀ μ, μ < 196 → px_Met l px_P d μ) : px_ok l px_P d RX0 cX0_distance 12 (some .int) tb_32 :=
  ⟨px_Sp.of (ps_lload_n dX0_distance_0 rfl),
   ps_callS (IH 33 (by decide)) (fc_33 _ _) wm_RX0_66 ws_yX7_wordsIn dX0_distance_1,
   px_Sp.of (ps_istore dX0_distance_4 (by decide)),
   px_Sp.of (ps_lload_n dX0_distance_6 rfl),
   ps_callS (IH 33 (by decide)) (fc_33 _ _) wm_RX0_66 ws_yX7_wordsIn dX0_distance_7,
   px_Sp.of (ps_istore dX0_distance_10 (by decide)),
   px_Sp.of (ps_iconst dX0_distance_12 (by decide)),
   px_Sp.of (ps_istore dX0_distance_13 (by decide)),
   px_Sp.of (ps_iload dX0_distance_15),
   px_Sp.of (ps_iload dX0_distance_17),
   px_Sp.of (ps_icmp_gt dX0_distance_19 (by decide)),
   px_Sp.of (ps_aload_n dX0_distance_22 rfl),
   px_Sp.of (ps_get kc_X0 (by decide) wf_RX0_18 dX0_distance_23),
   px_Sp.of (ps_iload dX0_distance_26),
   px_Sp.of (ps_iload dX0_distance_28),
   px_Sp.ofm (ps_iast dX0_distance_30),
   px_Sp.of (ps_iinc dX0_distance_31 (by decide) (by decide)),
   px_Sp.of (ps_goto dX0_distance_34 (by decide)),
   px_Sp.of (ps_iconst dX0_distance_37 (by decide)),
   px_Sp.of (ps_istore dX0_distance_38 (by decide)),
   px_Sp.of (ps_iload dX0_distance_40),
   px_Sp.of (ps_iload dX0_distance_42),
   px_Sp.of (ps_icmp_gt dX0_distance_44 (by decide)),
   px_Sp.of (ps_aload_n dX0_distance_47 rfl),
   px_Sp.of (ps_get kc_X0 (by decide) wf_RX0_18 dX0_distance_48),
   px_Sp.of (ps_iconst dX0_distance_51 (by decide)),
   px_Sp.of (ps_iald dX0_distance_52),
   px_Sp.of (ps_istore dX0_distance_53 (by decide)),
   px_Sp.of (ps_aload_n dX0_distance_55 rfl),
   px_Sp.of (ps_get kc_X0 (by decide) wf_RX0_18 dX0_distance_56),
   px_Sp.of (ps_iconst dX0_distance_59 (by decide)),
   px_Sp.of (ps_iload dX0_distance_60),
   px_Sp.ofm (ps_iast dX0_distance_62),
   px_Sp.of (ps_iconst dX0_distance_63 (by decide)),
   px_Sp.of (ps_istore dX0_distance_64 (by decide)),
   px_Sp.of (ps_iload dX0_distance_66),
   px_Sp.of (ps_iload dX0_distance_68),
   px_Sp.of (ps_icmp_gt dX0_distance_70 (by decide)),
   px_Sp.of (ps_lload_n dX0_distance_73 rfl),
   px_Sp.of (ps_iload dX0_distance_74),
   px_Sp.of (ps_iconst dX0_distance_76 (by decide)),
   px_Sp.of (ps_isub dX0_distance_77),
   ps_callS (IH 34 (by decide)) (fc_34 _ _) wm_RX0_72 ws_yX7_wordAt dX0_distance_78,
   px_Sp.of (ps_lload_n dX0_distance_81 rfl),
   px_Sp.of (ps_iload dX0_distance_82),
   px_Sp.of (ps_iconst dX0_distance_84 (by decide)),
   px_Sp.of (ps_isub dX0_distance_85),
   ps_callS (IH 34 (by decide)) (fc_34 _ _) wm_RX0_72 ws_yX7_wordAt dX0_distance_86,
   px_Sp.of (ps_icmp_ne dX0_distance_89 (by decide)),
   px_Sp.of (ps_iconst dX0_distance_92 (by decide)),
   px_Sp.of (ps_goto dX0_distance_93 (by decide)),
   px_Sp.of (ps_iconst dX0_distance_96 (by decide)),
   px_Sp.of (ps_istore dX0_distance_97 (by decide)),
   px_Sp.of (ps_iload dX0_distance_99),
   px_Sp.of (ps_if_eq dX0_distance_101 (by decide)),
   px_Sp.of (ps_iload dX0_distance_104),
   px_Sp.of (ps_goto dX0_distance_106 (by decide)),
   px_Sp.of (ps_iload dX0_distance_109),
   px_Sp.of (ps_iconst dX0_distance_111 (by decide)),
   px_Sp.of (ps_iadd dX0_distance_112),
   px_Sp.of (ps_istore dX0_distance_113 (by decide)),
   px_Sp.of (ps_aload_n dX0_distance_115 rfl),
   px_Sp.of (ps_get kc_X0 (by decide) wf_RX0_18 dX0_distance_116),
   px_Sp.of (ps_iload dX0_distance_119),
   px_Sp.of (ps_iald dX0_distance_121),
   px_Sp.of (ps_istore dX0_distance_122 (by decide)),
   px_Sp.of (ps_aload_n dX0_distance_124 rfl),
   px_Sp.of (ps_get kc_X0 (by decide) wf_RX0_18 dX0_distance_125),
   px_Sp.of (ps_iload dX0_distance_128),
   px_Sp.of (ps_iload dX0_distance_130),
   px_Sp.of (ps_iconst dX0_distance_132 (by decide)),
   px_Sp.of (ps_iload dX0_distance_133),
   px_Sp.of (ps_aload_n dX0_distance_135 rfl),
   px_Sp.of (ps_get kc_X0 (by decide) wf_RX0_18 dX0_distance_136),
   px_Sp.of (ps_iload dX0_distance_139),
   px_Sp.of (ps_iconst dX0_distance_141 (by decide)),
   px_Sp.of (ps_isub dX0_distance_142),
   px_Sp.of (ps_iald dX0_distance_143),
   px_Sp.of (ps_min wm_RX0_76 ws_min wn_RJ9 wc_min dX0_distance_144),
   px_Sp.of (ps_iadd dX0_distance_147),
   px_Sp.of (ps_min wm_RX0_76 ws_min wn_RJ9 wc_min dX0_distance_148),
   px_Sp.ofm (ps_iast dX0_distance_151),
   px_Sp.of (ps_iinc dX0_distance_152 (by decide) (by decide)),
   px_Sp.of (ps_goto dX0_distance_155 (by decide)),
   px_Sp.of (ps_iinc dX0_distance_158 (by decide) (by decide)),
   px_Sp.of (ps_goto dX0_distance_161 (by decide)),
   px_Sp.of (ps_aload_n dX0_distance_164 rfl),
   px_Sp.of (ps_get kc_X0 (by decide) wf_RX0_18 dX0_distance_165),
   px_Sp.of (ps_iload dX0_distance_168),
   px_Sp.of (ps_iald dX0_distance_170),
   ps_iret dX0_distance_171, trivial⟩
theorem mt_32 {l : Launch} {d : Nat} (IH : ∀ μ, μ < 196 → px_Met l px_P d μ) : px_Met l px_P (d + 1) 32 := px_met (own := RX0) rfl (by decide +kernel) (ok_32 IH)
theorem dX7_wordsIn_0 : decode cX7_wordsIn 0 = .ok (.bipush 8, 2) := by decide +kernel
theorem dX7_wordsIn_2 : decode cX7_wordsIn 2 = .ok (.istore_n 2, 1) := by decide +kernel
theorem dX7_wordsIn_3 : decode cX7_wordsIn 3 = .ok (.lload_n 0, 1) := by decide +kernel
theorem dX7_wordsIn_4 : decode cX7_wordsIn 4 = .ok (.lstore_n 3, 1) := by decide +kernel
theorem dX7_wordsIn_5 : decode cX7_wordsIn 5 = .ok (.iload_n 2, 1) := by decide +kernel
theorem dX7_wordsIn_6 : decode cX7_wordsIn 6 = .ok (.ifCond .le 24, 3) := by decide +kernel
theorem dX7_wordsIn_9 : decode cX7_wordsIn 9 = .ok (.lload_n 3, 1) := by decide +kernel
theorem dX7_wordsIn_10 : decode cX7_wordsIn 10 = .ok (.ldc2_w 11, 3) := by decide +kernel
theorem dX7_wordsIn_13 : decode cX7_wordsIn 13 = .ok (.land, 1) := by decide +kernel
theorem dX7_wordsIn_14 : decode cX7_wordsIn 14 = .ok (.lconst 0, 1) := by decide +kernel
theorem dX7_wordsIn_15 : decode cX7_wordsIn 15 = .ok (.lcmp, 1) := by decide +kernel
theorem dX7_wordsIn_16 : decode cX7_wordsIn 16 = .ok (.ifCond .ne 14, 3) := by decide +kernel
theorem dX7_wordsIn_19 : decode cX7_wordsIn 19 = .ok (.lload_n 3, 1) := by decide +kernel
theorem dX7_wordsIn_20 : decode cX7_wordsIn 20 = .ok (.bipush 6, 2) := by decide +kernel
theorem dX7_wordsIn_22 : decode cX7_wordsIn 22 = .ok (.lushr, 1) := by decide +kernel
theorem dX7_wordsIn_23 : decode cX7_wordsIn 23 = .ok (.lstore_n 3, 1) := by decide +kernel
theorem dX7_wordsIn_24 : decode cX7_wordsIn 24 = .ok (.iinc 2 (-1), 3) := by decide +kernel
theorem dX7_wordsIn_27 : decode cX7_wordsIn 27 = .ok (.goto (-22), 3) := by decide +kernel
theorem dX7_wordsIn_30 : decode cX7_wordsIn 30 = .ok (.iload_n 2, 1) := by decide +kernel
theorem dX7_wordsIn_31 : decode cX7_wordsIn 31 = .ok (.ireturn, 1) := by decide +kernel
set_option maxRecDepth 20000 in
theorem ok_33 {l : Launch} {d : Nat} (IH : ∀ μ, μ < 196 → px_Met l px_P d μ) : px_ok l px_P d RX7 cX7_wordsIn 5 (some .int) tb_33 :=
  ⟨px_Sp.of (ps_bipush dX7_wordsIn_0 (by decide)),
   px_Sp.of (ps_istore_n dX7_wordsIn_2 rfl (by decide)),
   px_Sp.of (ps_lload_n dX7_wordsIn_3 rfl),
   px_Sp.of (ps_lstore_n dX7_wordsIn_4 rfl (by decide)),
   px_Sp.of (ps_iload_n dX7_wordsIn_5 rfl),
   px_Sp.of (ps_if_le dX7_wordsIn_6 (by decide)),
   px_Sp.of (ps_lload_n dX7_wordsIn_9 rfl),
   px_Sp.of (ps_ldc2 dX7_wordsIn_10 wk_RX7_11),
   px_Sp.of (ps_land dX7_wordsIn_13),
   px_Sp.of (ps_lconst dX7_wordsIn_14 (by decide)),
   px_Sp.of (ps_lcmp dX7_wordsIn_15),
   px_Sp.of (ps_if_ne dX7_wordsIn_16 (by decide)),
   px_Sp.of (ps_lload_n dX7_wordsIn_19 rfl),
   px_Sp.of (ps_bipush dX7_wordsIn_20 (by decide)),
   px_Sp.of (ps_lushr dX7_wordsIn_22),
   px_Sp.of (ps_lstore_n dX7_wordsIn_23 rfl (by decide)),
   px_Sp.of (ps_iinc dX7_wordsIn_24 (by decide) (by decide)),
   px_Sp.of (ps_goto dX7_wordsIn_27 (by decide)),
   px_Sp.of (ps_iload_n dX7_wordsIn_30 rfl),
   ps_iret dX7_wordsIn_31, trivial⟩
theorem mt_33 {l : Launch} {d : Nat} (IH : ∀ μ, μ < 196 → px_Met l px_P d μ) : px_Met l px_P (d + 1) 33 := px_met (own := RX7) rfl (by decide +kernel) (ok_33 IH)
theorem dX7_wordAt_0 : decode cX7_wordAt 0 = .ok (.lload_n 0, 1) := by decide +kernel
theorem dX7_wordAt_1 : decode cX7_wordAt 1 = .ok (.bipush 6, 2) := by decide +kernel
theorem dX7_wordAt_3 : decode cX7_wordAt 3 = .ok (.bipush 7, 2) := by decide +kernel
theorem dX7_wordAt_5 : decode cX7_wordAt 5 = .ok (.iload_n 2, 1) := by decide +kernel
theorem dX7_wordAt_6 : decode cX7_wordAt 6 = .ok (.isub, 1) := by decide +kernel
theorem dX7_wordAt_7 : decode cX7_wordAt 7 = .ok (.imul, 1) := by decide +kernel
theorem dX7_wordAt_8 : decode cX7_wordAt 8 = .ok (.lushr, 1) := by decide +kernel
theorem dX7_wordAt_9 : decode cX7_wordAt 9 = .ok (.l2i, 1) := by decide +kernel
theorem dX7_wordAt_10 : decode cX7_wordAt 10 = .ok (.bipush 63, 2) := by decide +kernel
theorem dX7_wordAt_12 : decode cX7_wordAt 12 = .ok (.iand, 1) := by decide +kernel
theorem dX7_wordAt_13 : decode cX7_wordAt 13 = .ok (.ireturn, 1) := by decide +kernel
set_option maxRecDepth 20000 in
theorem ok_34 {l : Launch} {d : Nat} (IH : ∀ μ, μ < 196 → px_Met l px_P d μ) : px_ok l px_P d RX7 cX7_wordAt 3 (some .int) tb_34 :=
  ⟨px_Sp.of (ps_lload_n dX7_wordAt_0 rfl),
   px_Sp.of (ps_bipush dX7_wordAt_1 (by decide)),
   px_Sp.of (ps_bipush dX7_wordAt_3 (by decide)),
   px_Sp.of (ps_iload_n dX7_wordAt_5 rfl),
   px_Sp.of (ps_isub dX7_wordAt_6),
   px_Sp.of (ps_imul dX7_wordAt_7),
   px_Sp.of (ps_lushr dX7_wordAt_8),
   px_Sp.of (ps_l2i dX7_wordAt_9),
   px_Sp.of (ps_bipush dX7_wordAt_10 (by decide)),
   px_Sp.of (ps_iand dX7_wordAt_12),
   ps_iret dX7_wordAt_13, trivial⟩
theorem mt_34 {l : Launch} {d : Nat} (IH : ∀ μ, μ < 196 → px_Met l px_P d μ) : px_Met l px_P (d + 1) 34 := px_met (own := RX7) rfl (by decide +kernel) (ok_34 IH)
theorem dX2_holdLines_0 : decode cX2_holdLines 0 = .ok (.iconst 0, 1) := by decide +kernel
theorem dX2_holdLines_1 : decode cX2_holdLines 1 = .ok (.istore_n 2, 1) := by decide +kernel
theorem dX2_holdLines_2 : decode cX2_holdLines 2 = .ok (.iload_n 2, 1) := by decide +kernel
theorem dX2_holdLines_3 : decode cX2_holdLines 3 = .ok (.aload_n 0, 1) := by decide +kernel
theorem dX2_holdLines_4 : decode cX2_holdLines 4 = .ok (.getfield 22, 3) := by decide +kernel
theorem dX2_holdLines_7 : decode cX2_holdLines 7 = .ok (.getfield 89, 3) := by decide +kernel
theorem dX2_holdLines_10 : decode cX2_holdLines 10 = .ok (.iload_n 1, 1) := by decide +kernel
theorem dX2_holdLines_11 : decode cX2_holdLines 11 = .ok (.iaload, 1) := by decide +kernel
theorem dX2_holdLines_12 : decode cX2_holdLines 12 = .ok (.if_icmp .ge 58, 3) := by decide +kernel
theorem dX2_holdLines_15 : decode cX2_holdLines 15 = .ok (.iload_n 1, 1) := by decide +kernel
theorem dX2_holdLines_16 : decode cX2_holdLines 16 = .ok (.iload_n 2, 1) := by decide +kernel
theorem dX2_holdLines_17 : decode cX2_holdLines 17 = .ok (.invokestatic 92, 3) := by decide +kernel
theorem dX2_holdLines_20 : decode cX2_holdLines 20 = .ok (.istore_n 3, 1) := by decide +kernel
theorem dX2_holdLines_21 : decode cX2_holdLines 21 = .ok (.aload_n 0, 1) := by decide +kernel
theorem dX2_holdLines_22 : decode cX2_holdLines 22 = .ok (.getfield 15, 3) := by decide +kernel
theorem dX2_holdLines_25 : decode cX2_holdLines 25 = .ok (.iload_n 3, 1) := by decide +kernel
theorem dX2_holdLines_26 : decode cX2_holdLines 26 = .ok (.aload_n 0, 1) := by decide +kernel
theorem dX2_holdLines_27 : decode cX2_holdLines 27 = .ok (.getfield 9, 3) := by decide +kernel
theorem dX2_holdLines_30 : decode cX2_holdLines 30 = .ok (.iload_n 1, 1) := by decide +kernel
theorem dX2_holdLines_31 : decode cX2_holdLines 31 = .ok (.iaload, 1) := by decide +kernel
theorem dX2_holdLines_32 : decode cX2_holdLines 32 = .ok (.iconst (-1), 1) := by decide +kernel
theorem dX2_holdLines_33 : decode cX2_holdLines 33 = .ok (.if_icmp .eq 15, 3) := by decide +kernel
theorem dX2_holdLines_36 : decode cX2_holdLines 36 = .ok (.aload_n 0, 1) := by decide +kernel
theorem dX2_holdLines_37 : decode cX2_holdLines 37 = .ok (.getfield 22, 3) := by decide +kernel
theorem dX2_holdLines_40 : decode cX2_holdLines 40 = .ok (.getfield 95, 3) := by decide +kernel
theorem dX2_holdLines_43 : decode cX2_holdLines 43 = .ok (.iload_n 3, 1) := by decide +kernel
theorem dX2_holdLines_44 : decode cX2_holdLines 44 = .ok (.iaload, 1) := by decide +kernel
theorem dX2_holdLines_45 : decode cX2_holdLines 45 = .ok (.ifCond .ne 7, 3) := by decide +kernel
theorem dX2_holdLines_48 : decode cX2_holdLines 48 = .ok (.iconst (-1), 1) := by decide +kernel
theorem dX2_holdLines_49 : decode cX2_holdLines 49 = .ok (.goto 14, 3) := by decide +kernel
theorem dX2_holdLines_52 : decode cX2_holdLines 52 = .ok (.aload_n 0, 1) := by decide +kernel
theorem dX2_holdLines_53 : decode cX2_holdLines 53 = .ok (.iload_n 3, 1) := by decide +kernel
theorem dX2_holdLines_54 : decode cX2_holdLines 54 = .ok (.aload_n 0, 1) := by decide +kernel
theorem dX2_holdLines_55 : decode cX2_holdLines 55 = .ok (.getfield 9, 3) := by decide +kernel
theorem dX2_holdLines_58 : decode cX2_holdLines 58 = .ok (.iload_n 1, 1) := by decide +kernel
theorem dX2_holdLines_59 : decode cX2_holdLines 59 = .ok (.iaload, 1) := by decide +kernel
theorem dX2_holdLines_60 : decode cX2_holdLines 60 = .ok (.invokevirtual 98, 3) := by decide +kernel
theorem dX2_holdLines_63 : decode cX2_holdLines 63 = .ok (.iastore, 1) := by decide +kernel
theorem dX2_holdLines_64 : decode cX2_holdLines 64 = .ok (.iinc 2 1, 3) := by decide +kernel
theorem dX2_holdLines_67 : decode cX2_holdLines 67 = .ok (.goto (-65), 3) := by decide +kernel
theorem dX2_holdLines_70 : decode cX2_holdLines 70 = .ok (.return_, 1) := by decide +kernel
set_option maxRecDepth 20000 in
theorem ok_35 {l : Launch} {d : Nat} (IH : ∀ μ, μ < 196 → px_Met l px_P d μ) : px_ok l px_P d RX2 cX2_holdLines 4 (none) tb_35 :=
  ⟨px_Sp.of (ps_iconst dX2_holdLines_0 (by decide)),
   px_Sp.of (ps_istore_n dX2_holdLines_1 rfl (by decide)),
   px_Sp.of (ps_iload_n dX2_holdLines_2 rfl),
   px_Sp.of (ps_aload_n dX2_holdLines_3 rfl),
   px_Sp.of (ps_get kc_X2 (by decide) wf_RX2_22 dX2_holdLines_4),
   px_Sp.of (ps_get kc_X1 (by decide) wf_RX2_89 dX2_holdLines_7),
   px_Sp.of (ps_iload_n dX2_holdLines_10 rfl),
   px_Sp.of (ps_iald dX2_holdLines_11),
   px_Sp.of (ps_icmp_ge dX2_holdLines_12 (by decide)),
   px_Sp.of (ps_iload_n dX2_holdLines_15 rfl),
   px_Sp.of (ps_iload_n dX2_holdLines_16 rfl),
   ps_callSN (IH 11 (by decide)) (fc_11 _ _) (fun _ _ _ _ h => h.1.2.2.1) ws_yX8_spotOf dX2_holdLines_17,
   px_Sp.of (ps_istore_n dX2_holdLines_20 rfl (by decide)),
   px_Sp.of (ps_aload_n dX2_holdLines_21 rfl),
   px_Sp.of (ps_get kc_X2 (by decide) wf_RX2_15 dX2_holdLines_22),
   px_Sp.of (ps_iload_n dX2_holdLines_25 rfl),
   px_Sp.of (ps_aload_n dX2_holdLines_26 rfl),
   px_Sp.of (ps_get kc_X2 (by decide) wf_RX2_9 dX2_holdLines_27),
   px_Sp.of (ps_iload_n dX2_holdLines_30 rfl),
   px_Sp.of (ps_iald dX2_holdLines_31),
   px_Sp.of (ps_iconst dX2_holdLines_32 (by decide)),
   px_Sp.of (ps_icmp_eq dX2_holdLines_33 (by decide)),
   px_Sp.of (ps_aload_n dX2_holdLines_36 rfl),
   px_Sp.of (ps_get kc_X2 (by decide) wf_RX2_22 dX2_holdLines_37),
   px_Sp.of (ps_get kc_X1 (by decide) wf_RX2_95 dX2_holdLines_40),
   px_Sp.of (ps_iload_n dX2_holdLines_43 rfl),
   px_Sp.of (ps_iald dX2_holdLines_44),
   px_Sp.of (ps_if_ne dX2_holdLines_45 (by decide)),
   px_Sp.of (ps_iconst dX2_holdLines_48 (by decide)),
   px_Sp.of (ps_goto dX2_holdLines_49 (by decide)),
   px_Sp.of (ps_aload_n dX2_holdLines_52 rfl),
   px_Sp.of (ps_iload_n dX2_holdLines_53 rfl),
   px_Sp.of (ps_aload_n dX2_holdLines_54 rfl),
   px_Sp.of (ps_get kc_X2 (by decide) wf_RX2_9 dX2_holdLines_55),
   px_Sp.of (ps_iload_n dX2_holdLines_58 rfl),
   px_Sp.of (ps_iald dX2_holdLines_59),
   ps_callV (IH 36 (by decide)) (C := RX2) (T := TX2) (N := 8) (ci := 2) rfl rfl (fc_36 _ _) wm_RX2_98 wi_yX2_findHeld wl_yX2_findHeld dX2_holdLines_60,
   px_Sp.ofm (ps_iast dX2_holdLines_63),
   px_Sp.of (ps_iinc dX2_holdLines_64 (by decide) (by decide)),
   px_Sp.of (ps_goto dX2_holdLines_67 (by decide)),
   ps_vret dX2_holdLines_70, trivial⟩
theorem mt_35 {l : Launch} {d : Nat} (IH : ∀ μ, μ < 196 → px_Met l px_P d μ) : px_Met l px_P (d + 1) 35 := px_met (own := RX2) rfl (by decide +kernel) (ok_35 IH)
theorem dX2_findHeld_0 : decode cX2_findHeld 0 = .ok (.iconst 0, 1) := by decide +kernel
theorem dX2_findHeld_1 : decode cX2_findHeld 1 = .ok (.istore_n 3, 1) := by decide +kernel
theorem dX2_findHeld_2 : decode cX2_findHeld 2 = .ok (.iload_n 3, 1) := by decide +kernel
theorem dX2_findHeld_3 : decode cX2_findHeld 3 = .ok (.aload_n 0, 1) := by decide +kernel
theorem dX2_findHeld_4 : decode cX2_findHeld 4 = .ok (.getfield 22, 3) := by decide +kernel
theorem dX2_findHeld_7 : decode cX2_findHeld 7 = .ok (.getfield 89, 3) := by decide +kernel
theorem dX2_findHeld_10 : decode cX2_findHeld 10 = .ok (.iload_n 2, 1) := by decide +kernel
theorem dX2_findHeld_11 : decode cX2_findHeld 11 = .ok (.iaload, 1) := by decide +kernel
theorem dX2_findHeld_12 : decode cX2_findHeld 12 = .ok (.if_icmp .ge 66, 3) := by decide +kernel
theorem dX2_findHeld_15 : decode cX2_findHeld 15 = .ok (.iload_n 2, 1) := by decide +kernel
theorem dX2_findHeld_16 : decode cX2_findHeld 16 = .ok (.iload_n 3, 1) := by decide +kernel
theorem dX2_findHeld_17 : decode cX2_findHeld 17 = .ok (.invokestatic 92, 3) := by decide +kernel
theorem dX2_findHeld_20 : decode cX2_findHeld 20 = .ok (.istore 4, 2) := by decide +kernel
theorem dX2_findHeld_22 : decode cX2_findHeld 22 = .ok (.aload_n 0, 1) := by decide +kernel
theorem dX2_findHeld_23 : decode cX2_findHeld 23 = .ok (.getfield 22, 3) := by decide +kernel
theorem dX2_findHeld_26 : decode cX2_findHeld 26 = .ok (.getfield 101, 3) := by decide +kernel
theorem dX2_findHeld_29 : decode cX2_findHeld 29 = .ok (.iload 4, 2) := by decide +kernel
theorem dX2_findHeld_31 : decode cX2_findHeld 31 = .ok (.laload, 1) := by decide +kernel
theorem dX2_findHeld_32 : decode cX2_findHeld 32 = .ok (.aload_n 0, 1) := by decide +kernel
theorem dX2_findHeld_33 : decode cX2_findHeld 33 = .ok (.getfield 22, 3) := by decide +kernel
theorem dX2_findHeld_36 : decode cX2_findHeld 36 = .ok (.getfield 101, 3) := by decide +kernel
theorem dX2_findHeld_39 : decode cX2_findHeld 39 = .ok (.iload_n 1, 1) := by decide +kernel
theorem dX2_findHeld_40 : decode cX2_findHeld 40 = .ok (.laload, 1) := by decide +kernel
theorem dX2_findHeld_41 : decode cX2_findHeld 41 = .ok (.lcmp, 1) := by decide +kernel
theorem dX2_findHeld_42 : decode cX2_findHeld 42 = .ok (.ifCond .ne 30, 3) := by decide +kernel
theorem dX2_findHeld_45 : decode cX2_findHeld 45 = .ok (.aload_n 0, 1) := by decide +kernel
theorem dX2_findHeld_46 : decode cX2_findHeld 46 = .ok (.getfield 22, 3) := by decide +kernel
theorem dX2_findHeld_49 : decode cX2_findHeld 49 = .ok (.getfield 95, 3) := by decide +kernel
theorem dX2_findHeld_52 : decode cX2_findHeld 52 = .ok (.iload 4, 2) := by decide +kernel
theorem dX2_findHeld_54 : decode cX2_findHeld 54 = .ok (.iaload, 1) := by decide +kernel
theorem dX2_findHeld_55 : decode cX2_findHeld 55 = .ok (.aload_n 0, 1) := by decide +kernel
theorem dX2_findHeld_56 : decode cX2_findHeld 56 = .ok (.getfield 22, 3) := by decide +kernel
theorem dX2_findHeld_59 : decode cX2_findHeld 59 = .ok (.getfield 95, 3) := by decide +kernel
theorem dX2_findHeld_62 : decode cX2_findHeld 62 = .ok (.iload_n 1, 1) := by decide +kernel
theorem dX2_findHeld_63 : decode cX2_findHeld 63 = .ok (.iaload, 1) := by decide +kernel
theorem dX2_findHeld_64 : decode cX2_findHeld 64 = .ok (.iconst 1, 1) := by decide +kernel
theorem dX2_findHeld_65 : decode cX2_findHeld 65 = .ok (.isub, 1) := by decide +kernel
theorem dX2_findHeld_66 : decode cX2_findHeld 66 = .ok (.if_icmp .ne 6, 3) := by decide +kernel
theorem dX2_findHeld_69 : decode cX2_findHeld 69 = .ok (.iload 4, 2) := by decide +kernel
theorem dX2_findHeld_71 : decode cX2_findHeld 71 = .ok (.ireturn, 1) := by decide +kernel
theorem dX2_findHeld_72 : decode cX2_findHeld 72 = .ok (.iinc 3 1, 3) := by decide +kernel
theorem dX2_findHeld_75 : decode cX2_findHeld 75 = .ok (.goto (-73), 3) := by decide +kernel
theorem dX2_findHeld_78 : decode cX2_findHeld 78 = .ok (.iconst 0, 1) := by decide +kernel
theorem dX2_findHeld_79 : decode cX2_findHeld 79 = .ok (.istore_n 3, 1) := by decide +kernel
theorem dX2_findHeld_80 : decode cX2_findHeld 80 = .ok (.iload_n 3, 1) := by decide +kernel
theorem dX2_findHeld_81 : decode cX2_findHeld 81 = .ok (.aload_n 0, 1) := by decide +kernel
theorem dX2_findHeld_82 : decode cX2_findHeld 82 = .ok (.getfield 22, 3) := by decide +kernel
theorem dX2_findHeld_85 : decode cX2_findHeld 85 = .ok (.getfield 89, 3) := by decide +kernel
theorem dX2_findHeld_88 : decode cX2_findHeld 88 = .ok (.iload_n 2, 1) := by decide +kernel
theorem dX2_findHeld_89 : decode cX2_findHeld 89 = .ok (.iaload, 1) := by decide +kernel
theorem dX2_findHeld_90 : decode cX2_findHeld 90 = .ok (.if_icmp .ge 31, 3) := by decide +kernel
theorem dX2_findHeld_93 : decode cX2_findHeld 93 = .ok (.aload_n 0, 1) := by decide +kernel
theorem dX2_findHeld_94 : decode cX2_findHeld 94 = .ok (.getfield 26, 3) := by decide +kernel
theorem dX2_findHeld_97 : decode cX2_findHeld 97 = .ok (.iload_n 1, 1) := by decide +kernel
theorem dX2_findHeld_98 : decode cX2_findHeld 98 = .ok (.iload_n 2, 1) := by decide +kernel
theorem dX2_findHeld_99 : decode cX2_findHeld 99 = .ok (.iload_n 3, 1) := by decide +kernel
theorem dX2_findHeld_100 : decode cX2_findHeld 100 = .ok (.invokestatic 92, 3) := by decide +kernel
theorem dX2_findHeld_103 : decode cX2_findHeld 103 = .ok (.invokevirtual 105, 3) := by decide +kernel
theorem dX2_findHeld_106 : decode cX2_findHeld 106 = .ok (.ifCond .eq 9, 3) := by decide +kernel
theorem dX2_findHeld_109 : decode cX2_findHeld 109 = .ok (.iload_n 2, 1) := by decide +kernel
theorem dX2_findHeld_110 : decode cX2_findHeld 110 = .ok (.iload_n 3, 1) := by decide +kernel
theorem dX2_findHeld_111 : decode cX2_findHeld 111 = .ok (.invokestatic 92, 3) := by decide +kernel
theorem dX2_findHeld_114 : decode cX2_findHeld 114 = .ok (.ireturn, 1) := by decide +kernel
theorem dX2_findHeld_115 : decode cX2_findHeld 115 = .ok (.iinc 3 1, 3) := by decide +kernel
theorem dX2_findHeld_118 : decode cX2_findHeld 118 = .ok (.goto (-38), 3) := by decide +kernel
theorem dX2_findHeld_121 : decode cX2_findHeld 121 = .ok (.iconst (-1), 1) := by decide +kernel
theorem dX2_findHeld_122 : decode cX2_findHeld 122 = .ok (.ireturn, 1) := by decide +kernel
set_option maxRecDepth 20000 in
theorem ok_36 {l : Launch} {d : Nat} (IH : ∀ μ, μ < 196 → px_Met l px_P d μ) : px_ok l px_P d RX2 cX2_findHeld 5 (some .int) tb_36 :=
  ⟨px_Sp.of (ps_iconst dX2_findHeld_0 (by decide)),
   px_Sp.of (ps_istore_n dX2_findHeld_1 rfl (by decide)),
   px_Sp.of (ps_iload_n dX2_findHeld_2 rfl),
   px_Sp.of (ps_aload_n dX2_findHeld_3 rfl),
   px_Sp.of (ps_get kc_X2 (by decide) wf_RX2_22 dX2_findHeld_4),
   px_Sp.of (ps_get kc_X1 (by decide) wf_RX2_89 dX2_findHeld_7),
   px_Sp.of (ps_iload_n dX2_findHeld_10 rfl),
   px_Sp.of (ps_iald dX2_findHeld_11),
   px_Sp.of (ps_icmp_ge dX2_findHeld_12 (by decide)),
   px_Sp.of (ps_iload_n dX2_findHeld_15 rfl),
   px_Sp.of (ps_iload_n dX2_findHeld_16 rfl),
   ps_callSN (IH 11 (by decide)) (fc_11 _ _) (fun _ _ _ _ h => h.1.2.2.1) ws_yX8_spotOf dX2_findHeld_17,
   px_Sp.of (ps_istore dX2_findHeld_20 (by decide)),
   px_Sp.of (ps_aload_n dX2_findHeld_22 rfl),
   px_Sp.of (ps_get kc_X2 (by decide) wf_RX2_22 dX2_findHeld_23),
   px_Sp.of (ps_get kc_X1 (by decide) wf_RX2_101 dX2_findHeld_26),
   px_Sp.of (ps_iload dX2_findHeld_29),
   px_Sp.of (ps_lald dX2_findHeld_31),
   px_Sp.of (ps_aload_n dX2_findHeld_32 rfl),
   px_Sp.of (ps_get kc_X2 (by decide) wf_RX2_22 dX2_findHeld_33),
   px_Sp.of (ps_get kc_X1 (by decide) wf_RX2_101 dX2_findHeld_36),
   px_Sp.of (ps_iload_n dX2_findHeld_39 rfl),
   px_Sp.of (ps_lald dX2_findHeld_40),
   px_Sp.of (ps_lcmp dX2_findHeld_41),
   px_Sp.of (ps_if_ne dX2_findHeld_42 (by decide)),
   px_Sp.of (ps_aload_n dX2_findHeld_45 rfl),
   px_Sp.of (ps_get kc_X2 (by decide) wf_RX2_22 dX2_findHeld_46),
   px_Sp.of (ps_get kc_X1 (by decide) wf_RX2_95 dX2_findHeld_49),
   px_Sp.of (ps_iload dX2_findHeld_52),
   px_Sp.of (ps_iald dX2_findHeld_54),
   px_Sp.of (ps_aload_n dX2_findHeld_55 rfl),
   px_Sp.of (ps_get kc_X2 (by decide) wf_RX2_22 dX2_findHeld_56),
   px_Sp.of (ps_get kc_X1 (by decide) wf_RX2_95 dX2_findHeld_59),
   px_Sp.of (ps_iload_n dX2_findHeld_62 rfl),
   px_Sp.of (ps_iald dX2_findHeld_63),
   px_Sp.of (ps_iconst dX2_findHeld_64 (by decide)),
   px_Sp.of (ps_isub dX2_findHeld_65),
   px_Sp.of (ps_icmp_ne dX2_findHeld_66 (by decide)),
   px_Sp.of (ps_iload dX2_findHeld_69),
   ps_iret dX2_findHeld_71,
   px_Sp.of (ps_iinc dX2_findHeld_72 (by decide) (by decide)),
   px_Sp.of (ps_goto dX2_findHeld_75 (by decide)),
   px_Sp.of (ps_iconst dX2_findHeld_78 (by decide)),
   px_Sp.of (ps_istore_n dX2_findHeld_79 rfl (by decide)),
   px_Sp.of (ps_iload_n dX2_findHeld_80 rfl),
   px_Sp.of (ps_aload_n dX2_findHeld_81 rfl),
   px_Sp.of (ps_get kc_X2 (by decide) wf_RX2_22 dX2_findHeld_82),
   px_Sp.of (ps_get kc_X1 (by decide) wf_RX2_89 dX2_findHeld_85),
   px_Sp.of (ps_iload_n dX2_findHeld_88 rfl),
   px_Sp.of (ps_iald dX2_findHeld_89),
   px_Sp.of (ps_icmp_ge dX2_findHeld_90 (by decide)),
   px_Sp.of (ps_aload_n dX2_findHeld_93 rfl),
   px_Sp.of (ps_get kc_X2 (by decide) wf_RX2_26 dX2_findHeld_94),
   px_Sp.of (ps_iload_n dX2_findHeld_97 rfl),
   px_Sp.of (ps_iload_n dX2_findHeld_98 rfl),
   px_Sp.of (ps_iload_n dX2_findHeld_99 rfl),
   ps_callSN (IH 11 (by decide)) (fc_11 _ _) (fun _ _ _ _ h => h.1.2.2.1) ws_yX8_spotOf dX2_findHeld_100,
   ps_callV (IH 31 (by decide)) (C := RX0) (T := TX0) (N := 5) (ci := 0) rfl rfl (fc_31 _ _) wm_RX2_105 wi_yX0_isLike wl_yX0_isLike dX2_findHeld_103,
   px_Sp.of (ps_if_eq dX2_findHeld_106 (by decide)),
   px_Sp.of (ps_iload_n dX2_findHeld_109 rfl),
   px_Sp.of (ps_iload_n dX2_findHeld_110 rfl),
   ps_callSN (IH 11 (by decide)) (fc_11 _ _) (fun _ _ _ _ h => h.1.2.2.1) ws_yX8_spotOf dX2_findHeld_111,
   ps_iret dX2_findHeld_114,
   px_Sp.of (ps_iinc dX2_findHeld_115 (by decide) (by decide)),
   px_Sp.of (ps_goto dX2_findHeld_118 (by decide)),
   px_Sp.of (ps_iconst dX2_findHeld_121 (by decide)),
   ps_iret dX2_findHeld_122, trivial⟩
theorem mt_36 {l : Launch} {d : Nat} (IH : ∀ μ, μ < 196 → px_Met l px_P d μ) : px_Met l px_P (d + 1) 36 := px_met (own := RX2) rfl (by decide +kernel) (ok_36 IH)
theorem dX8_aboutKin_0 : decode cX8_aboutKin 0 = .ok (.iload_n 2, 1) := by decide +kernel
theorem dX8_aboutKin_1 : decode cX8_aboutKin 1 = .ok (.tableswitch 81 6 10 #[35, 45, 54, 63, 72], 35) := by decide +kernel
theorem dX8_aboutKin_36 : decode cX8_aboutKin 36 = .ok (.aload_n 0, 1) := by decide +kernel
theorem dX8_aboutKin_37 : decode cX8_aboutKin 37 = .ok (.getfield 43, 3) := by decide +kernel
theorem dX8_aboutKin_40 : decode cX8_aboutKin 40 = .ok (.getfield 274, 3) := by decide +kernel
theorem dX8_aboutKin_43 : decode cX8_aboutKin 43 = .ok (.iload_n 1, 1) := by decide +kernel
theorem dX8_aboutKin_44 : decode cX8_aboutKin 44 = .ok (.iaload, 1) := by decide +kernel
theorem dX8_aboutKin_45 : decode cX8_aboutKin 45 = .ok (.ireturn, 1) := by decide +kernel
theorem dX8_aboutKin_46 : decode cX8_aboutKin 46 = .ok (.aload_n 0, 1) := by decide +kernel
theorem dX8_aboutKin_47 : decode cX8_aboutKin 47 = .ok (.getfield 43, 3) := by decide +kernel
theorem dX8_aboutKin_50 : decode cX8_aboutKin 50 = .ok (.iload_n 1, 1) := by decide +kernel
theorem dX8_aboutKin_51 : decode cX8_aboutKin 51 = .ok (.invokevirtual 277, 3) := by decide +kernel
theorem dX8_aboutKin_54 : decode cX8_aboutKin 54 = .ok (.ireturn, 1) := by decide +kernel
theorem dX8_aboutKin_55 : decode cX8_aboutKin 55 = .ok (.aload_n 0, 1) := by decide +kernel
theorem dX8_aboutKin_56 : decode cX8_aboutKin 56 = .ok (.getfield 43, 3) := by decide +kernel
theorem dX8_aboutKin_59 : decode cX8_aboutKin 59 = .ok (.iload_n 1, 1) := by decide +kernel
theorem dX8_aboutKin_60 : decode cX8_aboutKin 60 = .ok (.invokevirtual 280, 3) := by decide +kernel
theorem dX8_aboutKin_63 : decode cX8_aboutKin 63 = .ok (.ireturn, 1) := by decide +kernel
theorem dX8_aboutKin_64 : decode cX8_aboutKin 64 = .ok (.aload_n 0, 1) := by decide +kernel
theorem dX8_aboutKin_65 : decode cX8_aboutKin 65 = .ok (.getfield 43, 3) := by decide +kernel
theorem dX8_aboutKin_68 : decode cX8_aboutKin 68 = .ok (.iload_n 1, 1) := by decide +kernel
theorem dX8_aboutKin_69 : decode cX8_aboutKin 69 = .ok (.invokevirtual 283, 3) := by decide +kernel
theorem dX8_aboutKin_72 : decode cX8_aboutKin 72 = .ok (.ireturn, 1) := by decide +kernel
theorem dX8_aboutKin_73 : decode cX8_aboutKin 73 = .ok (.aload_n 0, 1) := by decide +kernel
theorem dX8_aboutKin_74 : decode cX8_aboutKin 74 = .ok (.getfield 43, 3) := by decide +kernel
theorem dX8_aboutKin_77 : decode cX8_aboutKin 77 = .ok (.iload_n 1, 1) := by decide +kernel
theorem dX8_aboutKin_78 : decode cX8_aboutKin 78 = .ok (.invokevirtual 286, 3) := by decide +kernel
theorem dX8_aboutKin_81 : decode cX8_aboutKin 81 = .ok (.ireturn, 1) := by decide +kernel
theorem dX8_aboutKin_82 : decode cX8_aboutKin 82 = .ok (.aload_n 0, 1) := by decide +kernel
theorem dX8_aboutKin_83 : decode cX8_aboutKin 83 = .ok (.getfield 43, 3) := by decide +kernel
theorem dX8_aboutKin_86 : decode cX8_aboutKin 86 = .ok (.getfield 274, 3) := by decide +kernel
theorem dX8_aboutKin_89 : decode cX8_aboutKin 89 = .ok (.iload_n 1, 1) := by decide +kernel
theorem dX8_aboutKin_90 : decode cX8_aboutKin 90 = .ok (.iaload, 1) := by decide +kernel
theorem dX8_aboutKin_91 : decode cX8_aboutKin 91 = .ok (.iconst (-1), 1) := by decide +kernel
theorem dX8_aboutKin_92 : decode cX8_aboutKin 92 = .ok (.if_icmp .ne 7, 3) := by decide +kernel
theorem dX8_aboutKin_95 : decode cX8_aboutKin 95 = .ok (.iconst (-1), 1) := by decide +kernel
theorem dX8_aboutKin_96 : decode cX8_aboutKin 96 = .ok (.goto 20, 3) := by decide +kernel
theorem dX8_aboutKin_99 : decode cX8_aboutKin 99 = .ok (.aload_n 0, 1) := by decide +kernel
theorem dX8_aboutKin_100 : decode cX8_aboutKin 100 = .ok (.getfield 34, 3) := by decide +kernel
theorem dX8_aboutKin_103 : decode cX8_aboutKin 103 = .ok (.iload_n 1, 1) := by decide +kernel
theorem dX8_aboutKin_104 : decode cX8_aboutKin 104 = .ok (.aload_n 0, 1) := by decide +kernel
theorem dX8_aboutKin_105 : decode cX8_aboutKin 105 = .ok (.getfield 43, 3) := by decide +kernel
theorem dX8_aboutKin_108 : decode cX8_aboutKin 108 = .ok (.getfield 274, 3) := by decide +kernel
theorem dX8_aboutKin_111 : decode cX8_aboutKin 111 = .ok (.iload_n 1, 1) := by decide +kernel
theorem dX8_aboutKin_112 : decode cX8_aboutKin 112 = .ok (.iaload, 1) := by decide +kernel
theorem dX8_aboutKin_113 : decode cX8_aboutKin 113 = .ok (.invokevirtual 179, 3) := by decide +kernel
theorem dX8_aboutKin_116 : decode cX8_aboutKin 116 = .ok (.ireturn, 1) := by decide +kernel
set_option maxRecDepth 20000 in
theorem ok_37 {l : Launch} {d : Nat} (IH : ∀ μ, μ < 196 → px_Met l px_P d μ) : px_ok l px_P d RX8 cX8_aboutKin 3 (some .int) tb_37 :=
  ⟨px_Sp.of (ps_iload_n dX8_aboutKin_0 rfl),
   px_Sp.of (ps_tsw dX8_aboutKin_1 (by decide) (by decide)),
   px_Sp.of (ps_aload_n dX8_aboutKin_36 rfl),
   px_Sp.of (ps_get kc_X8 (by decide) wf_RX8_43 dX8_aboutKin_37),
   px_Sp.of (ps_get kc_X2 (by decide) wf_RX8_274 dX8_aboutKin_40),
   px_Sp.of (ps_iload_n dX8_aboutKin_43 rfl),
   px_Sp.of (ps_iald dX8_aboutKin_44),
   ps_iret dX8_aboutKin_45,
   px_Sp.of (ps_aload_n dX8_aboutKin_46 rfl),
   px_Sp.of (ps_get kc_X8 (by decide) wf_RX8_43 dX8_aboutKin_47),
   px_Sp.of (ps_iload_n dX8_aboutKin_50 rfl),
   ps_callV (IH 38 (by decide)) (C := RX2) (T := TX2) (N := 8) (ci := 2) rfl rfl (fc_38 _ _) wm_RX8_277 wi_yX2_rootOf wl_yX2_rootOf dX8_aboutKin_51,
   ps_iret dX8_aboutKin_54,
   px_Sp.of (ps_aload_n dX8_aboutKin_55 rfl),
   px_Sp.of (ps_get kc_X8 (by decide) wf_RX8_43 dX8_aboutKin_56),
   px_Sp.of (ps_iload_n dX8_aboutKin_59 rfl),
   ps_callV (IH 39 (by decide)) (C := RX2) (T := TX2) (N := 8) (ci := 2) rfl rfl (fc_39 _ _) wm_RX8_280 wi_yX2_stepsOf wl_yX2_stepsOf dX8_aboutKin_60,
   ps_iret dX8_aboutKin_63,
   px_Sp.of (ps_aload_n dX8_aboutKin_64 rfl),
   px_Sp.of (ps_get kc_X8 (by decide) wf_RX8_43 dX8_aboutKin_65),
   px_Sp.of (ps_iload_n dX8_aboutKin_68 rfl),
   ps_callV (IH 40 (by decide)) (C := RX2) (T := TX2) (N := 8) (ci := 2) rfl rfl (fc_40 _ _) wm_RX8_283 wi_yX2_childrenOf wl_yX2_childrenOf dX8_aboutKin_69,
   ps_iret dX8_aboutKin_72,
   px_Sp.of (ps_aload_n dX8_aboutKin_73 rfl),
   px_Sp.of (ps_get kc_X8 (by decide) wf_RX8_43 dX8_aboutKin_74),
   px_Sp.of (ps_iload_n dX8_aboutKin_77 rfl),
   ps_callV (IH 41 (by decide)) (C := RX2) (T := TX2) (N := 8) (ci := 2) rfl rfl (fc_41 _ _) wm_RX8_286 wi_yX2_lettersOfThread wl_yX2_lettersOfThread dX8_aboutKin_78,
   ps_iret dX8_aboutKin_81,
   px_Sp.of (ps_aload_n dX8_aboutKin_82 rfl),
   px_Sp.of (ps_get kc_X8 (by decide) wf_RX8_43 dX8_aboutKin_83),
   px_Sp.of (ps_get kc_X2 (by decide) wf_RX8_274 dX8_aboutKin_86),
   px_Sp.of (ps_iload_n dX8_aboutKin_89 rfl),
   px_Sp.of (ps_iald dX8_aboutKin_90),
   px_Sp.of (ps_iconst dX8_aboutKin_91 (by decide)),
   px_Sp.of (ps_icmp_ne dX8_aboutKin_92 (by decide)),
   px_Sp.of (ps_iconst dX8_aboutKin_95 (by decide)),
   px_Sp.of (ps_goto dX8_aboutKin_96 (by decide)),
   px_Sp.of (ps_aload_n dX8_aboutKin_99 rfl),
   px_Sp.of (ps_get kc_X8 (by decide) wf_RX8_34 dX8_aboutKin_100),
   px_Sp.of (ps_iload_n dX8_aboutKin_103 rfl),
   px_Sp.of (ps_aload_n dX8_aboutKin_104 rfl),
   px_Sp.of (ps_get kc_X8 (by decide) wf_RX8_43 dX8_aboutKin_105),
   px_Sp.of (ps_get kc_X2 (by decide) wf_RX8_274 dX8_aboutKin_108),
   px_Sp.of (ps_iload_n dX8_aboutKin_111 rfl),
   px_Sp.of (ps_iald dX8_aboutKin_112),
   ps_callV (IH 29 (by decide)) (C := RX0) (T := TX0) (N := 5) (ci := 0) rfl rfl (fc_29 _ _) wm_RX8_179 wi_yX0_of wl_yX0_of dX8_aboutKin_113,
   ps_iret dX8_aboutKin_116, trivial⟩
theorem mt_37 {l : Launch} {d : Nat} (IH : ∀ μ, μ < 196 → px_Met l px_P d μ) : px_Met l px_P (d + 1) 37 := px_met (own := RX8) rfl (by decide +kernel) (ok_37 IH)
