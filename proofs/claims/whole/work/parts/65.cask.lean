/-! ===== the class: told, differ, fit, feed ===== -/
theorem k_I.sf {V : QV} {σ τ : px_S} (h : k_I V σ) (hF : k_F V τ) (he : k_e k_sf k_t0 σ τ) : k_I V τ := by
  obtain ⟨i1, i2, i3, i4, i5, -, i7, i8, i9, i10⟩ := h
  have c : ∀ k, ¬ (18 ≤ k ∧ k ≤ 20) → τ.1 k = σ.1 k := fun k hk => he.1 k (fun z => by unfold k_sf at z; omega)
  have l : ∀ k, τ.2.1 k = σ.2.1 k := fun k => he.2.1 k id
  exact ⟨i1.fr (c 1 (by decide)) (fun k k1 k2 => c k (by omega)) (l 1) (l 17), i2.fr (c 10 (by decide)), i3.fr (c 0 (by decide)) (l 0), i4.fr (c 7 (by decide)) (c 34 (by decide)), i5.fr (c 8 (by decide)) (c 35 (by decide)), hF,
    i7.fr (c 3 (by decide)) (c 21 (by decide)) (c 22 (by decide)) (l 3), i8.fr (c 4 (by decide)) (c 23 (by decide)) (c 24 (by decide)) (l 4), i9.fr (c 5 (by decide)) (c 25 (by decide)) (c 26 (by decide)) (c 27 (by decide)) (c 6 (by decide)) (l 32), i10.fr (c 33 (by decide)) he.2.2⟩
theorem k_sf_fr {σ τ : px_S} (he : k_e k_sf k_t0 σ τ) : k_fr σ τ := he.fr (fun k hk => by unfold k_sf at hk; omega)
section KA
variable {d : Nat} {Q : Option Value → px_S → Prop} {σ : px_S} {V : QV}
theorem c_hasLine {x l : Int32} (hV : q_wf V) (hH : k_H V σ) (h1 : ∀ j k, j < v_n V → k < v_sz V j → x = nI j → l = nI k → Q (some (.int 1)) σ) (h0 : (∀ j k, j < v_n V → k < v_sz V j → x = nI j → ¬ l = nI k) → Q (some (.int 0)) σ) : Cw (d + 2) 43 [.ref 1, .int x, .int l] σ Q := by
  have hn := hV.1
  have no : (∀ j k, j < v_n V → k < v_sz V j → x = nI j → ¬ l = nI k) → Wp (d + 1) tb_43 26 [.ref 1, .int x, .int l] [] σ Q := fun z => b43_26 (b43_27 (Or.inl rfl) (h0 z))
  refine e43 (b43_0 (c_has hV hH (fun j hj ej => ?_) (fun hno => b43_5 (fun _ => no (fun j k hj _ e => absurd e (hno j hj))) (fun z => absurd rfl z))))
  subst ej
  obtain ⟨ij, cj⟩ := q_lt (j := j) (N := 40) (by omega) (by decide)
  have hsz := (hV.2.1 j hj).1
  have e14 := (hH.2.2.2.1 j hj).2.2.2.1
  have ej : ∀ j', j' < v_n V → nI j = nI j' → j' = j := fun j' hj' e => ((nI_eq (by omega) (by omega)).mp e).symm
  refine b43_5 (fun z => absurd z (by decide)) (fun _ => b43_8 (fun g => no (fun j' k hj' hk e el => ?_)) (fun g => b43_12 ij (fun g2 => no (fun j' k hj' hk e el => ?_)) (fun g2 => b43_22 (b43_27 (Or.inr rfl) ?_))))
  · rw [ej j' hj' e] at hk
    rw [el] at g; exact nI_pos (by omega) g
  · rw [ej j' hj' e] at hk
    rw [cj, e14, el] at g2
    exact nI_ge hk (by omega) g2
  · rw [cj, e14] at g2
    obtain ⟨k, hk, ek⟩ := nI_of g
    rw [ek, nI_leI (by omega) hk] at g2
    exact h1 j k hj (by omega) rfl ek
theorem c_told {x l w : Int32} (hV : q_wf V) (hI : k_I V σ) (h : ∀ τ, k_I V τ → k_fr σ τ → Q (some (.int (sp_told V x l w))) τ) : Cw (d + 3) 42 [.ref 0, .int x, .int l, .int w] σ Q := by
  have hn := hV.1
  have h := h σ hI k_fr.rf
  refine e42 (b42_0 (c_hasLine hV hI.1 (fun j k hj hk ex el => ?_) (fun hno => ?_)))
  · subst ex; subst el
    have s1 := (hV.2.1 j hj).1
    have hi := q_isl_nI hV hj hk
    have esp : q_spt (nI j) (nI k) = 14 * j + k := by unfold q_spt; rw [nI_clamp (by omega), nI_clamp (by omega)]
    have hsp := q_wf_sp hj hk
    obtain ⟨is, cs⟩ := q_lt (j := 14 * j + k) (N := 560) (by omega) (by decide)
    obtain ⟨g1, g2⟩ := hI.1.sp hsp
    obtain ⟨d5, hw⟩ := hV.sp hsp
    have hwl := hw.1
    unfold sp_told at h
    rw [if_pos hi, esp] at h
    have out : ¬ q_in w 0 9 → Wp (d + 2) tb_42 26 [.ref 0, .int (nI j), .int (nI k), .int w, .null] [] σ Q := fun hz => by
      rw [if_neg hz] at h; exact b42_26 h
    refine b42_9 (fun _ => b42_16 (fun g => out ?_) (fun g => b42_20 (fun g3 => b42_30 (c_spotOf (b42_35 (fun w0 => b42_52 (fun w1 => b42_71 is ?_) (fun w1 => b42_57 is ?_)) (fun w0 => b42_41 is ?_)))) (fun g3 => out ?_))) (fun z => absurd (by decide) z)
    · rw [k_neg] at g; intro z; have := z.1; omega
    · rw [k_neg] at g
      rw [k_le (n := 9) (by decide)] at g3
      rw [q_tI _ _ (n := 0) (by decide)] at w0
      rw [q_tI _ _ (n := 1) (by decide)] at w1
      rw [if_pos ⟨by omega, g3⟩, if_neg w0, if_neg w1] at h
      rw [cs, g2]
      obtain ⟨c, hc⟩ : ∃ c : Nat, w.toInt = ((c + 2 : Nat) : Int) := ⟨w.toInt.toNat - 2, by omega⟩
      have ew : w = nI (c + 2) := q_ofInt hc
      have ec : w.toInt.toNat - 2 = c := by omega
      rw [ec] at h
      have e3 : w - 2 = nI c := by rw [ew, show (2 : Int32) = nI 2 from rfl, pk_sub (by omega)]; rfl
      rw [e3]
      refine c_wordOrNone hw (b42_87 ?_)
      rw [if_pos ⟨by rw [nI_toInt (by omega)]; omega, by rw [nI_toInt (by omega)]; omega⟩, nI_clamp (by omega)]
      exact h
    · rw [k_neg] at g
      rw [k_le (n := 9) (by decide)] at g3
      rw [q_tI _ _ (n := 0) (by decide)] at w0
      have w1 := Decidable.not_not.mp w1
      rw [q_tI _ _ (n := 1) (by decide)] at w1
      rw [if_pos ⟨by omega, g3⟩, if_neg w0, if_pos w1] at h
      rw [cs, g2]
      exact c_wordsIn hw (b42_70 h)
    · rw [k_neg] at g
      rw [k_le (n := 9) (by decide)] at g3
      have w0 := Decidable.not_not.mp w0
      rw [q_tI _ _ (n := 0) (by decide)] at w0
      rw [if_pos ⟨by omega, g3⟩, if_pos w0] at h
      rw [cs, g1]
      exact h
    · rw [k_le (n := 9) (by decide)] at g3; intro z; have := z.2; omega
  · unfold sp_told at h
    rw [if_neg (q_isl_no hV hno)] at h
    exact b42_9 (fun z => absurd rfl z) (fun _ => b42_12 h)
theorem c_differ {x l y m : Int32} (hV : q_wf V) (hI : k_I V σ) (h : ∀ τ, k_I V τ → k_fr σ τ → Q (some (.int (sp_differ V x l y m))) τ) : Cw (d + 3) 45 [.ref 0, .int x, .int l, .int y, .int m] σ Q := by
  have hn := hV.1
  have no : ¬ (q_isl V x l ∧ q_isl V y m) → Wp (d + 2) tb_45 25 [.ref 0, .int x, .int l, .int y, .int m] [] σ Q := fun hz => by
    have e : sp_differ V x l y m = -1001 := by unfold sp_differ; rw [if_neg hz]
    rw [e] at h
    exact b45_25 (h σ hI k_fr.rf)
  refine e45 (b45_0 (c_hasLine hV hI.1 (fun j k hj hk ex el => ?_) (fun hno => b45_9 (fun _ => no (fun z => q_isl_no hV hno z.1)) (fun g => absurd rfl g))))
  refine b45_9 (fun g => absurd g (by decide)) (fun _ => b45_12 (c_hasLine hV hI.1 (fun j2 k2 hj2 hk2 ey em => ?_) (fun hno => b45_22 (fun g => absurd rfl g) (fun _ => no (fun z => q_isl_no hV hno z.2)))))
  have s1 := (hV.2.1 j hj).1
  have s2 := (hV.2.1 j2 hj2).1
  have e : sp_differ V x l y m = nI (q_dist (v_tx V (14 * j + k)) (v_tx V (14 * j2 + k2))) := by
    unfold sp_differ q_spt
    rw [ex, el, ey, em, if_pos ⟨q_isl_nI hV hj hk, q_isl_nI hV hj2 hk2⟩, nI_clamp (by omega), nI_clamp (by omega), nI_clamp (by omega), nI_clamp (by omega)]
  rw [e] at h
  subst ex; subst el; subst ey; subst em
  obtain ⟨is, cs⟩ := q_lt (j := 14 * j + k) (N := 560) (by omega) (by decide)
  obtain ⟨is2, cs2⟩ := q_lt (j := 14 * j2 + k2) (N := 560) (by omega) (by decide)
  refine b45_22 (fun _ => b45_29 (c_spotOf (b45_45 is (c_spotOf (b45_59 is2 ?_))))) (fun g => absurd (by decide) g)
  rw [cs, cs2, (hI.1.sp (q_wf_sp hj hk)).2, (hI.1.sp (q_wf_sp hj2 hk2)).2]
  refine c_distance (hV.sp (q_wf_sp hj hk)).2 (hV.sp (q_wf_sp hj2 hk2)).2 (fun τ he => b45_63 ?_)
  have he2 : k_e k_sf k_t0 σ τ := he.mono (fun k hk => by unfold k_sf; omega) (fun _ => id)
  exact h τ (hI.sf (hI.2.2.2.2.2.1.fr (he.1 18 (by decide))) he2) (k_sf_fr he2)
theorem c_fit {x y : Int32} (hV : q_wf V) (hI : k_I V σ) (h : ∀ τ, k_I V τ → k_fr σ τ → Q (some (.int (sp_fit V x y))) τ) : Cw (d + 6) 46 [.ref 0, .int x, .int y] σ Q := by
  have hn := hV.1
  have no : ¬ (q_has V x ∧ q_has V y) → Wp (d + 5) tb_46 22 [.ref 0, .int x, .int y] [] σ Q := fun hz => by
    have e : sp_fit V x y = -1001 := by unfold sp_fit; rw [if_neg hz]
    rw [e] at h
    exact b46_22 (h σ hI k_fr.rf)
  have nh : ∀ {u : Int32}, (∀ j, j < v_n V → ¬ u = nI j) → ¬ q_has V u := fun hno z => by obtain ⟨j, h1, h2⟩ := q_has_of z; exact hno j h1 h2
  refine e46 (b46_0 (c_has hV hI.1 (fun j hj ex => ?_) (fun hno => b46_8 (fun _ => no (fun z => nh hno z.1)) (fun g => absurd rfl g))))
  refine b46_8 (fun g => absurd g (by decide)) (fun _ => b46_11 (c_has hV hI.1 (fun i hi ey => ?_) (fun hno => b46_19 (fun g => absurd rfl g) (fun _ => no (fun z => nh hno z.2)))))
  subst ex; subst ey
  have cj : (nI j).toNatClampNeg = j := nI_clamp (by omega)
  have ci : (nI i).toNatClampNeg = i := nI_clamp (by omega)
  have hb : q_has V (nI j) ∧ q_has V (nI i) := ⟨q_has_nI hn hj, q_has_nI hn hi⟩
  have bad : (nI j = nI i ∨ q_seen V (-1) j = false ∨ q_seen V (-1) i = false) → Wp (d + 5) tb_46 53 [.ref 0, .int (nI j), .int (nI i)] [] σ Q := fun hz => by
    have e : sp_fit V (nI j) (nI i) = -1003 := by unfold sp_fit; rw [if_pos hb, cj, ci, if_pos hz]
    rw [e] at h
    exact b46_53 (h σ hI k_fr.rf)
  refine b46_19 (fun _ => b46_26 (fun g => bad (Or.inl g)) (fun g1 => b46_31 (c_isSeen hV hI.1 hj ?_))) (fun g => absurd (by decide) g)
  cases hs : q_seen V (-1) j with
  | false => exact b46_39 (fun _ => bad (Or.inr (Or.inl hs))) (fun g => absurd rfl g)
  | true =>
    refine b46_39 (fun g => absurd g (by decide)) (fun _ => b46_42 (c_isSeen hV hI.1 hi ?_))
    cases hs2 : q_seen V (-1) i with
    | false => exact b46_50 (fun g => absurd rfl g) (fun _ => bad (Or.inr (Or.inr hs2)))
    | true =>
      have e : sp_fit V (nI j) (nI i) = nI (q_fit V j i) := by
        unfold sp_fit
        rw [if_pos hb, cj, ci, if_neg]
        rintro (z | z | z)
        · exact g1 z
        · rw [hs] at z; cases z
        · rw [hs2] at z; cases z
      rw [e] at h
      exact b46_50 (fun _ => b46_57 (c_of hV hI.1 hI.2.1 hI.2.2.2.2.2.1 hj hi (fun τ hF he => b46_66 (h τ (hI.sf hF he) (k_sf_fr he))))) (fun g => absurd (by decide) g)
theorem c_feed {n : Int32} {y : Int64} (hV : q_wf V) (hI : k_I V σ) (h : ∀ τ, k_I (sp_feed V n y).2 τ → k_fr σ τ → Q (some (.int (sp_feed V n y).1)) τ) : Cw (d + 2) 103 [.ref 0, .int n, .long y] σ Q := by
  have hbl := hV.2.2.2.2.2.2.2.1
  obtain ⟨hb1, hb2, hb3⟩ := hI.2.2.2.2.1
  have out : ¬ q_in n 1 8 → Wp (d + 1) tb_103 11 [.ref 0, .int n, .long y, .null] [] σ Q := fun hz => by
    unfold sp_feed at h
    rw [if_neg hz] at h
    exact b103_11 (h σ hI k_fr.rf)
  refine e103 (b103_0 (fun g => out ?_) (fun g => b103_5 (fun g2 => ?_) (fun g2 => out ?_)))
  · rw [k_lt (n := 1) (by decide)] at g; intro z; have := z.1; omega
  · rw [k_lt (n := 1) (by decide)] at g
    rw [k_le (n := 8) (by decide)] at g2
    have hin : q_in n 1 8 := ⟨by omega, g2⟩
    obtain ⟨c, hc⟩ : ∃ c : Nat, n.toInt = (c : Int) := ⟨n.toInt.toNat, by omega⟩
    have en : n = nI c := q_ofInt hc
    have ec : n.toInt.toNat = c := by omega
    unfold sp_feed at h
    rw [if_pos hin, ec] at h
    refine b103_15 (fun g => b103_35 (e104 (b104_0 ?_))) (fun g => b103_29 (b103_44 ?_))
    · rw [hb1, en, nI_add, show (120 : Int32) = nI 120 from rfl, nI_leI (by omega) (by omega)] at g
      rw [if_neg (by omega)] at h
      have loop : ∀ k (l : List Nat) (τ : px_S), k ≤ 8 → l.length + k ≤ 120 → l.length + k = (v_by V).length + c → l ++ q_bytes y k = v_by V ++ q_bytes y c → τ.2 = σ.2 → (∀ a, a ≠ 8 → a ≠ 35 → τ.1 a = σ.1 a) → (∀ j, j ≠ 2 → τ.1 8 j = σ.1 8 j) → τ.1 8 2 = nI l.length → (∀ i, i < l.length → τ.1 35 i = nI (l.getD i 0)) → Wp d tb_104 5 [.ref 8, .int n, .long y, .null, .int (nI k - 1)] [] τ (fun r τ => Wp (d + 1) tb_103 44 [.ref 0, .int n, .long y, .null] (r.toList ++ []) τ Q) := by
        intro k
        induction k with
        | zero =>
          intro l τ hk hl hl2 hap h2 ha h9 h29 h57
          refine b104_5 (fun _ => b104_56 (b103_44 ?_)) (fun g => absurd (by decide) g)
          rw [q_bytes, List.append_nil] at hap
          rw [h29, hap]
          have el : (v_by V ++ q_bytes y c).length = (v_by V).length + c := by rw [List.length_append, q_bytes_len]
          rw [el]
          refine h τ ?_ (fun k hk => ha k (by omega) (by omega))
          refine k_I.ex (V := V) (dr := v_dr V) (sg := v_sg V) (bs := v_by V ++ q_bytes y c) (fa := v_fa V) hI ?_ ?_ ⟨?_, fun k hk => ?_, ?_⟩ (fun k _ _ _ k4 k5 _ => ha k k4 k5) (fun k h0 => by rw [h2]) (by rw [h2])
          · exact hI.2.2.1.fr (ha 0 (by decide) (by decide)) (by rw [h2])
          · exact hI.2.2.2.1.fr (ha 7 (by decide) (by decide)) (ha 34 (by decide) (by decide))
          · show τ.1 8 2 = nI (v_by V ++ q_bytes y c).length; rw [← hap]; exact h29
          · show τ.1 35 k = nI ((v_by V ++ q_bytes y c).getD k 0)
            have hk : k < (v_by V ++ q_bytes y c).length := hk
            rw [← hap] at hk ⊢; exact h57 k hk
          · rw [h9 3 (by decide)]; exact hb3
        | succ k ih =>
          intro l τ hk hl hl2 hap h2 ha h9 h29 h57
          obtain ⟨i1, c1⟩ := q_lt (j := l.length) (N := 120) (by omega) (by decide)
          rw [nI_pred]
          refine b104_5 (fun g => absurd g (nI_pos (by omega))) (fun _ => b104_10 (fun g => absurd g (by rw [h29]; exact nI_ge (b := 120) (by omega) (by decide))) (fun _ => b104_19 (by rw [h29]; exact i1) (b104_40 (b104_50 ?_))))
          have e8 : (8 : Int32) * nI k = nI (8 * k) := by rw [show (8 : Int32) = nI 8 from rfl, pk_mul]
          rw [h29, c1, e8, q_byte_u (by omega)]
          have e29 : (px_uI τ 35 l.length (nI (q_byte y k))).1 8 2 = nI l.length := by rw [q_uc (by decide)]; exact h29
          rw [e29, nI_1, q_am1]
          refine ih (l ++ [q_byte y k]) _ (by omega) ?_ ?_ ?_ h2 (fun a a1 a2 => ?_) (fun j hj => ?_) ?_ (fun i hi => ?_)
          · rw [List.length_append]; simp; omega
          · rw [List.length_append]; simp; omega
          · rw [List.append_assoc]; exact hap
          · rw [q_uc a1, q_uc a2]; exact ha a a1 a2
          · rw [q_u, if_neg (fun z => hj z.2), q_uc (by decide)]; exact h9 j hj
          · rw [q_u, if_pos ⟨rfl, rfl⟩]; simp
          · rw [q_getD_app hi, q_uc (by decide), q_u]
            by_cases hil : i = l.length
            · rw [if_pos ⟨rfl, hil⟩, if_pos hil]
            · rw [if_neg (fun z => hil z.2), if_neg hil]
              exact h57 i (by simp at hi; omega)
      have := loop c (v_by V) σ (by omega) (by omega) rfl rfl rfl (fun _ _ _ => rfl) (fun _ _ => rfl) hb1 hb2
      rw [← en] at this
      exact this
    · rw [hb1, en, nI_add, show (120 : Int32) = nI 120 from rfl, nI_leI (by omega) (by omega)] at g
      rw [if_pos (by omega)] at h
      exact h σ hI k_fr.rf
  · rw [k_le (n := 8) (by decide)] at g2; intro z; have := z.2; omega
end KA
