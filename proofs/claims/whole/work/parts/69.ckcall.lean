/-! ===== the class: about, origin, altered, echoes, order, quarrel, span, still ===== -/
section KZ
variable {d : Nat} {Q : Option Value → px_S → Prop} {σ : px_S} {V : QV}
theorem c_aboutKin {x : Nat} {w : Int32} (hV : q_wf V) (hI : k_I V σ) (hK : k_kin V (-1) 3 σ) (hx : x < v_n V) (hw : 6 ≤ w.toInt ∧ w.toInt ≤ 11) (h : ∀ τ, k_I V τ → k_fr σ τ → Q (some (.int (q_abk V (q_par V (-1)) x w.toInt))) τ) : Cw (d + 6) 37 [.ref 0, .int (nI x), .int w] σ Q := by
  have hn := hV.1
  have hk : (3 : Nat) = 3 ∨ (3 : Nat) = 4 := Or.inl rfl
  have hp := q_par_ok hV (-1)
  obtain ⟨ix, cx⟩ := q_lt (j := x) (N := 40) (by omega) (by decide)
  have hr : k_pr 3 (q_par V (-1)) (v_n V) σ := hK.1
  have hs : k_sn V (-1) 3 σ := hK.2.2
  have hx21 : σ.1 21 (nI x).toNatClampNeg = q_rw (q_par V (-1)) x := by rw [cx]; exact hr x hx
  have h0 := h σ hI k_fr.rf
  refine e37 (b37_0 (fun hd => ?_) (fun j t hjt hj => ?_))
  · have e11 : w.toInt = 11 := by omega
    rw [e11] at h
    cases hpx : q_par V (-1) x with
    | none =>
      have e : q_abk V (q_par V (-1)) x 11 = -1 := by unfold q_abk; rw [if_neg (by decide), if_neg (by decide), if_neg (by decide), if_neg (by decide), if_neg (by decide), hpx]
      rw [e] at h
      exact b37_82 ix (fun g => absurd (by rw [hx21, q_rw_none hpx]) g) (fun _ => b37_95 (b37_116 (h σ hI k_fr.rf)))
    | some y =>
      have hy := q_okp_lt hp hpx
      have e : q_abk V (q_par V (-1)) x 11 = nI (q_fit V x y) := by unfold q_abk; rw [if_neg (by decide), if_neg (by decide), if_neg (by decide), if_neg (by decide), if_neg (by decide), hpx]
      rw [e] at h
      refine b37_82 ix (fun _ => b37_99 ix ?_) (fun g => absurd (by rw [hx21, q_rw_some hpx]; exact fun z => q_m1ne (by omega) z.symm) g)
      rw [hx21, q_rw_some hpx]
      exact c_of hV hI.1 hI.2.1 hI.2.2.2.2.2.1 hx hy (fun τ hF he => b37_116 (h τ (hI.sf hF he) (k_sf_fr he)))
  · match j, hjt, hj with
    | 0, hjt, hj =>
      cases hjt
      have e6 : w.toInt = 6 := by omega
      rw [e6] at h0
      refine b37_36 ix ?_
      rw [hx21]
      exact h0
    | 1, hjt, hj =>
      cases hjt
      have e6 : w.toInt = 7 := by omega
      rw [e6] at h0
      exact b37_46 (c_rootOf hk hn hp hr hx (b37_54 h0))
    | 2, hjt, hj =>
      cases hjt
      have e6 : w.toInt = 8 := by omega
      rw [e6] at h0
      exact b37_55 (c_stepsOf hk hn hp hr hx (b37_63 h0))
    | 3, hjt, hj =>
      cases hjt
      have e6 : w.toInt = 9 := by omega
      rw [e6] at h0
      exact b37_64 (c_childrenOf hV hk hI.1 hp hr hx (b37_72 h0))
    | 4, hjt, hj =>
      cases hjt
      have e6 : w.toInt = 10 := by omega
      rw [e6] at h0
      exact b37_73 (c_thread hV hk hI.1 hs hp hr hx (b37_81 h0))
    | j + 5, hjt, hj => cases hjt
theorem c_about {x w : Int32} (hV : q_wf V) (hI : k_I V σ) (h : ∀ τ, k_I V τ → k_fr σ τ → Q (some (.int (sp_about V x w))) τ) : Cw (d + 8) 20 [.ref 0, .int x, .int w] σ Q := by
  have hn := hV.1
  refine e20 (b20_0 (c_has hV hI.1 (fun j hj ej => ?_) (fun hno => ?_)))
  · subst ej
    obtain ⟨ij, cj⟩ := q_lt (j := j) (N := 40) (by omega) (by decide)
    obtain ⟨f1, f2, f3, f4, f5⟩ := hI.1.2.2.2.1 j hj
    unfold sp_about at h
    rw [if_pos (q_has_nI hn hj), cj] at h
    have out : ¬ q_in w 0 11 → Wp (d + 7) tb_20 25 [.ref 0, .int (nI j), .int w] [] σ Q := fun hz => by
      rw [if_neg hz] at h; exact b20_25 (h σ hI k_fr.rf)
    refine b20_8 (fun _ => b20_15 (fun g => out ?_) (fun g => b20_19 (fun g2 => b20_29 (fun hd => ?_) (fun i t hit hi => ?_)) (fun g2 => out ?_))) (fun z => absurd (by decide) z)
    · rw [k_neg] at g; intro z; have := z.1; omega
    · rw [k_neg] at g
      rw [k_le (n := 11) (by decide)] at g2
      rw [if_pos ⟨by omega, g2⟩, if_neg (by omega)] at h
      refine b20_135 (c_isSeen hV hI.1 hj ?_)
      cases hse : q_seen V (-1) j with
      | false =>
        rw [hse, if_neg (by decide)] at h
        exact b20_143 (fun z => absurd rfl z) (fun _ => b20_146 (h σ hI k_fr.rf))
      | true =>
        rw [hse, if_pos rfl] at h
        exact b20_143 (fun _ => b20_148 (c_refresh hV (Or.inl rfl) hI (fun τ hIt hK hf => b20_156 (c_aboutKin hV hIt hK hj ⟨by omega, g2⟩ (fun τ2 hI2 hf2 => b20_162 (h τ2 hI2 (hf.tr hf2))))))) (fun z => absurd (by decide) z)
    · rw [k_neg] at g
      rw [k_le (n := 11) (by decide)] at g2
      have h := h σ hI k_fr.rf
      match i, hit, hi with
      | 0, hit, hi =>
        cases hit
        rw [if_pos ⟨by omega, g2⟩, if_pos (by omega), if_pos (by omega)] at h
        exact b20_68 ij (by rw [cj, f1]; exact h)
      | 1, hit, hi =>
        cases hit
        rw [if_pos ⟨by omega, g2⟩, if_pos (by omega), if_neg (by omega), if_pos (by omega)] at h
        exact b20_78 ij (by rw [cj, f2]; exact h)
      | 2, hit, hi =>
        cases hit
        rw [if_pos ⟨by omega, g2⟩, if_pos (by omega), if_neg (by omega), if_neg (by omega), if_pos (by omega)] at h
        exact b20_88 ij (by rw [cj, f3]; exact h)
      | 3, hit, hi =>
        cases hit
        rw [if_pos ⟨by omega, g2⟩, if_pos (by omega), if_neg (by omega), if_neg (by omega), if_neg (by omega), if_pos (by omega)] at h
        exact b20_98 ij (by rw [cj, f4]; exact h)
      | 4, hit, hi =>
        cases hit
        rw [if_pos ⟨by omega, g2⟩, if_pos (by omega), if_neg (by omega), if_neg (by omega), if_neg (by omega), if_neg (by omega), if_pos (by omega)] at h
        exact b20_108 ij (by rw [cj, f5]; exact h)
      | 5, hit, hi =>
        cases hit
        rw [if_pos ⟨by omega, g2⟩, if_pos (by omega), if_neg (by omega), if_neg (by omega), if_neg (by omega), if_neg (by omega), if_neg (by omega)] at h
        refine b20_118 (c_isSeen hV hI.1 hj ?_)
        cases hse : q_seen V (-1) j with
        | false => rw [hse] at h; exact b20_126 (fun _ => b20_133 (b20_134 h)) (fun z => absurd rfl z)
        | true => rw [hse] at h; exact b20_126 (fun z => absurd z (by decide)) (fun _ => b20_129 (b20_134 h))
      | i + 6, hit, hi => cases hit
    · rw [k_le (n := 11) (by decide)] at g2; intro z; have := z.2; omega
  · unfold sp_about at h
    rw [if_neg (fun z => by obtain ⟨j, h1, h2⟩ := q_has_of z; exact hno j h1 h2)] at h
    exact b20_8 (fun g => absurd rfl g) (fun _ => b20_11 (h σ hI k_fr.rf))
theorem c_origin {x l w : Int32} (hV : q_wf V) (hI : k_I V σ) (h : ∀ τ, k_I V τ → k_fr σ τ → Q (some (.int (sp_origin V x l w))) τ) : Cw (d + 8) 63 [.ref 0, .int x, .int l, .int w] σ Q := by
  have hn := hV.1
  have hp := q_par_ok hV (-1)
  refine e63 (b63_0 (c_hasLine hV hI.1 (fun j k hj hk ex el => ?_) (fun hno => ?_)))
  · subst ex; subst el
    have s1 := (hV.2.1 j hj).1
    have cj : (nI j).toNatClampNeg = j := nI_clamp (by omega)
    have esp : q_spt (nI j) (nI k) = 14 * j + k := by unfold q_spt; rw [cj, nI_clamp (by omega)]
    have hsp := q_wf_sp hj hk
    unfold sp_origin at h
    rw [if_pos (q_isl_nI hV hj hk), esp, cj] at h
    have out : ¬ q_in w 0 2 → Wp (d + 7) tb_63 25 [.ref 0, .int (nI j), .int (nI k), .int w, .null, .null] [] σ Q := fun hz => by
      rw [if_neg hz] at h; exact b63_25 (h σ hI k_fr.rf)
    refine b63_9 (fun _ => b63_16 (fun g => out ?_) (fun g => b63_20 (fun g3 => b63_29 (c_isSeen hV hI.1 hj ?_)) (fun g3 => out ?_))) (fun z => absurd (by decide) z)
    · rw [k_neg] at g; intro z; have := z.1; omega
    · rw [k_neg] at g
      rw [k_le (n := 2) (by decide)] at g3
      rw [if_pos ⟨by omega, g3⟩] at h
      cases hse : q_seen V (-1) j with
      | false =>
        rw [hse, if_neg (by decide)] at h
        exact b63_37 (fun z => absurd rfl z) (fun _ => b63_40 (h σ hI k_fr.rf))
      | true =>
        rw [hse, if_pos rfl] at h
        refine b63_37 (fun _ => b63_44 (c_refresh hV (Or.inl rfl) hI (fun τ hIt hK hf => b63_52 (c_spotOf (b63_61 (c_sourceOf hV (Or.inl rfl) hIt.1 hp hK.hd hsp ?_)))))) (fun z => absurd (by decide) z)
        have h := h τ hIt hf
        cases ho : q_org V (q_par V (-1)) 6 (14 * j + k) with
        | none =>
          rw [ho] at h
          exact b63_64 (fun z => absurd rfl z) (fun _ => b63_72 h)
        | some z =>
          rw [ho] at h
          have hz := q_org_sp hp 6 _ z hsp ho
          have lz := q_sp_lt hV hz
          have ed : nI z / (14 : Int32) = nI (z / 14) := by rw [show (14 : Int32) = nI 14 from rfl, pk_div (by omega) (by decide) (by decide)]
          have er : nI z - nI z / (14 : Int32) * (14 : Int32) = nI (z % 14) := by rw [show (14 : Int32) = nI 14 from rfl, pk_rem (by omega) (by decide) (by decide)]
          have hzx : z / 14 < v_n V := by
            obtain ⟨x, l, hx, hl, rfl⟩ := hz
            have := (hV.2.1 x hx).1
            omega
          have h : Q (some (.int (if w.toInt = 0 then nI (z / 14) else if w.toInt = 1 then nI (z % 14) else v_wr V (z / 14)))) τ := h
          obtain ⟨iz, cz⟩ := q_lt (j := z / 14) (N := 40) (by omega) (by decide)
          refine b63_64 (fun _ => b63_74 (fun g0 => b63_88 (fun g1 => b63_101 ?_ (b63_111 ?_)) (fun g1 => b63_93 (b63_111 ?_))) (fun g0 => b63_85 ?_)) (fun g => absurd (fun e => q_m1ne (by omega) (Eq.symm e)) g)
          · show vp_in (nI z / (14 : Int32)) 40; rw [ed]; exact iz
          · rw [q_tI _ _ (n := 0) (by decide)] at g0
            rw [q_tI _ _ (n := 1) (by decide)] at g1
            rw [if_neg g0, if_neg g1] at h
            show Q (some (.int (τ.1 11 (nI z / (14 : Int32)).toNatClampNeg))) τ
            rw [ed, cz, (hIt.1.2.2.2.1 _ hzx).1]
            exact h
          · rw [q_tI _ _ (n := 0) (by decide)] at g0
            rw [Decidable.not_not, q_tI _ _ (n := 1) (by decide)] at g1
            rw [if_neg g0, if_pos g1] at h
            show Q (some (.int (nI z - nI z / (14 : Int32) * (14 : Int32)))) τ
            rw [er]; exact h
          · rw [Decidable.not_not, q_tI _ _ (n := 0) (by decide)] at g0
            rw [if_pos g0] at h
            show Q (some (.int (nI z / (14 : Int32)))) τ
            rw [ed]; exact h
    · rw [k_le (n := 2) (by decide)] at g3; intro z; have := z.2; omega
  · unfold sp_origin at h
    rw [if_neg (q_isl_no hV hno)] at h
    exact b63_9 (fun z => absurd rfl z) (fun _ => b63_12 (h σ hI k_fr.rf))
theorem c_altered {x l : Int32} (hV : q_wf V) (hI : k_I V σ) (h : ∀ τ, k_I V τ → k_fr σ τ → Q (some (.int (sp_altered V x l))) τ) : Cw (d + 8) 64 [.ref 0, .int x, .int l] σ Q := by
  have hn := hV.1
  have hp := q_par_ok hV (-1)
  refine e64 (b64_0 (c_hasLine hV hI.1 (fun j k hj hk ex el => ?_) (fun hno => ?_)))
  · subst ex; subst el
    have s1 := (hV.2.1 j hj).1
    have cj : (nI j).toNatClampNeg = j := nI_clamp (by omega)
    have esp : q_spt (nI j) (nI k) = 14 * j + k := by unfold q_spt; rw [cj, nI_clamp (by omega)]
    unfold sp_altered at h
    rw [if_pos (q_isl_nI hV hj hk), esp, cj] at h
    refine b64_9 (fun _ => b64_16 (c_isSeen hV hI.1 hj ?_)) (fun z => absurd (by decide) z)
    cases hse : q_seen V (-1) j with
    | false =>
      rw [hse, if_neg (by decide)] at h
      exact b64_24 (fun z => absurd rfl z) (fun _ => b64_27 (h σ hI k_fr.rf))
    | true =>
      rw [hse, if_pos rfl] at h
      refine b64_24 (fun _ => b64_31 (c_refresh hV (Or.inl rfl) hI (fun τ hIt hK hf => b64_39 (c_spotOf (b64_48 (c_isAltered hV (Or.inl rfl) hIt.1 hp hK.hd (q_wf_sp hj hk) ?_)))))) (fun z => absurd (by decide) z)
      have h := h τ hIt hf
      cases ha : q_alt V (q_par V (-1)) (14 * j + k) with
      | false => rw [ha] at h; exact b64_51 (fun _ => b64_58 (b64_59 h)) (fun z => absurd rfl z)
      | true => rw [ha] at h; exact b64_51 (fun z => absurd z (by decide)) (fun _ => b64_54 (b64_59 h))
  · unfold sp_altered at h
    rw [if_neg (q_isl_no hV hno)] at h
    exact b64_9 (fun z => absurd rfl z) (fun _ => b64_12 (h σ hI k_fr.rf))
theorem c_echoes {x l : Int32} (hV : q_wf V) (hI : k_I V σ) (h : ∀ τ, k_I V τ → k_fr σ τ → Q (some (.int (sp_echoes V x l))) τ) : Cw (d + 8) 65 [.ref 0, .int x, .int l] σ Q := by
  have hn := hV.1
  have hp := q_par_ok hV (-1)
  refine e65 (b65_0 (c_hasLine hV hI.1 (fun j k hj hk ex el => ?_) (fun hno => ?_)))
  · subst ex; subst el
    have s1 := (hV.2.1 j hj).1
    have cj : (nI j).toNatClampNeg = j := nI_clamp (by omega)
    have esp : q_spt (nI j) (nI k) = 14 * j + k := by unfold q_spt; rw [cj, nI_clamp (by omega)]
    unfold sp_echoes at h
    rw [if_pos (q_isl_nI hV hj hk), esp] at h
    exact b65_9 (fun _ => b65_16 (c_refresh hV (Or.inl rfl) hI (fun τ hIt hK hf => b65_24 (c_spotOf (b65_33 (c_linesFrom (a := -1) (p := q_par V (-1)) (o := some (14 * j + k)) hV (Or.inl rfl) hIt.1 hK.2.2 hp hK.hd rfl (fun z hz => by cases hz; omega) (b65_36 (h τ hIt hf)))))))) (fun z => absurd (by decide) z)
  · unfold sp_echoes at h
    rw [if_neg (q_isl_no hV hno)] at h
    exact b65_9 (fun z => absurd rfl z) (fun _ => b65_12 (h σ hI k_fr.rf))
theorem c_order {i : Int32} (hV : q_wf V) (hI : k_I V σ) (h : ∀ τ, k_I V τ → k_fr σ τ → Q (some (.int (sp_order V i))) τ) : Cw (d + 8) 86 [.ref 0, .int i] σ Q := by
  have hn := hV.1
  have hp := q_par_ok hV (-1)
  have out : (∀ c, c < v_n V → ¬ nI c = i) → Wp (d + 7) tb_86 15 [.ref 0, .int i] [] σ Q := fun hz => by
    have e : sp_order V i = -1 := q_odr_out hz 41 (fun _ => false) 0 (q_cnt_f _)
    rw [e] at h
    exact b86_15 (h σ hI k_fr.rf)
  refine e86 (b86_0 (fun g => out (fun c hc e => ?_)) (fun g => b86_4 (fun g2 => b86_17 (c_refresh hV (Or.inl rfl) hI (fun τ hIt hK hf => b86_25 ?_))) (fun g2 => out (fun c hc e => ?_))))
  · rw [← e] at g; exact nI_pos (by omega) g
  · obtain ⟨j, hj, ej⟩ := nI_of g
    rw [hI.1.1, ej, nI_ltI hj (by omega)] at g2
    subst ej
    exact c_writtenAt hV (Or.inl rfl) hIt.1 hK.2.2 hp hK.1 g2 (b86_33 (h τ hIt hf))
  · rw [hI.1.1, ← e] at g2; exact g2 (nI_lt hc (by omega))
theorem c_quarrel {i : Int32} (hV : q_wf V) (hI : k_I V σ) (h : ∀ τ, k_I V τ → k_fr σ τ → Q (some (.int (sp_quarrel V i))) τ) : Cw (d + 8) 89 [.ref 0, .int i] σ Q := by
  have hn := hV.1
  have hp := q_par_ok hV (-1)
  have out : (∀ c, c < v_n V → ¬ nI c = i) → Wp (d + 7) tb_89 15 [.ref 0, .int i] [] σ Q := fun hz => by
    have e : sp_quarrel V i = -1 := q_nth_out _ _ _ (fun c _ hc => hz c (by omega))
    rw [e] at h
    exact b89_15 (h σ hI k_fr.rf)
  refine e89 (b89_0 (fun g => out (fun c hc e => ?_)) (fun g => b89_4 (fun g2 => b89_17 (c_refresh hV (Or.inl rfl) hI (fun τ hIt hK hf => b89_25 (c_quarrelAt hV (Or.inl rfl) hIt.1 hp hK.1 (b89_33 (h τ hIt hf)))))) (fun g2 => out (fun c hc e => ?_))))
  · rw [← e] at g; exact nI_pos (by omega) g
  · rw [hI.1.1, ← e] at g2; exact g2 (nI_lt hc (by omega))
theorem c_span {x w : Int32} (hV : q_wf V) (hI : k_I V σ) (h : ∀ τ, k_I V τ → k_fr σ τ → Q (some (.int (sp_span V x w))) τ) : Cw (d + 8) 91 [.ref 0, .int x, .int w] σ Q := by
  have hn := hV.1
  have hp := q_par_ok hV (-1)
  refine e91 (b91_0 (c_has hV hI.1 (fun j hj ej => ?_) (fun hno => ?_)))
  · subst ej
    obtain ⟨ij, cj⟩ := q_lt (j := j) (N := 40) (by omega) (by decide)
    have dj := (hI.1.2.2.2.1 j hj).2.1
    unfold sp_span at h
    rw [if_pos (q_has_nI hn hj), cj] at h
    have out : ¬ q_in w 0 1 → Wp (d + 7) tb_91 24 [.ref 0, .int (nI j), .int w] [] σ Q := fun hz => by
      rw [if_neg hz] at h; exact b91_24 (h σ hI k_fr.rf)
    refine b91_8 (fun _ => b91_15 (fun g => out ?_) (fun g => b91_19 (fun g3 => b91_28 (c_isSeen hV hI.1 hj ?_)) (fun g3 => out ?_))) (fun z => absurd (by decide) z)
    · rw [k_neg] at g; intro z; have := z.1; omega
    · rw [k_neg] at g
      rw [k_le (n := 1) (by decide)] at g3
      rw [if_pos ⟨by omega, g3⟩] at h
      cases hse : q_seen V (-1) j with
      | false =>
        rw [hse, if_neg (by decide)] at h
        exact b91_36 (fun z => absurd rfl z) (fun _ => b91_39 (h σ hI k_fr.rf))
      | true =>
        rw [hse, if_pos rfl] at h
        refine b91_36 (fun _ => b91_43 ij (fun g4 => b91_66 (c_refresh hV (Or.inl rfl) hI (fun τ hIt hK hf => ?_))) (fun g4 => b91_56 ij ?_)) (fun z => absurd (by decide) z)
        · rw [cj, dj] at g4
          rw [if_neg (by rw [g4]; decide)] at h
          refine b91_74 (fun g5 => b91_89 (c_least hV (Or.inl rfl) hIt.1 hK.2.2 hp hK.1 hj (b91_97 ?_))) (fun g5 => b91_78 (c_greatest hV (Or.inl rfl) hIt.1 hp hK.1 hj (b91_86 (b91_97 ?_))))
          · rw [q_tI _ _ (n := 0) (by decide)] at g5
            rw [if_neg g5] at h
            exact h τ hIt hf
          · rw [Decidable.not_not, q_tI _ _ (n := 0) (by decide)] at g5
            rw [if_pos g5] at h
            exact h τ hIt hf
        · rw [cj, dj] at g4
          have h0 : 0 ≤ v_dy V j := by
            rcases (hV.2.1 j hj).2.2.1 with e | ⟨e, he, ee⟩
            · exact absurd e g4
            · rw [ee]; exact nI_pos' (by omega)
          rw [if_pos h0] at h
          rw [cj, dj]
          exact h σ hI k_fr.rf
    · rw [k_le (n := 1) (by decide)] at g3; intro z; have := z.2; omega
  · unfold sp_span at h
    rw [if_neg (fun z => by obtain ⟨j, h1, h2⟩ := q_has_of z; exact hno j h1 h2)] at h
    exact b91_8 (fun g => absurd rfl g) (fun _ => b91_11 (h σ hI k_fr.rf))
theorem c_still {x : Int32} (hV : q_wf V) (hI : k_I V σ) (h : ∀ τ, k_I V τ → k_fr σ τ → Q (some (.int (sp_still V x))) τ) : Cw (d + 8) 101 [.ref 0, .int x] σ Q := by
  have hn := hV.1
  refine e101 (b101_0 (c_has hV hI.1 (fun j hj ej => ?_) (fun hno => ?_)))
  · subst ej
    have cj : (nI j).toNatClampNeg = j := nI_clamp (by omega)
    have hp := q_par_ok hV (nI j)
    unfold sp_still at h
    rw [if_pos (q_has_nI hn hj), cj] at h
    refine b101_8 (fun _ => b101_15 (c_isTaken hV hI.1 hj ?_)) (fun z => absurd (by decide) z)
    cases ht : v_tk V j with
    | false =>
      rw [ht, if_neg (by decide)] at h
      exact b101_23 (fun z => absurd rfl z) (fun _ => b101_26 (h σ hI k_fr.rf))
    | true =>
      rw [ht, if_pos rfl] at h
      exact b101_23 (fun _ => b101_30 (c_refresh hV (Or.inr rfl) hI (fun τ hIt hK hf => b101_38 (c_quotedAlike hV (Or.inr rfl) hIt.1 hK.2.2 hp hK.hd hj (b101_46 (h τ hIt hf)))))) (fun z => absurd (by decide) z)
  · unfold sp_still at h
    rw [if_neg (fun z => by obtain ⟨j, h1, h2⟩ := q_has_of z; exact hno j h1 h2)] at h
    exact b101_8 (fun g => absurd rfl g) (fun _ => b101_11 (h σ hI k_fr.rf))
end KZ
