/-! ===== simple calls of the reference, the rest ===== -/
section QS
variable {d : Nat} {Q : Option Value → px_S → Prop} {σ : px_S} {V : QV}
theorem q_tkv {b : Bool} {f : Nat → Bool} {j : Nat} {σ : px_S} (hM : q_M V σ) (hj : j < v_n V) {c : Int32} (hc : c = if b then 1 else 0) : ∀ x, x < v_n V → (px_uI σ 42 j c).1 42 x = if va_up (v_tk V) j b x then 1 else 0 := by
  intro x hx
  rw [q_u]
  by_cases h : x = j
  · subst h; rw [if_pos ⟨rfl, rfl⟩, va_up_self]; exact hc
  · rw [if_neg (fun z => h z.2), va_up_ne _ _ h]; exact (hM.2.1 x hx).2.2.2.2
theorem m_take {x : Int32} (hV : q_wf V) (hM : q_M V σ) (h : ∀ τ, q_M (sp_take V x).2 τ → q_eqx q_mc σ τ → Q (some (.int (sp_take V x).1)) τ) : Cw (d + 3) 136 [.ref 9, .int x] σ Q := by
  have hn := hV.1
  refine e136 (b136_0 (m_noLetter hV hM (fun j hj ej => ?_) (fun hno => ?_)))
  · subst ej
    have hh : q_has V (nI j) := q_has_nI hn hj
    obtain ⟨hin, hcl⟩ := q_lt (j := j) (N := 40) (by omega) (by decide)
    have ht := (hM.2.1 j hj).2.2.2.2
    refine b136_5 (fun _ => ?_) (fun z => absurd rfl z)
    by_cases hb : v_tk V j = true
    · have e : sp_take V (nI j) = (-1003, V) := by unfold sp_take; rw [if_pos hh, hcl, if_pos hb]
      rw [e] at h
      refine b136_12 hin (fun z => absurd z (by rw [hcl, ht, if_pos hb]; decide)) (fun _ => b136_21 (h σ hM q_eqx.rf))
    · have e : sp_take V (nI j) = (1, vs_tk V (va_up (v_tk V) j true)) := by unfold sp_take; rw [if_pos hh, hcl, if_neg hb]
      rw [e] at h
      refine b136_12 hin (fun _ => ?_) (fun z => absurd (by rw [hcl, ht, if_neg hb]) z)
      refine b136_25 hin (b136_32 ?_)
      rw [hcl]
      exact h _ (hM.tk (fun a ha hb => q_uc hb) (q_uc (by decide)) (q_tkv (f := v_tk V) hM hj rfl)) (q_eqx.uI (Or.inr (by decide)))
  · have hh : ¬ q_has V x := fun z => by obtain ⟨j, h1, h2⟩ := q_has_of z; exact hno j h1 h2
    have e : sp_take V x = (-1001, V) := by unfold sp_take; rw [if_neg hh]
    rw [e] at h
    exact b136_5 (fun z => absurd z (by decide)) (fun _ => b136_8 (h σ hM q_eqx.rf))
theorem m_put {x : Int32} (hV : q_wf V) (hM : q_M V σ) (h : ∀ τ, q_M (sp_put V x).2 τ → q_eqx q_mc σ τ → Q (some (.int (sp_put V x).1)) τ) : Cw (d + 3) 137 [.ref 9, .int x] σ Q := by
  have hn := hV.1
  refine e137 (b137_0 (m_noLetter hV hM (fun j hj ej => ?_) (fun hno => ?_)))
  · subst ej
    have hh : q_has V (nI j) := q_has_nI hn hj
    obtain ⟨hin, hcl⟩ := q_lt (j := j) (N := 40) (by omega) (by decide)
    have ht := (hM.2.1 j hj).2.2.2.2
    refine b137_5 (fun _ => ?_) (fun z => absurd rfl z)
    by_cases hb : v_tk V j = true
    · have e : sp_put V (nI j) = (1, vs_tk V (va_up (v_tk V) j false)) := by unfold sp_put; rw [if_pos hh, hcl, if_pos hb]
      rw [e] at h
      refine b137_12 hin (fun _ => ?_) (fun z => absurd (by rw [hcl, ht, if_pos hb]; decide) z)
      refine b137_25 hin (b137_32 ?_)
      rw [hcl]
      exact h _ (hM.tk (fun a ha hb => q_uc hb) (q_uc (by decide)) (q_tkv (f := v_tk V) hM hj rfl)) (q_eqx.uI (Or.inr (by decide)))
    · have e : sp_put V (nI j) = (-1003, V) := by unfold sp_put; rw [if_pos hh, hcl, if_neg hb]
      rw [e] at h
      exact b137_12 hin (fun z => absurd (by rw [hcl, ht, if_neg hb]) z) (fun _ => b137_21 (h σ hM q_eqx.rf))
  · have hh : ¬ q_has V x := fun z => by obtain ⟨j, h1, h2⟩ := q_has_of z; exact hno j h1 h2
    have e : sp_put V x = (-1001, V) := by unfold sp_put; rw [if_neg hh]
    rw [e] at h
    exact b137_5 (fun z => absurd z (by decide)) (fun _ => b137_8 (h σ hM q_eqx.rf))
theorem m_known {k : Int32} (hV : q_wf V) (hM : q_M V σ) (h : ∀ τ, q_M (sp_known V k).2 τ → q_eqx q_mc σ τ → Q (some (.int (sp_known V k).1)) τ) : Cw (d + 2) 138 [.ref 9, .int k] σ Q := by
  have hn := hV.1
  refine e138 (b138_0 (m_inI (a' := -1) (b' := (v_n V : Int)) (by decide) (by rw [q_i64, hM.1, nI_toInt (by omega)]) (fun g1 g2 => ?_) (fun g => ?_)))
  · have e : sp_known V k = (k, vs_kn V k) := by unfold sp_known; rw [if_pos ⟨g1, g2⟩]
    rw [e] at h
    exact b138_13 (fun _ => b138_20 (b138_25 (h _ (hM.kn (fun a ha => q_uc (by omega)) (fun j hj => q_u9n hj) q_u9) (q_eqx.uI (Or.inl rfl))))) (fun z => absurd (by decide) z)
  · have e : sp_known V k = (-1002, V) := by unfold sp_known; rw [if_neg g]
    rw [e] at h
    exact b138_13 (fun z => absurd rfl z) (fun _ => b138_16 (h σ hM q_eqx.rf))
theorem m_sign {w : Int32} (hV : q_wf V) (hM : q_M V σ) (h : ∀ τ, q_M (sp_sign V w).2 τ → q_eqx q_mc σ τ → Q (some (.int (sp_sign V w).1)) τ) : Cw (d + 2) 179 [.ref 9, .int w] σ Q := by
  have hl := hV.2.2.2.2.2.2.1.1
  have hs := hM.2.2.2.2.2.2.2.1
  refine e179 (b179_0 (m_inI (a' := 0) (b' := 63) (by decide) (by decide) (fun g1 g2 => ?_) (fun g => ?_)))
  · have hi : q_in w 0 63 := ⟨g1, g2⟩
    refine b179_9 (fun _ => ?_) (fun z => absurd (by decide) z)
    by_cases h4 : (v_sg V).length = 4
    · have e : sp_sign V w = (-1004, V) := by unfold sp_sign; rw [if_pos hi, if_pos h4]
      rw [e] at h
      exact b179_16 (fun z => absurd (by rw [hs.1, h4]; rfl) z) (fun _ => b179_24 (h σ hM q_eqx.rf))
    · have e : sp_sign V w = (nI ((v_sg V).length + 1), vs_sg V (v_sg V ++ [w.toInt.toNat])) := by unfold sp_sign; rw [if_pos hi, if_neg h4]
      rw [e] at h
      have hne : ¬ σ.1 9 26 = (4 : Int32) := by
        rw [hs.1]
        exact fun z => h4 ((nI_eq (by omega) (by decide)).mp z)
      obtain ⟨hin, hcl⟩ := q_lt (j := (v_sg V).length) (N := 4) (by omega) (by decide)
      refine b179_16 (fun _ => ?_) (fun z => absurd hne z)
      refine b179_28 (by rw [hs.1]; exact hin) (b179_38 (b179_48 ?_))
      rw [hs.1, hcl]
      have e10 : (px_uI σ 56 (v_sg V).length w).1 9 26 = nI (v_sg V).length := by rw [q_uc (by decide)]; exact hs.1
      rw [e10, nI_1, q_u9]
      refine h _ ?_ ((q_eqx.uI (S := q_mc) (Or.inr (by decide))).tr (q_eqx.uI (Or.inl rfl)))
      refine hM.sg (fun a ha hb => ?_) (fun i hi => ?_) ⟨?_, fun k hk => ?_⟩
      · rw [q_uc (by omega), q_uc hb]
      · rw [q_u9n hi, q_uc (by decide)]
      · rw [q_u9]; simp
      · rw [q_getD_app hk, q_uc (by decide), q_u]
        by_cases hkl : k = (v_sg V).length
        · rw [if_pos ⟨rfl, hkl⟩, if_pos hkl]; exact q_nat hi (by decide)
        · rw [if_neg (fun z => hkl z.2), if_neg hkl]
          exact hs.2 k (by simp at hk; omega)
  · have e : sp_sign V w = (-1002, V) := by unfold sp_sign; rw [if_neg g]
    rw [e] at h
    exact b179_9 (fun z => absurd rfl z) (fun _ => b179_12 (h σ hM q_eqx.rf))
theorem m_clear (hM : q_M V σ) (h : ∀ τ, q_M (sp_clear V).2 τ → q_eqx q_mc σ τ → Q (some (.int (sp_clear V).1)) τ) : Cw (d + 1) 180 [.ref 9] σ Q := by
  refine e180 (b180_0 (b180_10 ?_))
  rw [hM.2.2.2.2.2.2.2.1.1]
  exact h _ (hM.sg (fun a ha hb => q_uc (by omega)) (fun i hi => q_u9n hi) ⟨q_u9, fun k hk => absurd hk (Nat.not_lt_zero _)⟩) (q_eqx.uI (Or.inl rfl))
theorem m_fault (hM : q_M V σ) (h : Q (some (.int (v_fa V))) σ) : Cw (d + 1) 194 [.ref 9] σ Q := by
  refine e194 (b194_0 ?_)
  rw [hM.2.2.2.2.2.2.2.2.2]
  exact h
theorem m_rule {k : Int32} (hM : q_M V σ) (h : Q (some (.int (sp_rule V k).1)) σ) : Cw (d + 2) 195 [.ref 9, .int k] σ Q := by
  refine e195 (b195_0 (m_inI (a' := 0) (b' := 4) (by decide) (by decide) (fun g1 g2 => ?_) (fun g => ?_)))
  · have e : (sp_rule V k).1 = v_ru V k.toNatClampNeg := by unfold sp_rule; rw [if_pos ⟨g1, g2⟩]
    rw [e] at h
    have hk := q_nat (x := k) (a := 0) (b := 4) ⟨g1, g2⟩ (by decide)
    obtain ⟨hin, hcl⟩ := q_lt (j := k.toInt.toNat) (N := 5) (by omega) (by decide)
    rw [← hk] at hin hcl
    refine b195_9 (fun z => absurd z (by decide)) (fun _ => b195_12 hin (b195_24 ?_))
    rw [hM.2.2.2.2.2.2.1 _ (by rw [hcl]; omega)]
    exact h
  · have e : (sp_rule V k).1 = -1002 := by unfold sp_rule; rw [if_neg g]
    rw [e] at h
    exact b195_9 (fun _ => b195_21 (b195_24 h)) (fun z => absurd rfl z)
theorem m_letter {w e n : Int32} (hV : q_wf V) (hM : q_M V σ) (h : ∀ τ, q_M (sp_letter V w e n).2 τ → q_eqx q_mc σ τ → Q (some (.int (sp_letter V w e n).1)) τ) : Cw (d + 3) 131 [.ref 9, .int w, .int e, .int n] σ Q := by
  have hn := hV.1
  have key : (n = -1 ∨ q_has V n) → Wp (d + 2) tb_131 17 [.ref 9, .int w, .int e, .int n] [] σ Q := by
    intro hna
    have bad : ¬ (q_in w 0 9 ∧ q_in e (-1) 9999) → Wp (d + 2) tb_131 43 [.ref 9, .int w, .int e, .int n] [] σ Q := by
      intro hb
      have es : sp_letter V w e n = (-1002, V) := by unfold sp_letter; rw [if_pos hna, if_neg hb]
      rw [es] at h
      exact b131_43 (h σ hM q_eqx.rf)
    refine b131_17 (m_inI (a' := 0) (b' := 9) (by decide) (by decide) (fun g1 g2 => ?_) (fun g => ?_))
    · refine b131_26 (fun z => absurd z (by decide)) (fun _ => b131_29 (m_inI (a' := -1) (b' := 9999) (by decide) (by decide) (fun g3 g4 => ?_) (fun g => ?_)))
      · refine b131_40 (fun _ => ?_) (fun z => absurd (by decide) z)
        have hok : q_in w 0 9 ∧ q_in e (-1) 9999 := ⟨⟨g1, g2⟩, ⟨g3, g4⟩⟩
        by_cases h40 : v_n V = 40
        · have es : sp_letter V w e n = (-1004, V) := by unfold sp_letter; rw [if_pos hna, if_pos hok, if_pos h40]
          rw [es] at h
          exact b131_47 (fun z => absurd (by rw [hM.1, h40]; rfl) z) (fun _ => b131_56 (h σ hM q_eqx.rf))
        · have es : sp_letter V w e n = (nI (v_n V), vs_let V w e n) := by unfold sp_letter; rw [if_pos hna, if_pos hok, if_neg h40]
          rw [es] at h
          have hne : ¬ σ.1 9 1 = (40 : Int32) := by
            rw [hM.1]
            exact fun z => h40 ((nI_eq (by omega) (by decide)).mp z)
          obtain ⟨hin, hcl⟩ := q_lt (j := v_n V) (N := 40) (by omega) (by decide)
          have c0 := hM.1
          refine b131_47 (fun _ => ?_) (fun z => absurd hne z)
          refine b131_60 (by rw [c0]; exact hin) ?_
          rw [c0, hcl]
          have c1 : (px_uI σ 38 (v_n V) w).1 9 1 = nI (v_n V) := by rw [q_uc (by decide)]; exact c0
          refine b131_70 (by rw [c1]; exact hin) ?_
          rw [c1, hcl]
          have c2 : (px_uI (px_uI σ 38 (v_n V) w) 39 (v_n V) e).1 9 1 = nI (v_n V) := by rw [q_uc (by decide)]; exact c1
          refine b131_80 (by rw [c2]; exact hin) ?_
          rw [c2, hcl]
          have c3 : (px_uI (px_uI (px_uI σ 38 (v_n V) w) 39 (v_n V) e) 40 (v_n V) n).1 9 1 = nI (v_n V) := by rw [q_uc (by decide)]; exact c2
          refine b131_90 (by rw [c3]; exact hin) ?_
          rw [c3, hcl]
          have c4 : (px_uI (px_uI (px_uI (px_uI σ 38 (v_n V) w) 39 (v_n V) e) 40 (v_n V) n) 41 (v_n V) 0).1 9 1 = nI (v_n V) := by rw [q_uc (by decide)]; exact c3
          refine b131_100 (by rw [c4]; exact hin) ?_
          rw [c4, hcl]
          have c5 : (px_uI (px_uI (px_uI (px_uI (px_uI σ 38 (v_n V) w) 39 (v_n V) e) 40 (v_n V) n) 41 (v_n V) 0) 42 (v_n V) 0).1 9 1 = nI (v_n V) := by rw [q_uc (by decide)]; exact c4
          refine b131_110 ?_
          rw [c5, nI_1]
          refine b131_120 ?_
          rw [q_u9, nI_pred]
          refine h _ ?_ (((((((q_eqx.uI (S := q_mc) (Or.inr (by decide))).tr (q_eqx.uI (Or.inr (by decide)))).tr (q_eqx.uI (Or.inr (by decide)))).tr (q_eqx.uI (Or.inr (by decide)))).tr (q_eqx.uI (Or.inr (by decide)))).tr (q_eqx.uI (Or.inl rfl))))
          refine hM.lets (fun a ha => ?_) ?_ (fun j hj => ?_) (fun x hx => ?_) q_u9 ?_
          · rw [q_uc (by omega), q_uc (by omega), q_uc (by omega), q_uc (by omega), q_uc (by omega), q_uc (by omega)]
          · rw [q_uc (by decide), q_uc (by decide), q_uc (by decide), q_uc (by decide), q_uc (by decide), q_uc (by decide)]
          · rw [q_u9n hj, q_uc (by decide), q_uc (by decide), q_uc (by decide), q_uc (by decide), q_uc (by decide)]
          · have hxn : x ≠ v_n V := by omega
            simp [q_u, hxn]
          · simp [q_u]
      · exact b131_40 (fun z => absurd rfl z) (fun _ => bad (fun z => g z.2))
    · exact b131_26 (fun _ => bad (fun z => g z.1)) (fun z => absurd rfl z)
  refine e131 (b131_0 (fun hz => key (Or.inl hz)) (fun hz => b131_5 (m_noLetter hV hM (fun j hj ej => ?_) (fun hno => ?_))))
  · exact b131_10 (fun _ => key (Or.inr (by rw [ej]; exact q_has_nI hn hj))) (fun z => absurd rfl z)
  · have hh : ¬ (n = -1 ∨ q_has V n) := fun z => by
      rcases z with z | z
      · exact hz z
      · obtain ⟨j, h1, h2⟩ := q_has_of z; exact hno j h1 h2
    have es : sp_letter V w e n = (-1001, V) := by unfold sp_letter; rw [if_neg hh]
    rw [es] at h
    exact b131_10 (fun z => absurd z (by decide)) (fun _ => b131_13 (h σ hM q_eqx.rf))
end QS
