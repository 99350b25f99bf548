/-! ===== a call keeps what is always true of a view; the start ===== -/
section WF
variable {V : QV}
theorem wf_dr {t : List Nat} (hV : q_wf V) (ht : q_words t) : q_wf (vs_dr V t) := ⟨hV.1, hV.2.1, hV.2.2.1, ht, hV.2.2.2.2⟩
theorem wf_tk {f : Nat → Bool} (hV : q_wf V) : q_wf (vs_tk V f) := ⟨hV.1, hV.2.1, hV.2.2.1, hV.2.2.2.1, hV.2.2.2.2⟩
theorem wf_word {w : Int32} (hV : q_wf V) : q_wf (sp_word V w).2 := by
  unfold sp_word
  by_cases h : q_in w 1 63
  · rw [if_pos h]
    by_cases h8 : (v_dr V).length = 8
    · rw [if_pos h8]; exact hV
    · rw [if_neg h8]
      have hl := hV.2.2.2.1.1
      have h1 := h.1; have h2 := h.2
      exact wf_dr hV (k_pn_ap hV.2.2.2.1 (by omega) (by omega) (by omega))
  · rw [if_neg h]; exact hV
theorem wf_take {x : Int32} (hV : q_wf V) : q_wf (sp_take V x).2 := by
  unfold sp_take
  split
  · split
    · exact hV
    · exact wf_tk hV
  · exact hV
theorem wf_put {x : Int32} (hV : q_wf V) : q_wf (sp_put V x).2 := by
  unfold sp_put
  split
  · split
    · exact wf_tk hV
    · exact hV
  · exact hV
theorem wf_known {k : Int32} (hV : q_wf V) : q_wf (sp_known V k).2 := by
  unfold sp_known
  by_cases h : q_in k (-1) (v_n V)
  · rw [if_pos h]
    refine ⟨hV.1, hV.2.1, hV.2.2.1, hV.2.2.2.1, ?_, hV.2.2.2.2.2⟩
    show k = -1 ∨ ∃ j, j ≤ v_n V ∧ k = nI j
    have h1 := h.1; have h2 := h.2
    by_cases hk : k.toInt = -1
    · exact Or.inl ((q_tI k (-1) (n := -1) (by decide)).mpr hk)
    · exact Or.inr ⟨k.toInt.toNat, by omega, q_ofInt (by omega)⟩
  · rw [if_neg h]; exact hV
theorem wf_sign {w : Int32} (hV : q_wf V) : q_wf (sp_sign V w).2 := by
  unfold sp_sign
  by_cases h : q_in w 0 63
  · rw [if_pos h]
    by_cases h4 : (v_sg V).length = 4
    · rw [if_pos h4]; exact hV
    · rw [if_neg h4]
      have h1 := h.1; have h2 := h.2
      obtain ⟨s1, s2⟩ := hV.2.2.2.2.2.2.1
      refine ⟨hV.1, hV.2.1, hV.2.2.1, hV.2.2.2.1, hV.2.2.2.2.1, hV.2.2.2.2.2.1, ⟨?_, fun x hx => ?_⟩, hV.2.2.2.2.2.2.2⟩
      · show (v_sg V ++ [w.toInt.toNat]).length ≤ 4
        simp; omega
      · have hx : x ∈ v_sg V ++ [w.toInt.toNat] := hx
        rw [List.mem_append] at hx
        rcases hx with hx | hx
        · exact s2 x hx
        · rw [List.mem_singleton] at hx; omega
  · rw [if_neg h]; exact hV
theorem wf_clear (hV : q_wf V) : q_wf (sp_clear V).2 := ⟨hV.1, hV.2.1, hV.2.2.1, hV.2.2.2.1, hV.2.2.2.2.1, hV.2.2.2.2.2.1, ⟨Nat.zero_le _, fun x hx => by cases hx⟩, hV.2.2.2.2.2.2.2⟩
theorem wf_letter {w e n : Int32} (hV : q_wf V) : q_wf (sp_letter V w e n).2 := by
  have hn := hV.1
  unfold sp_letter
  by_cases h1 : n = -1 ∨ q_has V n
  · rw [if_pos h1]
    by_cases h2 : q_in w 0 9 ∧ q_in e (-1) 9999
    · rw [if_pos h2]
      by_cases h3 : v_n V = 40
      · rw [if_pos h3]; exact hV
      · rw [if_neg h3]; exact hV.lets (by omega) h2.1 h2.2 h1
    · rw [if_neg h2]; exact hV
  · rw [if_neg h1]; exact hV
theorem wf_line {x e : Int32} (hV : q_wf V) : q_wf (sp_line V x e).2 := by
  have hn := hV.1
  unfold sp_line
  by_cases h1 : q_has V x
  · rw [if_pos h1]
    by_cases h2 : q_in e 0 5
    · rw [if_pos h2]
      by_cases h3 : v_sz V x.toNatClampNeg = 14
      · rw [if_pos h3]; exact hV
      · rw [if_neg h3]
        obtain ⟨j, hj, ej⟩ := q_has_of h1
        have cj : x.toNatClampNeg = j := by rw [ej]; exact nI_clamp (by omega)
        rw [cj] at h3 ⊢
        have hsz := (hV.2.1 j hj).1
        have g1 := h2.1; have g2 := h2.2
        exact wf_dr (hV.ln hj (by omega) (by omega) hV.2.2.2.1) ⟨Nat.zero_le _, fun w hw => by cases hw⟩
    · rw [if_neg h2]; exact hV
  · rw [if_neg h1]; exact hV
theorem wf_answer {x w e : Int32} (hV : q_wf V) : q_wf (sp_answer V x w e).2 := by
  have hn := hV.1
  unfold sp_answer
  by_cases h1 : q_has V x
  · rw [if_pos h1]
    obtain ⟨j, hj, ej⟩ := q_has_of h1
    have cj : x.toNatClampNeg = j := by rw [ej]; exact nI_clamp (by omega)
    have hL := wf_letter (w := w) (e := e) (n := x) hV
    by_cases h2 : (sp_letter V w e x).1 < 0
    · rw [if_pos h2]; exact hL
    · rw [if_neg h2]
      unfold sp_letter at h2 ⊢
      rw [if_pos (Or.inr h1)] at h2 ⊢
      by_cases h3 : q_in w 0 9 ∧ q_in e (-1) 9999
      · rw [if_pos h3] at h2 ⊢
        by_cases h4 : v_n V = 40
        · rw [if_pos h4] at h2; exact absurd (show (-1004 : Int32) < 0 by decide) h2
        · rw [if_neg h4, cj]
          have hVl : q_wf (vs_let V w e x) := hV.lets (by omega) h3.1 h3.2 (Or.inr h1)
          have esz : v_sz (vs_let V w e x) j = v_sz V j := va_up_ne _ _ (by omega)
          exact (q_qt_ok (x := j) (y := v_n V) hVl (Nat.lt_succ_of_lt hj) (Nat.lt_succ_self _) (by omega) (va_up_self _ _ _) (v_sz V j) (by rw [esz]; exact Nat.le_refl _)).1
      · rw [if_neg h3] at h2; exact absurd (show (-1002 : Int32) < 0 by decide) h2
  · rw [if_neg h1]; exact hV
theorem q_byte_le (y : Int64) (k : Nat) : q_byte y k ≤ 255 := by unfold q_byte; omega
theorem q_bytes_le (y : Int64) : ∀ n w, w ∈ q_bytes y n → w ≤ 255
  | 0, w, h => by cases h
  | n + 1, w, h => by
    rw [q_bytes, List.mem_cons] at h
    rcases h with h | h
    · rw [h]; exact q_byte_le y n
    · exact q_bytes_le y n w h
theorem wf_feed {n : Int32} {y : Int64} (hV : q_wf V) : q_wf (sp_feed V n y).2 := by
  unfold sp_feed
  by_cases h : q_in n 1 8
  · rw [if_pos h]
    by_cases h2 : 120 < (v_by V).length + n.toInt.toNat
    · rw [if_pos h2]; exact hV
    · rw [if_neg h2]
      refine ⟨hV.1, hV.2.1, hV.2.2.1, hV.2.2.2.1, hV.2.2.2.2.1, hV.2.2.2.2.2.1, hV.2.2.2.2.2.2.1, ⟨?_, fun x hx => ?_⟩⟩
      · show (v_by V ++ q_bytes y n.toInt.toNat).length ≤ 120
        rw [List.length_append, q_bytes_len]; omega
      · have hx : x ∈ v_by V ++ q_bytes y n.toInt.toNat := hx
        rw [List.mem_append] at hx
        rcases hx with hx | hx
        · exact hV.2.2.2.2.2.2.2.2 x hx
        · exact q_bytes_le y _ x hx
  · rw [if_neg h]; exact hV
theorem wf_read (hV : q_wf V) : q_wf (sp_read V).2 := by
  unfold sp_read
  cases hc : q_clauses (v_by V) 121 0 0 q_r0 0 with
  | inl x => exact ⟨hV.1, hV.2.1, hV.2.2.1, hV.2.2.2.1, hV.2.2.2.2.1, hV.2.2.2.2.2.1, hV.2.2.2.2.2.2.1, ⟨Nat.zero_le _, fun x hx => by cases hx⟩⟩
  | inr y =>
    have hr := q_clauses_ok _ _ _ _ _ _ q_okr_0 hc
    refine ⟨hV.1, hV.2.1, hV.2.2.1, hV.2.2.2.1, hV.2.2.2.2.1, ⟨hr 0 (by decide), hr 1 (by decide), ?_, hr 3 (by decide), hr 4 (by decide)⟩, hV.2.2.2.2.2.2.1, ⟨Nat.zero_le _, fun x hx => by cases hx⟩⟩
    show y.2 2 = 0 ∨ y.2 2 = 1
    obtain ⟨v, h1, h2⟩ := hr 2 (by decide)
    have h1 : v ≤ 1 := h1
    have : v = 0 ∨ v = 1 := by omega
    rcases this with rfl | rfl
    · exact Or.inl h2
    · exact Or.inr h2
end WF
def w_J (V : QV) (σ : px_S) : Prop := q_wf V ∧ q_M V σ ∧ k_I V σ ∧ q_pv σ
def w_V0 : QV := (0, fun _ => 0, fun _ => 0, fun _ => 0, fun _ => 0, fun _ => false, fun _ => 0, fun _ => [], [], -1, q_r0, [], [], -1)
theorem w_0 : w_J w_V0 px_s0 := by
  refine ⟨⟨Nat.zero_le _, fun x hx => absurd hx (Nat.not_lt_zero _), fun x l hx => absurd hx (Nat.not_lt_zero _), ⟨Nat.zero_le _, fun w hw => by cases hw⟩, Or.inl rfl, ⟨⟨0, by decide, rfl⟩, ⟨50, by decide, rfl⟩, Or.inr rfl, ⟨14, by decide, rfl⟩, ⟨5, by decide, rfl⟩⟩, ⟨Nat.zero_le _, fun w hw => by cases hw⟩, ⟨Nat.zero_le _, fun w hw => by cases hw⟩⟩, ?_, ?_, fun y _ => Or.inr ⟨0, by decide, rfl⟩⟩
  · refine ⟨rfl, fun x hx => absurd hx (Nat.not_lt_zero _), fun x l hx => absurd hx (Nat.not_lt_zero _), ⟨rfl, fun k hk => absurd hk (Nat.not_lt_zero _)⟩, rfl, rfl, fun k hk => ?_, ⟨rfl, fun k hk => absurd hk (Nat.not_lt_zero _)⟩, ⟨rfl, fun k hk => absurd hk (Nat.not_lt_zero _)⟩, rfl⟩
    have : k = 0 ∨ k = 1 ∨ k = 2 ∨ k = 3 ∨ k = 4 := by omega
    rcases this with rfl | rfl | rfl | rfl | rfl <;> rfl
  · refine ⟨⟨rfl, rfl, fun i hi => ?_, fun x hx => absurd hx (Nat.not_lt_zero _), fun x _ _ => ⟨rfl, rfl⟩, fun x l hx => absurd hx (Nat.not_lt_zero _)⟩, fun k hk => ?_, ⟨?_, rfl⟩, ⟨rfl, fun k hk => absurd hk (Nat.not_lt_zero _)⟩, ⟨rfl, fun k hk => absurd hk (Nat.not_lt_zero _), rfl⟩, fun x y hx hy => Or.inl ?_, Or.inl rfl, Or.inl rfl, Or.inl rfl, ⟨fun i => rfl, Or.inl rfl, Nat.zero_le _, Nat.zero_le _⟩⟩
    · show lb 0 i = (decide (i < 0) && false)
      rw [q_set.zero i hi]; simp
    · show va_cpy px_FR (fun _ => 0) 0 0 5 k = q_r0 k
      have : k = 0 ∨ k = 1 ∨ k = 2 ∨ k = 3 ∨ k = 4 := by omega
      rcases this with rfl | rfl | rfl | rfl | rfl <;> rfl
    · show (0 : Int64) = lN (q_pn [])
      rfl
    · show px_fl (-1) 1600 (fun _ => 0) (40 * x + y) = -1
      unfold px_fl; rw [if_pos (by omega)]
