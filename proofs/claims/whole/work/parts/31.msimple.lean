/-! ===== simple calls: what they answer and do to the view; the reference ===== -/
def vs_dr (V : QV) (t : List Nat) : QV := (V.1, V.2.1, V.2.2.1, V.2.2.2.1, V.2.2.2.2.1, V.2.2.2.2.2.1, V.2.2.2.2.2.2.1, V.2.2.2.2.2.2.2.1, t, V.2.2.2.2.2.2.2.2.2)
def vs_tk (V : QV) (f : Nat → Bool) : QV := (V.1, V.2.1, V.2.2.1, V.2.2.2.1, V.2.2.2.2.1, f, V.2.2.2.2.2.2)
def vs_kn (V : QV) (k : Int32) : QV := (V.1, V.2.1, V.2.2.1, V.2.2.2.1, V.2.2.2.2.1, V.2.2.2.2.2.1, V.2.2.2.2.2.2.1, V.2.2.2.2.2.2.2.1, V.2.2.2.2.2.2.2.2.1, k, V.2.2.2.2.2.2.2.2.2.2)
def vs_sg (V : QV) (t : List Nat) : QV := (V.1, V.2.1, V.2.2.1, V.2.2.2.1, V.2.2.2.2.1, V.2.2.2.2.2.1, V.2.2.2.2.2.2.1, V.2.2.2.2.2.2.2.1, V.2.2.2.2.2.2.2.2.1, V.2.2.2.2.2.2.2.2.2.1, V.2.2.2.2.2.2.2.2.2.2.1, t, V.2.2.2.2.2.2.2.2.2.2.2.2)
/-- a letter more -/
def vs_let (V : QV) (w e n : Int32) : QV := (V.1 + 1, upd (v_wr V) (v_n V) w, upd (v_dy V) (v_n V) e, upd (v_nm V) (v_n V) n, va_up (v_sz V) (v_n V) 0, va_up (v_tk V) (v_n V) false, V.2.2.2.2.2.2)
abbrev q_in (x : Int32) (a b : Int) : Prop := a ≤ x.toInt ∧ x.toInt ≤ b
abbrev q_has (V : QV) (x : Int32) : Prop := 0 ≤ x.toInt ∧ x.toInt < (v_n V : Int)
theorem q_has_of {V : QV} {x : Int32} (h : q_has V x) : ∃ j, j < v_n V ∧ x = nI j := ⟨x.toInt.toNat, by omega, q_ofInt (by omega)⟩
theorem q_has_nI {V : QV} {j : Nat} (hV : v_n V ≤ 40) (h : j < v_n V) : q_has V (nI j) := by unfold q_has; rw [nI_toInt (by omega)]; omega
def sp_word (V : QV) (w : Int32) : Int32 × QV := if q_in w 1 63 then (if (v_dr V).length = 8 then (-1004, V) else (nI ((v_dr V).length + 1), vs_dr V (v_dr V ++ [w.toInt.toNat]))) else (-1002, V)
def sp_take (V : QV) (x : Int32) : Int32 × QV := if q_has V x then (if v_tk V x.toNatClampNeg = true then (-1003, V) else (1, vs_tk V (va_up (v_tk V) x.toNatClampNeg true))) else (-1001, V)
def sp_put (V : QV) (x : Int32) : Int32 × QV := if q_has V x then (if v_tk V x.toNatClampNeg = true then (1, vs_tk V (va_up (v_tk V) x.toNatClampNeg false)) else (-1003, V)) else (-1001, V)
def sp_known (V : QV) (k : Int32) : Int32 × QV := if q_in k (-1) (v_n V) then (k, vs_kn V k) else (-1002, V)
def sp_sign (V : QV) (w : Int32) : Int32 × QV := if q_in w 0 63 then (if (v_sg V).length = 4 then (-1004, V) else (nI ((v_sg V).length + 1), vs_sg V (v_sg V ++ [w.toInt.toNat]))) else (-1002, V)
def sp_clear (V : QV) : Int32 × QV := (nI (v_sg V).length, vs_sg V [])
def sp_rule (V : QV) (k : Int32) : Int32 × QV := (if q_in k 0 4 then v_ru V k.toNatClampNeg else -1002, V)
def sp_letter (V : QV) (w e n : Int32) : Int32 × QV := if n = -1 ∨ q_has V n then (if q_in w 0 9 ∧ q_in e (-1) 9999 then (if v_n V = 40 then (-1004, V) else (nI (v_n V), vs_let V w e n)) else (-1002, V)) else (-1001, V)
theorem q_u (σ : px_S) (k j : Nat) (x : Int32) (a b : Nat) : (px_uI σ k j x).1 a b = if a = k ∧ b = j then x else σ.1 a b := by
  unfold px_uI upd
  by_cases h : a = k
  · subst h; by_cases h2 : b = j <;> simp [h2]
  · simp [h]
theorem q_uc {σ : px_S} {k j : Nat} {x : Int32} {a : Nat} (h : a ≠ k) : (px_uI σ k j x).1 a = σ.1 a := by simp [px_uI, h]
/-- the reference's own cells -/
def q_mc (k : Nat) : Prop := k = 9 ∨ (37 ≤ k ∧ k ≠ 49)
theorem q_nat {x : Int32} {a b : Int} (h : q_in x a b) (ha : 0 ≤ a) : x = nI x.toInt.toNat := q_ofInt (by have := h.1; omega)
theorem q_lt {j : Nat} {N : Nat} (h : j < N) (hN : N < 2 ^ 31) : vp_in (nI j) N ∧ (nI j).toNatClampNeg = j := ⟨vp_in_nI h hN, nI_clamp (by omega)⟩
theorem q_getD_app {t : List Nat} {w k : Nat} (hk : k < (t ++ [w]).length) : (t ++ [w]).getD k 0 = if k = t.length then w else t.getD k 0 := by
  rw [List.getD_eq_getElem?_getD, List.getD_eq_getElem?_getD]
  simp only [List.length_append, List.length_cons, List.length_nil] at hk
  by_cases h : k = t.length
  · subst h; simp
  · rw [if_neg h, List.getElem?_append_left (by omega)]
/-! the reference's view, a part of it changed: the other cells are as they were -/
theorem q_M.dr {V : QV} {σ τ : px_S} {t : List Nat} (h : q_M V σ) (ha : ∀ a, 37 ≤ a → a ≠ 46 → τ.1 a = σ.1 a) (h9 : ∀ j, j ≠ 10 → τ.1 9 j = σ.1 9 j) (hn : τ.1 9 10 = nI t.length ∧ ∀ k, k < t.length → τ.1 46 k = nI (t.getD k 0)) : q_M (vs_dr V t) τ := by
  obtain ⟨h1, h2, h3, h4, h5, h6, h7, h8, h10, h11⟩ := h
  refine ⟨?_, fun x hx => ?_, fun x l hx hl => ?_, hn, ?_, ?_, fun k hk => ?_, ⟨?_, fun k hk => ?_⟩, ⟨?_, fun k hk => ?_⟩, ?_⟩
  · rw [h9 1 (by decide)]; exact h1
  · rw [ha 38 (by decide) (by decide), ha 39 (by decide) (by decide), ha 40 (by decide) (by decide), ha 41 (by decide) (by decide), ha 42 (by decide) (by decide)]; exact h2 x hx
  · rw [ha 43 (by decide) (by decide), ha 44 (by decide) (by decide), ha 45 (by decide) (by decide)]; exact h3 x l hx hl
  · rw [h9 12 (by decide)]; exact h5
  · rw [h9 13 (by decide)]; exact h6
  · rw [ha 37 (by decide) (by decide)]; exact h7 k hk
  · rw [h9 26 (by decide)]; exact h8.1
  · rw [ha 56 (by decide) (by decide)]; exact h8.2 k hk
  · rw [h9 29 (by decide)]; exact h10.1
  · rw [ha 57 (by decide) (by decide)]; exact h10.2 k hk
  · rw [h9 32 (by decide)]; exact h11
theorem q_M.tk {V : QV} {σ τ : px_S} {f : Nat → Bool} (h : q_M V σ) (ha : ∀ a, 37 ≤ a → a ≠ 42 → τ.1 a = σ.1 a) (h9 : τ.1 9 = σ.1 9) (hn : ∀ x, x < v_n V → τ.1 42 x = (if f x then 1 else 0)) : q_M (vs_tk V f) τ := by
  obtain ⟨h1, h2, h3, h4, h5, h6, h7, h8, h10, h11⟩ := h
  refine ⟨by rw [h9]; exact h1, fun x hx => ?_, fun x l hx hl => ?_, ?_, by rw [h9]; exact h5, by rw [h9]; exact h6, fun k hk => ?_, ?_, ?_, by rw [h9]; exact h11⟩
  · rw [ha 38 (by decide) (by decide), ha 39 (by decide) (by decide), ha 40 (by decide) (by decide), ha 41 (by decide) (by decide)]
    obtain ⟨g1, g2, g3, g4, -⟩ := h2 x hx
    exact ⟨g1, g2, g3, g4, hn x hx⟩
  · rw [ha 43 (by decide) (by decide), ha 44 (by decide) (by decide), ha 45 (by decide) (by decide)]; exact h3 x l hx hl
  · rw [h9, ha 46 (by decide) (by decide)]; exact h4
  · rw [ha 37 (by decide) (by decide)]; exact h7 k hk
  · rw [h9, ha 56 (by decide) (by decide)]; exact h8
  · rw [h9, ha 57 (by decide) (by decide)]; exact h10
theorem q_M.kn {V : QV} {σ τ : px_S} {k0 : Int32} (h : q_M V σ) (ha : ∀ a, 37 ≤ a → τ.1 a = σ.1 a) (h9 : ∀ j, j ≠ 12 → τ.1 9 j = σ.1 9 j) (hn : τ.1 9 12 = k0) : q_M (vs_kn V k0) τ := by
  obtain ⟨h1, h2, h3, h4, h5, h6, h7, h8, h10, h11⟩ := h
  refine ⟨?_, fun x hx => ?_, fun x l hx hl => ?_, ⟨?_, fun k hk => ?_⟩, hn, ?_, fun k hk => ?_, ⟨?_, fun k hk => ?_⟩, ⟨?_, fun k hk => ?_⟩, ?_⟩
  · rw [h9 1 (by decide)]; exact h1
  · rw [ha 38 (by decide), ha 39 (by decide), ha 40 (by decide), ha 41 (by decide), ha 42 (by decide)]; exact h2 x hx
  · rw [ha 43 (by decide), ha 44 (by decide), ha 45 (by decide)]; exact h3 x l hx hl
  · rw [h9 10 (by decide)]; exact h4.1
  · rw [ha 46 (by decide)]; exact h4.2 k hk
  · rw [h9 13 (by decide)]; exact h6
  · rw [ha 37 (by decide)]; exact h7 k hk
  · rw [h9 26 (by decide)]; exact h8.1
  · rw [ha 56 (by decide)]; exact h8.2 k hk
  · rw [h9 29 (by decide)]; exact h10.1
  · rw [ha 57 (by decide)]; exact h10.2 k hk
  · rw [h9 32 (by decide)]; exact h11
theorem q_M.sg {V : QV} {σ τ : px_S} {t : List Nat} (h : q_M V σ) (ha : ∀ a, 37 ≤ a → a ≠ 56 → τ.1 a = σ.1 a) (h9 : ∀ j, j ≠ 26 → τ.1 9 j = σ.1 9 j) (hn : τ.1 9 26 = nI t.length ∧ ∀ k, k < t.length → τ.1 56 k = nI (t.getD k 0)) : q_M (vs_sg V t) τ := by
  obtain ⟨h1, h2, h3, h4, h5, h6, h7, h8, h10, h11⟩ := h
  refine ⟨?_, fun x hx => ?_, fun x l hx hl => ?_, ⟨?_, fun k hk => ?_⟩, ?_, ?_, fun k hk => ?_, hn, ⟨?_, fun k hk => ?_⟩, ?_⟩
  · rw [h9 1 (by decide)]; exact h1
  · rw [ha 38 (by decide) (by decide), ha 39 (by decide) (by decide), ha 40 (by decide) (by decide), ha 41 (by decide) (by decide), ha 42 (by decide) (by decide)]; exact h2 x hx
  · rw [ha 43 (by decide) (by decide), ha 44 (by decide) (by decide), ha 45 (by decide) (by decide)]; exact h3 x l hx hl
  · rw [h9 10 (by decide)]; exact h4.1
  · rw [ha 46 (by decide) (by decide)]; exact h4.2 k hk
  · rw [h9 12 (by decide)]; exact h5
  · rw [h9 13 (by decide)]; exact h6
  · rw [ha 37 (by decide) (by decide)]; exact h7 k hk
  · rw [h9 29 (by decide)]; exact h10.1
  · rw [ha 57 (by decide) (by decide)]; exact h10.2 k hk
  · rw [h9 32 (by decide)]; exact h11
theorem q_M.lets {V : QV} {σ τ : px_S} {w e n : Int32} (h : q_M V σ) (ha : ∀ a, 43 ≤ a → τ.1 a = σ.1 a) (h37 : τ.1 37 = σ.1 37) (h9 : ∀ j, j ≠ 1 → τ.1 9 j = σ.1 9 j) (hx : ∀ x, x < v_n V → τ.1 38 x = σ.1 38 x ∧ τ.1 39 x = σ.1 39 x ∧ τ.1 40 x = σ.1 40 x ∧ τ.1 41 x = σ.1 41 x ∧ τ.1 42 x = σ.1 42 x)
    (h1n : τ.1 9 1 = nI (v_n V + 1)) (hn : τ.1 38 (v_n V) = w ∧ τ.1 39 (v_n V) = e ∧ τ.1 40 (v_n V) = n ∧ τ.1 41 (v_n V) = 0 ∧ τ.1 42 (v_n V) = 0) : q_M (vs_let V w e n) τ := by
  obtain ⟨h1, h2, h3, h4, h5, h6, h7, h8, h10, h11⟩ := h
  have up : ∀ {α : Type} (f : Nat → α) (k x : Nat) (v : α), x ≠ k → va_up f k v x = f x := fun f k x v hxk => va_up_ne _ _ hxk
  have un : ∀ (f : Nat → Int32) (k x : Nat) (v : Int32), x ≠ k → upd f k v x = f x := fun f k x v hxk => if_neg hxk
  refine ⟨h1n, fun x hx' => ?_, fun x l hx' hl => ?_, ⟨?_, fun k hk => ?_⟩, ?_, ?_, fun k hk => ?_, ⟨?_, fun k hk => ?_⟩, ⟨?_, fun k hk => ?_⟩, ?_⟩
  · have hx1 : x < v_n V + 1 := hx'
    by_cases hxn : x = v_n V
    · subst hxn
      obtain ⟨g1, g2, g3, g4, g5⟩ := hn
      refine ⟨?_, ?_, ?_, ?_, ?_⟩
      · show _ = upd (v_wr V) (v_n V) w (v_n V); rw [g1]; exact (if_pos rfl).symm
      · show _ = upd (v_dy V) (v_n V) e (v_n V); rw [g2]; exact (if_pos rfl).symm
      · show _ = upd (v_nm V) (v_n V) n (v_n V); rw [g3]; exact (if_pos rfl).symm
      · show _ = nI (va_up (v_sz V) (v_n V) 0 (v_n V)); rw [g4, va_up_self]; rfl
      · show _ = if va_up (v_tk V) (v_n V) false (v_n V) = true then 1 else 0; rw [g5, va_up_self]; rfl
    · obtain ⟨g1, g2, g3, g4, g5⟩ := hx x (by omega)
      obtain ⟨f1, f2, f3, f4, f5⟩ := h2 x (by omega)
      refine ⟨?_, ?_, ?_, ?_, ?_⟩
      · show _ = upd (v_wr V) (v_n V) w x; rw [g1, f1, un _ _ _ _ hxn]
      · show _ = upd (v_dy V) (v_n V) e x; rw [g2, f2, un _ _ _ _ hxn]
      · show _ = upd (v_nm V) (v_n V) n x; rw [g3, f3, un _ _ _ _ hxn]
      · show _ = nI (va_up (v_sz V) (v_n V) 0 x); rw [g4, f4, up _ _ _ _ hxn]
      · show _ = if va_up (v_tk V) (v_n V) false x = true then 1 else 0; rw [g5, f5, up _ _ _ _ hxn]
  · have hx1 : x < v_n V + 1 := hx'
    have hl1 : l < va_up (v_sz V) (v_n V) 0 x := hl
    by_cases hxn : x = v_n V
    · subst hxn; rw [va_up_self] at hl1; omega
    · rw [up _ _ _ _ hxn] at hl1
      rw [ha 43 (by decide), ha 44 (by decide), ha 45 (by decide)]; exact h3 x l (by omega) hl1
  · rw [h9 10 (by decide)]; exact h4.1
  · rw [ha 46 (by decide)]; exact h4.2 k hk
  · rw [h9 12 (by decide)]; exact h5
  · rw [h9 13 (by decide)]; exact h6
  · rw [h37]; exact h7 k hk
  · rw [h9 26 (by decide)]; exact h8.1
  · rw [ha 56 (by decide)]; exact h8.2 k hk
  · rw [h9 29 (by decide)]; exact h10.1
  · rw [ha 57 (by decide)]; exact h10.2 k hk
  · rw [h9 32 (by decide)]; exact h11
theorem q_u9 {σ : px_S} {j : Nat} {x : Int32} : (px_uI σ 9 j x).1 9 j = x := by rw [q_u, if_pos ⟨rfl, rfl⟩]
theorem q_u9n {σ : px_S} {j i : Nat} {x : Int32} (h : i ≠ j) : (px_uI σ 9 j x).1 9 i = σ.1 9 i := by rw [q_u, if_neg (fun z => h z.2)]
section QS
variable {d : Nat} {Q : Option Value → px_S → Prop} {σ : px_S} {V : QV}
theorem m_word {w : Int32} (hV : q_wf V) (hM : q_M V σ) (h : ∀ τ, q_M (sp_word V w).2 τ → q_eqx q_mc σ τ → Q (some (.int (sp_word V w).1)) τ) : Cw (d + 2) 129 [.ref 9, .int w] σ Q := by
  have hl := hV.2.2.2.1.1
  refine e129 (b129_0 (m_inI (a' := 1) (b' := 63) (by decide) (by decide) (fun g1 g2 => ?_) (fun g => ?_)))
  · have hi : q_in w 1 63 := ⟨g1, g2⟩
    refine b129_9 (fun _ => ?_) (fun z => absurd (by decide) z)
    by_cases h8 : (v_dr V).length = 8
    · have e : sp_word V w = (-1004, V) := by unfold sp_word; rw [if_pos hi, if_pos h8]
      rw [e] at h
      refine b129_16 (fun z => absurd (by rw [hM.2.2.2.1.1, h8]; rfl) z) (fun _ => b129_25 (h σ hM q_eqx.rf))
    · have e : sp_word V w = (nI ((v_dr V).length + 1), vs_dr V (v_dr V ++ [w.toInt.toNat])) := by unfold sp_word; rw [if_pos hi, if_neg h8]
      rw [e] at h
      have hne : ¬ σ.1 9 10 = (8 : Int32) := by
        rw [hM.2.2.2.1.1]
        exact fun z => h8 ((nI_eq (by omega) (by decide)).mp z)
      obtain ⟨hin, hcl⟩ := q_lt (j := (v_dr V).length) (N := 8) (by omega) (by decide)
      refine b129_16 (fun _ => ?_) (fun z => absurd hne z)
      refine b129_29 (by rw [hM.2.2.2.1.1]; exact hin) (b129_39 (b129_49 ?_))
      rw [hM.2.2.2.1.1, hcl]
      have e10 : (px_uI σ 46 (v_dr V).length w).1 9 10 = nI (v_dr V).length := by rw [q_uc (by decide)]; exact hM.2.2.2.1.1
      rw [e10, nI_1]
      have er : (px_uI (px_uI σ 46 (v_dr V).length w) 9 10 (nI ((v_dr V).length + 1))).1 9 10 = nI ((v_dr V).length + 1) := by rw [q_u, if_pos ⟨rfl, rfl⟩]
      rw [er]
      refine h _ ?_ ((q_eqx.uI (S := q_mc) (Or.inr (by decide))).tr (q_eqx.uI (Or.inl rfl)))
      refine hM.dr (fun a ha hb => ?_) (fun i hi => ?_) ⟨?_, fun k hk => ?_⟩
      · rw [q_uc (by omega), q_uc hb]
      · rw [q_u9n hi, q_uc (by decide)]
      · rw [q_u9]; simp
      · rw [q_getD_app hk, q_uc (by decide), q_u]
        by_cases hkl : k = (v_dr V).length
        · rw [if_pos ⟨rfl, hkl⟩, if_pos hkl]; exact q_nat hi (by decide)
        · rw [if_neg (fun z => hkl z.2), if_neg hkl]
          exact hM.2.2.2.1.2 k (by simp at hk; omega)
  · have e : sp_word V w = (-1002, V) := by unfold sp_word; rw [if_neg g]
    rw [e] at h
    exact b129_9 (fun z => absurd rfl z) (fun _ => b129_12 (h σ hM q_eqx.rf))
end QS
