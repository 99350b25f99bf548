/-! ===== THE VIEW: letters, lines, texts, rules: what both sides hold ===== -/
/-- letters; writer, day, names; lines of a letter; taken; depth and text of a spot (14 x + l); draft; known; rules; signs; bytes; fault -/
abbrev QV : Type := Nat × (Nat → Int32) × (Nat → Int32) × (Nat → Int32) × (Nat → Nat) × (Nat → Bool) × (Nat → Nat) × (Nat → List Nat) × List Nat × Int32 × (Nat → Int32) × List Nat × List Nat × Int32
abbrev v_n (V : QV) : Nat := V.1
abbrev v_wr (V : QV) : Nat → Int32 := V.2.1
abbrev v_dy (V : QV) : Nat → Int32 := V.2.2.1
abbrev v_nm (V : QV) : Nat → Int32 := V.2.2.2.1
abbrev v_sz (V : QV) : Nat → Nat := V.2.2.2.2.1
abbrev v_tk (V : QV) : Nat → Bool := V.2.2.2.2.2.1
abbrev v_dp (V : QV) : Nat → Nat := V.2.2.2.2.2.2.1
abbrev v_tx (V : QV) : Nat → List Nat := V.2.2.2.2.2.2.2.1
abbrev v_dr (V : QV) : List Nat := V.2.2.2.2.2.2.2.2.1
abbrev v_kn (V : QV) : Int32 := V.2.2.2.2.2.2.2.2.2.1
abbrev v_ru (V : QV) : Nat → Int32 := V.2.2.2.2.2.2.2.2.2.2.1
abbrev v_sg (V : QV) : List Nat := V.2.2.2.2.2.2.2.2.2.2.2.1
abbrev v_by (V : QV) : List Nat := V.2.2.2.2.2.2.2.2.2.2.2.2.1
abbrev v_fa (V : QV) : Int32 := V.2.2.2.2.2.2.2.2.2.2.2.2.2
def q_words (t : List Nat) : Prop := t.length ≤ 8 ∧ ∀ w ∈ t, 1 ≤ w ∧ w ≤ 63
/-- what is always true of a view -/
def q_wf (V : QV) : Prop :=
  v_n V ≤ 40 ∧ (∀ x, x < v_n V → v_sz V x ≤ 14 ∧ (∃ w, w ≤ 9 ∧ v_wr V x = nI w) ∧ (v_dy V x = -1 ∨ ∃ e, e ≤ 9999 ∧ v_dy V x = nI e) ∧ (v_nm V x = -1 ∨ ∃ y, y < x ∧ v_nm V x = nI y)) ∧
  (∀ x l, x < v_n V → l < v_sz V x → v_dp V (14 * x + l) ≤ 5 ∧ q_words (v_tx V (14 * x + l))) ∧ q_words (v_dr V) ∧ (v_kn V = -1 ∨ ∃ k, k ≤ v_n V ∧ v_kn V = nI k) ∧
  ((∃ a, a ≤ 2 ∧ v_ru V 0 = nI a) ∧ (∃ a, a ≤ 100 ∧ v_ru V 1 = nI a) ∧ (v_ru V 2 = 0 ∨ v_ru V 2 = 1) ∧ (∃ a, a ≤ 14 ∧ v_ru V 3 = nI a) ∧ ∃ a, a ≤ 5 ∧ v_ru V 4 = nI a) ∧
  ((v_sg V).length ≤ 4 ∧ ∀ w ∈ v_sg V, w ≤ 63) ∧ ((v_by V).length ≤ 120 ∧ ∀ w ∈ v_by V, w ≤ 255)
/-- the reference holds the view; a: the letter that is held to be put back (-1) -/
def q_Ma (V : QV) (a : Int32) (σ : px_S) : Prop :=
  σ.1 9 1 = nI (v_n V) ∧ (∀ x, x < v_n V → σ.1 38 x = v_wr V x ∧ σ.1 39 x = v_dy V x ∧ σ.1 40 x = v_nm V x ∧ σ.1 41 x = nI (v_sz V x) ∧ σ.1 42 x = (if v_tk V x then 1 else 0)) ∧
  (∀ x l, x < v_n V → l < v_sz V x → σ.1 43 (14 * x + l) = nI (v_dp V (14 * x + l)) ∧ σ.1 44 (14 * x + l) = nI (v_tx V (14 * x + l)).length ∧ ∀ k, k < (v_tx V (14 * x + l)).length → σ.1 45 (8 * (14 * x + l) + k) = nI ((v_tx V (14 * x + l)).getD k 0)) ∧
  (σ.1 9 10 = nI (v_dr V).length ∧ ∀ k, k < (v_dr V).length → σ.1 46 k = nI ((v_dr V).getD k 0)) ∧ σ.1 9 12 = v_kn V ∧ σ.1 9 13 = a ∧ (∀ k, k < 5 → σ.1 37 k = v_ru V k) ∧
  (σ.1 9 26 = nI (v_sg V).length ∧ ∀ k, k < (v_sg V).length → σ.1 56 k = nI ((v_sg V).getD k 0)) ∧ (σ.1 9 29 = nI (v_by V).length ∧ ∀ k, k < (v_by V).length → σ.1 57 k = nI ((v_by V).getD k 0)) ∧ σ.1 9 32 = v_fa V
abbrev q_M (V : QV) (σ : px_S) : Prop := q_Ma V (-1) σ
/-- which cells of ints a method of the reference leaves: all but those of S; longs and counters stay -/
def q_eqx (S : Nat → Prop) (σ τ : px_S) : Prop := τ.2 = σ.2 ∧ ∀ k, ¬ S k → τ.1 k = σ.1 k
theorem q_eqx.rf {S : Nat → Prop} {σ : px_S} : q_eqx S σ σ := ⟨rfl, fun _ _ => rfl⟩
theorem q_eqx.tr {S : Nat → Prop} {σ τ υ : px_S} (h1 : q_eqx S σ τ) (h2 : q_eqx S τ υ) : q_eqx S σ υ := ⟨h2.1.trans h1.1, fun k hk => (h2.2 k hk).trans (h1.2 k hk)⟩
theorem q_eqx.mono {S T : Nat → Prop} {σ τ : px_S} (h : q_eqx S σ τ) (hST : ∀ k, S k → T k) : q_eqx T σ τ := ⟨h.1, fun k hk => h.2 k (fun z => hk (hST k z))⟩
theorem q_eqx.uI {S : Nat → Prop} {σ : px_S} {k j : Nat} {x : Int32} (hk : S k) : q_eqx S σ (px_uI σ k j x) := ⟨rfl, fun a ha => by simp only [px_uI]; rw [if_neg (fun e => ha (by rw [e]; exact hk))]⟩
/-- the reference's scratch: rows that are made anew at each use -/
def q_scr (k : Nat) : Prop := k = 47 ∨ k = 48 ∨ k = 49 ∨ k = 50 ∨ k = 51 ∨ k = 52 ∨ k = 53 ∨ k = 54 ∨ k = 55 ∨ k = 58
theorem q_Ma.eqx {V : QV} {a : Int32} {σ τ : px_S} (h : q_Ma V a σ) (he : q_eqx q_scr σ τ) : q_Ma V a τ := by
  obtain ⟨-, he⟩ := he
  have e9 := he 9 (by unfold q_scr; omega)
  have e37 := he 37 (by unfold q_scr; omega)
  have e38 := he 38 (by unfold q_scr; omega)
  have e39 := he 39 (by unfold q_scr; omega)
  have e40 := he 40 (by unfold q_scr; omega)
  have e41 := he 41 (by unfold q_scr; omega)
  have e42 := he 42 (by unfold q_scr; omega)
  have e43 := he 43 (by unfold q_scr; omega)
  have e44 := he 44 (by unfold q_scr; omega)
  have e45 := he 45 (by unfold q_scr; omega)
  have e46 := he 46 (by unfold q_scr; omega)
  have e56 := he 56 (by unfold q_scr; omega)
  have e57 := he 57 (by unfold q_scr; omega)
  unfold q_Ma
  rw [e9, e37, e38, e39, e40, e41, e42, e43, e44, e45, e46, e56, e57]
  exact h
/-! ===== ints: what the comparisons say ===== -/
theorem q_i64 (x : Int32) : x.toInt64.toInt = x.toInt := Int32.toInt_toInt64 x
theorem q_m1 {n : Nat} (h : n < 2 ^ 31) : (nI n - 1).toInt = (n : Int) - 1 := by
  rcases n with _ | n
  · decide
  · rw [nI_pred, nI_toInt (by omega)]; omega
theorem q_ofInt {x : Int32} {n : Nat} (h : x.toInt = (n : Int)) : x = nI n := by
  have h1 : x.toInt < 2 ^ 31 := Int32.toInt_lt x
  have h2 : n < 2 ^ 31 := by omega
  apply Int32.toInt_inj.mp
  rw [nI_toInt h2]
  exact h
theorem q_sel {p : Prop} [Decidable p] {a b : Int32} : (if p then a else b) = (if p then a else b) := rfl
/-! ===== the reference's leaves ===== -/
section QL
variable {d : Nat} {Q : Option Value → px_S → Prop} {σ : px_S}
theorem m_in {v a b : Int64} (h1 : a.toInt ≤ v.toInt → v.toInt ≤ b.toInt → Q (some (.int 1)) σ) (h0 : ¬ (a.toInt ≤ v.toInt ∧ v.toInt ≤ b.toInt) → Q (some (.int 0)) σ) : Cw (d + 1) 130 [.long v, .long a, .long b] σ Q := by
  refine e130 (b130_0 (fun h => ?_) (fun h => b130_6 (fun g => ?_) (fun g => ?_)))
  · rw [lg_cmp_lt, Int64.lt_iff_toInt_lt] at h
    exact b130_17 (b130_18 (Or.inl rfl) (h0 (by omega)))
  · rw [lg_cmp_gt, Int64.lt_iff_toInt_lt] at g
    exact b130_17 (b130_18 (Or.inl rfl) (h0 (by omega)))
  · rw [lg_cmp_lt, Int64.lt_iff_toInt_lt] at h
    rw [lg_cmp_gt, Int64.lt_iff_toInt_lt] at g
    exact b130_13 (b130_18 (Or.inr rfl) (h1 (by omega) (by omega)))
/-- in, of an int -/
theorem m_inI {x : Int32} {a b : Int64} {a' b' : Int} (ha : a.toInt = a') (hb : b.toInt = b') (h1 : a' ≤ x.toInt → x.toInt ≤ b' → Q (some (.int 1)) σ) (h0 : ¬ (a' ≤ x.toInt ∧ x.toInt ≤ b') → Q (some (.int 0)) σ) : Cw (d + 1) 130 [.long x.toInt64, .long a, .long b] σ Q := by
  subst ha; subst hb
  exact m_in (by rw [q_i64]; exact h1) (by rw [q_i64]; exact h0)
theorem m_one {x : Int32} (h : Q (some (.int (if x = 0 then 0 else 1))) σ) : Cw (d + 1) 135 [.int x] σ Q := by
  refine e135 (b135_0 (fun hx => ?_) (fun hx => ?_))
  · rw [if_pos hx] at h; exact b135_8 (b135_9 h)
  · rw [if_neg hx] at h; exact b135_4 (b135_9 h)
theorem m_noLetter {V : QV} {a x : Int32} (hV : q_wf V) (hM : q_Ma V a σ) (h0 : ∀ j, j < v_n V → x = nI j → Q (some (.int 0)) σ) (h1 : (∀ j, j < v_n V → ¬ x = nI j) → Q (some (.int 1)) σ) : Cw (d + 2) 132 [.ref 9, .int x] σ Q := by
  have hn := hV.1
  refine e132 (b132_0 (m_inI (a' := 0) (b' := (v_n V : Int) - 1) (by decide) (by rw [q_i64, hM.1]; exact q_m1 (by omega)) (fun g1 g2 => ?_) (fun g => ?_)))
  · obtain ⟨j, hj⟩ : ∃ j : Nat, x.toInt = (j : Int) := ⟨x.toInt.toNat, by omega⟩
    exact b132_13 (fun _ => b132_20 (b132_21 (Or.inl rfl) (h0 j (by omega) (q_ofInt hj)))) (fun z => absurd (by decide) z)
  · refine b132_13 (fun z => absurd rfl z) (fun _ => b132_16 (b132_21 (Or.inr rfl) (h1 (fun j hj e => g ?_))))
    rw [e, nI_toInt (by omega)]
    omega
end QL
