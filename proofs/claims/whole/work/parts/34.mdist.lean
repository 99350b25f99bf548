/-! ===== by how many words texts differ; the reference's whole square ===== -/
def q_D (s t : List Nat) : Nat → Nat → Nat
  | 0, j => j
  | i + 1, 0 => i + 1
  | i + 1, j + 1 => min (min (q_D s t i (j + 1) + 1) (q_D s t (i + 1) j + 1)) (q_D s t i j + if s.getD i 0 = t.getD j 0 then 0 else 1)
def q_dist (s t : List Nat) : Nat := q_D s t s.length t.length
theorem q_D_le (s t : List Nat) : ∀ i j, q_D s t i j ≤ i + j
  | 0, j => by simp [q_D]
  | i + 1, 0 => by simp [q_D]
  | i + 1, j + 1 => by
    have h1 := q_D_le s t i (j + 1)
    rw [q_D]
    omega
section QD
variable {d : Nat} {Q : Option Value → px_S → Prop} {σ : px_S} {V : QV} {a : Int32}
/-- the square up to a place -/
def q_Dinv (s t : List Nat) (m i j : Nat) (τ : px_S) : Prop := ∀ i' j', j' ≤ m → (i' < i ∨ (i' = i ∧ j' < j)) → τ.1 47 (9 * i' + j') = nI (q_D s t i' j')
theorem q_Dput {s t : List Nat} {m i j : Nat} {τ : px_S} (hm : m ≤ 8) (hj : j ≤ m) (h : q_Dinv s t m i j τ) : q_Dinv s t m i (j + 1) (px_uI τ 47 (9 * i + j) (nI (q_D s t i j))) := by
  intro i' j' hj' hlt
  rw [q_u]
  by_cases e : i' = i ∧ j' = j
  · obtain ⟨rfl, rfl⟩ := e
    rw [if_pos ⟨rfl, rfl⟩]
  · rw [if_neg (fun z => e (by omega))]
    exact h i' j' hj' (by omega)
theorem m_differBy {s t : Nat} (hV : q_wf V) (hM : q_Ma V a σ) (hs : q_sp V s) (ht : q_sp V t) (h : ∀ τ, q_eqx (fun k => k = 47) σ τ → Q (some (.int (nI (q_dist (v_tx V s) (v_tx V t))))) τ) : Cw (d + 2) 141 [.ref 9, .int (nI s), .int (nI t)] σ Q := by
  have ls := q_sp_lt hV hs
  have lt := q_sp_lt hV ht
  obtain ⟨i1, c1⟩ := q_lt (j := s) (N := 560) ls (by decide)
  obtain ⟨i2, c2⟩ := q_lt (j := t) (N := 560) lt (by decide)
  obtain ⟨-, v1⟩ := hV.sp hs
  obtain ⟨-, v2⟩ := hV.sp ht
  have n1 := v1.1
  have n2 := v2.1
  obtain ⟨S, hS⟩ : ∃ S, S = v_tx V s := ⟨_, rfl⟩
  obtain ⟨T, hT⟩ : ∃ T, T = v_tx V t := ⟨_, rfl⟩
  rw [← hS] at h n1 v1
  rw [← hT] at h n2 v2
  have rd : ∀ τ, q_eqx (fun k => k = 47) σ τ → τ.1 44 s = nI S.length ∧ τ.1 44 t = nI T.length ∧ (∀ k, k < S.length → τ.1 45 (8 * s + k) = nI (S.getD k 0)) ∧ ∀ k, k < T.length → τ.1 45 (8 * t + k) = nI (T.getD k 0) := by
    intro τ he
    obtain ⟨-, m1, w1⟩ := hM.sp hs
    obtain ⟨-, m2, w2⟩ := hM.sp ht
    rw [he.2 44 (by decide), he.2 45 (by decide), hS, hT]
    exact ⟨m1, m2, w1, w2⟩
  -- a place of the square
  have place : ∀ (i j : Nat) (τ : px_S) (v5 v6 v7 v8 : Value), i ≤ S.length → j ≤ T.length → q_eqx (fun k => k = 47) σ τ → q_Dinv S T T.length i j τ → px_nc v8 = true →
      (∀ (τ' : px_S) (v5 : Int32) (v6 v7 v8 : Value), q_eqx (fun k => k = 47) σ τ' → q_Dinv S T T.length i (j + 1) τ' → px_nc v8 = true → Wp (d + 1) tb_141 15 [.ref 9, .int (nI s), .int (nI t), .int (nI i), .int (nI (j + 1)), .int v5, v6, v7, v8] [] τ' Q) →
      Wp (d + 1) tb_141 26 [.ref 9, .int (nI s), .int (nI t), .int (nI i), .int (nI j), v5, v6, v7, v8] [] τ Q := by
    intro i j τ v5 v6 v7 v8 hi hj he hI hn8 k
    obtain ⟨i3, c3⟩ := q_lt (j := 9 * i + j) (N := 81) (by omega) (by decide)
    have put : ∀ (x5 : Int32) (v6 v7 v8 : Value), x5 = nI (q_D S T i j) → px_nc v8 = true → Wp (d + 1) tb_141 166 [.ref 9, .int (nI s), .int (nI t), .int (nI i), .int (nI j), .int x5, v6, v7, v8] [] τ Q := by
      intro x5 v6 v7 v8 e5 hn
      subst e5
      refine b141_166 (by rw [q_ix9]; exact i3) (b141_180 ?_)
      rw [q_ix9, c3, nI_1]
      exact k _ _ v6 v7 v8 (he.tr (q_eqx.uI rfl)) (q_Dput n2 hj hI) hn
    match i, j, hi, hj with
    | 0, j, hi, hj =>
      refine b141_26 (fun _ => put _ v6 v7 v8 ?_ hn8) (fun z => absurd (Int32.le_refl _) z)
      rw [nI_add, Nat.zero_add, q_D]
    | i + 1, 0, hi, hj =>
      refine b141_26 (fun z => absurd z (nI_nle (by omega) (by omega))) (fun _ => b141_36 (fun _ => put _ v6 v7 v8 ?_ hn8) (fun z => absurd (Int32.le_refl _) z))
      rw [nI_add, Nat.add_zero, q_D]
    | i + 1, j + 1, hi, hj =>
      obtain ⟨-, -, w1, w2⟩ := rd τ he
      have d1 := hI i (j + 1) hj (by omega)
      have d2 := hI (i + 1) j (by omega) (by omega)
      have d3 := hI i j (by omega) (by omega)
      have l1 := q_D_le S T i (j + 1)
      have l2 := q_D_le S T (i + 1) j
      have l3 := q_D_le S T i j
      have x1 : (9 : Int32) * (nI (i + 1) - 1) + nI (j + 1) = nI (9 * i + (j + 1)) := by rw [nI_pred, q_ix9]
      have x2 : (9 : Int32) * nI (i + 1) + nI (j + 1) - 1 = nI (9 * (i + 1) + j) := by rw [q_ix9, show 9 * (i + 1) + (j + 1) = (9 * (i + 1) + j) + 1 by omega, nI_pred]
      have x3 : (9 : Int32) * (nI (i + 1) - 1) + nI (j + 1) - 1 = nI (9 * i + j) := by rw [x1, show 9 * i + (j + 1) = (9 * i + j) + 1 by omega, nI_pred]
      have x4 : (8 : Int32) * nI s + nI (i + 1) - 1 = nI (8 * s + i) := by rw [q_ix8, show 8 * s + (i + 1) = (8 * s + i) + 1 by omega, nI_pred]
      have x5 : (8 : Int32) * nI t + nI (j + 1) - 1 = nI (8 * t + j) := by rw [q_ix8, show 8 * t + (j + 1) = (8 * t + j) + 1 by omega, nI_pred]
      obtain ⟨j1, k1⟩ := q_lt (j := 9 * i + (j + 1)) (N := 81) (by omega) (by decide)
      obtain ⟨j2, k2⟩ := q_lt (j := 9 * (i + 1) + j) (N := 81) (by omega) (by decide)
      obtain ⟨j3, k3⟩ := q_lt (j := 9 * i + j) (N := 81) (by omega) (by decide)
      obtain ⟨j4, k4⟩ := q_lt (j := 8 * s + i) (N := 4480) (by omega) (by decide)
      obtain ⟨j5, k5⟩ := q_lt (j := 8 * t + j) (N := 4480) (by omega) (by decide)
      have fin : ∀ (q : Int32) (o : Nat), q = nI o → o ≤ 1 → (o = if S.getD i 0 = T.getD j 0 then 0 else 1) → Wp (d + 1) tb_141 131 [.ref 9, .int (nI s), .int (nI t), .int (nI (i + 1)), .int (nI (j + 1)), .int (nI (i + 1) + nI (j + 1)), .int (nI (q_D S T i (j + 1)) + 1), .int (nI (q_D S T (i + 1) j) + 1), v8] [.int q, .int (nI (q_D S T i j))] τ Q := by
        intro q o eq ho eo
        subst eq
        rw [nI_1, nI_1]
        have tail : ∀ b, b = min (q_D S T i (j + 1) + 1) (q_D S T (i + 1) j + 1) → Wp (d + 1) tb_141 148 [.ref 9, .int (nI s), .int (nI t), .int (nI (i + 1)), .int (nI (j + 1)), .int (nI (i + 1) + nI (j + 1)), .int (nI (q_D S T i (j + 1) + 1)), .int (nI (q_D S T (i + 1) j + 1)), .int (nI (q_D S T i j) + nI o)] [.int (nI b)] τ Q := by
          intro b hb
          rw [nI_add (q_D S T i j) o]
          refine b141_148 (fun g => b141_162 (b141_164 (put _ _ _ _ ?_ rfl))) (fun g => b141_157 (b141_164 (put _ _ _ _ ?_ rfl)))
          · have := (nI_leI (by omega) (by omega)).mp g
            rw [q_D, ← eo]
            congr 1
            omega
          · have : ¬ b ≤ q_D S T i j + o := fun z => g (nI_le z (by omega))
            rw [q_D, ← eo]
            congr 1
            omega
        refine b141_131 (fun g => b141_146 (tail _ ?_)) (fun g => b141_141 (tail _ ?_))
        · have := (nI_leI (by omega) (by omega)).mp g
          omega
        · have : ¬ q_D S T (i + 1) j + 1 ≤ q_D S T i (j + 1) + 1 := fun z => g (nI_le z (by omega))
          omega
      refine b141_26 (fun z => absurd z (nI_nle (by omega) (by omega))) (fun _ => b141_36 (fun z => absurd z (nI_nle (by omega) (by omega))) (fun _ => ?_))
      refine b141_41 (by rw [x1]; exact j1) (by rw [x2]; exact j2) (by rw [x3]; exact j3) (by rw [x4]; exact j4) (by rw [x5]; exact j5) (fun g => ?_) (fun g => ?_)
      · rw [x4, x5, k4, k5, w1 i (by omega), w2 j (by omega)] at g
        rw [x3, x1, x2, k1, k2, k3, d1, d2, d3]
        have b1 := q_word_lt v1 i
        have b2 := q_word_lt v2 j
        have e : S.getD i 0 = T.getD j 0 := (nI_eq (by omega) (by omega)).mp g
        exact b141_127 (b141_128 hn8 (m_one (fin _ 0 rfl (by omega) (by rw [if_pos e]))))
      · rw [x4, x5, k4, k5, w1 i (by omega), w2 j (by omega)] at g
        rw [x3, x1, x2, k1, k2, k3, d1, d2, d3]
        have e : ¬ S.getD i 0 = T.getD j 0 := fun z => g (by rw [z])
        exact b141_123 (b141_128 hn8 (m_one (fin _ 1 rfl (by omega) (by rw [if_neg e]))))
  -- a row
  have row : ∀ (i : Nat), i ≤ S.length → (∀ (τ' : px_S) (v4 : Int32) (v5 v6 v7 v8 : Value), q_eqx (fun k => k = 47) σ τ' → q_Dinv S T T.length (i + 1) 0 τ' → px_nc v8 = true → Wp (d + 1) tb_141 2 [.ref 9, .int (nI s), .int (nI t), .int (nI (i + 1)), .int v4, v5, v6, v7, v8] [] τ' Q) →
      ∀ (n j : Nat) (τ : px_S) (v5 v6 v7 v8 : Value), j + n = T.length + 1 → q_eqx (fun k => k = 47) σ τ → q_Dinv S T T.length i j τ → px_nc v8 = true → Wp (d + 1) tb_141 15 [.ref 9, .int (nI s), .int (nI t), .int (nI i), .int (nI j), v5, v6, v7, v8] [] τ Q := by
    intro i hi k n
    induction n with
    | zero =>
      intro j τ v5 v6 v7 v8 hj he hI hn8
      obtain ⟨-, m2, -, -⟩ := rd τ he
      refine b141_15 i2 (fun _ => b141_186 ?_) (fun z => absurd ?_ z)
      · rw [nI_1]
        refine k τ _ v5 v6 v7 v8 he (fun i' j' h1 h2 => hI i' j' h1 ?_) hn8
        omega
      · rw [c2, m2]; exact nI_lt (by omega) (by omega)
    | succ n ih =>
      intro j τ v5 v6 v7 v8 hj he hI hn8
      obtain ⟨-, m2, -, -⟩ := rd τ he
      refine b141_15 i2 (fun z => absurd z ?_) (fun _ => place i j τ v5 v6 v7 v8 hi (by omega) he hI hn8 (fun τ' v5 v6 v7 v8 he' hI' hn' => ih (j + 1) τ' _ v6 v7 v8 (by omega) he' hI' hn'))
      rw [c2, m2]; exact nI_nlt (by omega) (by omega)
  have rows : ∀ (n i : Nat) (τ : px_S) (v4 v5 v6 v7 v8 : Value), i + n = S.length + 1 → q_eqx (fun k => k = 47) σ τ → q_Dinv S T T.length i 0 τ → px_nc v8 = true → Wp (d + 1) tb_141 2 [.ref 9, .int (nI s), .int (nI t), .int (nI i), v4, v5, v6, v7, v8] [] τ Q := by
    intro n
    induction n with
    | zero =>
      intro i τ v4 v5 v6 v7 v8 hi he hI hn8
      obtain ⟨m1, m2, -, -⟩ := rd τ he
      refine b141_2 i1 (fun _ => ?_) (fun z => absurd ?_ z)
      · obtain ⟨j1, k1⟩ := q_lt (j := 9 * S.length + T.length) (N := 81) (by omega) (by decide)
        refine b141_192 i1 i2 (by rw [c1, c2, m1, m2, q_ix9]; exact j1) ?_
        rw [c1, c2, m1, m2, q_ix9, k1, hI S.length T.length (Nat.le_refl _) (by omega)]
        exact h τ he
      · rw [c1, m1]; exact nI_lt (by omega) (by omega)
    | succ n ih =>
      intro i τ v4 v5 v6 v7 v8 hi he hI hn8
      obtain ⟨m1, -, -, -⟩ := rd τ he
      refine b141_2 i1 (fun z => absurd z ?_) (fun _ => b141_12 (row i (by omega) (fun τ' v4 v5 v6 v7 v8 he' hI' hn' => ih (i + 1) τ' _ v5 v6 v7 v8 (by omega) he' hI' hn') (T.length + 1) 0 τ v5 v6 v7 v8 (by omega) he hI hn8))
      rw [c1, m1]; exact nI_nlt (by omega) (by omega)
  exact e141 (b141_0 (rows (S.length + 1) 0 σ _ _ _ _ _ (by omega) q_eqx.rf (fun i' j' _ h2 => by omega) rfl))
/-- whether a is like b -/
def q_like (V : QV) (s t : Nat) : Prop := 0 < v_dp V s ∧ v_dp V t + 1 = v_dp V s ∧ nI (q_dist (v_tx V s) (v_tx V t)) ≤ v_ru V 0
theorem m_isLike {s t : Nat} (hV : q_wf V) (hM : q_Ma V a σ) (hs : q_sp V s) (ht : q_sp V t) (h1 : q_like V s t → ∀ τ, q_eqx (fun k => k = 47) σ τ → Q (some (.int 1)) τ) (h0 : ¬ q_like V s t → ∀ τ, q_eqx (fun k => k = 47) σ τ → Q (some (.int 0)) τ) : Cw (d + 3) 145 [.ref 9, .int (nI s), .int (nI t)] σ Q := by
  obtain ⟨i1, c1⟩ := q_lt (j := s) (N := 560) (q_sp_lt hV hs) (by decide)
  obtain ⟨i2, c2⟩ := q_lt (j := t) (N := 560) (q_sp_lt hV ht) (by decide)
  obtain ⟨p1, -, -⟩ := hM.sp hs
  obtain ⟨p2, -, -⟩ := hM.sp ht
  have e1 := (hV.sp hs).1
  have e2 := (hV.sp ht).1
  have no : ∀ τ, ¬ q_like V s t → q_eqx (fun k => k = 47) σ τ → Wp (d + 2) tb_145 45 [.ref 9, .int (nI s), .int (nI t)] [] τ Q := fun τ hn he => b145_45 (b145_46 (Or.inl rfl) (h0 hn τ he))
  refine e145 (b145_0 i1 (fun g => ?_) (fun g => b145_9 i2 i1 (fun g2 => ?_) (fun g2 => b145_26 (m_differBy hV hM hs ht (fun τ he => b145_32 (by unfold vp_in; decide) (fun g3 => ?_) (fun g3 => ?_))))))
  · rw [c1, p1] at g
    have := (nI_leI (a := v_dp V s) (b := 0) (by omega) (by decide)).mp g
    exact no σ (fun z => by have := z.1; omega) q_eqx.rf
  · rw [c1, c2, p1, p2] at g2
    rw [c1, p1] at g
    have hp : 0 < v_dp V s := by
      rcases Nat.eq_zero_or_pos (v_dp V s) with z | z
      · rw [z] at g; exact absurd (Int32.le_refl _) g
      · exact z
    refine no σ (fun z => g2 ?_) q_eqx.rf
    rw [← z.2.1, nI_pred]
  · have er : τ.1 37 (0 : Int32).toNatClampNeg = v_ru V 0 := by rw [he.2 37 (by decide)]; exact hM.2.2.2.2.2.2.1 0 (by decide)
    rw [er] at g3
    exact no τ (fun z => absurd z.2.2 (Int32.not_le.mpr g3)) he
  · have er : τ.1 37 (0 : Int32).toNatClampNeg = v_ru V 0 := by rw [he.2 37 (by decide)]; exact hM.2.2.2.2.2.2.1 0 (by decide)
    rw [er] at g3
    rw [c1, p1] at g
    rw [c1, c2, p1, p2] at g2
    have hp : 0 < v_dp V s := by
      rcases Nat.eq_zero_or_pos (v_dp V s) with z | z
      · rw [z] at g; exact absurd (Int32.le_refl _) g
      · exact z
    have g2 := Decidable.not_not.mp g2
    rw [show v_dp V s = (v_dp V s - 1) + 1 by omega, nI_pred] at g2
    have := (nI_eq (by omega) (by omega)).mp g2
    exact b145_41 (b145_46 (Or.inr rfl) (h1 ⟨hp, by omega, Int32.not_lt.mp g3⟩ τ he))
end QD
