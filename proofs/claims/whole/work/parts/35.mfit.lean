/-! ===== fit: the most pairs; the reference's whole square ===== -/
def q_P (lk : Nat → Nat → Bool) : Nat → Nat → Nat
  | 0, _ => 0
  | _ + 1, 0 => 0
  | i + 1, j + 1 => max (max (q_P lk i (j + 1)) (q_P lk (i + 1) j)) (q_P lk i j + if lk i j then 1 else 0)
theorem q_P_le (lk : Nat → Nat → Bool) : ∀ i j, q_P lk i j ≤ i
  | 0, _ => by simp [q_P]
  | i + 1, 0 => by simp [q_P]
  | i + 1, j + 1 => by
    have h1 := q_P_le lk i (j + 1)
    have h2 := q_P_le lk (i + 1) j
    have h3 := q_P_le lk i j
    rw [q_P]
    split <;> omega
def q_lk (V : QV) (s t : Nat) : Bool := decide (0 < v_dp V s) && (decide (v_dp V t + 1 = v_dp V s) && decide (nI (q_dist (v_tx V s) (v_tx V t)) ≤ v_ru V 0))
theorem q_lk_iff (V : QV) (s t : Nat) : q_lk V s t = true ↔ q_like V s t := by unfold q_lk q_like; simp
theorem q_lk_not {V : QV} {s t : Nat} (h : ¬ q_like V s t) : q_lk V s t = false := by
  cases e : q_lk V s t with
  | false => rfl
  | true => exact absurd ((q_lk_iff V s t).mp e) h
def q_fit (V : QV) (x y : Nat) : Nat := q_P (fun i j => q_lk V (14 * x + i) (14 * y + j)) (v_sz V x) (v_sz V y)
section QF
variable {d : Nat} {Q : Option Value → px_S → Prop} {σ : px_S} {V : QV} {a : Int32}
def q_Pinv (lk : Nat → Nat → Bool) (m i j : Nat) (τ : px_S) : Prop := ∀ i' j', j' ≤ m → (i' < i ∨ (i' = i ∧ j' < j)) → τ.1 48 (15 * i' + j') = nI (q_P lk i' j')
theorem q_Pput {lk : Nat → Nat → Bool} {m i j : Nat} {τ : px_S} (hm : m ≤ 14) (hj : j ≤ m) (h : q_Pinv lk m i j τ) : q_Pinv lk m i (j + 1) (px_uI τ 48 (15 * i + j) (nI (q_P lk i j))) := by
  intro i' j' hj' hlt
  rw [q_u]
  by_cases e : i' = i ∧ j' = j
  · obtain ⟨rfl, rfl⟩ := e
    rw [if_pos ⟨rfl, rfl⟩]
  · rw [if_neg (fun z => e (by omega))]
    exact h i' j' hj' (by omega)
def q_s2 (k : Nat) : Prop := k = 47 ∨ k = 48
theorem q_s2_scr : ∀ k, q_s2 k → q_scr k := by intro k h; unfold q_s2 at h; unfold q_scr; omega
theorem m_fitOf {x y : Nat} (hV : q_wf V) (hM : q_Ma V a σ) (hx : x < v_n V) (hy : y < v_n V) (h : ∀ τ, q_eqx q_s2 σ τ → Q (some (.int (nI (q_fit V x y)))) τ) : Cw (d + 4) 144 [.ref 9, .int (nI x), .int (nI y)] σ Q := by
  have hn := hV.1
  obtain ⟨i1, c1⟩ := q_lt (j := x) (N := 40) (by omega) (by decide)
  obtain ⟨i2, c2⟩ := q_lt (j := y) (N := 40) (by omega) (by decide)
  have n1 := (hV.2.1 x hx).1
  have n2 := (hV.2.1 y hy).1
  obtain ⟨S, hS⟩ : ∃ S, S = v_sz V x := ⟨_, rfl⟩
  obtain ⟨T, hT⟩ : ∃ T, T = v_sz V y := ⟨_, rfl⟩
  obtain ⟨lk, hlk⟩ : ∃ lk : Nat → Nat → Bool, lk = fun i j => q_lk V (14 * x + i) (14 * y + j) := ⟨_, rfl⟩
  have hfit : q_fit V x y = q_P lk S T := by unfold q_fit; rw [hlk, hS, hT]
  rw [hfit] at h
  rw [← hS] at n1
  rw [← hT] at n2
  have rd : ∀ τ, q_eqx q_s2 σ τ → τ.1 41 x = nI S ∧ τ.1 41 y = nI T := by
    intro τ he
    rw [he.2 41 (by unfold q_s2; omega), hS, hT]
    exact ⟨(hM.2.1 x hx).2.2.2.1, (hM.2.1 y hy).2.2.2.1⟩
  have place : ∀ (i j : Nat) (τ : px_S) (v5 v6 v7 v8 : Value), i ≤ S → j ≤ T → q_eqx q_s2 σ τ → q_Pinv lk T i j τ → px_nc v8 = true →
      (∀ (τ' : px_S) (v5 : Int32) (v6 v7 v8 : Value), q_eqx q_s2 σ τ' → q_Pinv lk T i (j + 1) τ' → px_nc v8 = true → Wp (d + 3) tb_144 15 [.ref 9, .int (nI x), .int (nI y), .int (nI i), .int (nI (j + 1)), .int v5, v6, v7, v8] [] τ' Q) →
      Wp (d + 3) tb_144 26 [.ref 9, .int (nI x), .int (nI y), .int (nI i), .int (nI j), v5, v6, v7, v8] [] τ Q := by
    intro i j τ v5 v6 v7 v8 hi hj he hI hn8 k
    obtain ⟨i3, c3⟩ := q_lt (j := 15 * i + j) (N := 225) (by omega) (by decide)
    have put : ∀ (τ : px_S) (x5 : Int32) (v6 v7 v8 : Value), q_eqx q_s2 σ τ → q_Pinv lk T i j τ → x5 = nI (q_P lk i j) → px_nc v8 = true → Wp (d + 3) tb_144 145 [.ref 9, .int (nI x), .int (nI y), .int (nI i), .int (nI j), .int x5, v6, v7, v8] [] τ Q := by
      intro τ x5 v6 v7 v8 he hI e5 hn
      subst e5
      refine b144_145 (by rw [q_ix15]; exact i3) (b144_159 ?_)
      rw [q_ix15, c3, nI_1]
      exact k _ _ v6 v7 v8 (he.tr (q_eqx.uI (Or.inr rfl))) (q_Pput n2 hj hI) hn
    match i, j, hi, hj with
    | 0, j, hi, hj =>
      refine b144_26 (fun _ => put τ _ v6 v7 v8 he hI ?_ hn8) (fun z => absurd (Int32.le_refl _) z)
      rw [q_P]; rfl
    | i + 1, 0, hi, hj =>
      refine b144_26 (fun z => absurd z (nI_nle (by omega) (by omega))) (fun _ => b144_33 (fun _ => put τ _ v6 v7 v8 he hI ?_ hn8) (fun z => absurd (Int32.le_refl _) z))
      rw [q_P]; rfl
    | i + 1, j + 1, hi, hj =>
      have d1 := hI i (j + 1) hj (by omega)
      have d2 := hI (i + 1) j (by omega) (by omega)
      have d3 := hI i j (by omega) (by omega)
      have l1 := q_P_le lk i (j + 1)
      have l2 := q_P_le lk (i + 1) j
      have l3 := q_P_le lk i j
      have x1 : (15 : Int32) * (nI (i + 1) - 1) + nI (j + 1) = nI (15 * i + (j + 1)) := by rw [nI_pred, q_ix15]
      have x2 : (15 : Int32) * nI (i + 1) + nI (j + 1) - 1 = nI (15 * (i + 1) + j) := by rw [q_ix15, show 15 * (i + 1) + (j + 1) = (15 * (i + 1) + j) + 1 by omega, nI_pred]
      have x3 : (15 : Int32) * (nI (i + 1) - 1) + nI (j + 1) - 1 = nI (15 * i + j) := by rw [x1, show 15 * i + (j + 1) = (15 * i + j) + 1 by omega, nI_pred]
      have x4 : (14 : Int32) * nI x + nI (i + 1) - 1 = nI (14 * x + i) := by rw [q_ix14, show 14 * x + (i + 1) = (14 * x + i) + 1 by omega, nI_pred]
      have x5 : (14 : Int32) * nI y + nI (j + 1) - 1 = nI (14 * y + j) := by rw [q_ix14, show 14 * y + (j + 1) = (14 * y + j) + 1 by omega, nI_pred]
      obtain ⟨j1, k1⟩ := q_lt (j := 15 * i + (j + 1)) (N := 225) (by omega) (by decide)
      obtain ⟨j2, k2⟩ := q_lt (j := 15 * (i + 1) + j) (N := 225) (by omega) (by decide)
      obtain ⟨j3, k3⟩ := q_lt (j := 15 * i + j) (N := 225) (by omega) (by decide)
      have s1 : q_sp V (14 * x + i) := ⟨x, i, hx, by omega, rfl⟩
      have s2 : q_sp V (14 * y + j) := ⟨y, j, hy, by omega, rfl⟩
      have tail : ∀ b, b = max (q_P lk i (j + 1)) (q_P lk (i + 1) j) → Wp (d + 3) tb_144 84 [.ref 9, .int (nI x), .int (nI y), .int (nI (i + 1)), .int (nI (j + 1)), .int 0, .int (nI (q_P lk i (j + 1))), .int (nI (q_P lk (i + 1) j)), v8] [.int (nI b)] τ Q := by
        intro b hb
        refine b144_84 (by rw [x3]; exact j3) hn8 ?_
        rw [x3, x4, x5, k3, d3]
        have fin : ∀ (τ' : px_S) (q : Int32) (o : Nat), q_eqx (fun k => k = 47) τ τ' → q = nI o → o ≤ 1 → (o = if lk i j then 1 else 0) → Wp (d + 3) tb_144 126 [.ref 9, .int (nI x), .int (nI y), .int (nI (i + 1)), .int (nI (j + 1)), .int (nI b), .int (nI (q_P lk i (j + 1))), .int (nI (q_P lk (i + 1) j)), v8] [.int q, .int (nI (q_P lk i j))] τ' Q := by
          intro τ' q o he' eq ho eo
          subst eq
          have he2 : q_eqx q_s2 σ τ' := he.tr (he'.mono (fun k hk => Or.inl hk))
          have hI2 : q_Pinv lk T (i + 1) (j + 1) τ' := fun i' j' h1 h2 => by rw [he'.2 48 (by decide)]; exact hI i' j' h1 h2
          refine b144_126 (fun g => ?_) (fun g => ?_)
          · rw [nI_add] at g ⊢
            have := (nI_leI (by omega) (by omega)).mp g
            refine b144_141 (b144_143 (put τ' _ _ _ _ he2 hI2 ?_ rfl))
            rw [q_P, ← eo]
            congr 1
            omega
          · rw [nI_add] at g ⊢
            have : ¬ q_P lk i j + o ≤ b := fun z => g (nI_le z (by omega))
            refine b144_136 (b144_143 (put τ' _ _ _ _ he2 hI2 ?_ rfl))
            rw [q_P, ← eo]
            congr 1
            omega
        have hMt : q_Ma V a τ := hM.eqx (he.mono q_s2_scr)
        refine m_isLike hV hMt s1 s2 (fun hl τ' he' => ?_) (fun hl τ' he' => ?_)
        · refine b144_123 hn8 (m_one (fin τ' _ 1 he' rfl (by omega) ?_))
          have hb9 : lk i j = true := by rw [hlk]; exact (q_lk_iff V _ _).mpr hl
          rw [hb9]; rfl
        · refine b144_123 hn8 (m_one (fin τ' _ 0 he' rfl (by omega) ?_))
          have hb9 : lk i j = false := by rw [hlk]; exact q_lk_not hl
          rw [hb9]; rfl
      refine b144_26 (fun z => absurd z (nI_nle (by omega) (by omega))) (fun _ => b144_33 (fun z => absurd z (nI_nle (by omega) (by omega))) (fun _ => ?_))
      refine b144_38 (by rw [x1]; exact j1) (by rw [x2]; exact j2) (fun g => ?_) (fun g => ?_)
      · rw [x1, x2, k1, k2, d1, d2] at g ⊢
        have := (nI_leI (by omega) (by omega)).mp g
        exact b144_82 (tail _ (by omega))
      · rw [x1, x2, k1, k2, d1, d2] at g ⊢
        have : ¬ q_P lk i (j + 1) ≤ q_P lk (i + 1) j := fun z => g (nI_le z (by omega))
        exact b144_77 (tail _ (by omega))
  have row : ∀ (i : Nat), i ≤ S → (∀ (τ' : px_S) (v4 : Int32) (v5 v6 v7 v8 : Value), q_eqx q_s2 σ τ' → q_Pinv lk T (i + 1) 0 τ' → px_nc v8 = true → Wp (d + 3) tb_144 2 [.ref 9, .int (nI x), .int (nI y), .int (nI (i + 1)), .int v4, v5, v6, v7, v8] [] τ' Q) →
      ∀ (n j : Nat) (τ : px_S) (v5 v6 v7 v8 : Value), j + n = T + 1 → q_eqx q_s2 σ τ → q_Pinv lk T i j τ → px_nc v8 = true → Wp (d + 3) tb_144 15 [.ref 9, .int (nI x), .int (nI y), .int (nI i), .int (nI j), v5, v6, v7, v8] [] τ Q := by
    intro i hi k n
    induction n with
    | zero =>
      intro j τ v5 v6 v7 v8 hj he hI hn8
      obtain ⟨-, m2⟩ := rd τ he
      refine b144_15 i2 (fun _ => b144_165 ?_) (fun z => absurd ?_ z)
      · rw [nI_1]
        refine k τ _ v5 v6 v7 v8 he (fun i' j' h1 h2 => hI i' j' h1 ?_) hn8
        omega
      · rw [c2, m2]; exact nI_lt (by omega) (by omega)
    | succ n ih =>
      intro j τ v5 v6 v7 v8 hj he hI hn8
      obtain ⟨-, m2⟩ := rd τ he
      refine b144_15 i2 (fun z => absurd z ?_) (fun _ => place i j τ v5 v6 v7 v8 hi (by omega) he hI hn8 (fun τ' v5 v6 v7 v8 he' hI' hn' => ih (j + 1) τ' _ v6 v7 v8 (by omega) he' hI' hn'))
      rw [c2, m2]; exact nI_nlt (by omega) (by omega)
  have rows : ∀ (n i : Nat) (τ : px_S) (v4 v5 v6 v7 v8 : Value), i + n = S + 1 → q_eqx q_s2 σ τ → q_Pinv lk T i 0 τ → px_nc v8 = true → Wp (d + 3) tb_144 2 [.ref 9, .int (nI x), .int (nI y), .int (nI i), v4, v5, v6, v7, v8] [] τ Q := by
    intro n
    induction n with
    | zero =>
      intro i τ v4 v5 v6 v7 v8 hi he hI hn8
      obtain ⟨m1, m2⟩ := rd τ he
      refine b144_2 i1 (fun _ => ?_) (fun z => absurd ?_ z)
      · obtain ⟨j1, k1⟩ := q_lt (j := 15 * S + T) (N := 225) (by omega) (by decide)
        refine b144_171 i1 i2 (by rw [c1, c2, m1, m2, q_ix15]; exact j1) ?_
        rw [c1, c2, m1, m2, q_ix15, k1, hI S T (Nat.le_refl _) (by omega)]
        exact h τ he
      · rw [c1, m1]; exact nI_lt (by omega) (by omega)
    | succ n ih =>
      intro i τ v4 v5 v6 v7 v8 hi he hI hn8
      obtain ⟨m1, -⟩ := rd τ he
      refine b144_2 i1 (fun z => absurd z ?_) (fun _ => b144_12 (row i (by omega) (fun τ' v4 v5 v6 v7 v8 he' hI' hn' => ih (i + 1) τ' _ v5 v6 v7 v8 (by omega) he' hI' hn') (T + 1) 0 τ v5 v6 v7 v8 (by omega) he hI hn8))
      rw [c1, m1]; exact nI_nlt (by omega) (by omega)
  exact e144 (b144_0 (rows (S + 1) 0 σ _ _ _ _ _ (by omega) q_eqx.rf (fun i' j' _ h2 => by omega) rfl))
end QF
