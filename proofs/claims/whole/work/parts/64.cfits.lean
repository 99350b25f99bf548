/-! ===== the class: Arrays.fill; how texts differ; fits ===== -/
def k_t0 (_ : Nat) : Prop := False
def k_sf (k : Nat) : Prop := k = 18 ∨ k = 19 ∨ k = 20
theorem q_D_self (s : List Nat) : ∀ i, q_D s s i i = 0
  | 0 => by rw [q_D]
  | i + 1 => by rw [q_D, q_D_self s i, if_pos rfl]; omega
theorem q_D_zero {s t : List Nat} : ∀ i j, q_D s t i j = 0 → i = j ∧ ∀ k, k < i → s.getD k 0 = t.getD k 0
  | 0, j, h => by
    rw [q_D] at h
    exact ⟨h.symm, fun k hk => absurd hk (Nat.not_lt_zero _)⟩
  | i + 1, 0, h => by rw [q_D] at h; omega
  | i + 1, j + 1, h => by
    rw [q_D] at h
    have h3 : q_D s t i j = 0 := by omega
    have h4 : (if s.getD i 0 = t.getD j 0 then 0 else 1) = 0 := by omega
    obtain ⟨e, f⟩ := q_D_zero i j h3
    subst e
    refine ⟨rfl, fun k hk => ?_⟩
    by_cases hki : k = i
    · subst hki
      by_cases hc : s.getD k 0 = t.getD k 0
      · exact hc
      · rw [if_neg hc] at h4; cases h4
    · exact f k (by omega)
theorem q_dist_self (s : List Nat) : q_dist s s = 0 := q_D_self s _
theorem q_dist_zero {s t : List Nat} (h : q_dist s t = 0) : s = t := by
  obtain ⟨h1, h2⟩ := q_D_zero _ _ h
  exact q_list_eq h1 h2
theorem q_P_mono (lk : Nat → Nat → Bool) : ∀ i j, q_P lk i j ≤ q_P lk i (j + 1)
  | 0, j => by simp [q_P]
  | i + 1, 0 => by simp [q_P]
  | i + 1, j + 1 => by rw [q_P.eq_def lk (i + 1) (j + 1 + 1)]; dsimp only; omega
/-- a row of the square -/
def k_Dr (s t : List Nat) (m i j : Nat) (τ : px_S) : Prop := ∀ j', j' ≤ m → τ.1 20 j' = nI (if j' < j then q_D s t (i + 1) j' else q_D s t i j')
def k_Pr (lk : Nat → Nat → Bool) (m i j : Nat) (τ : px_S) : Prop := ∀ j', j' ≤ m → τ.1 19 j' = nI (if j' < j then q_P lk (i + 1) j' else q_P lk i j')
section KF
variable {d : Nat} {Q : Option Value → px_S → Prop} {σ : px_S} {V : QV}
theorem c_fill {k N : Nat} {v : Int32} (hN : N < 2 ^ 31) (ha : ∀ τ : px_S, px_at τ 0 k = some N) (h : ∀ τ : px_S, (∀ a, a ≠ k → τ.1 a = σ.1 a) → (∀ j, j < N → τ.1 k j = v) → τ.2 = σ.2 → Q none τ) : Cw (d + 1) 0 [.ref k, .int v] σ Q := by
  refine Cw.of (tb := tb_0) (nL := 4) (y := yJ7_fill_53178) (cc := cJ7_fill_53178) (rt := none) rfl (Nat.le_of_ble_eq_true rfl) ?_
  refine Wp.adv (pc' := 3) (ls' := [.ref k, .int v, .int 0, .null]) (st' := [.ref k]) (σ' := σ) 3 rfl ?_
  refine Wp.step (f := pi_alen 4) (q := (4, [.ref k, .int v, .int 0, .null], [.int (nI N)], σ)) rfl (by unfold pi_alen; dsimp only; rw [ha σ]; rfl) ?_
  refine Wp.adv (pc' := 5) (ls' := [.ref k, .int v, .int (nI 0), .int (nI N)]) (st' := []) (σ' := σ) 1 rfl ?_
  have loop : ∀ n i (τ : px_S), i + n = N → (∀ a, a ≠ k → τ.1 a = σ.1 a) → (∀ j, j < i → τ.1 k j = v) → τ.2 = σ.2 → Wp d tb_0 5 [.ref k, .int v, .int (nI i), .int (nI N)] [] τ Q := by
    intro n
    induction n with
    | zero =>
      intro i τ hi h1 h2 h3
      refine Wp.adv (pc' := 7) (ls' := [.ref k, .int v, .int (nI i), .int (nI N)]) (st' := [.int (nI N), .int (nI i)]) (σ' := τ) 2 rfl ?_
      refine Wp.icmp rfl (fun _ => Wp.ret (g := pr_v) (r := none) rfl rfl (h τ h1 (fun j hj => h2 j (by omega)) h3)) (fun g => absurd ?_ g)
      exact nI_le (by omega) (by omega)
    | succ n ih =>
      intro i τ hi h1 h2 h3
      refine Wp.adv (pc' := 7) (ls' := [.ref k, .int v, .int (nI i), .int (nI N)]) (st' := [.int (nI N), .int (nI i)]) (σ' := τ) 2 rfl ?_
      refine Wp.icmp rfl (fun g => absurd g (nI_ge (by omega) (by omega))) (fun _ => ?_)
      refine Wp.adv (pc' := 13) (ls' := [.ref k, .int v, .int (nI i), .int (nI N)]) (st' := [.int v, .int (nI i), .ref k]) (σ' := τ) 3 rfl ?_
      refine Wp.iast (n := 14) rfl (ha τ) (vp_in_nI (by omega) hN) ?_
      rw [nI_clamp (by omega)]
      refine Wp.adv (pc' := 5) (ls' := [.ref k, .int v, .int (nI (i + 1)), .int (nI N)]) (st' := []) (σ' := px_uI τ k i v) 2 (by rw [← nI_1]; rfl) ?_
      refine ih (i + 1) _ (by omega) (fun a ha' => by rw [q_uc ha']; exact h1 a ha') (fun j hj => ?_) h3
      rw [q_u]
      by_cases hji : j = i
      · rw [if_pos ⟨rfl, hji⟩]
      · rw [if_neg (fun z => hji z.2)]; exact h2 j (by omega)
  exact loop N 0 σ (by omega) (fun _ _ => rfl) (fun j hj => absurd hj (Nat.not_lt_zero _)) rfl
theorem c_distance {s t : List Nat} (hs : q_words s) (ht : q_words t) (h : ∀ τ, k_e (fun k => k = 20) k_t0 σ τ → Q (some (.int (nI (q_dist s t)))) τ) : Cw (d + 2) 32 [.ref 2, .long (lN (q_pn s)), .long (lN (q_pn t))] σ Q := by
  have n1 := hs.1
  have n2 := ht.1
  -- a place of a row
  have inner : ∀ i, i < s.length → (∀ (τ' : px_S) (v8 v9 v10 v11 : Value), px_nc v10 = true → px_nc v11 = true → k_e (fun k => k = 20) k_t0 σ τ' → k_Dr s t t.length (i + 1) 0 τ' → Wp (d + 1) tb_32 40 [.ref 2, .long (lN (q_pn s)), .null, .long (lN (q_pn t)), .null, .int (nI s.length), .int (nI t.length), .int (nI (i + 1 + 1)), v8, v9, v10, v11] [] τ' Q) →
      ∀ n j (τ : px_S) (v10 v11 : Value), j + n = t.length → px_nc v10 = true → px_nc v11 = true → k_e (fun k => k = 20) k_t0 σ τ → k_Dr s t t.length i (j + 1) τ → Wp (d + 1) tb_32 66 [.ref 2, .long (lN (q_pn s)), .null, .long (lN (q_pn t)), .null, .int (nI s.length), .int (nI t.length), .int (nI (i + 1)), .int (nI (q_D s t i j)), .int (nI (j + 1)), v10, v11] [] τ Q := by
    intro i hi k n
    induction n with
    | zero =>
      intro j τ v10 v11 hj m10 m11 he hr
      refine b32_66 (fun _ => b32_158 ?_) (fun g => absurd (nI_lt (by omega) (by omega)) g)
      rw [nI_1]
      refine k τ _ _ v10 v11 m10 m11 he (fun j' hj' => ?_)
      rw [hr j' hj', if_pos (by omega), if_neg (by omega)]
    | succ n ih =>
      intro j τ v10 v11 hj m10 m11 he hr
      have l1 := q_D_le s t i (j + 1)
      have l2 := q_D_le s t (i + 1) j
      have l3 := q_D_le s t i j
      obtain ⟨i1, c1⟩ := q_lt (j := j + 1) (N := 9) (by omega) (by decide)
      obtain ⟨i0, c0⟩ := q_lt (j := j) (N := 9) (by omega) (by decide)
      have r1 := hr (j + 1) (by omega)
      rw [if_neg (by omega)] at r1
      have r0 := hr j (by omega)
      rw [if_pos (by omega)] at r0
      have w1 := q_word_lt hs i
      have w2 := q_word_lt ht j
      have fin : ∀ (x10 : Int32) (o : Nat), o ≤ 1 → (o = if s.getD i 0 = t.getD j 0 then 0 else 1) → Wp (d + 1) tb_32 113 [.ref 2, .long (lN (q_pn s)), .null, .long (lN (q_pn t)), .null, .int (nI s.length), .int (nI t.length), .int (nI (i + 1)), .int (nI (q_D s t i j)), .int (nI (j + 1)), .int x10, v11] [.int (nI (q_D s t i j + o))] τ Q := by
        intro x10 o ho eo
        refine b32_113 i1 (by rw [nI_pred]; exact i0) i1 (b32_152 ?_)
        rw [nI_pred, c1, c0, r1, r0, nI_1]
        have ev : (if (1 : Int32) + (if nI (q_D s t (i + 1) j) < nI (q_D s t i (j + 1)) then nI (q_D s t (i + 1) j) else nI (q_D s t i (j + 1))) < nI (q_D s t i j + o) then (1 : Int32) + (if nI (q_D s t (i + 1) j) < nI (q_D s t i (j + 1)) then nI (q_D s t (i + 1) j) else nI (q_D s t i (j + 1))) else nI (q_D s t i j + o)) = nI (q_D s t (i + 1) (j + 1)) := by
          have em : (if nI (q_D s t (i + 1) j) < nI (q_D s t i (j + 1)) then nI (q_D s t (i + 1) j) else nI (q_D s t i (j + 1))) = nI (min (q_D s t (i + 1) j) (q_D s t i (j + 1))) := by
            by_cases hc : q_D s t (i + 1) j < q_D s t i (j + 1)
            · rw [if_pos (nI_lt hc (by omega))]; congr 1; omega
            · rw [if_neg (nI_nlt (by omega) (by omega))]; congr 1; omega
          rw [em, show (1 : Int32) = nI 1 from rfl, nI_add]
          rw [q_D, ← eo]
          by_cases hc : 1 + min (q_D s t (i + 1) j) (q_D s t i (j + 1)) < q_D s t i j + o
          · rw [if_pos (nI_lt hc (by omega))]; congr 1; omega
          · rw [if_neg (nI_nlt (by omega) (by omega))]; congr 1; omega
        rw [ev]
        refine ih (j + 1) _ _ _ (by omega) rfl rfl (he.tr (k_e.uI rfl)) (fun j' hj' => ?_)
        rw [q_u]
        by_cases hjj : j' = j + 1
        · rw [if_pos ⟨rfl, hjj⟩, if_pos (by omega), hjj]
        · rw [if_neg (fun z => hjj z.2), hr j' hj']
          by_cases hl : j' < j + 1
          · rw [if_pos hl, if_pos (by omega)]
          · rw [if_neg hl, if_neg (by omega)]
      refine b32_66 (fun g => absurd g (nI_nlt (by omega) (by omega))) (fun _ => b32_73 m10 m11 ?_)
      rw [nI_pred]
      refine c_wordAt hs (by omega) (b32_81 m10 m11 ?_)
      rw [nI_pred]
      refine c_wordAt ht (by omega) (b32_89 (fun g => b32_96 (b32_97 (fun _ => b32_109 ?_) (fun z => absurd rfl z))) (fun g => b32_92 (b32_97 (fun z => absurd z (by decide)) (fun _ => b32_104 ?_))))
      · rw [nI_1]
        exact fin _ 1 (by omega) (by rw [if_neg (fun z => g (by rw [z]))])
      · exact fin _ 0 (by omega) (by rw [if_pos ((nI_eq (by omega) (by omega)).mp (Decidable.not_not.mp g))])
  have rows : ∀ n i (τ : px_S) (v8 v9 v10 v11 : Value), i + n = s.length → px_nc v10 = true → px_nc v11 = true → k_e (fun k => k = 20) k_t0 σ τ → k_Dr s t t.length i 0 τ → Wp (d + 1) tb_32 40 [.ref 2, .long (lN (q_pn s)), .null, .long (lN (q_pn t)), .null, .int (nI s.length), .int (nI t.length), .int (nI (i + 1)), v8, v9, v10, v11] [] τ Q := by
    intro n
    induction n with
    | zero =>
      intro i τ v8 v9 v10 v11 hi m10 m11 he hr
      obtain ⟨it, ct⟩ := q_lt (j := t.length) (N := 9) (by omega) (by decide)
      refine b32_40 (fun _ => b32_164 it ?_) (fun g => absurd (nI_lt (by omega) (by omega)) g)
      rw [ct, hr t.length (Nat.le_refl _), if_neg (by omega), show i = s.length by omega]
      exact h τ he
    | succ n ih =>
      intro i τ v8 v9 v10 v11 hi m10 m11 he hr
      refine b32_40 (fun g => absurd g (nI_nlt (by omega) (by omega))) (fun _ => b32_47 (by unfold vp_in; decide) (by unfold vp_in; decide) (b32_63 ?_))
      have e0 : τ.1 20 (0 : Int32).toNatClampNeg = nI (q_D s t i 0) := by
        have := hr 0 (Nat.zero_le _); rw [if_neg (by omega)] at this; exact this
      rw [e0]
      refine inner i (by omega) (fun τ' v8 v9 v10 v11 m10 m11 he' hr' => ih (i + 1) τ' v8 v9 v10 v11 (by omega) m10 m11 he' hr') t.length 0 _ v10 v11 (by omega) m10 m11 (he.tr (k_e.uI rfl)) (fun j' hj' => ?_)
      rw [q_u]
      by_cases hj0 : j' = 0
      · subst hj0; rw [if_pos ⟨rfl, rfl⟩, if_pos (by omega), q_D]
      · rw [if_neg (fun z => hj0 z.2), hr j' hj', if_neg (by omega), if_neg (by omega)]
  have start : ∀ n j (τ : px_S), j + n = t.length + 1 → k_e (fun k => k = 20) k_t0 σ τ → (∀ j', j' < j → τ.1 20 j' = nI j') → Wp (d + 1) tb_32 15 [.ref 2, .long (lN (q_pn s)), .null, .long (lN (q_pn t)), .null, .int (nI s.length), .int (nI t.length), .int (nI j), .null, .null, .null, .null] [] τ Q := by
    intro n
    induction n with
    | zero =>
      intro j τ hj he hr
      refine b32_15 (fun _ => b32_37 (rows s.length 0 τ _ _ _ _ (by omega) rfl rfl he (fun j' hj' => ?_))) (fun g => absurd (nI_lt (by omega) (by omega)) g)
      rw [if_neg (by omega), hr j' (by omega), q_D]
    | succ n ih =>
      intro j τ hj he hr
      obtain ⟨ij, cj⟩ := q_lt (j := j) (N := 9) (by omega) (by decide)
      refine b32_15 (fun g => absurd g (nI_nlt (by omega) (by omega))) (fun _ => b32_22 ij (b32_31 ?_))
      rw [cj, nI_1]
      refine ih (j + 1) _ (by omega) (he.tr (k_e.uI rfl)) (fun j' hj' => ?_)
      rw [q_u]
      by_cases hjj : j' = j
      · rw [if_pos ⟨rfl, hjj⟩, hjj]
      · rw [if_neg (fun z => hjj z.2)]; exact hr j' (by omega)
  exact e32 (b32_0 (c_wordsIn hs (b32_4 (c_wordsIn ht (b32_10 (start (t.length + 1) 0 σ (by omega) k_e.rf (fun j' hj' => absurd hj' (Nat.not_lt_zero _))))))))
theorem k_H.sp {s : Nat} (hH : k_H V σ) (hs : q_sp V s) : σ.1 16 s = nI (v_dp V s) ∧ σ.2.1 17 s = lN (q_pn (v_tx V s)) := by
  obtain ⟨x, l, hx, hl, rfl⟩ := hs
  exact hH.2.2.2.2.2 x l hx hl
theorem k_txeq {s t : Nat} (hV : q_wf V) (hs : q_sp V s) (ht : q_sp V t) : lg_cmp (lN (q_pn (v_tx V s))) (lN (q_pn (v_tx V t))) = 0 ↔ v_tx V s = v_tx V t := by
  have w1 := (hV.sp hs).2
  have w2 := (hV.sp ht).2
  have l1 := q_pn_lt w1
  have l2 := q_pn_lt w2
  rw [lg_cmp_eq, pk_lEQ (by omega) (by omega)]
  exact ⟨fun z => q_pn_inj w1 w2 z, fun z => by rw [z]⟩
theorem c_isLike {s t : Nat} (hV : q_wf V) (hH : k_H V σ) (hR : k_R V σ) (hs : q_sp V s) (ht : q_sp V t) (h : ∀ τ, k_e (fun k => k = 20) k_t0 σ τ → Q (some (.int (q_b (q_lk V s t)))) τ) : Cw (d + 3) 31 [.ref 2, .int (nI s), .int (nI t)] σ Q := by
  obtain ⟨i1, c1⟩ := q_lt (j := s) (N := 560) (q_sp_lt hV hs) (by decide)
  obtain ⟨i2, c2⟩ := q_lt (j := t) (N := 560) (q_sp_lt hV ht) (by decide)
  obtain ⟨p1, t1⟩ := hH.sp hs
  obtain ⟨p2, t2⟩ := hH.sp ht
  obtain ⟨d1, w1⟩ := hV.sp hs
  obtain ⟨d2, w2⟩ := hV.sp ht
  obtain ⟨nr, hnr, enr⟩ := hV.2.2.2.2.2.1.1
  have er : σ.1 10 (0 : Int32).toNatClampNeg = nI nr := by rw [← enr]; exact hR 0 (by decide)
  have no : ∀ τ, ¬ q_like V s t → k_e (fun k => k = 20) k_t0 σ τ → Q (some (.int 0)) τ := fun τ hn he => by
    have := h τ he; rw [q_lk_not hn] at this; exact this
  have yes : ∀ τ, q_like V s t → k_e (fun k => k = 20) k_t0 σ τ → Q (some (.int 1)) τ := fun τ hn he => by
    have := h τ he; rw [(q_lk_iff V s t).mpr hn] at this; exact this
  have dl := q_D_le (v_tx V s) (v_tx V t) (v_tx V s).length (v_tx V t).length
  have dl2 : q_dist (v_tx V s) (v_tx V t) ≤ 16 := by unfold q_dist; have := w1.1; have := w2.1; omega
  refine e31 (b31_0 i1 (fun g => b31_35 (no σ (fun z => ?_) k_e.rf)) (fun g => b31_12 i2 i1 (fun g2 => ?_) (fun g2 => b31_35 (no σ (fun z => g2 ?_) k_e.rf))))
  · rw [c1, p1] at g
    have := z.1
    exact nI_ne0 this (by omega) g
  · rw [c1, p1] at g
    rw [c1, c2, p1, p2] at g2
    have hp : 0 < v_dp V s := by
      rcases Nat.eq_zero_or_pos (v_dp V s) with z | z
      · rw [z] at g; exact absurd rfl g
      · exact z
    rw [show v_dp V s = (v_dp V s - 1) + 1 by omega, nI_pred] at g2
    have hdp := (nI_eq (by omega) (by omega)).mp g2
    refine b31_37 i1 i2 (fun g3 => ?_) (fun g3 => b31_59 (yes σ ?_ k_e.rf))
    · rw [c1, c2, t1, t2, k_txeq hV hs ht] at g3
      refine b31_61 (by unfold vp_in; decide) (fun g4 => b31_105 (b31_106 (Or.inl rfl) (no σ (fun z => g3 ?_) k_e.rf))) (fun g4 => b31_70 i1 i2 ?_)
      · rw [er, show (0 : Int32) = nI 0 from rfl, nI_leI (by omega) (by decide)] at g4
        have h3 := z.2.2
        rw [enr, nI_leI (by omega) (by omega)] at h3
        exact q_dist_zero (by omega)
      · rw [c1, c2, t1, t2]
        refine c_distance w1 w2 (fun τ he => ?_)
        have er2 : τ.1 10 (0 : Int32).toNatClampNeg = v_ru V 0 := by rw [he.1 10 (by decide)]; exact hR 0 (by decide)
        refine b31_92 (by unfold vp_in; decide) (fun g5 => b31_105 (b31_106 (Or.inl rfl) (no τ (fun z => ?_) he))) (fun g5 => b31_101 (b31_106 (Or.inr rfl) (yes τ ⟨hp, by omega, ?_⟩ he)))
        · rw [er2] at g5
          exact absurd z.2.2 (Int32.not_le.mpr g5)
        · rw [er2] at g5
          exact Int32.not_lt.mp g5
    · rw [c1, c2, t1, t2, k_txeq hV hs ht] at g3
      refine ⟨hp, by omega, ?_⟩
      rw [Decidable.not_not.mp g3, q_dist_self, enr]
      exact nI_le (Nat.zero_le _) (by omega)
  · rw [c1, c2, p1, p2, ← z.2.1, nI_pred]
theorem k_H.ef {S : Nat → Prop} {τ : px_S} (hH : k_H V σ) (he : k_e S k_t0 σ τ) (hS : ∀ k, S k → 17 ≤ k) : k_H V τ := hH.fr (he.1 1 (fun z => by have := hS 1 z; omega)) (fun k k1 k2 => he.1 k (fun z => by have := hS k z; omega)) (he.2.1 1 id) (he.2.1 17 id)
theorem k_R.ef {S : Nat → Prop} {τ : px_S} (hR : k_R V σ) (he : k_e S k_t0 σ τ) (hS : ∀ k, S k → 17 ≤ k) : k_R V τ := hR.fr (he.1 10 (fun z => by have := hS 10 z; omega))
theorem c_mostPairs {x y : Nat} (hV : q_wf V) (hH : k_H V σ) (hR : k_R V σ) (hx : x < v_n V) (hy : y < v_n V) (h : ∀ τ, k_e (fun k => k = 19 ∨ k = 20) k_t0 σ τ → Q (some (.int (nI (q_fit V x y)))) τ) : Cw (d + 4) 30 [.ref 2, .int (nI x), .int (nI y)] σ Q := by
  have hn := hV.1
  obtain ⟨i1, c1⟩ := q_lt (j := x) (N := 40) (by omega) (by decide)
  obtain ⟨i2, c2⟩ := q_lt (j := y) (N := 40) (by omega) (by decide)
  have n1 := (hV.2.1 x hx).1
  have n2 := (hV.2.1 y hy).1
  obtain ⟨lk, hlk⟩ : ∃ lk : Nat → Nat → Bool, lk = fun i j => q_lk V (14 * x + i) (14 * y + j) := ⟨_, rfl⟩
  have hfit : q_fit V x y = q_P lk (v_sz V x) (v_sz V y) := by unfold q_fit; rw [hlk]
  rw [hfit] at h
  have hge : ∀ k, (k = 19 ∨ k = 20) → 17 ≤ k := fun k hk => by omega
  have rd : ∀ τ, k_e (fun k => k = 19 ∨ k = 20) k_t0 σ τ → τ.1 14 x = nI (v_sz V x) ∧ τ.1 14 y = nI (v_sz V y) := fun τ he => by
    rw [he.1 14 (by decide)]
    exact ⟨(hH.2.2.2.1 x hx).2.2.2.1, (hH.2.2.2.1 y hy).2.2.2.1⟩
  have inner : ∀ i, i < v_sz V x → (∀ (τ' : px_S) (v4 v5 v6 v7 : Value), k_e (fun k => k = 19 ∨ k = 20) k_t0 σ τ' → k_Pr lk (v_sz V y) (i + 1) 0 τ' → Wp (d + 3) tb_30 10 [.ref 2, .int (nI x), .int (nI y), .int (nI (i + 1)), v4, v5, v6, v7] [] τ' Q) →
      ∀ n j (τ : px_S) (v6 v7 : Value), j + n = v_sz V y → k_e (fun k => k = 19 ∨ k = 20) k_t0 σ τ → k_Pr lk (v_sz V y) i (j + 1) τ → Wp (d + 3) tb_30 29 [.ref 2, .int (nI x), .int (nI y), .int (nI i), .int (nI (q_P lk i j)), .int (nI j), v6, v7] [] τ Q := by
    intro i hi k n
    induction n with
    | zero =>
      intro j τ v6 v7 hj he hr
      obtain ⟨-, r2⟩ := rd τ he
      refine b30_29 i2 (fun _ => b30_120 ?_) (fun g => absurd (by rw [c2, r2]; exact nI_le (by omega) (by omega)) g)
      rw [nI_1]
      refine k τ _ _ v6 v7 he (fun j' hj' => ?_)
      rw [hr j' hj', if_pos (by omega), if_neg (by omega)]
    | succ n ih =>
      intro j τ v6 v7 hj he hr
      obtain ⟨-, r2⟩ := rd τ he
      have l1 := q_P_le lk i (j + 1)
      have l2 := q_P_le lk (i + 1) j
      have l3 := q_P_le lk i j
      have mo := q_P_mono lk i j
      obtain ⟨j1, k1⟩ := q_lt (j := j + 1) (N := 15) (by omega) (by decide)
      obtain ⟨j0, k0⟩ := q_lt (j := j) (N := 15) (by omega) (by decide)
      have r1 := hr (j + 1) (by omega)
      rw [if_neg (by omega)] at r1
      have r0 := hr j (by omega)
      rw [if_pos (by omega)] at r0
      have em : (if nI (q_P lk i (j + 1)) < nI (q_P lk (i + 1) j) then nI (q_P lk (i + 1) j) else nI (q_P lk i (j + 1))) = nI (max (q_P lk i (j + 1)) (q_P lk (i + 1) j)) := by
        by_cases hc : q_P lk i (j + 1) < q_P lk (i + 1) j
        · rw [if_pos (nI_lt hc (by omega))]; congr 1; omega
        · rw [if_neg (nI_nlt (by omega) (by omega))]; congr 1; omega
      have fin : ∀ (τ' : px_S), k_e (fun k => k = 20) k_t0 τ τ' → ∀ b, b = q_P lk (i + 1) (j + 1) → Wp (d + 3) tb_30 99 [.ref 2, .int (nI x), .int (nI y), .int (nI i), .int (nI (q_P lk i j)), .int (nI j), .int (nI (q_P lk i (j + 1))), .int (nI b)] [] τ' Q := by
        intro τ' he' b hb
        refine b30_99 (by rw [nI_1]; exact j1) (b30_110 ?_)
        rw [nI_1, k1, hb]
        refine ih (j + 1) _ _ _ (by omega) ((he.tr (he'.mono (fun k hk => Or.inr hk) (fun _ => id))).tr (k_e.uI (Or.inl rfl))) (fun j' hj' => ?_)
        rw [q_u]
        by_cases hjj : j' = j + 1
        · rw [if_pos ⟨rfl, hjj⟩, if_pos (by omega), hjj]
        · rw [if_neg (fun z => hjj z.2), he'.1 19 (by decide), hr j' hj']
          by_cases hl : j' < j + 1
          · rw [if_pos hl, if_pos (by omega)]
          · rw [if_neg hl, if_neg (by omega)]
      have hHt : k_H V τ := hH.ef he hge
      have hRt : k_R V τ := hR.ef he hge
      have s1 : q_sp V (14 * x + i) := ⟨x, i, hx, by omega, rfl⟩
      have s2 : q_sp V (14 * y + j) := ⟨y, j, hy, by omega, rfl⟩
      refine b30_29 i2 (fun g => absurd g (by rw [c2, r2]; exact nI_ge (by omega) (by omega))) (fun _ => b30_43 (by rw [nI_1]; exact j1) j0 (fun g => ?_) (fun g => ?_))
      · rw [nI_1, k1, k0, r1, r0, em, nI_eq (by omega) (by omega)] at g
        rw [nI_1, k1, k0, r1, r0, em]
        refine fin τ k_e.rf _ ?_
        rw [q_P]
        split <;> omega
      · rw [nI_1, k1, k0, r1, r0, em, nI_eq (by omega) (by omega)] at g
        rw [nI_1, k1, k0, r1, r0, em]
        have g := Decidable.not_not.mp g
        refine b30_75 (c_spotOf (b30_81 (c_spotOf (b30_87 (c_isLike hV hHt hRt s1 s2 (fun τ' he' => b30_90 (fun z => fin τ' he' _ ?_) (fun z => b30_93 ?_)))))))
        · have hl : lk i j = false := by rw [hlk]; exact q_bz.mp z
          rw [q_P, hl]
          simp only [Bool.false_eq_true, if_false]
          omega
        · have hl : lk i j = true := by
            rw [hlk]
            cases hb : q_lk V (14 * x + i) (14 * y + j) with
            | true => exact hb
            | false => exact absurd (q_bz.mpr hb) z
          rw [nI_1]
          refine fin τ' he' _ ?_
          rw [q_P, hl]
          simp only [if_true]
          omega
  have rows : ∀ n i (τ : px_S) (v4 v5 v6 v7 : Value), i + n = v_sz V x → k_e (fun k => k = 19 ∨ k = 20) k_t0 σ τ → k_Pr lk (v_sz V y) i 0 τ → Wp (d + 3) tb_30 10 [.ref 2, .int (nI x), .int (nI y), .int (nI i), v4, v5, v6, v7] [] τ Q := by
    intro n
    induction n with
    | zero =>
      intro i τ v4 v5 v6 v7 hi he hr
      obtain ⟨r1, r2⟩ := rd τ he
      obtain ⟨j1, k1⟩ := q_lt (j := v_sz V y) (N := 15) (by omega) (by decide)
      refine b30_10 i1 (fun _ => b30_126 i2 (by rw [c2, r2]; exact j1) ?_) (fun g => absurd (by rw [c1, r1]; exact nI_le (by omega) (by omega)) g)
      rw [c2, r2, k1, hr _ (Nat.le_refl _), if_neg (by omega), show i = v_sz V x by omega]
      exact h τ he
    | succ n ih =>
      intro i τ v4 v5 v6 v7 hi he hr
      obtain ⟨r1, r2⟩ := rd τ he
      refine b30_10 i1 (fun g => absurd g (by rw [c1, r1]; exact nI_ge (by omega) (by omega))) (fun _ => b30_23 ?_)
      have e0 : ∀ i, q_P lk i 0 = 0 := fun i => by cases i <;> rw [q_P]
      have := inner i (by omega) (fun τ' v4 v5 v6 v7 he' hr' => ih (i + 1) τ' v4 v5 v6 v7 (by omega) he' hr') (v_sz V y) 0 τ v6 v7 (by omega) he (fun j' hj' => by
        rw [hr j' hj', if_neg (by omega)]
        by_cases hj0 : j' = 0
        · subst hj0; rw [if_pos (by omega), e0, e0]
        · rw [if_neg (by omega)])
      rw [e0] at this
      exact this
  refine e30 (b30_0 (c_fill (N := 15) (by decide) (fun _ => rfl) (fun τ h1 h2 h3 => b30_8 (rows (v_sz V x) 0 τ _ _ _ _ (by omega) ⟨fun k hk => h1 k (fun z => hk (Or.inl z)), fun k _ => by rw [h3], by rw [h3]⟩ (fun j' hj' => ?_)))))
  rw [if_neg (by omega), h2 j' (by omega), q_P]; rfl
theorem c_of {x y : Nat} (hV : q_wf V) (hH : k_H V σ) (hR : k_R V σ) (hF : k_F V σ) (hx : x < v_n V) (hy : y < v_n V) (h : ∀ τ, k_F V τ → k_e k_sf k_t0 σ τ → Q (some (.int (nI (q_fit V x y)))) τ) : Cw (d + 5) 29 [.ref 2, .int (nI x), .int (nI y)] σ Q := by
  have hn := hV.1
  obtain ⟨i1, c1⟩ := q_lt (j := 40 * x + y) (N := 1600) (by omega) (by decide)
  have fl := q_fit_le (V := V) x y
  have hsz := (hV.2.1 x hx).1
  refine e29 (b29_0 (by rw [q_ix40]; exact i1) (fun g => ?_) (fun g => b29_17 (c_mostPairs hV hH hR hx hy (fun τ he => ?_))))
  · rw [q_ix40, c1] at g
    rw [q_ix40]
    refine b29_29 i1 ?_
    rw [c1]
    rcases hF x y (by omega) (by omega) with z | ⟨-, -, z⟩
    · exact absurd z g
    · rw [z]; exact h σ hF k_e.rf
  · rw [q_ix40]
    refine b29_28 i1 (b29_29 i1 ?_)
    rw [c1]
    have e0 : (px_uI τ 18 (40 * x + y) (nI (q_fit V x y))).1 18 (40 * x + y) = nI (q_fit V x y) := by rw [q_u, if_pos ⟨rfl, rfl⟩]
    rw [e0]
    refine h _ (fun u v hu hv => ?_) ((he.mono (fun k hk => by unfold k_sf; omega) (fun _ => id)).tr (k_e.uI (Or.inl rfl)))
    rw [q_u]
    by_cases hc : u = x ∧ v = y
    · obtain ⟨rfl, rfl⟩ := hc
      rw [if_pos ⟨rfl, rfl⟩]
      exact Or.inr ⟨hx, hy, rfl⟩
    · rw [if_neg (fun z => hc (by omega)), he.1 18 (by decide)]
      exact hF u v hu hv
end KF
