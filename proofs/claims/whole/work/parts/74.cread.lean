/-! ===== the class: numbers, clauses, read ===== -/
def r_ec (σ τ : px_S) : Prop := τ.2 = σ.2 ∧ (∀ k, k ≠ 8 → k ≠ 36 → τ.1 k = σ.1 k) ∧ ∀ j, ¬ (3 ≤ j ∧ j ≤ 6) → τ.1 8 j = σ.1 8 j
theorem r_ec.rf {σ : px_S} : r_ec σ σ := ⟨rfl, fun _ _ _ => rfl, fun _ _ => rfl⟩
theorem r_ec.tr {σ τ υ : px_S} (h1 : r_ec σ τ) (h2 : r_ec τ υ) : r_ec σ υ := ⟨h2.1.trans h1.1, fun k a b => (h2.2.1 k a b).trans (h1.2.1 k a b), fun j hj => (h2.2.2 j hj).trans (h1.2.2 j hj)⟩
theorem r_ec.e {J : Nat → Prop} {σ τ : px_S} (h : r_e J σ τ) (hJ : ∀ j, J j → 3 ≤ j ∧ j ≤ 6) : r_ec σ τ := ⟨h.1, fun k a _ => h.2.1 k a, fun j hj => h.2.2 j (fun z => hj (hJ j z))⟩
theorem r_ec.u {σ : px_S} {j : Nat} {x : Int32} (hj : 3 ≤ j ∧ j ≤ 6) : r_ec σ (px_uI σ 8 j x) := ⟨rfl, fun k h _ => q_uc h, fun i hi => by rw [q_u, if_neg (fun z => hi (by rw [z.2]; exact hj))]⟩
theorem r_ec.u36 {σ : px_S} {j : Nat} {x : Int32} : r_ec σ (px_uI σ 36 j x) := ⟨rfl, fun k _ h => q_uc h, fun j _ => by rw [q_uc (by decide)]⟩
theorem r_B.ec {bs : List Nat} {σ τ : px_S} (h : r_B bs σ) (he : r_ec σ τ) : r_B bs τ := ⟨by rw [he.2.2 2 (by decide)]; exact h.1, fun k hk => by rw [he.2.1 35 (by decide) (by decide)]; exact h.2.1 k hk, h.2.2⟩
/-- a fault: its kind and place -/
def r_f (f : Nat × Nat) (τ : px_S) : Prop := τ.1 8 4 = nI f.1 ∧ τ.1 8 3 = nI f.2
theorem r_bl {σ : px_S} {x1 x2 : Int32} : r_ec σ (px_uI (px_uI σ 8 4 x1) 8 3 x2) ∧ (px_uI (px_uI σ 8 4 x1) 8 3 x2).1 8 4 = x1 ∧ (px_uI (px_uI σ 8 4 x1) 8 3 x2).1 8 3 = x2 :=
  ⟨(r_ec.u (by decide)).tr (r_ec.u (by decide)), by rw [q_u, if_neg (by decide), q_u, if_pos ⟨rfl, rfl⟩], by rw [q_u, if_pos ⟨rfl, rfl⟩]⟩
theorem q_wen_le {bs : List Nat} {i : Nat} (hi : i ≤ bs.length) : i ≤ q_wen bs i ∧ q_wen bs i ≤ bs.length := q_wen_in hi
section KRE
variable {d : Nat} {Q : Option Value → px_S → Prop} {σ : px_S} {V : QV} {bs : List Nat}
theorem c_readYes {j : Nat} (hB : r_B bs σ) (hj : j ≤ bs.length) (h5 : σ.1 8 5 = nI j)
    (h1 : ∀ f, q_val bs 2 j = .inl f → ∀ τ, r_ec σ τ → r_f f τ → Q (some (.int 0)) τ)
    (h2 : ∀ v, q_val bs 2 j = .inr v → ∀ τ, r_ec σ τ → τ.1 8 5 = nI v.1 → τ.1 8 6 = σ.1 8 6 → τ.1 8 3 = σ.1 8 3 → (∀ k, τ.1 36 k = upd (σ.1 36) 2 (nI v.2) k) → Q (some (.int 1)) τ) : Cw (d + 6) 121 [.ref 8] σ Q := by
  obtain ⟨w1, w2⟩ := q_wen_in hj
  have ev : q_val bs 2 j = if q_isw bs j (q_wen bs j - j) [121, 101, 115] then .inr (q_wen bs j, 1) else if q_isw bs j (q_wen bs j - j) [110, 111] then .inr (q_wen bs j, 0) else .inl (1, j) := by
    unfold q_val; rw [if_pos rfl]
  have fin : ∀ (x2 : Int32) (b : Nat), (x2 = 0 → b = 0) → (¬ x2 = 0 → b = 1) → q_val bs 2 j = .inr (q_wen bs j, b) → Wp (d + 5) tb_121 45 [.ref 8, .int (nI (q_wen bs j)), .int x2] [] σ Q := by
    intro x2 b hb0 hb1 hq
    have tail : ∀ c : Int32, c = nI b → Wp (d + 5) tb_121 59 [.ref 8, .int (nI (q_wen bs j)), .int x2] [.int c, .int 2, .ref 36] σ Q := fun c hc => by
      subst hc
      refine b121_59 (by unfold vp_in; decide) (b121_60 (b121_65 (h2 _ hq _ (r_ec.u36.tr (r_ec.u (by decide))) ?_ ?_ ?_ (fun k => ?_))))
      · rw [q_u, if_pos ⟨rfl, rfl⟩]
      · rw [q_u, if_neg (by decide), q_uc (by decide)]
      · rw [q_u, if_neg (by decide), q_uc (by decide)]
      · rw [q_uc (by decide), q_u]
        unfold upd
        have e2 : (2 : Int32).toNatClampNeg = 2 := by decide
        rw [e2]
        by_cases hk : k = 2
        · rw [if_pos ⟨rfl, hk⟩, if_pos hk]
        · rw [if_neg (fun z => hk z.2), if_neg hk]
    exact b121_45 (fun g => b121_58 (tail 0 (by rw [hb0 g]; rfl))) (fun g => b121_54 (tail 1 (by rw [hb1 g]; rfl)))
  refine e121 (b121_0 (c_endOfWord hB hj h5 (b121_4 ?_)))
  rw [h5]
  refine c_isWord (z := 5) hB w1 w2 (by decide) ?_
  cases hy : q_isw bs j (q_wen bs j - j) (k_w 5) with
  | true =>
    have hy' : q_isw bs j (q_wen bs j - j) [121, 101, 115] = true := hy
    exact b121_16 (fun _ => fin _ 1 (fun z => absurd z (by decide)) (fun _ => rfl) (by rw [ev, hy', if_pos rfl])) (fun g => absurd (by decide) g)
  | false =>
    have hy' : q_isw bs j (q_wen bs j - j) [121, 101, 115] = false := hy
    refine b121_16 (fun g => absurd rfl g) (fun _ => b121_21 ?_)
    rw [h5]
    refine c_isWord (z := 6) hB w1 w2 (by decide) ?_
    cases hn : q_isw bs j (q_wen bs j - j) (k_w 6) with
    | true =>
      have hn' : q_isw bs j (q_wen bs j - j) [110, 111] = true := hn
      exact b121_32 (fun _ => fin _ 0 (fun _ => rfl) (fun z => absurd rfl z) (by rw [ev, hy', if_neg (by decide), hn', if_pos rfl])) (fun g => absurd (by decide) g)
    | false =>
      have hn' : q_isw bs j (q_wen bs j - j) [110, 111] = false := hn
      refine b121_32 (fun g => absurd rfl g) (fun _ => b121_35 (c_blame (b121_44 (Or.inl rfl) ?_)))
      rw [h5]
      obtain ⟨k1, k2, k3⟩ := r_bl (σ := σ) (x1 := 1) (x2 := nI j)
      exact h1 (1, j) (by rw [ev, hy', if_neg (by decide), hn', if_neg (by decide)]) _ k1 ⟨k2, k3⟩
theorem c_readNumber {k j : Nat} (hk : k ≤ 4) (hk2 : k ≠ 2) (hB : r_B bs σ) (hj : j ≤ bs.length) (h5 : σ.1 8 5 = nI j)
    (h1 : ∀ f, q_val bs k j = .inl f → ∀ τ, r_ec σ τ → r_f f τ → Q (some (.int 0)) τ)
    (h2 : ∀ v, q_val bs k j = .inr v → ∀ τ, r_ec σ τ → τ.1 8 5 = nI v.1 → τ.1 8 6 = σ.1 8 6 → τ.1 8 3 = σ.1 8 3 → (∀ i, τ.1 36 i = upd (σ.1 36) k (nI v.2) i) → Q (some (.int 1)) τ) : Cw (d + 2) 122 [.ref 8, .int (nI k)] σ Q := by
  have h120 := hB.2.2.1
  obtain ⟨w1, w2⟩ := q_nen_in hj
  obtain ⟨ik, ck⟩ := q_lt (j := k) (N := 5) (by omega) (by decide)
  have ev : q_val bs k j = if q_nen bs j = j then .inl (1, j) else if 4 ≤ q_nen bs j - j ∨ q_bnd k < q_dec bs j (q_nen bs j - j) then .inl (2, j) else .inr (q_nen bs j, q_dec bs j (q_nen bs j - j)) := by
    unfold q_val; rw [if_neg hk2]
  have erb : px_RB k = nI (q_bnd k) ∧ q_bnd k ≤ 100 := by
    have : k = 0 ∨ k = 1 ∨ k = 3 ∨ k = 4 := by omega
    rcases this with rfl | rfl | rfl | rfl <;> decide
  have dle : q_nen bs j - j ≤ 3 → q_dec bs j (q_nen bs j - j) ≤ 999 := fun hle => by
    have := q_dec_le (bs := bs) (j := j) (q_nen bs j - j) hle (fun u hu => by
      have := q_run_f (bs.length - j) j (j + u) (by omega) (show j + u < q_nen bs j by omega)
      rw [Bool.and_eq_true, decide_eq_true_eq, decide_eq_true_eq] at this; exact this.2)
    have hp10 : 10 ^ (q_nen bs j - j) ≤ 10 ^ 3 := Nat.pow_le_pow_right (by decide) (by omega)
    omega
  have fin : ∀ (v : Int32) (τ : px_S), r_e r_j5 σ τ → τ.1 8 5 = nI (q_nen bs j) → (q_nen bs j - j ≤ 3 → v = nI (q_dec bs j (q_nen bs j - j))) → Wp (d + 1) tb_122 74 [.ref 8, .int (nI k), .int (nI j), .int v] [] τ Q := by
    intro v τ he e5 hv
    have hec : r_ec σ τ := r_ec.e he (fun j hj => by unfold r_j5 at hj; omega)
    have bad : ¬ q_nen bs j = j → (4 ≤ q_nen bs j - j ∨ q_bnd k < q_dec bs j (q_nen bs j - j)) → Wp (d + 1) tb_122 108 [.ref 8, .int (nI k), .int (nI j), .int v] [] τ Q := fun hn hz => by
      obtain ⟨k1, k2, k3⟩ := r_bl (σ := τ) (x1 := 2) (x2 := nI j)
      exact b122_108 (c_blame (b122_114 (Or.inl rfl) (h1 (2, j) (by rw [ev, if_neg hn, if_pos hz]) _ (hec.tr k1) ⟨k2, k3⟩)))
    refine b122_74 (fun g => b122_89 (fun g2 => ?_) (fun g2 => b122_99 ik (fun g3 => b122_115 ik (b122_122 ?_)) (fun g3 => ?_))) (fun g => b122_82 (c_blame (b122_88 (Or.inl rfl) ?_)))
    · rw [e5, nI_eq (by omega) (by omega)] at g
      rw [e5, pk_sub w1, show (3 : Int32) = nI 3 from rfl, nI_ltI (by decide) (by omega)] at g2
      exact bad g (Or.inl g2)
    · rw [e5, nI_eq (by omega) (by omega)] at g
      rw [e5, pk_sub w1, show (3 : Int32) = nI 3 from rfl, nI_ltI (by decide) (by omega)] at g2
      have hd := dle (by omega)
      rw [ck, erb.1, hv (by omega), nI_leI (by omega) (by omega)] at g3
      rw [ck, hv (by omega)]
      refine h2 (q_nen bs j, q_dec bs j (q_nen bs j - j)) (by rw [ev, if_neg g, if_neg (by omega)]) _ (hec.tr r_ec.u36) ?_ ?_ ?_ (fun i => ?_)
      · rw [q_uc (by decide)]; exact e5
      · rw [q_uc (by decide), he.2.2 6 (by decide)]
      · rw [q_uc (by decide), he.2.2 3 (by decide)]
      · rw [q_u]
        unfold upd
        by_cases hik : i = k
        · rw [if_pos ⟨rfl, hik⟩, if_pos hik]
        · rw [if_neg (fun z => hik z.2), if_neg hik, he.2.1 36 (by decide)]
    · rw [e5, nI_eq (by omega) (by omega)] at g
      rw [e5, pk_sub w1, show (3 : Int32) = nI 3 from rfl, nI_ltI (by decide) (by omega)] at g2
      have hd := dle (by omega)
      rw [ck, erb.1, hv (by omega), nI_leI (by omega) (by omega)] at g3
      exact bad g (Or.inr (by omega))
    · rw [e5, Decidable.not_not, nI_eq (by omega) (by omega)] at g
      obtain ⟨k1, k2, k3⟩ := r_bl (σ := τ) (x1 := 1) (x2 := nI j)
      exact h1 (1, j) (by rw [ev, if_pos g]) _ (hec.tr k1) ⟨k2, k3⟩
  have loop : ∀ m u (v : Int32) (τ : px_S), u + m = bs.length → j ≤ u → r_e r_j5 σ τ → τ.1 8 5 = nI u → (u - j ≤ 3 → v = nI (q_dec bs j (u - j))) → q_run (fun k => decide (48 ≤ bs.getD k 0) && decide (bs.getD k 0 ≤ 57)) m u = q_nen bs j → Wp (d + 1) tb_122 7 [.ref 8, .int (nI k), .int (nI j), .int v] [] τ Q := by
    intro m
    induction m with
    | zero =>
      intro u v τ hu hju he e5 hv er
      have hBt := hB.e he (by decide)
      have er : u = q_nen bs j := er
      rw [er] at e5 hv
      exact b122_7 (fun _ => fin v τ he e5 hv) (fun g => absurd (hBt.ge e5 (by omega) (by omega)) g)
    | succ m ih =>
      intro u v τ hu hju he e5 hv er
      have hBt := hB.e he (by decide)
      obtain ⟨iu, cu⟩ := q_lt (j := u) (N := 120) (by omega) (by decide)
      have eb := hBt.2.1 u (by omega)
      have l255 := hB.2.2.2 u
      rw [q_run] at er
      refine b122_7 (fun g => absurd g (hBt.lt e5 (by omega))) (fun _ => b122_18 (by rw [e5]; exact iu) ?_)
      rw [e5, cu, eb]
      refine c_isFigure l255 ?_
      cases hf : (decide (48 ≤ bs.getD u 0) && decide (bs.getD u 0 ≤ 57)) with
      | false =>
        rw [hf, if_neg (by decide)] at er
        rw [er] at e5 hv
        exact b122_30 (fun _ => fin v τ he e5 hv) (fun g => absurd rfl g)
      | true =>
        rw [hf, if_pos rfl] at er
        rw [Bool.and_eq_true, decide_eq_true_eq, decide_eq_true_eq] at hf
        have next : ∀ v' : Int32, (u + 1 - j ≤ 3 → v' = nI (q_dec bs j (u + 1 - j))) → Wp (d + 1) tb_122 61 [.ref 8, .int (nI k), .int (nI j), .int v'] [] τ Q := fun v' hv' => by
          refine b122_61 (b122_71 ?_)
          rw [e5, nI_1]
          exact ih (u + 1) v' _ (by omega) (by omega) (he.tr (r_e.u rfl)) (by rw [q_u, if_pos ⟨rfl, rfl⟩]) hv' er
        refine b122_30 (fun g => absurd g (by decide)) (fun _ => b122_33 (fun g => next v (fun hle => ?_)) (fun g => b122_43 (by rw [e5]; exact iu) (next _ (fun hle => ?_))))
        · rw [e5, pk_sub hju, show (3 : Int32) = nI 3 from rfl, nI_leI (by decide) (by omega)] at g
          omega
        · rw [e5, cu, eb, hv (by omega), show (10 : Int32) = nI 10 from rfl, pk_mul, nI_add, show (48 : Int32) = nI 48 from rfl, pk_sub (by omega), show u + 1 - j = (u - j) + 1 by omega, q_dec, show j + (u - j) = u by omega]
          congr 1; omega
  refine e122 (b122_0 ?_)
  rw [h5]
  exact loop (bs.length - j) j 0 σ (by omega) (Nat.le_refl _) r_e.rf h5 (fun _ => by rw [Nat.sub_self]; rfl) rfl
theorem c_readSemicolon {i : Nat} (hB : r_B bs σ) (hi : i ≤ bs.length) (h5 : σ.1 8 5 = nI i)
    (h1 : ¬ (q_skp bs i < bs.length ∧ bs.getD (q_skp bs i) 0 = 59) → ∀ τ, r_ec σ τ → r_f (1, q_skp bs i) τ → Q (some (.int 0)) τ)
    (h2 : (q_skp bs i < bs.length ∧ bs.getD (q_skp bs i) 0 = 59) → ∀ τ, r_ec σ τ → τ.1 8 5 = nI (q_skp bs i + 1) → τ.1 8 6 = σ.1 8 6 → τ.1 8 3 = σ.1 8 3 → τ.1 36 = σ.1 36 → Q (some (.int 1)) τ) : Cw (d + 2) 124 [.ref 8] σ Q := by
  have h120 := hB.2.2.1
  obtain ⟨s1, s2⟩ := q_skp_in hi
  refine e124 (b124_0 (c_skip hB hi h5 (fun τ he e5 => ?_)))
  have hBt := hB.e he (by decide)
  have hec : r_ec σ τ := r_ec.e he (fun j hj => by unfold r_j5 at hj; omega)
  have bad : ¬ (q_skp bs i < bs.length ∧ bs.getD (q_skp bs i) 0 = 59) → Wp (d + 1) tb_124 29 [.ref 8] [] τ Q := fun hz => by
    refine b124_29 (c_blame (b124_38 (Or.inl rfl) ?_))
    rw [e5]
    obtain ⟨k1, k2, k3⟩ := r_bl (σ := τ) (x1 := 1) (x2 := nI (q_skp bs i))
    exact h1 hz _ (hec.tr k1) ⟨k2, k3⟩
  by_cases hl : q_skp bs i < bs.length
  · obtain ⟨is, cs⟩ := q_lt (j := q_skp bs i) (N := 120) (by omega) (by decide)
    have eb := hBt.2.1 _ hl
    have l255 := hB.2.2.2 (q_skp bs i)
    refine b124_4 (fun g => absurd g (hBt.lt e5 hl)) (fun _ => b124_15 (by rw [e5]; exact is) (fun g => b124_39 (b124_49 ?_)) (fun g => bad ?_))
    · rw [e5, cs, eb] at g
      have g := (nI_eq (b := 59) (by omega) (by decide)).mp g
      rw [e5, nI_1]
      refine h2 ⟨hl, g⟩ _ (hec.tr (r_ec.u (by decide))) (by rw [q_u, if_pos ⟨rfl, rfl⟩]) ?_ ?_ ?_
      · rw [q_u, if_neg (by decide), he.2.2 6 (by decide)]
      · rw [q_u, if_neg (by decide), he.2.2 3 (by decide)]
      · rw [q_uc (by decide), he.2.1 36 (by decide)]
    · rw [e5, cs, eb] at g
      exact fun z => g (by rw [z.2]; rfl)
  · exact b124_4 (fun _ => bad (fun z => hl z.1)) (fun g => absurd (hBt.ge e5 (by omega) (by omega)) g)
theorem c_readClause {i M : Nat} {R : Nat → Int32} (hB : r_B bs σ) (hi : i ≤ bs.length) (hM : M < 32) (h5 : σ.1 8 5 = nI i) (h6 : σ.1 8 6 = nI M) (hR : ∀ k, k < 5 → σ.1 36 k = R k)
    (h1 : ∀ f, q_clause bs M R i = .inl f → ∀ τ, r_ec σ τ → r_f f τ → Q (some (.int 0)) τ)
    (h2 : ∀ y, q_clause bs M R i = .inr y → y.2.1 < 32 → ∀ τ, r_ec σ τ → τ.1 8 5 = nI y.1 → τ.1 8 6 = nI y.2.1 → τ.1 8 3 = σ.1 8 3 → (∀ k, k < 5 → τ.1 36 k = y.2.2 k) → Q (some (.int 1)) τ) : Cw (d + 7) 108 [.ref 8] σ Q := by
  have h120 := hB.2.2.1
  obtain ⟨w1, w2⟩ := q_wen_in hi
  refine e108 (b108_0 (c_endOfWord hB hi h5 (b108_9 ?_)))
  rw [h5]
  refine c_kindOf hB w1 w2 ?_
  cases hq : q_knd bs i (q_wen bs i - i) with
  | none =>
    have ec : q_clause bs M R i = .inl (1, i) := by unfold q_clause; rw [hq]
    obtain ⟨k1, k2, k3⟩ := r_bl (σ := σ) (x1 := 1) (x2 := nI i)
    exact b108_16 (fun g => absurd rfl g) (fun _ => b108_22 (c_blame (b108_28 (Or.inl rfl) (h1 (1, i) ec _ k1 ⟨k2, k3⟩))))
  | some k =>
    have hk := q_knd_le hq
    refine b108_16 (fun _ => ?_) (fun g => absurd (fun e => q_m1ne (by omega) (Eq.symm e)) g)
    show Wp (d + 6) tb_108 29 [.ref 8, .int (nI i), .int (nI (q_wen bs i)), .int (nI k), .null] [] σ Q
    have m3 := q_msk3 M hM k hk
    refine b108_29 (fun g => b108_47 (b108_59 (b108_64 ?_))) (fun g => ?_)
    · rw [h6] at g
      have ht := m3.mp g
      obtain ⟨m21, m22⟩ := q_msk2 M hM k hk
      rw [h6, m21]
      generalize eσ : px_uI (px_uI σ 8 6 (nI (M ||| 1 <<< k))) 8 5 (nI (q_wen bs i)) = σ1
      have hec1 : r_ec σ σ1 := by rw [← eσ]; exact (r_ec.u (by decide)).tr (r_ec.u (by decide))
      have e5 : σ1.1 8 5 = nI (q_wen bs i) := by rw [← eσ, q_u, if_pos ⟨rfl, rfl⟩]
      have e6 : σ1.1 8 6 = nI (M ||| 1 <<< k) := by rw [← eσ, q_u, if_neg (by decide), q_u, if_pos ⟨rfl, rfl⟩]
      have e3 : σ1.1 8 3 = σ.1 8 3 := by rw [← eσ, q_u, if_neg (by decide), q_u, if_neg (by decide)]
      have e36 : σ1.1 36 = σ.1 36 := by rw [← eσ, q_uc (by decide), q_uc (by decide)]
      refine c_skip (hB.ec hec1) w2 e5 (fun τ he e5' => ?_)
      have hBt := (hB.ec hec1).e he (by decide)
      have hect : r_ec σ τ := hec1.tr (r_ec.e he (fun j hj => by unfold r_j5 at hj; omega))
      obtain ⟨s1, s2⟩ := q_skp_in w2
      have t6 : τ.1 8 6 = nI (M ||| 1 <<< k) := by rw [he.2.2 6 (by decide)]; exact e6
      have t3 : τ.1 8 3 = σ.1 8 3 := by rw [he.2.2 3 (by decide)]; exact e3
      have t36 : τ.1 36 = σ.1 36 := by rw [he.2.1 36 (by decide)]; exact e36
      have ec : q_clause bs M R i = match q_val bs k (q_skp bs (q_wen bs i)) with
          | .inl f => .inl f
          | .inr v => if q_skp bs v.1 < bs.length ∧ bs.getD (q_skp bs v.1) 0 = 59 then .inr (q_skp bs v.1 + 1, M ||| 1 <<< k, upd R k (nI v.2)) else .inl (1, q_skp bs v.1) := by
        unfold q_clause; rw [hq]; dsimp only; rw [ht, if_neg (by decide)]
        cases q_val bs k (q_skp bs (q_wen bs i)) <;> rfl
      have no : ∀ (x4 : Int32) (τ2 : px_S), Q (some (.int 0)) τ2 → Wp (d + 6) tb_108 103 [.ref 8, .int (nI i), .int (nI (q_wen bs i)), .int (nI k), .int x4] [] τ2 Q := fun x4 τ2 hz => b108_103 (b108_104 (Or.inl rfl) hz)
      -- the value is read, or not
      have bad : ∀ f, q_val bs k (q_skp bs (q_wen bs i)) = .inl f → ∀ τ2, r_ec τ τ2 → r_f f τ2 → Wp (d + 6) tb_108 85 [.ref 8, .int (nI i), .int (nI (q_wen bs i)), .int (nI k), .null] [.int 0] τ2 Q := fun f hf τ2 he2 hr2 => by
        rw [hf] at ec
        exact b108_85 (fun _ => no _ τ2 (h1 f ec τ2 (hect.tr he2) hr2)) (fun z => absurd rfl z)
      have good : ∀ v, q_val bs k (q_skp bs (q_wen bs i)) = .inr v → ∀ τ2, r_ec τ τ2 → τ2.1 8 5 = nI v.1 → τ2.1 8 6 = τ.1 8 6 → τ2.1 8 3 = τ.1 8 3 → (∀ c, τ2.1 36 c = upd (τ.1 36) k (nI v.2) c) → v.1 ≤ bs.length → Wp (d + 6) tb_108 85 [.ref 8, .int (nI i), .int (nI (q_wen bs i)), .int (nI k), .null] [.int 1] τ2 Q := fun v hv τ2 he2 f5 f6 f3 f36 hvl => by
        rw [hv] at ec
        have ec : q_clause bs M R i = if q_skp bs v.1 < bs.length ∧ bs.getD (q_skp bs v.1) 0 = 59 then .inr (q_skp bs v.1 + 1, M ||| 1 <<< k, upd R k (nI v.2)) else .inl (1, q_skp bs v.1) := ec
        refine b108_85 (fun z => absurd z (by decide)) (fun _ => b108_92 (c_readSemicolon (hBt.ec he2) hvl f5 (fun hz τ3 he3 hr3 => ?_) (fun hz τ3 he3 g5 g6 g3 g36 => ?_)))
        · rw [if_neg hz] at ec
          exact b108_96 (fun _ => no _ τ3 (h1 _ ec τ3 ((hect.tr he2).tr he3) hr3)) (fun z => absurd rfl z)
        · rw [if_pos hz] at ec
          refine b108_96 (fun z => absurd z (by decide)) (fun _ => b108_99 (b108_104 (Or.inr rfl) (h2 _ ec m22 τ3 ((hect.tr he2).tr he3) g5 (by rw [g6, f6, t6]) (by rw [g3, f3, t3]) (fun c hc => ?_))))
          rw [g36, f36 c, t36]
          show upd (σ.1 36) k (nI v.2) c = upd R k (nI v.2) c
          unfold upd
          by_cases hck : c = k
          · rw [if_pos hck, if_pos hck]
          · rw [if_neg hck, if_neg hck]; exact hR c hc
      have vle : ∀ v, q_val bs k (q_skp bs (q_wen bs i)) = .inr v → v.1 ≤ bs.length := fun v hv => by
        unfold q_val at hv
        have a1 := (q_wen_in s2).2
        have a2 := (q_nen_in s2).2
        split at hv
        · split at hv
          · cases hv; exact a1
          · split at hv
            · cases hv; exact a1
            · cases hv
        · split at hv
          · cases hv
          · split at hv
            · cases hv
            · cases hv; exact a2
      refine b108_68 (fun g2 => b108_80 ?_) (fun g2 => b108_73 ?_)
      · have hk2 : k ≠ 2 := fun z => g2 (by rw [z]; rfl)
        exact c_readNumber hk hk2 hBt s2 e5' (fun f hf τ2 he2 hr2 => bad f hf τ2 he2 hr2) (fun v hv τ2 he2 f5 f6 f3 f36 => good v hv τ2 he2 f5 f6 f3 f36 (vle v hv))
      · have hk2 : k = 2 := (nI_eq (b := 2) (by omega) (by decide)).mp (Decidable.not_not.mp g2)
        subst hk2
        exact c_readYes hBt s2 e5' (fun f hf τ2 he2 hr2 => b108_77 (bad f hf τ2 he2 hr2)) (fun v hv τ2 he2 f5 f6 f3 f36 => b108_77 (good v hv τ2 he2 f5 f6 f3 f36 (vle v hv)))
    · rw [h6] at g
      have ht : M.testBit k = true := by
        cases hb : M.testBit k with
        | true => rfl
        | false => exact absurd (m3.mpr hb) g
      have ec : q_clause bs M R i = .inl (3, i) := by unfold q_clause; rw [hq]; dsimp only; rw [ht, if_pos rfl]
      obtain ⟨k1, k2, k3⟩ := r_bl (σ := σ) (x1 := 3) (x2 := nI i)
      exact b108_40 (c_blame (b108_46 (Or.inl rfl) (h1 (3, i) ec _ k1 ⟨k2, k3⟩)))
theorem c_readClauses (hB : r_B bs σ)
    (h1 : ∀ f, q_clauses bs 121 0 0 q_r0 0 = .inl f → ∀ (x : Int32) τ, r_ec σ τ → r_f f τ → Q (some (.int x)) τ)
    (h2 : ∀ y, q_clauses bs 121 0 0 q_r0 0 = .inr y → ∀ τ, r_ec σ τ → τ.1 8 3 = -1 → (∀ k, k < 5 → τ.1 36 k = y.2 k) → Q (some (.int (nI y.1))) τ) : Cw (d + 8) 106 [.ref 8] σ Q := by
  have h120 := hB.2.2.1
  have loop : ∀ m n i M (R : Nat → Int32) (τ : px_S), n + m = 121 → n ≤ i → i ≤ bs.length → M < 32 → r_ec σ τ → τ.1 8 5 = nI (q_skp bs i) → τ.1 8 6 = nI M → τ.1 8 3 = -1 → (∀ k, k < 5 → τ.1 36 k = R k) → q_clauses bs m i M R n = q_clauses bs 121 0 0 q_r0 0 → Wp (d + 7) tb_106 39 [.ref 8, .int (nI n)] [] τ Q := by
    intro m
    induction m with
    | zero => intro n i M R τ hn hni hil; omega
    | succ m ih =>
      intro n i M R τ hn hni hil hM he e5 e6 e3 hR hq
      have hBt := hB.ec he
      obtain ⟨s1, s2⟩ := q_skp_in hil
      rw [q_clauses] at hq
      have stop : ¬ q_skp bs i < bs.length → Wp (d + 7) tb_106 73 [.ref 8, .int (nI n)] [] τ Q := fun hz => by
        rw [if_neg hz] at hq
        exact b106_73 (h2 (n, R) hq.symm τ he e3 hR)
      by_cases hl : q_skp bs i < bs.length
      · refine b106_39 (fun g => ?_) (fun _ => b106_45 (fun g => absurd g (hBt.lt e5 hl)) (fun _ => b106_56 (c_readClause hBt s2 hM e5 e6 hR (fun f hf τ2 he2 hr2 => ?_) (fun y hy hy32 τ2 he2 f5 f6 f3 f36 => ?_))))
        · rw [show (120 : Int32) = nI 120 from rfl, nI_leI (by decide) (by omega)] at g
          omega
        · rw [if_pos hl, hf] at hq
          exact b106_60 (fun _ => b106_73 (h1 f hq.symm _ τ2 (he.tr he2) hr2)) (fun z => absurd rfl z)
        · rw [if_pos hl, hy] at hq
          obtain ⟨c1, c2⟩ := q_clause_in s2 hy
          refine b106_60 (fun z => absurd z (by decide)) (fun _ => b106_63 (c_skip (hBt.ec he2) c2 f5 (fun τ3 he3 g5 => b106_70 ?_)))
          rw [nI_1]
          refine ih (n + 1) y.1 y.2.1 y.2.2 τ3 (by omega) (by omega) c2 hy32 ((he.tr he2).tr (r_ec.e he3 (fun j hj => by unfold r_j5 at hj; omega))) g5 ?_ ?_ (fun k hk => ?_) hq
          · rw [he3.2.2 6 (by decide)]; exact f6
          · rw [he3.2.2 3 (by decide), f3]; exact e3
          · rw [he3.2.1 36 (by decide)]; exact f36 k hk
      · exact b106_39 (fun _ => stop hl) (fun _ => b106_45 (fun _ => stop hl) (fun g => absurd (hBt.ge e5 (by omega) (by omega)) g))
  refine e106 (b106_0 (b106_13 (b106_18 (b106_23 (b106_28 (b106_33 ?_))))))
  generalize eσ : px_uI (px_uI (px_uI (px_uI (px_cp σ 36 px_FR 5) 8 5 0) 8 6 0) 8 3 (-1)) 8 4 0 = σ1
  have c36 : r_ec σ (px_cp σ 36 px_FR 5) := ⟨rfl, fun k _ h => by simp [px_cp, h], fun j _ => by simp [px_cp]⟩
  have hec : r_ec σ σ1 := by
    rw [← eσ]
    exact (((c36.tr (r_ec.u (by decide))).tr (r_ec.u (by decide))).tr (r_ec.u (by decide))).tr (r_ec.u (by decide))
  have e5 : σ1.1 8 5 = nI 0 := by rw [← eσ, q_u, if_neg (by decide), q_u, if_neg (by decide), q_u, if_neg (by decide), q_u, if_pos ⟨rfl, rfl⟩]; rfl
  have e6 : σ1.1 8 6 = nI 0 := by rw [← eσ, q_u, if_neg (by decide), q_u, if_neg (by decide), q_u, if_pos ⟨rfl, rfl⟩]; rfl
  have e3 : σ1.1 8 3 = -1 := by rw [← eσ, q_u, if_neg (by decide), q_u, if_pos ⟨rfl, rfl⟩]
  have e36 : ∀ k, k < 5 → σ1.1 36 k = q_r0 k := fun k hk => by
    rw [← eσ, q_uc (by decide), q_uc (by decide), q_uc (by decide), q_uc (by decide), px_cp_self]
    unfold va_cpy
    rw [if_pos ⟨by omega, by omega⟩]
    have : k = 0 ∨ k = 1 ∨ k = 2 ∨ k = 3 ∨ k = 4 := by omega
    rcases this with rfl | rfl | rfl | rfl | rfl <;> rfl
  refine c_skip (hB.ec hec) (Nat.zero_le _) e5 (fun τ he f5 => ?_)
  refine loop 121 0 0 0 q_r0 τ (by omega) (by omega) (Nat.zero_le _) (by decide) (hec.tr (r_ec.e he (fun j hj => by unfold r_j5 at hj; omega))) f5 ?_ ?_ (fun k hk => ?_) rfl
  · rw [he.2.2 6 (by decide)]; exact e6
  · rw [he.2.2 3 (by decide)]; exact e3
  · rw [he.2.1 36 (by decide)]; exact e36 k hk
theorem c_forgetAll (h : ∀ τ : px_S, (∀ a, a ≠ 18 → τ.1 a = σ.1 a) → (∀ j, j < 1600 → τ.1 18 j = -1) → τ.2 = σ.2 → Q none τ) : Cw (d + 2) 125 [.ref 2] σ Q :=
  e125 (b125_0 (c_fill (N := 1600) (by decide) (fun _ => rfl) (fun τ h1 h2 h3 => b125_8 (h τ h1 h2 h3))))
theorem c_read (hV : q_wf V) (hI : k_I V σ) (h : ∀ τ, k_I (sp_read V).2 τ → k_fr σ τ → Q (some (.int (sp_read V).1)) τ) : Cw (d + 9) 105 [.ref 0] σ Q := by
  have hbl := hV.2.2.2.2.2.2.2
  obtain ⟨hb1, hb2, hb3⟩ := hI.2.2.2.2.1
  have hB : r_B (v_by V) σ := ⟨hb1, hb2, hbl.1, fun k => by
    rw [List.getD_eq_getElem?_getD]
    cases hk : (v_by V)[k]? with
    | none => simp
    | some w => exact hbl.2 w (List.mem_of_getElem? hk)⟩
  have cfr : ∀ τ, r_ec σ τ → k_fr σ τ := fun τ he k hk => he.2.1 k (by omega) (by omega)
  refine e105 (b105_0 (c_readClauses hB (fun f hf x τ he hr => b105_7 ?_) (fun y hy τ he e3 e36 => b105_7 ?_)))
  · have es : sp_read V = (-10 - nI f.1, vs_rd V (v_ru V) (nI f.2)) := by unfold sp_read; rw [hf]
    rw [es] at h
    have he2 : r_ec τ τ := r_ec.rf
    have hf2 : f.2 ≤ 120 := by
      have key : ∀ m i M R n, i ≤ (v_by V).length → q_clauses (v_by V) m i M R n = .inl f → f.2 ≤ (v_by V).length := by
        intro m
        induction m with
        | zero => intro i M R n hi hq; rw [q_clauses] at hq; cases hq
        | succ m ih =>
          intro i M R n hi hq
          rw [q_clauses] at hq
          have s2 := (q_skp_in hi).2
          by_cases hl : q_skp (v_by V) i < (v_by V).length
          · rw [if_pos hl] at hq
            cases hc : q_clause (v_by V) M R (q_skp (v_by V) i) with
            | inl g =>
              rw [hc] at hq
              have eg : g = f := Sum.inl.inj hq
              subst eg
              unfold q_clause at hc
              have w2 := (q_wen_in s2).2
              have t2 := (q_skp_in w2).2
              split at hc
              · cases hc; exact s2
              · rename_i k hk
                split at hc
                · cases hc; exact s2
                · split at hc
                  · rename_i f2 hv
                    cases hc
                    unfold q_val at hv
                    split at hv
                    · split at hv
                      · cases hv
                      · split at hv
                        · cases hv
                        · cases hv; exact t2
                    · split at hv
                      · cases hv; exact t2
                      · split at hv
                        · cases hv; exact t2
                        · cases hv
                  · rename_i v hv
                    split at hc
                    · cases hc
                    · cases hc
                      have hvl : v.1 ≤ (v_by V).length := by
                        unfold q_val at hv
                        have a1 := (q_wen_in t2).2
                        have a2 := (q_nen_in t2).2
                        split at hv
                        · split at hv
                          · cases hv; exact a1
                          · split at hv
                            · cases hv; exact a1
                            · cases hv
                        · split at hv
                          · cases hv
                          · split at hv
                            · cases hv
                            · cases hv; exact a2
                      exact (q_skp_in hvl).2
            | inr y =>
              rw [hc] at hq
              exact ih _ _ _ _ (q_clause_in s2 hc).2 hq
          · rw [if_neg hl] at hq; cases hq
      have := key 121 0 0 q_r0 0 (Nat.zero_le _) hf
      have := hbl.1
      omega
    have g3 : (px_uI τ 8 2 0).1 8 3 = nI f.2 := by rw [q_u, if_neg (by decide)]; exact hr.2
    have g4 : (px_uI τ 8 2 0).1 8 4 = nI f.1 := by rw [q_u, if_neg (by decide)]; exact hr.1
    refine b105_16 (fun g => absurd (Eq.symm g) (by rw [g3]; exact q_m1ne (by omega))) (fun _ => b105_27 ?_)
    rw [g4]
    refine h _ ?_ ((cfr τ he).tr (k_fr.uI (by decide)))
    have l2 : τ.2 = σ.2 := he.1
    refine k_I.ex (V := V) (dr := v_dr V) (sg := v_sg V) (bs := []) (fa := nI f.2) hI ?_ ?_ ⟨?_, fun k hk => absurd hk (Nat.not_lt_zero _), ?_⟩ (fun k _ _ _ k4 k5 k6 => ?_) (fun k h0 => ?_) ?_
    · exact hI.2.2.1.fr (by rw [q_uc (by decide), he.2.1 0 (by decide) (by decide)]) (by show τ.2.1 0 = _; rw [l2])
    · exact hI.2.2.2.1.fr (by rw [q_uc (by decide), he.2.1 7 (by decide) (by decide)]) (by rw [q_uc (by decide), he.2.1 34 (by decide) (by decide)])
    · rw [q_u, if_pos ⟨rfl, rfl⟩]; rfl
    · exact g3
    · rw [q_uc k4]; exact he.2.1 k k4 k6
    · show τ.2.1 k = _; rw [l2]
    · show τ.2.2 = _; rw [l2]
  · have es : sp_read V = (nI y.1, vs_rd V y.2 (-1)) := by unfold sp_read; rw [hy]
    rw [es] at h
    have l2 : τ.2 = σ.2 := he.1
    have g3 : (px_uI τ 8 2 0).1 8 3 = -1 := by rw [q_u, if_neg (by decide)]; exact e3
    have e0 : (0 : Int32).toNatClampNeg = 0 := by decide
    -- the end, once the fits are right
    have fin : ∀ υ : px_S, (∀ a, a ≠ 18 → υ.1 a = (px_uI τ 8 2 0).1 a) → υ.2 = σ.2 → k_F (vs_rd V y.2 (-1)) υ → Wp (d + 8) tb_105 63 [.ref 0, .int (nI y.1)] [] υ Q := by
      intro υ ha h2' hF
      refine b105_63 (b105_80 (c_forget (b105_84 (h _ ?_ ?_))))
      · have c : ∀ k, k ≠ 10 ∧ k ≠ 18 ∧ k ≠ 8 ∧ k ≠ 36 → (px_cp υ 10 (υ.1 36) 5).1 k = σ.1 k := fun k hk => by
          have e1 : (px_cp υ 10 (υ.1 36) 5).1 k = υ.1 k := by simp [px_cp, hk.1]
          rw [e1, ha k hk.2.1, q_uc hk.2.2.1]; exact he.2.1 k hk.2.2.1 hk.2.2.2
        have l : (px_cp υ 10 (υ.1 36) 5).2 = σ.2 := h2'
        obtain ⟨i1, i2, i3, i4, i5, i6, -, -, -, i10⟩ := hI
        have jH : k_H V (px_cp υ 10 (υ.1 36) 5) := i1.fr (c 1 (by decide)) (fun k k1 k2 => c k (by omega)) (by rw [l]) (by rw [l])
        have jD : k_D V (px_cp υ 10 (υ.1 36) 5) := i3.fr (c 0 (by decide)) (by rw [l])
        have jS : k_S V (px_cp υ 10 (υ.1 36) 5) := i4.fr (c 7 (by decide)) (c 34 (by decide))
        have e8 : (px_cp υ 10 (υ.1 36) 5).1 8 = (px_uI τ 8 2 0).1 8 := by
          have e1 : (px_cp υ 10 (υ.1 36) 5).1 8 = υ.1 8 := by simp [px_cp]
          rw [e1, ha 8 (by decide)]
        have e18 : (px_cp υ 10 (υ.1 36) 5).1 18 = υ.1 18 := by simp [px_cp]
        refine k_I.fg (W := vs_rd V y.2 (-1)) jH (fun k hk => ?_) jD jS ⟨?_, fun k hk => absurd hk (Nat.not_lt_zero _), ?_⟩ (hF.fr e18) (i10.fr (c 33 (by decide)) (by rw [l]))
        · rw [px_cp_self]
          unfold va_cpy
          rw [if_pos ⟨by omega, by omega⟩, ha 36 (by decide), q_uc (by decide), e36 _ (by omega)]
          show y.2 (0 + (k - 0)) = y.2 k
          rw [Nat.zero_add, Nat.sub_zero]
        · rw [e8, q_u, if_pos ⟨rfl, rfl⟩]; rfl
        · rw [e8]; exact g3
      · intro k hk
        rw [k_fg_c (by omega) (by omega) (by omega)]
        have e1 : (px_cp υ 10 (υ.1 36) 5).1 k = υ.1 k := by
          have : k ≠ 10 := by omega
          simp [px_cp, this]
        rw [e1, ha k (by omega), q_uc (by omega)]
        exact he.2.1 k (by omega) (by omega)
    have r10 : (px_uI τ 8 2 0).1 10 (0 : Int32).toNatClampNeg = v_ru V 0 := by rw [e0, q_uc (by decide), he.2.1 10 (by decide) (by decide)]; exact hI.2.1 0 (by decide)
    have r36 : (px_uI τ 8 2 0).1 36 (0 : Int32).toNatClampNeg = y.2 0 := by rw [e0, q_uc (by decide)]; exact e36 0 (by decide)
    refine b105_16 (fun _ => b105_38 (by unfold vp_in; decide) (by unfold vp_in; decide) (fun g => fin _ (fun _ _ => rfl) l2 ?_) (fun g => b105_56 (c_forgetAll (fun υ ha h18 h2' => fin υ ha (h2'.trans l2) ?_)))) (fun g => absurd g3 g)
    · rw [r10, r36] at g
      intro u v hu hv
      have e18 : (px_uI τ 8 2 0).1 18 = σ.1 18 := by rw [q_uc (by decide)]; exact he.2.1 18 (by decide) (by decide)
      rw [e18]
      rcases hI.2.2.2.2.2.1 u v hu hv with z | ⟨z1, z2, z3⟩
      · exact Or.inl z
      · refine Or.inr ⟨z1, z2, ?_⟩
        rw [z3]
        congr 1
        exact (q_fit_cg (V := V) (W := vs_rd V y.2 (-1)) rfl rfl g.symm (fun _ _ _ _ => ⟨rfl, rfl⟩)).symm
    · intro u v hu hv
      exact Or.inl (h18 _ (by omega))
end KRE
