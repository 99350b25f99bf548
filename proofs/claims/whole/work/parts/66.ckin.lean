/-! ===== the class: who answers whom, lines held ===== -/
theorem k_rwb {p : Nat → Option Nat} {z : Nat} : q_rw p z = q_bi (p z) := by unfold q_rw q_bi; cases p z <;> rfl
theorem q_okp_lt {p : Nat → Option Nat} {n y z : Nat} (hp : q_okp p n) (h : p y = some z) : z < n := by obtain ⟨r, hr⟩ := hp; exact (hr y z h).2.1
/-- the best without the bound -/
def k_cnd (V : QV) (a : Int32) (p : Nat → Option Nat) (x y : Nat) : Bool := !(q_late V y x) && (q_seen V a y && (decide (y ≠ x) && !(q_cm p y x)))
def k_ftl (V : QV) (a : Int32) (p : Nat → Option Nat) (x : Nat) : Nat → Option Nat × Nat
  | 0 => (none, 0)
  | y + 1 => if k_cnd V a p x y && decide ((k_ftl V a p x y).2 < q_fit V x y) then (some y, q_fit V x y) else k_ftl V a p x y
theorem k_ftl_le {V : QV} {a : Int32} {p : Nat → Option Nat} {x : Nat} : ∀ n, (k_ftl V a p x n).2 ≤ v_sz V x
  | 0 => Nat.zero_le _
  | n + 1 => by
    rw [k_ftl]
    split
    · exact q_fit_le x n
    · exact k_ftl_le n
theorem q_bt_cnd {V : QV} {a : Int32} {p : Nat → Option Nat} {x y most : Nat} : q_bt V a p x y most = (k_cnd V a p x y && (decide (most < q_fit V x y) && decide ((v_ru V 1).toInt * (q_quo V x : Int) ≤ 100 * (q_fit V x y : Int)))) := by
  unfold q_bt k_cnd
  cases q_late V y x <;> cases q_seen V a y <;> cases decide (y ≠ x) <;> cases q_cm p y x <;> rfl
theorem k_ftl_eq {V : QV} {a : Int32} {p : Nat → Option Nat} {x : Nat} : ∀ n, ((v_ru V 1).toInt * (q_quo V x : Int) ≤ 100 * ((k_ftl V a p x n).2 : Int) → q_ftl V a p x n = k_ftl V a p x n) ∧ (¬ (v_ru V 1).toInt * (q_quo V x : Int) ≤ 100 * ((k_ftl V a p x n).2 : Int) → q_ftl V a p x n = (none, 0))
  | 0 => ⟨fun _ => rfl, fun _ => rfl⟩
  | n + 1 => by
    obtain ⟨h1, h2⟩ := k_ftl_eq (V := V) (a := a) (p := p) (x := x) n
    generalize hT : (v_ru V 1).toInt * (q_quo V x : Int) = T at h1 h2 ⊢
    rw [k_ftl, q_ftl, q_bt_cnd, hT]
    by_cases hc : k_cnd V a p x n = true
    · rw [hc, Bool.true_and, Bool.true_and]
      by_cases ht : T ≤ 100 * ((k_ftl V a p x n).2 : Int)
      · rw [h1 ht]
        by_cases hf : (k_ftl V a p x n).2 < q_fit V x n
        · have : T ≤ 100 * (q_fit V x n : Int) := by omega
          simp [hf, this]
        · simp only [hf, decide_false, Bool.false_and, Bool.false_eq_true, if_false]
          exact ⟨fun _ => trivial, fun z => absurd ht z⟩
      · rw [h2 ht]
        by_cases hg : T ≤ 100 * (q_fit V x n : Int)
        · have hf : (k_ftl V a p x n).2 < q_fit V x n := by omega
          have h0 : 0 < q_fit V x n := by omega
          simp [hf, hg, h0]
        · by_cases hf : (k_ftl V a p x n).2 < q_fit V x n
          · simp [hf, hg]
          · simp only [hf, decide_false, Bool.false_eq_true, if_false, hg, Bool.and_false]
            exact ⟨fun z => absurd z ht, fun _ => trivial⟩
    · have hc' : k_cnd V a p x n = false := by
        cases h : k_cnd V a p x n with
        | false => rfl
        | true => exact absurd h hc
      rw [hc']
      simp only [Bool.false_and, Bool.false_eq_true, if_false]
      exact ⟨h1, h2⟩
theorem q_P_none {lk : Nat → Nat → Bool} : ∀ i j, (∀ a b, a < i → lk a b = false) → q_P lk i j = 0
  | 0, _, _ => by simp [q_P]
  | i + 1, 0, _ => by simp [q_P]
  | i + 1, j + 1, h => by
    rw [q_P, q_P_none i (j + 1) (fun a b ha => h a b (by omega)), q_P_none (i + 1) j h, q_P_none i j (fun a b ha => h a b (by omega)), h i j (by omega)]
    rfl
theorem q_cnt_zero {f : Nat → Bool} : ∀ n, q_cnt f n = 0 → ∀ i, i < n → f i = false
  | 0, _, i, hi => absurd hi (Nat.not_lt_zero _)
  | n + 1, h, i, hi => by
    rw [q_cnt] at h
    by_cases hin : i = n
    · subst hin
      cases hf : f i with
      | false => rfl
      | true => rw [hf] at h; simp at h
    · exact q_cnt_zero n (by omega) i (by omega)
theorem q_fit_none {V : QV} {x y : Nat} (h : q_quo V x = 0) : q_fit V x y = 0 := by
  unfold q_fit
  refine q_P_none _ _ (fun a b ha => ?_)
  have := q_cnt_zero _ h a ha
  unfold q_lk
  rw [this]
  rfl
theorem k_ftl_none {V : QV} {a : Int32} {p : Nat → Option Nat} {x : Nat} (h : q_quo V x = 0) : ∀ n, k_ftl V a p x n = (none, 0)
  | 0 => rfl
  | n + 1 => by rw [k_ftl, k_ftl_none h n, q_fit_none h]; simp
def k_pr (k : Nat) (p : Nat → Option Nat) (n : Nat) (τ : px_S) : Prop := ∀ y, y < n → τ.1 (2 * k + 15) y = q_rw p y
def k_sn (V : QV) (a : Int32) (k : Nat) (τ : px_S) : Prop := q_set (τ.2.1 k 7) (fun x => decide (x < v_n V) && q_seen V a x)
section KK
variable {d : Nat} {Q : Option Value → px_S → Prop} {σ : px_S} {V : QV} {k : Nat} {a : Int32} {p : Nat → Option Nat}
theorem c_kSeen {x : Nat} {W : Nat → Bool} (hk : k = 3 ∨ k = 4) (hs : q_set (σ.2.1 k 7) W) (hx : x < 64) (h : Q (some (.int (q_b (W x)))) σ) : Cw (d + 1) 24 [.ref k, .int (nI x)] σ Q := by
  have hz := hs.u0 hx
  refine e24 (b24_0 hk (fun g => b24_17 hk (b24_18 hk (Or.inl rfl) ?_)) (fun g => b24_13 hk (b24_18 hk (Or.inr rfl) ?_)))
  · rw [hz.mp g] at h; exact h
  · cases hb : W x with
    | true => rw [hb] at h; exact h
    | false => exact absurd (hz.mpr hb) g
theorem c_seen {x : Nat} (hV : q_wf V) (hk : k = 3 ∨ k = 4) (hs : k_sn V a k σ) (hx : x < v_n V) (h : Q (some (.int (q_b (q_seen V a x)))) σ) : Cw (d + 1) 24 [.ref k, .int (nI x)] σ Q := by
  have hn := hV.1
  refine c_kSeen hk hs (by omega) ?_
  rw [decide_eq_true hx, Bool.true_and]
  exact h
theorem c_leadsTo {n y x : Nat} (hk : k = 3 ∨ k = 4) (hn : n ≤ 40) (hp : q_okp p n) (hr : k_pr k p n σ) (hy : y < n) (hx : x < n) (h : Q (some (.int (q_b (q_cm p y x)))) σ) : Cw (d + 1) 27 [.ref k, .int (nI y), .int (nI x)] σ Q := by
  have loop : ∀ m s (o : Option Nat), s + m = 40 → (∀ z, o = some z → z < n) → q_cmf p m o x = q_cm p y x → Wp d tb_27 5 [.ref k, .int (nI y), .int (nI x), .int (q_bi o), .int (nI s)] [] σ Q := by
    intro m
    induction m with
    | zero =>
      intro s o hs ho he
      rw [← he] at h
      exact b27_5 hk (fun _ => b27_37 hk h) (fun g => absurd (by rw [show s = 40 by omega]; decide) g)
    | succ m ih =>
      intro s o hs ho he
      refine b27_5 hk (fun g => absurd g (nI_ge (b := 40) (by omega) (by decide))) (fun _ => ?_)
      cases o with
      | none =>
        rw [← he] at h
        exact b27_12 hk (fun _ => b27_37 hk h) (fun g => absurd rfl g)
      | some z =>
        have hz := ho z rfl
        obtain ⟨iz, cz⟩ := q_lt (j := z) (N := 40) (by omega) (by decide)
        refine b27_12 hk (fun g => absurd g.symm (q_m1ne (by omega))) (fun _ => b27_17 hk (fun g => b27_24 hk iz ?_) (fun g => b27_22 hk ?_))
        · show Wp d tb_27 5 [.ref k, .int (nI y), .int (nI x), .int (σ.1 (2 * k + 15) (nI z).toNatClampNeg), .int (nI s + 1)] [] σ Q
          rw [cz, hr z hz, nI_1, k_rwb]
          refine ih (s + 1) (p z) (by omega) (fun w hw => q_okp_lt hp hw) ?_
          rw [q_cmf, if_neg (fun e => g (by rw [e]; rfl))] at he
          exact he
        · have e : z = x := (nI_eq (by omega) (by omega)).mp (Decidable.not_not.mp g)
          rw [q_cmf, if_pos e] at he
          rw [← he] at h
          exact h
  exact e27 (b27_0 hk (loop 40 0 (some y) (by omega) (fun z hz => by cases hz; exact hy) rfl))
theorem c_isFree {y x : Nat} (hV : q_wf V) (hk : k = 3 ∨ k = 4) (hs : k_sn V a k σ) (hp : q_okp p (v_n V)) (hr : k_pr k p (v_n V) σ) (hy : y < v_n V) (hx : x < v_n V) (h : Q (some (.int (q_b (q_seen V a y && (decide (y ≠ x) && !(q_cm p y x)))))) σ) : Cw (d + 2) 26 [.ref k, .int (nI y), .int (nI x)] σ Q := by
  have hn := hV.1
  refine e26 (b26_0 hk (c_seen hV hk hs hy ?_))
  cases hse : q_seen V a y with
  | false =>
    rw [hse] at h
    exact b26_5 hk (fun _ => b26_26 hk (b26_27 hk (Or.inl rfl) h)) (fun g => absurd rfl g)
  | true =>
    rw [hse] at h
    refine b26_5 hk (fun g => absurd g (by decide)) (fun _ => b26_8 hk (fun g => ?_) (fun g => b26_13 hk (c_leadsTo hk hn hp hr hy hx ?_)))
    · have e : y = x := (nI_eq (by omega) (by omega)).mp g
      rw [decide_eq_false (fun z => z e)] at h
      exact b26_26 hk (b26_27 hk (Or.inl rfl) h)
    · have e : y ≠ x := fun z => g (by rw [z])
      rw [decide_eq_true e] at h
      cases hc : q_cm p y x with
      | true =>
        rw [hc] at h
        exact b26_19 hk (fun _ => b26_26 hk (b26_27 hk (Or.inl rfl) h)) (fun z => absurd (by decide) z)
      | false =>
        rw [hc] at h
        exact b26_19 hk (fun z => absurd rfl z) (fun _ => b26_22 hk (b26_27 hk (Or.inr rfl) h))
theorem c_isAfter {y x : Nat} (hV : q_wf V) (hH : k_H V σ) (hk : k = 3 ∨ k = 4) (hy : y < v_n V) (hx : x < v_n V) (h : Q (some (.int (q_b (q_late V y x)))) σ) : Cw (d + 1) 28 [.ref k, .int (nI y), .int (nI x)] σ Q := by
  have hn := hV.1
  obtain ⟨ix, cx⟩ := q_lt (j := x) (N := 40) (by omega) (by decide)
  obtain ⟨iy, cy⟩ := q_lt (j := y) (N := 40) (by omega) (by decide)
  have dx := (hH.2.2.2.1 x hx).2.1
  have dy := (hH.2.2.2.1 y hy).2.1
  have no : q_late V y x = false → Wp d tb_28 51 [.ref k, .int (nI y), .int (nI x)] [] σ Q := fun z => by rw [z] at h; exact b28_51 hk (b28_52 hk (Or.inl rfl) h)
  refine e28 (b28_0 hk ix (fun g => no ?_) (fun g => b28_13 hk iy (fun g2 => no ?_) (fun g2 => b28_26 hk iy ix (fun g3 => no ?_) (fun g3 => ?_))))
  · rw [cx, dx] at g
    unfold q_late; rw [g]; rfl
  · rw [cy, dy] at g2
    unfold q_late; rw [g2]
    have : ¬ (0 ≤ v_dy V x ∧ v_dy V x < -1) := fun z => by
      have h1 := z.1; have h2 := z.2
      rw [Int32.le_iff_toInt_le] at h1
      rw [k_lt (n := -1) (by decide)] at h2
      have h0 : (0 : Int32).toInt = 0 := by decide
      omega
    by_cases h0 : 0 ≤ v_dy V x
    · rw [decide_eq_false (fun z => this ⟨h0, z⟩), Bool.and_false]
    · rw [decide_eq_false h0]; rfl
  · rw [cx, cy, dx, dy] at g3
    unfold q_late; rw [decide_eq_false (Int32.not_lt.mpr g3), Bool.and_false]
  · rw [cx, cy, dx, dy] at g3
    rw [cx, dx] at g
    have h0 : 0 ≤ v_dy V x := by
      rcases (hV.2.1 x hx).2.2.1 with e | ⟨e, he, ee⟩
      · exact absurd e g
      · rw [ee]; exact nI_pos' (by omega)
    have e : q_late V y x = true := by unfold q_late; rw [decide_eq_true h0, decide_eq_true (Int32.not_le.mp g3)]; rfl
    rw [e] at h
    exact b28_47 hk (b28_52 hk (Or.inr rfl) h)
theorem c_findParent {x : Nat} (hV : q_wf V) (hk : k = 3 ∨ k = 4) (hH : k_H V σ) (hR : k_R V σ) (hF : k_F V σ) (hs : k_sn V a k σ) (hp : q_okp p (v_n V)) (hr : k_pr k p (v_n V) σ) (hx : x < v_n V) (hsx : q_seen V a x = true) (h : ∀ τ, k_F V τ → k_e k_sf k_t0 σ τ → Q (some (.int (q_bi (q_ch V a p x)))) τ) : Cw (d + 6) 25 [.ref k, .int (nI x)] σ Q := by
  have hn := hV.1
  obtain ⟨ix, cx⟩ := q_lt (j := x) (N := 40) (by omega) (by decide)
  have hsz := (hV.2.1 x hx).1
  have hq14 : q_quo V x ≤ 14 := Nat.le_trans (q_cnt_le _ _) hsz
  obtain ⟨f1, hf1, ef1⟩ := hV.2.2.2.2.2.1.2.1
  have em : (v_ru V 1).toInt = (f1 : Int) := by rw [ef1, nI_toInt (by omega)]
  have b1 : f1 * q_quo V x ≤ 100 * 14 := Nat.mul_le_mul hf1 hq14
  have e15 : ∀ τ, k_e k_sf k_t0 σ τ → τ.1 15 x = nI (q_quo V x) := fun τ he => by rw [he.1 15 (by unfold k_sf; omega)]; exact (hH.2.2.2.1 x hx).2.2.2.2
  have e17 : ∀ τ, k_e k_sf k_t0 σ τ → τ.1 1 7 = nI (v_n V) := fun τ he => by rw [he.1 1 (by unfold k_sf; omega)]; exact hH.1
  have fin : ∀ (τ : px_S) (x2 x5 : Int32) (v6 : Value), q_named V a p x = none → k_F V τ → k_e k_sf k_t0 σ τ → Wp (d + 5) tb_25 129 [.ref k, .int (nI x), .int x2, .int (q_bi (k_ftl V a p x (v_n V)).1), .int (nI (k_ftl V a p x (v_n V)).2), .int x5, v6] [] τ Q := by
    intro τ x2 x5 v6 hnm hFt he
    have hq : q_ch V a p x = (q_ftl V a p x (v_n V)).1 := by unfold q_ch; rw [hsx, hnm]; rfl
    have hml := k_ftl_le (V := V) (a := a) (p := p) (x := x) (v_n V)
    obtain ⟨t1, t2⟩ := k_ftl_eq (V := V) (a := a) (p := p) (x := x) (v_n V)
    have er : τ.1 10 (1 : Int32).toNatClampNeg = nI f1 := by rw [he.1 10 (by unfold k_sf; omega), ← ef1]; exact hR 1 (by decide)
    have hmul : ((f1 * q_quo V x : Nat) : Int) = (f1 : Int) * (q_quo V x : Int) := by simp
    rw [em] at t1 t2
    refine b25_129 hk (by unfold vp_in; decide) ix (fun g => b25_157 hk (b25_158 hk ?_)) (fun g => b25_153 hk (b25_158 hk ?_))
    · rw [er, cx, e15 τ he, show (100 : Int32) = nI 100 from rfl, pk_mul, pk_mul, nI_ltI (by omega) (by omega)] at g
      have := t2 (by omega)
      have h9 := h τ hFt he
      rw [hq, this] at h9
      exact h9
    · rw [er, cx, e15 τ he, show (100 : Int32) = nI 100 from rfl, pk_mul, pk_mul, nI_ltI (by omega) (by omega)] at g
      have := t1 (by omega)
      have h9 := h τ hFt he
      rw [hq, this] at h9
      exact h9
  have loop : ∀ m y (τ : px_S) (x2 : Int32) (v6 : Value), y + m = v_n V → q_named V a p x = none → 0 < q_quo V x → k_F V τ → k_e k_sf k_t0 σ τ → px_nc v6 = true → Wp (d + 5) tb_25 50 [.ref k, .int (nI x), .int x2, .int (q_bi (k_ftl V a p x y).1), .int (nI (k_ftl V a p x y).2), .int (nI y), v6] [] τ Q := by
    intro m
    induction m with
    | zero =>
      intro y τ x2 v6 hy hnm hq hFt he n6
      have e : y = v_n V := by omega
      subst e
      exact b25_50 hk (fun _ => fin τ x2 _ v6 hnm hFt he) (fun g => absurd (by rw [e17 τ he]; exact Int32.le_refl _) g)
    | succ m ih =>
      intro y τ x2 v6 hy hnm hq hFt he n6
      have hyn : y < v_n V := by omega
      have hHt : k_H V τ := hH.ef he (fun k hk => by unfold k_sf at hk; omega)
      have hRt : k_R V τ := hR.ef he (fun k hk => by unfold k_sf at hk; omega)
      have hst : k_sn V a k τ := by unfold k_sn; rw [he.2.1 k id]; exact hs
      have hrt : k_pr k p (v_n V) τ := fun z hz => by rw [he.1 (2 * k + 15) (by unfold k_sf; omega)]; exact hr z hz
      have skip : ∀ (τ' : px_S) (v6 : Value), k_F V τ' → k_e k_sf k_t0 σ τ' → px_nc v6 = true → (k_cnd V a p x y && decide ((k_ftl V a p x y).2 < q_fit V x y)) = false → Wp (d + 5) tb_25 123 [.ref k, .int (nI x), .int x2, .int (q_bi (k_ftl V a p x y).1), .int (nI (k_ftl V a p x y).2), .int (nI y), v6] [] τ' Q := by
        intro τ' v6 hF' he' n6' hb
        refine b25_123 hk ?_
        have e := ih (y + 1) τ' x2 v6 (by omega) hnm hq hF' he' n6'
        rw [k_ftl, hb] at e
        rw [nI_1]
        exact e
      have hml := k_ftl_le (V := V) (a := a) (p := p) (x := x) y
      have hfl := q_fit_le (V := V) x y
      refine b25_50 hk (fun g => absurd g (by rw [e17 τ he]; exact nI_ge (by omega) (by omega))) (fun _ => b25_62 hk ix (fun g => absurd g (by rw [cx, e15 τ he]; exact nI_nle hq (by omega))) (fun _ => b25_74 hk n6 (c_isAfter hV hHt hk hyn hx ?_)))
      cases hl : q_late V y x with
      | true => exact b25_81 hk (fun _ => skip τ v6 hFt he n6 (by unfold k_cnd; rw [hl]; rfl)) (fun g => absurd (by decide) g)
      | false =>
        refine b25_81 hk (fun g => absurd rfl g) (fun _ => b25_84 hk n6 (c_isFree hV hk hst hp hrt hyn hx ?_))
        cases hf : (q_seen V a y && (decide (y ≠ x) && !(q_cm p y x))) with
        | false => exact b25_91 hk (fun g => absurd rfl g) (fun _ => b25_94 hk (skip τ v6 hFt he n6 (by unfold k_cnd; rw [hf, hl]; rfl)))
        | true =>
          have hcn : k_cnd V a p x y = true := by unfold k_cnd; rw [hf, hl]; rfl
          refine b25_91 hk (fun _ => b25_97 hk n6 (c_of hV hHt hRt hFt hx hyn (fun τ' hF' he' => b25_107 hk (fun g => ?_) (fun g => b25_116 hk (b25_123 hk ?_))))) (fun g => absurd (by decide) g)
          · rw [nI_leI (by omega) (by omega)] at g
            exact skip τ' _ hF' (he.tr he') rfl (by rw [decide_eq_false (by omega), Bool.and_false])
          · rw [nI_leI (by omega) (by omega)] at g
            have e := ih (y + 1) τ' x2 (.int (nI (q_fit V x y))) (by omega) hnm hq hF' (he.tr he') rfl
            rw [k_ftl, hcn, decide_eq_true (by omega)] at e
            rw [nI_1]
            exact e
  have search : ∀ (x2 : Int32), q_named V a p x = none → Wp (d + 5) tb_25 42 [.ref k, .int (nI x), .int x2, .null, .null, .null, .null] [] σ Q := by
    intro x2 hnm
    refine b25_42 hk ?_
    by_cases hq : q_quo V x = 0
    · have e0 := k_ftl_none (V := V) (a := a) (p := p) (x := x) hq (v_n V)
      have f0 := fin σ x2 0 .null hnm hF k_e.rf
      rw [e0] at f0
      refine b25_50 hk (fun _ => f0) (fun _ => b25_62 hk ix (fun _ => f0) (fun g => absurd (by rw [cx, e15 σ k_e.rf, hq]; decide) g))
    · exact loop (v_n V) 0 σ x2 .null (by omega) hnm (by omega) hF k_e.rf rfl
  have er2 : σ.1 10 (2 : Int32).toNatClampNeg = v_ru V 2 := hR 2 (by decide)
  have e13 : σ.1 13 (nI x).toNatClampNeg = v_nm V x := by rw [cx]; exact (hH.2.2.2.1 x hx).2.2.1
  refine e25 (b25_0 hk ix (by unfold vp_in; decide) (fun g => ?_) (fun g => ?_))
  · rw [er2] at g
    refine search _ ?_
    unfold q_named
    cases q_nmo V x with
    | none => rfl
    | some y => exact if_neg (fun z => g z.1)
  · rw [er2] at g
    have g := Decidable.not_not.mp g
    rw [e13]
    refine b25_20 hk (c_has hV hH (fun y hy ey => ?_) (fun hno => ?_))
    · have hnmo : q_nmo V x = some y := by
        unfold q_nmo; rw [ey, if_neg (nI_pos (by omega)), nI_clamp (by omega)]
      have hyx := (q_nmo_lt hV hx hnmo).1
      rw [ey]
      refine b25_28 hk (fun z => absurd z (by decide)) (fun _ => b25_31 hk (c_isFree hV hk hs hp hr hy hx ?_))
      rw [decide_eq_true (show y ≠ x by omega), Bool.true_and]
      have hnd : q_named V a p x = if q_seen V a y = true ∧ q_cm p y x = false then some y else none := by
        unfold q_named
        rw [hnmo]
        dsimp only
        by_cases hc : q_seen V a y = true ∧ q_cm p y x = false
        · rw [if_pos hc, if_pos ⟨g, hc⟩]
        · rw [if_neg hc, if_neg (fun z => hc z.2)]
      cases hsy : q_seen V a y with
      | false =>
        rw [hsy, if_neg (fun z => by cases z.1)] at hnd
        exact b25_37 hk (fun _ => search _ hnd) (fun z => absurd rfl z)
      | true =>
        cases hcm : q_cm p y x with
        | true =>
          rw [hcm, if_neg (fun z => by cases z.2)] at hnd
          exact b25_37 hk (fun _ => search _ hnd) (fun z => absurd rfl z)
        | false =>
          rw [if_pos ⟨hsy, hcm⟩] at hnd
          have hq : q_ch V a p x = some y := by unfold q_ch; rw [hsx, hnd]; rfl
          have h9 := h σ hF k_e.rf
          rw [hq] at h9
          exact b25_37 hk (fun z => absurd z (by decide)) (fun _ => b25_40 hk h9)
    · refine b25_28 hk (fun _ => search _ ?_) (fun z => absurd rfl z)
      cases hnmo : q_nmo V x with
      | none => unfold q_named; rw [hnmo]
      | some y =>
        obtain ⟨y1, y2⟩ := q_nmo_lt hV hx hnmo
        exact absurd y2 (hno y (by omega))
theorem c_findHeld {s y : Nat} (hV : q_wf V) (hk : k = 3 ∨ k = 4) (hH : k_H V σ) (hR : k_R V σ) (hs : q_sp V s) (hy : y < v_n V) (h : ∀ τ, k_e (fun k => k = 20) k_t0 σ τ → Q (some (.int (q_bi (q_hl V s y)))) τ) : Cw (d + 4) 36 [.ref k, .int (nI s), .int (nI y)] σ Q := by
  have hn := hV.1
  have ls := q_sp_lt hV hs
  obtain ⟨is, cs⟩ := q_lt (j := s) (N := 560) ls (by decide)
  obtain ⟨iy, cy⟩ := q_lt (j := y) (N := 40) (by omega) (by decide)
  have hsy := (hV.2.1 y hy).1
  have e14 : ∀ τ, k_e (fun k => k = 20) k_t0 σ τ → τ.1 14 y = nI (v_sz V y) := fun τ he => by rw [he.1 14 (by decide)]; exact (hH.2.2.2.1 y hy).2.2.2.1
  have loop2 : ∀ m i (τ : px_S) (v4 : Value), i + m = v_sz V y → px_nc v4 = true → k_e (fun k => k = 20) k_t0 σ τ → q_hl V s y = (q_up (fun l => q_lk V s (14 * y + l)) m i).map (fun l => 14 * y + l) → Wp (d + 3) tb_36 80 [.ref k, .int (nI s), .int (nI y), .int (nI i), v4] [] τ Q := by
    intro m
    induction m with
    | zero =>
      intro i τ v4 hi n4 he hq
      have h9 := h τ he
      rw [hq] at h9
      exact b36_80 hk iy (fun _ => b36_121 hk h9) (fun g => absurd (by rw [cy, e14 τ he]; exact nI_le (by omega) (by omega)) g)
    | succ m ih =>
      intro i τ v4 hi n4 he hq
      have ht : q_sp V (14 * y + i) := ⟨y, i, hy, by omega, rfl⟩
      have hHt : k_H V τ := hH.ef he (fun k hk => by omega)
      have hRt : k_R V τ := hR.ef he (fun k hk => by omega)
      refine b36_80 hk iy (fun g => absurd g (by rw [cy, e14 τ he]; exact nI_ge (by omega) (by omega))) (fun _ => b36_93 hk n4 (c_spotOf (b36_103 hk n4 (c_isLike hV hHt hRt hs ht (fun τ' he' => ?_)))))
      rw [q_up] at hq
      cases hl : q_lk V s (14 * y + i) with
      | false =>
        rw [hl, if_neg (by decide)] at hq
        refine b36_106 hk (fun _ => b36_115 hk ?_) (fun g => absurd rfl g)
        rw [nI_1]
        exact ih (i + 1) τ' v4 (by omega) n4 (he.tr he') hq
      | true =>
        rw [hl, if_pos rfl] at hq
        have h9 := h τ' (he.tr he')
        rw [hq] at h9
        exact b36_106 hk (fun g => absurd g (by decide)) (fun _ => b36_109 hk n4 (c_spotOf (b36_114 hk h9)))
  have loop1 : ∀ m i (v4 : Value), i + m = v_sz V y → px_nc v4 = true → q_up (fun l => q_sm V s (14 * y + l)) (v_sz V y) 0 = q_up (fun l => q_sm V s (14 * y + l)) m i → Wp (d + 3) tb_36 2 [.ref k, .int (nI s), .int (nI y), .int (nI i), v4] [] σ Q := by
    intro m
    induction m with
    | zero =>
      intro i v4 hi n4 hq
      refine b36_2 hk iy (fun _ => b36_78 hk (loop2 (v_sz V y) 0 σ v4 (by omega) n4 k_e.rf ?_)) (fun g => absurd (by rw [cy, e14 σ k_e.rf]; exact nI_le (by omega) (by omega)) g)
      unfold q_hl
      rw [hq]
      rfl
    | succ m ih =>
      intro i v4 hi n4 hq
      have ht : q_sp V (14 * y + i) := ⟨y, i, hy, by omega, rfl⟩
      obtain ⟨it, ct⟩ := q_lt (j := 14 * y + i) (N := 560) (q_sp_lt hV ht) (by decide)
      obtain ⟨p1, t1⟩ := hH.sp hs
      obtain ⟨p2, t2⟩ := hH.sp ht
      have d1 := (hV.sp hs).1
      have d2 := (hV.sp ht).1
      have no : q_sm V s (14 * y + i) = false → Wp (d + 3) tb_36 72 [.ref k, .int (nI s), .int (nI y), .int (nI i), .int (nI (14 * y + i))] [] σ Q := fun hb => by
        refine b36_72 hk ?_
        rw [nI_1]
        rw [q_up, hb, if_neg (by decide)] at hq
        exact ih (i + 1) _ (by omega) rfl hq
      refine b36_2 hk iy (fun g => absurd g (by rw [cy, e14 σ k_e.rf]; exact nI_ge (by omega) (by omega))) (fun _ => b36_15 hk n4 (c_spotOf (b36_20 hk it is (fun g => no ?_) (fun g => b36_45 hk it is (fun g2 => no ?_) (fun g2 => b36_69 hk ?_)))))
      · rw [ct, cs, t1, t2, k_txeq hV ht hs] at g
        unfold q_sm
        rw [decide_eq_false (p := v_tx V s = v_tx V (14 * y + i)) (fun z => g z.symm), Bool.and_false]
      · rw [ct, cs, p1, p2] at g2
        unfold q_sm
        have : ¬ v_dp V (14 * y + i) + 1 = v_dp V s := fun z => g2 (by rw [← z, nI_pred])
        rw [decide_eq_false this]; rfl
      · rw [ct, cs, t1, t2, k_txeq hV ht hs] at g
        rw [ct, cs, p1, p2] at g2
        have g := Decidable.not_not.mp g
        have g2 := Decidable.not_not.mp g2
        have hdp : v_dp V (14 * y + i) + 1 = v_dp V s := by
          rcases Nat.eq_zero_or_pos (v_dp V s) with z | z
          · rw [z] at g2
            have h1 := congrArg Int32.toInt g2
            rw [nI_toInt (by omega), q_m1 (by decide)] at h1
            omega
          · rw [show v_dp V s = (v_dp V s - 1) + 1 by omega, nI_pred] at g2
            have := (nI_eq (by omega) (by omega)).mp g2
            omega
        have hb : q_sm V s (14 * y + i) = true := by unfold q_sm; rw [decide_eq_true hdp, decide_eq_true g.symm]; rfl
        rw [q_up, hb, if_pos rfl] at hq
        have h9 := h σ k_e.rf
        unfold q_hl at h9
        rw [hq] at h9
        exact h9
  exact e36 (b36_0 hk (loop1 (v_sz V y) 0 _ (by omega) rfl rfl))
theorem c_holdLines {x : Nat} (hV : q_wf V) (hk : k = 3 ∨ k = 4) (hH : k_H V σ) (hR : k_R V σ) (hp : q_okp p (v_n V)) (hr : k_pr k p (v_n V) σ) (hx : x < v_n V) (h : ∀ τ, k_e (fun c => c = 20 ∨ c = 2 * k + 16) k_t0 σ τ → (∀ l, l < v_sz V x → τ.1 (2 * k + 16) (14 * x + l) = q_bi (q_held V p (14 * x + l))) → (∀ s, (s < 14 * x ∨ 14 * x + 14 ≤ s) → τ.1 (2 * k + 16) s = σ.1 (2 * k + 16) s) → Q none τ) : Cw (d + 5) 35 [.ref k, .int (nI x)] σ Q := by
  have hn := hV.1
  have hsz := (hV.2.1 x hx).1
  obtain ⟨ix, cx⟩ := q_lt (j := x) (N := 40) (by omega) (by decide)
  have e14 : ∀ τ, k_e (fun c => c = 20 ∨ c = 2 * k + 16) k_t0 σ τ → τ.1 14 x = nI (v_sz V x) := fun τ he => by rw [he.1 14 (by omega)]; exact (hH.2.2.2.1 x hx).2.2.2.1
  have loop : ∀ m l (τ : px_S) (v3 : Value), l + m = v_sz V x → px_nc v3 = true → k_e (fun c => c = 20 ∨ c = 2 * k + 16) k_t0 σ τ → (∀ i, i < l → τ.1 (2 * k + 16) (14 * x + i) = q_bi (q_held V p (14 * x + i))) → (∀ s, (s < 14 * x ∨ 14 * x + 14 ≤ s) → τ.1 (2 * k + 16) s = σ.1 (2 * k + 16) s) → Wp (d + 4) tb_35 2 [.ref k, .int (nI x), .int (nI l), v3] [] τ Q := by
    intro m
    induction m with
    | zero =>
      intro l τ v3 hl n3 he hw ho
      exact b35_2 hk ix (fun _ => b35_70 hk (h τ he (fun i hi => hw i (by omega)) ho)) (fun g => absurd (by rw [cx, e14 τ he]; exact nI_le (by omega) (by omega)) g)
    | succ m ih =>
      intro l τ v3 hl n3 he hw ho
      have hs : q_sp V (14 * x + l) := ⟨x, l, hx, by omega, rfl⟩
      obtain ⟨is, cs⟩ := q_lt (j := 14 * x + l) (N := 560) (q_sp_lt hV hs) (by decide)
      have hHt : k_H V τ := hH.ef he (fun c hc => by omega)
      have hRt : k_R V τ := hR.ef he (fun c hc => by omega)
      have epx : τ.1 (2 * k + 15) (nI x).toNatClampNeg = q_rw p x := by rw [cx, he.1 (2 * k + 15) (by omega)]; exact hr x hx
      have hdv : (14 * x + l) / 14 = x := (q_sp_div hV hx (by omega)).1
      have store : ∀ (τ' : px_S) (v : Int32), k_e (fun k => k = 20) k_t0 τ τ' → v = q_bi (q_held V p (14 * x + l)) → Wp (d + 4) tb_35 63 [.ref k, .int (nI x), .int (nI l), .int (nI (14 * x + l))] [.int v, .int (nI (14 * x + l)), .ref (2 * k + 16)] τ' Q := by
        intro τ' v he' ev
        refine b35_63 hk is (b35_64 hk ?_)
        rw [cs, nI_1]
        refine ih (l + 1) _ _ (by omega) rfl ((he.tr (he'.mono (fun c hc => Or.inl hc) (fun _ => id))).tr (k_e.uI (Or.inr rfl))) (fun i hi => ?_) (fun s hs => ?_)
        · rw [q_u]
          by_cases hil : i = l
          · rw [hil, if_pos ⟨rfl, rfl⟩, ev]
          · rw [if_neg (fun z => hil (by omega)), he'.1 (2 * k + 16) (by omega)]; exact hw i (by omega)
        · rw [q_u, if_neg (fun z => by omega), he'.1 (2 * k + 16) (by omega)]; exact ho s hs
      refine b35_2 hk ix (fun g => absurd g (by rw [cx, e14 τ he]; exact nI_ge (by omega) (by omega))) (fun _ => b35_15 hk n3 (c_spotOf (b35_20 hk ix (fun g => b35_48 hk ?_) (fun g => ?_))))
      · rw [epx] at g
        refine store τ _ k_e.rf ?_
        cases hpx : p x with
        | none => unfold q_held; rw [hdv, hpx]; rfl
        | some y =>
          rw [q_rw_some hpx] at g
          exact absurd g.symm (q_m1ne (by have := q_okp_lt hp hpx; omega))
      · rw [epx] at g
        cases hpx : p x with
        | none => exact absurd (q_rw_none hpx) g
        | some y =>
          have hyn := q_okp_lt hp hpx
          have eh : q_held V p (14 * x + l) = q_hl V (14 * x + l) y := by unfold q_held; rw [hdv, hpx]; rfl
          refine b35_36 hk is (fun g2 => b35_52 hk ix ?_) (fun g2 => b35_48 hk (store τ _ k_e.rf ?_))
          · rw [epx, q_rw_some hpx]
            exact c_findHeld hV hk hHt hRt hs hyn (fun τ' he' => store τ' _ he' (by rw [eh]))
          · rw [cs, (hHt.sp hs).1] at g2
            have h0 : v_dp V (14 * x + l) = 0 := by
              have := (hV.sp hs).1
              exact (nI_eq (b := 0) (by omega) (by decide)).mp (Decidable.not_not.mp g2)
            rw [q_held_0 h0]; rfl
  exact e35 (b35_0 hk (loop (v_sz V x) 0 σ _ (by omega) rfl k_e.rf (fun i hi => absurd hi (Nat.not_lt_zero _)) (fun _ _ => rfl)))
end KK
