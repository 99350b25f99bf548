/-! ===== origins, altered lines, pieces, common texts, quarrels: the reference ===== -/
abbrev q_b (b : Bool) : Int32 := if b then 1 else 0
theorem q_b01 (b : Bool) : q_b b = 0 ∨ q_b b = 1 := by cases b; exact Or.inl rfl; exact Or.inr rfl
theorem q_bz {b : Bool} : q_b b = 0 ↔ b = false := by cases b <;> decide
theorem q_bt1 : q_b true = 1 := rfl
theorem q_bf0 : q_b false = 0 := rfl
theorem q_bdec {c : Prop} [Decidable c] : (if c then (1 : Int32) else 0) = q_b (decide c) := by by_cases h : c <;> simp [h]
theorem q_bn {b : Bool} : (if b then (1 : Int32) else 0) = nI (if b then 1 else 0) := by cases b <;> rfl
def q_any (f : Nat → Bool) : Nat → Bool
  | 0 => false
  | n + 1 => q_any f n || f n
theorem q_any_iff {f : Nat → Bool} : ∀ n, q_any f n = true ↔ ∃ i, i < n ∧ f i = true
  | 0 => by constructor; intro h; cases h; rintro ⟨i, h, -⟩; omega
  | n + 1 => by
    rw [q_any, Bool.or_eq_true, q_any_iff n]
    constructor
    · rintro (⟨i, h1, h2⟩ | h)
      · exact ⟨i, by omega, h2⟩
      · exact ⟨n, by omega, h⟩
    · rintro ⟨i, h1, h2⟩
      by_cases h : i = n
      · subst h; exact Or.inr h2
      · exact Or.inl ⟨i, by omega, h2⟩
def q_alt (V : QV) (p : Nat → Option Nat) (s : Nat) : Bool := match q_held V p s with
  | some t => !decide (v_tx V s = v_tx V t)
  | none => false
def q_pce (V : QV) (p : Nat → Option Nat) (s : Nat) : Bool := decide (v_dp V s = 1) && (q_held V p s).isNone
def q_hp (V : QV) (p : Nat → Option Nat) (x : Nat) : Bool := q_any (fun l => q_pce V p (14 * x + l)) (v_sz V x)
def q_cmt (V : QV) (p : Nat → Option Nat) (s t : Nat) : Bool := decide (v_tx V s = v_tx V t) && (q_pce V p s && q_pce V p t)
def q_com (V : QV) (p : Nat → Option Nat) (x y : Nat) : Bool := q_any (fun l => q_any (fun m => q_cmt V p (14 * x + l) (14 * y + m)) (v_sz V y)) (v_sz V x)
/-- the days of x and of its parent quarrel -/
def q_qrl (V : QV) (p : Nat → Option Nat) (x : Nat) : Bool := match p x with
  | some y => decide (0 ≤ v_dy V x) && (decide (0 ≤ v_dy V y) && decide (v_dy V x < v_dy V y))
  | none => false
theorem q_held_0 {V : QV} {p : Nat → Option Nat} {s : Nat} (h : v_dp V s = 0) : q_held V p s = none := by
  cases e : q_held V p s with
  | none => rfl
  | some t =>
    unfold q_held at e
    cases hy : p (s / 14) with
    | none => rw [hy] at e; cases e
    | some y => rw [hy] at e; have := (q_hl_in e).2; omega
theorem q_row.eqx {p : Nat → Option Nat} {n : Nat} {σ τ : px_S} {S : Nat → Prop} (hr : q_row p n σ) (he : q_eqx S σ τ) (h : ¬ S 49) : q_row p n τ := fun y hy => by rw [he.2 49 h]; exact hr y hy
theorem q_s1_49 : ¬ q_s1 49 := by unfold q_s1; omega
theorem q_wf_sp {V : QV} {x l : Nat} (hx : x < v_n V) (hl : l < v_sz V x) : q_sp V (14 * x + l) := ⟨x, l, hx, hl, rfl⟩
section QO
variable {d : Nat} {Q : Option Value → px_S → Prop} {σ : px_S} {V : QV} {a : Int32} {p : Nat → Option Nat}
theorem m_originOf {s : Nat} (hV : q_wf V) (hM : q_Ma V a σ) (hp : q_okp p (v_n V)) (hr : q_row p (v_n V) σ) (hs : q_sp V s) (h : ∀ τ, q_eqx q_s1 σ τ → Q (some (.int (q_bi (q_org V p 6 s)))) τ) : Cw (d + 5) 155 [.ref 9, .int (nI s)] σ Q := by
  have loop : ∀ k z (τ : px_S), q_eqx q_s1 σ τ → q_sp V z → v_dp V z < k → q_org V p k z = q_org V p 6 s → Wp (d + 4) tb_155 2 [.ref 9, .int (nI s), .int (nI z)] [] τ Q := by
    intro k
    induction k with
    | zero => intro z τ he hz hd; omega
    | succ k ih =>
      intro z τ he hz hd ho
      have hMt : q_Ma V a τ := hM.eqx (he.mono q_s1_scr)
      have lz := q_sp_lt hV hz
      obtain ⟨iz, cz⟩ := q_lt (j := z) (N := 560) lz (by decide)
      have ez := (hMt.sp hz).1
      have d5 := (hV.sp hz).1
      rw [q_org] at ho
      refine b155_2 (fun g => absurd g (nI_pos (by omega))) (fun _ => b155_6 iz (fun g => ?_) (fun g => ?_))
      · rw [cz, ez] at g
        have h0 : v_dp V z = 0 := by
          rcases Nat.eq_zero_or_pos (v_dp V z) with h | h
          · exact h
          · exact absurd g (nI_nle h (by omega))
        rw [if_pos h0] at ho
        have e := h τ he
        rw [← ho] at e
        exact b155_24 e
      · rw [cz, ez] at g
        have h0 : ¬ v_dp V z = 0 := fun e => g (by rw [e]; decide)
        rw [if_neg h0] at ho
        refine b155_15 (m_heldTo hV hMt hp (hr.eqx he q_s1_49) hz (fun τ' he' => b155_20 ?_))
        cases hh : q_held V p z with
        | none =>
          rw [hh] at ho
          have e := h τ' (he.tr he')
          rw [← ho] at e
          exact b155_2 (fun _ => b155_24 e) (fun g => absurd (by decide) g)
        | some t =>
          rw [hh] at ho
          obtain ⟨ht, hd2⟩ := q_held_in hp hh
          exact ih t τ' (he.tr he') ht (by omega) ho
  exact e155 (b155_0 (loop 6 s σ q_eqx.rf hs (by have := (hV.sp hs).1; omega) rfl))
theorem m_isAltered {s : Nat} (hV : q_wf V) (hM : q_Ma V a σ) (hp : q_okp p (v_n V)) (hr : q_row p (v_n V) σ) (hs : q_sp V s) (h : ∀ τ, q_eqx q_s1 σ τ → Q (some (.int (q_b (q_alt V p s)))) τ) : Cw (d + 5) 159 [.ref 9, .int (nI s)] σ Q := by
  have ls := q_sp_lt hV hs
  obtain ⟨is, cs⟩ := q_lt (j := s) (N := 560) ls (by decide)
  have es := (hM.sp hs).1
  have d5 := (hV.sp hs).1
  refine e159 (b159_0 is (fun g => ?_) (fun g => ?_))
  · refine b159_11 (m_heldTo hV hM hp hr hs (fun τ he => ?_))
    have hMt : q_Ma V a τ := hM.eqx (he.mono q_s1_scr)
    cases hh : q_held V p s with
    | none =>
      have e := h τ he
      have e2 : q_alt V p s = false := by unfold q_alt; rw [hh]
      rw [e2] at e
      exact b159_16 (fun _ => b159_34 (b159_35 (Or.inl rfl) e)) (fun g => absurd (by decide) g)
    | some t =>
      obtain ⟨ht, -⟩ := q_held_in hp hh
      have lt := q_sp_lt hV ht
      refine b159_16 (fun g => absurd g (nI_pos (by omega))) (fun _ => b159_21 (m_isSame hV hMt hs ht ?_))
      have e := h τ he
      have e2 : q_alt V p s = !decide (v_tx V s = v_tx V t) := by unfold q_alt; rw [hh]
      rw [e2] at e
      by_cases hst : v_tx V s = v_tx V t
      · rw [if_pos hst]
        rw [decide_eq_true hst] at e
        exact b159_27 (fun _ => b159_34 (b159_35 (Or.inl rfl) e)) (fun g => absurd (by decide) g)
      · rw [if_neg hst]
        rw [decide_eq_false hst] at e
        exact b159_27 (fun g => absurd rfl g) (fun _ => b159_30 (b159_35 (Or.inr rfl) e))
  · rw [cs, es] at g
    have h0 : v_dp V s = 0 := by
      rcases Nat.eq_zero_or_pos (v_dp V s) with h | h
      · exact h
      · exact absurd (Decidable.not_not.mp g) (nI_ne0 h (by omega))
    have e := h σ q_eqx.rf
    have e2 : q_alt V p s = false := by unfold q_alt; rw [q_held_0 h0]
    rw [e2] at e
    exact b159_9 e
theorem m_isPiece {s : Nat} (hV : q_wf V) (hM : q_Ma V a σ) (hp : q_okp p (v_n V)) (hr : q_row p (v_n V) σ) (hs : q_sp V s) (h : ∀ τ, q_eqx q_s1 σ τ → Q (some (.int (q_b (q_pce V p s)))) τ) : Cw (d + 5) 164 [.ref 9, .int (nI s)] σ Q := by
  have ls := q_sp_lt hV hs
  obtain ⟨is, cs⟩ := q_lt (j := s) (N := 560) ls (by decide)
  have es := (hM.sp hs).1
  have d5 := (hV.sp hs).1
  refine e164 (b164_0 is (fun g => ?_) (fun g => ?_))
  · rw [cs, es] at g
    have h1 : ¬ v_dp V s = 1 := fun e => g (by rw [e]; rfl)
    have e := h σ q_eqx.rf
    have e2 : q_pce V p s = false := by unfold q_pce; rw [decide_eq_false h1]; rfl
    rw [e2] at e
    exact b164_22 (b164_23 (Or.inl rfl) e)
  · rw [cs, es] at g
    have h1 : v_dp V s = 1 := (nI_eq (by omega) (by decide)).mp (Decidable.not_not.mp g)
    refine b164_10 (m_heldTo hV hM hp hr hs (fun τ he => ?_))
    have e := h τ he
    cases hh : q_held V p s with
    | none =>
      have e2 : q_pce V p s = true := by unfold q_pce; rw [decide_eq_true h1, hh]; rfl
      rw [e2] at e
      exact b164_15 (fun g => absurd g (by decide)) (fun _ => b164_18 (b164_23 (Or.inr rfl) e))
    | some t =>
      obtain ⟨ht, -⟩ := q_held_in hp hh
      have lt := q_sp_lt hV ht
      have e2 : q_pce V p s = false := by unfold q_pce; rw [hh]; simp
      rw [e2] at e
      exact b164_15 (fun _ => b164_22 (b164_23 (Or.inl rfl) e)) (fun g => absurd (nI_pos' (by omega)) g)
theorem m_hasPiece {x : Nat} (hV : q_wf V) (hM : q_Ma V a σ) (hp : q_okp p (v_n V)) (hr : q_row p (v_n V) σ) (hx : x < v_n V) (h : ∀ τ, q_eqx q_s1 σ τ → Q (some (.int (q_b (q_hp V p x)))) τ) : Cw (d + 6) 163 [.ref 9, .int (nI x)] σ Q := by
  have hn := hV.1
  have hsz := (hV.2.1 x hx).1
  obtain ⟨ix, cx⟩ := q_lt (j := x) (N := 40) (by omega) (by decide)
  have loop : ∀ m l (τ : px_S), l + m = v_sz V x → q_eqx q_s1 σ τ → Wp (d + 5) tb_163 4 [.ref 9, .int (nI x), .int (q_b (q_any (fun l => q_pce V p (14 * x + l)) l)), .int (nI l)] [] τ Q := by
    intro m
    induction m with
    | zero =>
      intro l τ hl he
      have e : l = v_sz V x := by omega
      subst e
      have hMt : q_Ma V a τ := hM.eqx (he.mono q_s1_scr)
      exact b163_4 ix (fun _ => b163_43 (q_b01 _) (h τ he)) (fun g => absurd (by rw [cx, (hMt.2.1 x hx).2.2.2.1]; exact Int32.le_refl _) g)
    | succ m ih =>
      intro l τ hl he
      have hMt : q_Ma V a τ := hM.eqx (he.mono q_s1_scr)
      have hsp : q_sp V (14 * x + l) := q_wf_sp hx (by omega)
      refine b163_4 ix (fun g => absurd g (by rw [cx, (hMt.2.1 x hx).2.2.2.1]; exact nI_ge (by omega) (by omega))) (fun _ => ?_)
      have go : ∀ (τ' : px_S) (b : Bool) (y : Int32), q_eqx q_s1 σ τ' → b = q_any (fun l => q_pce V p (14 * x + l)) (l + 1) → Wp (d + 5) tb_163 36 [.ref 9, .int (nI x), .int y, .int (nI l)] [.int (q_b b)] τ' Q := by
        intro τ' b y he' eb
        refine b163_36 ?_
        rw [nI_1, eb]
        exact ih (l + 1) τ' (by omega) he'
      cases ha : q_any (fun l => q_pce V p (14 * x + l)) l with
      | true =>
        exact b163_14 (fun _ => b163_31 (go τ true _ he (by rw [q_any, ha]; rfl))) (fun g => absurd (by decide) g)
      | false =>
        refine b163_14 (fun g => absurd rfl g) (fun _ => b163_18 ?_)
        rw [q_ix14]
        refine m_isPiece hV hMt hp (hr.eqx he q_s1_49) hsp (fun τ' he' => ?_)
        cases hb : q_pce V p (14 * x + l) with
        | true => exact b163_28 (fun g => absurd g (by decide)) (fun _ => b163_31 (go τ' true _ (he.tr he') (by rw [q_any, ha, hb]; rfl)))
        | false => exact b163_28 (fun _ => b163_35 (go τ' false _ (he.tr he') (by rw [q_any, ha, hb]; rfl))) (fun g => absurd rfl g)
  exact e163 (b163_0 (loop (v_sz V x) 0 σ (by omega) q_eqx.rf))
theorem m_haveCommon {x y : Nat} (hV : q_wf V) (hM : q_Ma V a σ) (hp : q_okp p (v_n V)) (hr : q_row p (v_n V) σ) (hx : x < v_n V) (hy : y < v_n V) (h : ∀ τ, q_eqx q_s1 σ τ → Q (some (.int (q_b (q_com V p x y)))) τ) : Cw (d + 6) 165 [.ref 9, .int (nI x), .int (nI y)] σ Q := by
  have hn := hV.1
  have hsz := (hV.2.1 x hx).1
  have hsy := (hV.2.1 y hy).1
  obtain ⟨ix, cx⟩ := q_lt (j := x) (N := 40) (by omega) (by decide)
  obtain ⟨iy, cy⟩ := q_lt (j := y) (N := 40) (by omega) (by decide)
  let g := fun l => q_any (fun m => q_cmt V p (14 * x + l) (14 * y + m)) (v_sz V y)
  have loop : ∀ m l (τ : px_S) (v5 : Value), l + m = v_sz V x → q_eqx q_s1 σ τ → Wp (d + 5) tb_165 5 [.ref 9, .int (nI x), .int (nI y), .int (q_b (q_any g l)), .int (nI l), v5] [] τ Q := by
    intro m
    induction m with
    | zero =>
      intro l τ v5 hl he
      have e : l = v_sz V x := by omega
      subst e
      have hMt : q_Ma V a τ := hM.eqx (he.mono q_s1_scr)
      exact b165_5 ix (fun _ => b165_101 (q_b01 _) (h τ he)) (fun g => absurd (by rw [cx, (hMt.2.1 x hx).2.2.2.1]; exact Int32.le_refl _) g)
    | succ m ih =>
      intro l τ v5 hl he
      have hsp : q_sp V (14 * x + l) := q_wf_sp hx (by omega)
      have inner : ∀ j i (τ' : px_S), i + j = v_sz V y → q_eqx q_s1 σ τ' → Wp (d + 5) tb_165 19 [.ref 9, .int (nI x), .int (nI y), .int (q_b (q_any g l || q_any (fun m => q_cmt V p (14 * x + l) (14 * y + m)) i)), .int (nI l), .int (nI i)] [] τ' Q := by
        intro j
        induction j with
        | zero =>
          intro i τ' hi he'
          have e : i = v_sz V y := by omega
          subst e
          have hMt : q_Ma V a τ' := hM.eqx (he'.mono q_s1_scr)
          refine b165_19 iy (fun _ => b165_95 ?_) (fun g => absurd (by rw [cy, (hMt.2.1 y hy).2.2.2.1]; exact Int32.le_refl _) g)
          rw [nI_1]
          exact ih (l + 1) τ' _ (by omega) he'
        | succ j ih2 =>
          intro i τ' hi he'
          have hMt : q_Ma V a τ' := hM.eqx (he'.mono q_s1_scr)
          have hst : q_sp V (14 * y + i) := q_wf_sp hy (by omega)
          refine b165_19 iy (fun g => absurd g (by rw [cy, (hMt.2.1 y hy).2.2.2.1]; exact nI_ge (by omega) (by omega))) (fun _ => ?_)
          have go : ∀ (τ2 : px_S) (b : Bool) (z : Int32), q_eqx q_s1 σ τ2 → b = (q_any g l || q_any (fun m => q_cmt V p (14 * x + l) (14 * y + m)) (i + 1)) → Wp (d + 5) tb_165 88 [.ref 9, .int (nI x), .int (nI y), .int z, .int (nI l), .int (nI i)] [.int (q_b b)] τ2 Q := by
            intro τ2 b z he2 eb
            refine b165_88 ?_
            rw [nI_1, eb]
            exact ih2 (i + 1) τ2 (by omega) he2
          cases ha : (q_any g l || q_any (fun m => q_cmt V p (14 * x + l) (14 * y + m)) i) with
          | true =>
            refine b165_30 (fun _ => b165_95 ?_) (fun g => absurd (by decide) g)
            have e : q_any g (l + 1) = true := by
              rw [q_any]
              rcases Bool.or_eq_true _ _ ▸ ha with h1 | h1
              · rw [h1]; rfl
              · have : g l = true := by
                  rw [q_any_iff] at h1
                  obtain ⟨k0, hk1, hk2⟩ := h1
                  exact (q_any_iff _).mpr ⟨k0, by omega, hk2⟩
                rw [this, Bool.or_true]
            have e2 := ih (l + 1) τ' (.int (nI i)) (by omega) he'
            rw [e] at e2
            rw [nI_1]
            exact e2
          | false =>
            refine b165_30 (fun g => absurd rfl g) (fun _ => b165_34 ?_)
            have ha' : ∀ c, q_cmt V p (14 * x + l) (14 * y + i) = c → c = (q_any g l || q_any (fun m => q_cmt V p (14 * x + l) (14 * y + m)) (i + 1)) := by
              intro c hc
              rw [q_any, ← Bool.or_assoc, ha, hc]
              rfl
            rw [q_ix14, q_ix14]
            refine m_isSame hV hMt hsp hst ?_
            by_cases htx : v_tx V (14 * x + l) = v_tx V (14 * y + i)
            · rw [if_pos htx]
              refine b165_52 (fun g => absurd g (by decide)) (fun _ => b165_55 ?_)
              rw [q_ix14]
              refine m_isPiece hV hMt hp (hr.eqx he' q_s1_49) hsp (fun τ2 he2 => ?_)
              have hM2 : q_Ma V a τ2 := hM.eqx ((he'.tr he2).mono q_s1_scr)
              cases hb1 : q_pce V p (14 * x + l) with
              | false => exact b165_66 (fun _ => b165_87 (go τ2 false _ (he'.tr he2) (ha' _ (by unfold q_cmt; rw [hb1]; simp)))) (fun g => absurd rfl g)
              | true =>
                refine b165_66 (fun g => absurd g (by decide)) (fun _ => b165_69 ?_)
                rw [q_ix14]
                refine m_isPiece hV hM2 hp (hr.eqx (he'.tr he2) q_s1_49) hst (fun τ3 he3 => ?_)
                cases hb2 : q_pce V p (14 * y + i) with
                | false => exact b165_80 (fun _ => b165_87 (go τ3 false _ ((he'.tr he2).tr he3) (ha' _ (by unfold q_cmt; rw [hb2]; simp)))) (fun g => absurd rfl g)
                | true => exact b165_80 (fun g => absurd g (by decide)) (fun _ => b165_83 (go τ3 true _ ((he'.tr he2).tr he3) (ha' _ (by unfold q_cmt; rw [hb1, hb2, decide_eq_true htx]; rfl))))
            · rw [if_neg htx]
              exact b165_52 (fun _ => b165_87 (go τ' false _ he' (ha' _ (by unfold q_cmt; rw [decide_eq_false htx]; rfl)))) (fun g => absurd rfl g)
      have hMt : q_Ma V a τ := hM.eqx (he.mono q_s1_scr)
      refine b165_5 ix (fun g => absurd g (by rw [cx, (hMt.2.1 x hx).2.2.2.1]; exact nI_ge (by omega) (by omega))) (fun _ => b165_16 ?_)
      have e := inner (v_sz V y) 0 τ (by omega) he
      rw [q_any, Bool.or_false] at e
      exact e
  exact e165 (b165_0 (loop (v_sz V x) 0 σ .null (by omega) q_eqx.rf))
theorem m_quarrels {x : Nat} (hV : q_wf V) (hM : q_Ma V a σ) (hp : q_okp p (v_n V)) (hr : q_row p (v_n V) σ) (hx : x < v_n V) (h : Q (some (.int (q_b (q_qrl V p x)))) σ) : Cw (d + 1) 177 [.ref 9, .int (nI x)] σ Q := by
  have hn := hV.1
  obtain ⟨ix, cx⟩ := q_lt (j := x) (N := 40) (by omega) (by decide)
  have hrx := hr x hx
  have dx := (hM.2.1 x hx).2.1
  have no : ∀ z : Int32, q_qrl V p x = false → Wp d tb_177 48 [.ref 9, .int (nI x), .int z] [] σ Q := by
    intro z hz
    rw [hz] at h
    exact b177_48 (b177_49 (Or.inl rfl) h)
  cases hpx : p x with
  | none =>
    refine e177 (b177_0 ix (fun _ => no _ (by unfold q_qrl; rw [hpx])) (fun g => absurd (by rw [cx, hrx, q_rw_none hpx]; decide) g))
  | some y =>
    have hy : y < v_n V := by obtain ⟨r, hrk⟩ := hp; exact (hrk x y hpx).2.1
    obtain ⟨iy, cy⟩ := q_lt (j := y) (N := 40) (by omega) (by decide)
    have dy := (hM.2.1 y hy).2.1
    have eq : q_qrl V p x = (decide (0 ≤ v_dy V x) && (decide (0 ≤ v_dy V y) && decide (v_dy V x < v_dy V y))) := by unfold q_qrl; rw [hpx]
    refine e177 (b177_0 ix (fun g => absurd g (by rw [cx, hrx, q_rw_some hpx]; exact nI_pos (by omega))) (fun _ => ?_))
    rw [cx, hrx, q_rw_some hpx]
    refine b177_11 ix (fun g => no _ ?_) (fun g1 => b177_20 iy (fun g => no _ ?_) (fun g2 => b177_29 ix iy (fun g => no _ ?_) (fun g3 => ?_)))
    · rw [cx, dx] at g; rw [eq, decide_eq_false (Int32.not_le.mpr g)]; rfl
    · rw [cy, dy] at g; rw [eq, decide_eq_false (p := 0 ≤ v_dy V y) (Int32.not_le.mpr g)]; simp
    · rw [cx, cy, dx, dy] at g; rw [eq, decide_eq_false (p := v_dy V x < v_dy V y) (Int32.not_lt.mpr g)]; simp
    · rw [cx, dx] at g1
      rw [cy, dy] at g2
      rw [cx, cy, dx, dy] at g3
      have e : q_qrl V p x = true := by rw [eq, decide_eq_true (Int32.not_lt.mp g1), decide_eq_true (Int32.not_lt.mp g2), decide_eq_true (Int32.not_le.mp g3)]; rfl
      rw [e] at h
      exact b177_44 (b177_49 (Or.inr rfl) h)
end QO
