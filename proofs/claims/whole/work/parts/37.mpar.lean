/-! ===== the reference finds parents ===== -/
section QP
variable {d : Nat} {Q : Option Value → px_S → Prop} {σ : px_S} {V : QV} {a : Int32}
/-- the row of parents -/
def q_row (p : Nat → Option Nat) (n : Nat) (τ : px_S) : Prop := ∀ y, y < n → τ.1 49 y = q_rw p y
theorem q_m1neg : ((-1 : Int32) < 0) := by decide
theorem q_m1ne {j : Nat} (h : j < 2 ^ 31) : ¬ (-1 : Int32) = nI j := fun e => by
  have h1 := congrArg Int32.toInt e
  rw [nI_toInt h] at h1
  have h2 : (-1 : Int32).toInt = -1 := by decide
  omega
theorem m_comesTo {p : Nat → Option Nat} {n y x : Nat} (hp : q_okp p n) (hn : n ≤ 40) (hr : q_row p n σ) (hy : y < n) (hx : x < n) (h : Q (some (.int (if q_cm p y x then 1 else 0))) σ) : Cw (d + 1) 149 [.ref 9, .int (nI y), .int (nI x)] σ Q := by
  have hp' := hp
  obtain ⟨r, hrk⟩ := hp'
  have yes : ∀ z, q_rch p y x → nI z = nI x → Wp d tb_149 21 [.ref 9, .int (nI y), .int (nI x), .int (nI z)] [] σ Q := by
    intro z hc e
    rw [(q_cm_iff hp hn hy).mpr hc] at h
    exact b149_21 (fun g => absurd e g) (fun _ => b149_26 (b149_31 (Or.inr rfl) h))
  have loop : ∀ m z, r z < m → z < n → (q_rch p y x ↔ q_rch p z x) → Wp d tb_149 2 [.ref 9, .int (nI y), .int (nI x), .int (nI z)] [] σ Q := by
    intro m
    induction m with
    | zero => intro z hz; omega
    | succ m ih =>
      intro z hz hzn hiff
      obtain ⟨i1, c1⟩ := q_lt (j := z) (N := 40) (by omega) (by decide)
      refine b149_2 (fun g => absurd g (nI_pos (by omega))) (fun _ => b149_6 (fun g => ?_) (fun g => b149_11 i1 ?_))
      · have e : z = x := (nI_eq (by omega) (by omega)).mp g
        exact yes z (hiff.mpr ⟨0, by rw [e]; rfl⟩) g
      · rw [c1, hr z hzn]
        unfold q_rw
        cases hpz : p z with
        | none =>
          dsimp only
          have hno : ¬ q_rch p y x := fun hc => by
            obtain ⟨k, hk⟩ := hiff.mp hc
            rcases k with _ | k
            · cases hk; exact g rfl
            · rw [q_it, hpz] at hk; cases hk
          rw [q_cm_not hp hn hy hno] at h
          exact b149_2 (fun _ => b149_21 (fun _ => b149_30 (b149_31 (Or.inl rfl) h)) (fun g2 => absurd (q_m1ne (by omega)) g2)) (fun g2 => absurd q_m1neg g2)
        | some w =>
          dsimp only
          obtain ⟨-, h2, h3⟩ := hrk z w hpz
          refine ih w (by omega) h2 (hiff.trans ⟨fun hc => ?_, fun hc => q_rch_step hpz hc⟩)
          obtain ⟨k, hk⟩ := hc
          rcases k with _ | k
          · cases hk; exact absurd rfl g
          · rw [q_it, hpz] at hk; exact ⟨k, hk⟩
  exact e149 (b149_0 (loop (r y + 1) y (by omega) hy Iff.rfl))
/-- the running best as ints -/
def q_bi (b : Option Nat) : Int32 := match b with
  | none => -1
  | some y => nI y
theorem q_fit_le {V : QV} (x y : Nat) : q_fit V x y ≤ v_sz V x := q_P_le _ _ _
theorem q_ftl_le {V : QV} {a : Int32} {p : Nat → Option Nat} {x : Nat} : ∀ n, (q_ftl V a p x n).2 ≤ v_sz V x
  | 0 => Nat.zero_le _
  | n + 1 => by
    rw [q_ftl]
    split
    · exact q_fit_le x n
    · exact q_ftl_le n
theorem m_fitting {p : Nat → Option Nat} {x : Nat} (hV : q_wf V) (hM : q_Ma V a σ) (hp : q_okp p (v_n V)) (hr : q_row p (v_n V) σ) (hx : x < v_n V) (h : ∀ τ, q_eqx q_s2 σ τ → Q (some (.int (q_bi (q_ftl V a p x (v_n V)).1))) τ) : Cw (d + 5) 150 [.ref 9, .int (nI x)] σ Q := by
  have hn := hV.1
  obtain ⟨ix, cx⟩ := q_lt (j := x) (N := 40) (by omega) (by decide)
  have hsz := (hV.2.1 x hx).1
  have hq14 : q_quo V x ≤ 14 := Nat.le_trans (q_cnt_le _ _) hsz
  obtain ⟨f1, hf1, ef1⟩ := hV.2.2.2.2.2.1.2.1
  have loop : ∀ m y (τ : px_S) (v6 v7 : Value), y + m = v_n V → q_eqx q_s2 σ τ → px_nc v7 = true → Wp (d + 4) tb_150 14 [.ref 9, .int (nI x), .int (q_bi (q_ftl V a p x y).1), .int (nI (q_ftl V a p x y).2), .int (nI (q_quo V x)), .int (nI y), v6, v7] [] τ Q := by
    intro m
    induction m with
    | zero =>
      intro y τ v6 v7 hy he hn7
      have hMt : q_Ma V a τ := hM.eqx (he.mono q_s2_scr)
      have e : y = v_n V := by omega
      subst e
      exact b150_14 (fun _ => b150_135 (h τ he)) (fun g => absurd (by rw [hMt.1]; exact Int32.le_refl _) g)
    | succ m ih =>
      intro y τ v6 v7 hy he hn7
      have hMt : q_Ma V a τ := hM.eqx (he.mono q_s2_scr)
      have hrt : q_row p (v_n V) τ := fun z hz => by rw [he.2 49 (by unfold q_s2; omega)]; exact hr z hz
      obtain ⟨iy, cy⟩ := q_lt (j := y) (N := 40) (by omega) (by decide)
      have hml : (q_ftl V a p x y).2 ≤ v_sz V x := q_ftl_le y
      -- no better one
      have skip : ∀ (τ' : px_S) (v6 : Int32) (v7 : Value), q_eqx q_s2 σ τ' → px_nc v7 = true → q_bt V a p x y (q_ftl V a p x y).2 = false → Wp (d + 4) tb_150 129 [.ref 9, .int (nI x), .int (q_bi (q_ftl V a p x y).1), .int (nI (q_ftl V a p x y).2), .int (nI (q_quo V x)), .int (nI y), .int v6, v7] [] τ' Q := by
        intro τ' v6 v7 he' hn7' hb
        refine b150_129 ?_
        have e := ih (y + 1) τ' (.int v6) v7 (by omega) he' hn7'
        rw [q_ftl, hb] at e
        rw [nI_1]
        exact e
      have go : ∀ (c6 : Int32) (lt : Bool), c6 = (if lt then 1 else 0) → (y ≠ x → lt = q_late V y x) → Wp (d + 4) tb_150 59 [.ref 9, .int (nI x), .int (q_bi (q_ftl V a p x y).1), .int (nI (q_ftl V a p x y).2), .int (nI (q_quo V x)), .int (nI y), v6, v7] [.int c6] τ Q := by
        intro c6 lt ec hlt
        by_cases hyx : y = x
        · have hb : q_bt V a p x y (q_ftl V a p x y).2 = false := by unfold q_bt; simp [hyx]
          exact b150_59 (fun _ => skip τ c6 v7 he hn7 hb) (fun g => absurd (by rw [hyx]) g)
        · refine b150_59 (fun g => absurd ((nI_eq (by omega) (by omega)).mp g) hyx) (fun _ => b150_67 hn7 (m_isSeen hV hMt (by omega) ?_))
          have hlt := hlt hyx
          cases hse : q_seen V a y with
          | false =>
            have hb : q_bt V a p x y (q_ftl V a p x y).2 = false := by unfold q_bt; simp [hse]
            exact b150_73 (fun _ => skip τ c6 v7 he hn7 hb) (fun g => absurd rfl g)
          | true =>
            refine b150_73 (fun g => absurd g (by decide)) (fun _ => ?_)
            cases hl : lt with
            | true =>
              have hb : q_bt V a p x y (q_ftl V a p x y).2 = false := by unfold q_bt; rw [← hlt, hl]; simp
              rw [hl] at ec
              exact b150_76 (fun _ => skip τ c6 v7 he hn7 hb) (fun g => absurd (by rw [ec]; decide) g)
            | false =>
              rw [hl] at ec hlt
              refine b150_76 (fun g => absurd ec g) (fun _ => b150_81 hn7 (m_comesTo hp hn hrt (by omega) hx ?_))
              cases hc : q_cm p y x with
              | true =>
                have hb : q_bt V a p x y (q_ftl V a p x y).2 = false := by unfold q_bt; simp [hc]
                exact b150_88 (fun _ => skip τ c6 v7 he hn7 hb) (fun g => absurd (by decide) g)
              | false =>
                refine b150_88 (fun g => absurd rfl g) (fun _ => b150_91 hn7 (m_fitOf hV hMt hx (by omega) (fun τ' he' => ?_)))
                have he2 : q_eqx q_s2 σ τ' := he.tr he'
                have hfl := q_fit_le (V := V) x y
                refine b150_98 (fun g => ?_) (fun g => ?_)
                · have g' := (nI_leI (by omega) (by omega)).mp g
                  have hb : q_bt V a p x y (q_ftl V a p x y).2 = false := by unfold q_bt; simp [Nat.not_lt.mpr g']
                  exact skip τ' c6 _ he2 rfl hb
                · have g' : (q_ftl V a p x y).2 < q_fit V x y := by
                    rcases Nat.lt_or_ge (q_ftl V a p x y).2 (q_fit V x y) with z | z
                    · exact z
                    · exact absurd (nI_le z (by omega)) g
                  have er : τ'.1 37 (1 : Int32).toNatClampNeg = nI f1 := by rw [he2.2 37 (by unfold q_s2; omega), ← ef1]; exact hM.2.2.2.2.2.2.1 1 (by decide)
                  have em : (v_ru V 1).toInt = (f1 : Int) := by rw [ef1, nI_toInt (by omega)]
                  have b1 : f1 * q_quo V x ≤ 100 * 14 := Nat.mul_le_mul hf1 hq14
                  refine b150_106 (by unfold vp_in; decide) (fun g2 => ?_) (fun g2 => ?_)
                  · rw [er, show (100 : Int32) = nI 100 from rfl, pk_mul, pk_mul] at g2
                    have g3 := (nI_ltI (by omega) (by omega)).mp g2
                    have hb : q_bt V a p x y (q_ftl V a p x y).2 = false := by
                      unfold q_bt
                      rw [em]
                      have : ¬ ((f1 : Int) * (q_quo V x : Int) ≤ 100 * (q_fit V x y : Int)) := by
                        have : ((f1 * q_quo V x : Nat) : Int) = (f1 : Int) * (q_quo V x : Int) := by simp
                        omega
                      simp [this]
                    exact skip τ' c6 _ he2 rfl hb
                  · rw [er, show (100 : Int32) = nI 100 from rfl, pk_mul, pk_mul] at g2
                    have g3 : f1 * q_quo V x ≤ 100 * q_fit V x y := by
                      rcases Nat.lt_or_ge (100 * q_fit V x y) (f1 * q_quo V x) with z | z
                      · exact absurd (nI_lt z (by omega)) g2
                      · exact z
                    have hb : q_bt V a p x y (q_ftl V a p x y).2 = true := by
                      unfold q_bt
                      rw [em, hse, ← hlt, hc]
                      have : (f1 : Int) * (q_quo V x : Int) ≤ 100 * (q_fit V x y : Int) := by
                        have : ((f1 * q_quo V x : Nat) : Int) = (f1 : Int) * (q_quo V x : Int) := by simp
                        omega
                      simp [this, hyx, g']
                    refine b150_123 (b150_129 ?_)
                    have e := ih (y + 1) τ' (.int c6) (.int (nI (q_fit V x y))) (by omega) he2 rfl
                    rw [q_ftl, hb] at e
                    rw [nI_1]
                    exact e
      have dxy : τ.1 39 x = v_dy V x ∧ τ.1 39 y = v_dy V y := ⟨(hMt.2.1 x hx).2.1, (hMt.2.1 y (by omega)).2.1⟩
      refine b150_14 (fun g => absurd g (by rw [hMt.1]; exact nI_ge (by omega) (by omega))) (fun _ => b150_23 (fun g => ?_) (fun g => b150_29 ix (fun g2 => ?_) (fun g2 => b150_38 iy ix (fun g3 => ?_) (fun g3 => ?_))))
      · have e : y = x := (nI_eq (by omega) (by omega)).mp g
        exact b150_58 (go 0 false rfl (fun z => absurd e z))
      · rw [cx, dxy.1] at g2
        exact b150_58 (go 0 false rfl (fun _ => by unfold q_late; rw [decide_eq_false (Int32.not_le.mpr g2)]; rfl))
      · rw [cx, cy, dxy.1, dxy.2] at g3
        rw [cx, dxy.1] at g2
        exact b150_58 (go 0 false rfl (fun _ => by unfold q_late; rw [decide_eq_false (Int32.not_lt.mpr g3), Bool.and_false]))
      · rw [cx, cy, dxy.1, dxy.2] at g3
        rw [cx, dxy.1] at g2
        exact b150_54 (go 1 true rfl (fun _ => by unfold q_late; rw [decide_eq_true (Int32.not_lt.mp g2), decide_eq_true (Int32.not_le.mp g3)]; rfl))
  exact e150 (b150_0 (m_quoted hV hM hx (b150_9 (loop (v_n V) 0 σ _ _ (by omega) q_eqx.rf rfl))))
end QP
