/-! ===== the class: what is asked of the kin ===== -/
theorem q_par_seen {V : QV} {a : Int32} (hV : q_wf V) {x y : Nat} (h : q_par V a x = some y) : q_seen V a x = true := by
  have key : ∀ k, k ≤ v_n V → q_ps V a k x = some y → q_seen V a x = true := by
    intro k
    induction k with
    | zero => intro _ h; cases h
    | succ k ih =>
      intro hk h
      rw [q_ps] at h
      by_cases hx : x = k
      · subst hx
        rw [va_up_self] at h
        exact (q_ch_in hV (by omega) h).2.1
      · rw [va_up_ne _ _ hx] at h
        exact ih (by omega) h
  exact key _ (Nat.le_refl _) h
theorem q_bi_inj {o o' : Option Nat} (h1 : ∀ z, o = some z → z < 560) (h2 : ∀ z, o' = some z → z < 560) : q_bi o = q_bi o' ↔ o = o' := by
  cases o' with
  | some z => exact q_bi_eq h1 (h2 z rfl)
  | none =>
    cases o with
    | none => exact ⟨fun _ => rfl, fun _ => rfl⟩
    | some z => exact ⟨fun e => absurd e.symm (q_m1ne (by have := h1 z rfl; omega)), fun e => by cases e⟩
theorem q_nth_out {f : Nat → Bool} {i : Int32} : ∀ m x c, (∀ c', c ≤ c' → c' < c + m → ¬ nI c' = i) → q_nth f i m x c = -1
  | 0, _, _, _ => by rw [q_nth]
  | m + 1, x, c, h => by
    rw [q_nth]
    split
    · rw [if_neg (h c (Nat.le_refl _) (by omega))]
      exact q_nth_out m (x + 1) (c + 1) (fun c' h1 h2 => h c' (by omega) (by omega))
    · exact q_nth_out m (x + 1) c (fun c' h1 h2 => h c' h1 (by omega))
theorem q_odr_out {V : QV} {p : Nat → Option Nat} {i : Int32} (h : ∀ c, c < v_n V → ¬ nI c = i) : ∀ k W c, q_cnt W (v_n V) = c → q_odr V p i k W c = -1
  | 0, _, _, _ => by rw [q_odr]
  | k + 1, W, c, hc => by
    rw [q_odr]
    cases hz : q_nx V (-1) p W with
    | none => rfl
    | some z =>
      obtain ⟨-, z2, z3⟩ := q_up_in _ _ _ hz
      have hwz : W z = false := by
        unfold q_nxf at z3
        cases hw : W z with
        | false => rfl
        | true => rw [hw] at z3; simp at z3
      have e := q_cnt_up hwz (v_n V)
      rw [if_pos (by omega)] at e
      have := q_cnt_le (va_up W z true) (v_n V)
      show (if nI c = i then nI z else q_odr V p i k (va_up W z true) (c + 1)) = -1
      rw [if_neg (h c (by omega))]
      exact q_odr_out h k _ _ (by omega)
section KY
variable {d : Nat} {Q : Option Value → px_S → Prop} {σ : px_S} {V : QV} {k : Nat} {a : Int32} {p : Nat → Option Nat}
theorem c_rootOf {n y : Nat} (hk : k = 3 ∨ k = 4) (hn : n ≤ 40) (hp : q_okp p n) (hr : k_pr k p n σ) (hy : y < n) (h : Q (some (.int (nI (q_root p 40 y)))) σ) : Cw (d + 1) 38 [.ref k, .int (nI y)] σ Q := by
  have loop : ∀ m s z, s + m = 40 → z < n → q_root p m z = q_root p 40 y → Wp d tb_38 4 [.ref k, .int (nI y), .int (nI z), .int (nI s)] [] σ Q := by
    intro m
    induction m with
    | zero =>
      intro s z hs hz he
      rw [← he] at h
      exact b38_4 hk (fun _ => b38_33 hk h) (fun g => absurd (by rw [show s = 40 by omega]; decide) g)
    | succ m ih =>
      intro s z hs hz he
      obtain ⟨iz, cz⟩ := q_lt (j := z) (N := 40) (by omega) (by decide)
      refine b38_4 hk (fun g => absurd g (nI_ge (b := 40) (by omega) (by decide))) (fun _ => b38_10 hk iz (fun g => b38_33 hk ?_) (fun g => b38_20 hk iz ?_))
      · rw [cz, hr z hz] at g
        cases hpz : p z with
        | none =>
          rw [q_root, hpz] at he
          have he : z = q_root p 40 y := he
          rw [he]; exact h
        | some w => rw [q_rw_some hpz] at g; exact absurd g.symm (q_m1ne (by have := q_okp_lt hp hpz; omega))
      · rw [cz, hr z hz] at g ⊢
        cases hpz : p z with
        | none => exact absurd (q_rw_none hpz) g
        | some w =>
          rw [q_root, hpz] at he
          rw [q_rw_some hpz, nI_1]
          exact ih (s + 1) w (by omega) (q_okp_lt hp hpz) he
  exact e38 (b38_0 hk (loop 40 0 y (by omega) hy rfl))
theorem c_stepsOf {n y : Nat} (hk : k = 3 ∨ k = 4) (hn : n ≤ 40) (hp : q_okp p n) (hr : k_pr k p n σ) (hy : y < n) (h : Q (some (.int (nI (q_stp p 40 y)))) σ) : Cw (d + 1) 39 [.ref k, .int (nI y)] σ Q := by
  have loop : ∀ m s z, s + m = 40 → z < n → s + q_stp p m z = q_stp p 40 y → Wp d tb_39 4 [.ref k, .int (nI y), .int (nI z), .int (nI s)] [] σ Q := by
    intro m
    induction m with
    | zero =>
      intro s z hs hz he
      rw [← he] at h
      exact b39_4 hk (fun _ => b39_33 hk h) (fun g => absurd (by rw [show s = 40 by omega]; decide) g)
    | succ m ih =>
      intro s z hs hz he
      obtain ⟨iz, cz⟩ := q_lt (j := z) (N := 40) (by omega) (by decide)
      refine b39_4 hk (fun g => absurd g (nI_ge (b := 40) (by omega) (by decide))) (fun _ => b39_10 hk iz (fun g => b39_33 hk ?_) (fun g => b39_20 hk iz ?_))
      · rw [cz, hr z hz] at g
        cases hpz : p z with
        | none =>
          rw [q_stp, hpz] at he
          have he : s + 0 = q_stp p 40 y := he
          rw [show s = q_stp p 40 y by omega]; exact h
        | some w => rw [q_rw_some hpz] at g; exact absurd g.symm (q_m1ne (by have := q_okp_lt hp hpz; omega))
      · rw [cz, hr z hz] at g ⊢
        cases hpz : p z with
        | none => exact absurd (q_rw_none hpz) g
        | some w =>
          rw [q_stp, hpz] at he
          have he : s + (q_stp p m w + 1) = q_stp p 40 y := he
          rw [q_rw_some hpz, nI_1]
          exact ih (s + 1) w (by omega) (q_okp_lt hp hpz) (by omega)
  exact e39 (b39_0 hk (loop 40 0 y (by omega) hy (by omega)))
theorem c_childrenOf {x : Nat} (hV : q_wf V) (hk : k = 3 ∨ k = 4) (hH : k_H V σ) (hp : q_okp p (v_n V)) (hr : k_pr k p (v_n V) σ) (hx : x < v_n V) (h : Q (some (.int (nI (q_cnt (fun y => decide (p y = some x)) (v_n V))))) σ) : Cw (d + 1) 40 [.ref k, .int (nI x)] σ Q := by
  have hn := hV.1
  have loop : ∀ m y, y + m = v_n V → Wp d tb_40 4 [.ref k, .int (nI x), .int (nI (q_cnt (fun y => decide (p y = some x)) y)), .int (nI y)] [] σ Q := by
    intro m
    induction m with
    | zero =>
      intro y hy
      rw [show y = v_n V by omega]
      exact b40_4 hk (fun _ => b40_34 hk h) (fun g => absurd (by rw [hH.1]; exact Int32.le_refl _) g)
    | succ m ih =>
      intro y hy
      obtain ⟨iy, cy⟩ := q_lt (j := y) (N := 40) (by omega) (by decide)
      have ih := ih (y + 1) (by omega)
      rw [q_cnt] at ih
      refine b40_4 hk (fun g => absurd g (by rw [hH.1]; exact nI_ge (by omega) (by omega))) (fun _ => b40_15 hk iy (fun g => b40_28 hk ?_) (fun g => b40_25 hk (b40_28 hk ?_)))
      · rw [cy, hr y (by omega), q_rw_eq hp hn hx] at g
        rw [decide_eq_false g] at ih
        rw [nI_1]
        exact ih
      · rw [cy, hr y (by omega), q_rw_eq hp hn hx] at g
        rw [decide_eq_true (Decidable.not_not.mp g)] at ih
        rw [nI_1, nI_1]
        exact ih
  exact e40 (b40_0 hk (loop (v_n V) 0 (by omega)))
theorem c_thread {x : Nat} (hV : q_wf V) (hk : k = 3 ∨ k = 4) (hH : k_H V σ) (hs : k_sn V a k σ) (hp : q_okp p (v_n V)) (hr : k_pr k p (v_n V) σ) (hx : x < v_n V) (h : Q (some (.int (nI (q_cnt (fun y => q_seen V a y && decide (q_root p 40 y = q_root p 40 x)) (v_n V))))) σ) : Cw (d + 2) 41 [.ref k, .int (nI x)] σ Q := by
  have hn := hV.1
  have rl := fun y hy => q_root_lt hp 40 y hy
  have loop : ∀ m y, y + m = v_n V → Wp (d + 1) tb_41 11 [.ref k, .int (nI x), .int (nI (q_root p 40 x)), .int (nI (q_cnt (fun y => q_seen V a y && decide (q_root p 40 y = q_root p 40 x)) y)), .int (nI y)] [] σ Q := by
    intro m
    induction m with
    | zero =>
      intro y hy
      rw [show y = v_n V by omega]
      exact b41_11 hk (fun _ => b41_51 hk h) (fun g => absurd (by rw [hH.1]; exact Int32.le_refl _) g)
    | succ m ih =>
      intro y hy
      have hyn : y < v_n V := by omega
      have ih := ih (y + 1) (by omega)
      rw [q_cnt] at ih
      refine b41_11 hk (fun g => absurd g (by rw [hH.1]; exact nI_ge (by omega) (by omega))) (fun _ => b41_23 hk (c_seen hV hk hs hyn ?_))
      cases hse : q_seen V a y with
      | false =>
        rw [hse] at ih
        refine b41_29 hk (fun _ => b41_45 hk ?_) (fun g => absurd rfl g)
        rw [nI_1]
        exact ih
      | true =>
        rw [hse, Bool.true_and] at ih
        have r1 := rl y hyn
        have r2 := rl x hx
        refine b41_29 hk (fun g => absurd g (by decide)) (fun _ => b41_32 hk (c_rootOf hk hn hp hr hyn (b41_38 hk (fun g => b41_45 hk ?_) (fun g => b41_42 hk (b41_45 hk ?_)))))
        · rw [nI_eq (by omega) (by omega)] at g
          rw [decide_eq_false g] at ih
          rw [nI_1]
          exact ih
        · rw [nI_eq (by omega) (by omega)] at g
          rw [decide_eq_true (Decidable.not_not.mp g)] at ih
          rw [nI_1, nI_1]
          exact ih
  exact e41 (b41_0 hk (c_rootOf hk hn hp hr hx (b41_5 hk (loop (v_n V) 0 (by omega)))))
theorem c_roots (hV : q_wf V) (hk : k = 3 ∨ k = 4) (hH : k_H V σ) (hs : k_sn V a k σ) (hp : q_okp p (v_n V)) (hr : k_pr k p (v_n V) σ) (h : Q (some (.int (nI (q_cnt (fun x => q_seen V a x && (p x).isNone) (v_n V))))) σ) : Cw (d + 2) 50 [.ref k] σ Q := by
  have hn := hV.1
  have loop : ∀ m y, y + m = v_n V → Wp (d + 1) tb_50 4 [.ref k, .int (nI (q_cnt (fun x => q_seen V a x && (p x).isNone) y)), .int (nI y)] [] σ Q := by
    intro m
    induction m with
    | zero =>
      intro y hy
      rw [show y = v_n V by omega]
      exact b50_4 hk (fun _ => b50_42 hk h) (fun g => absurd (by rw [hH.1]; exact Int32.le_refl _) g)
    | succ m ih =>
      intro y hy
      have hyn : y < v_n V := by omega
      obtain ⟨iy, cy⟩ := q_lt (j := y) (N := 40) (by omega) (by decide)
      have ih := ih (y + 1) (by omega)
      rw [q_cnt] at ih
      refine b50_4 hk (fun g => absurd g (by rw [hH.1]; exact nI_ge (by omega) (by omega))) (fun _ => b50_15 hk (c_seen hV hk hs hyn ?_))
      cases hse : q_seen V a y with
      | false =>
        rw [hse] at ih
        refine b50_20 hk (fun _ => b50_36 hk ?_) (fun g => absurd rfl g)
        rw [nI_1]
        exact ih
      | true =>
        rw [hse, Bool.true_and] at ih
        refine b50_20 hk (fun g => absurd g (by decide)) (fun _ => b50_23 hk iy (fun g => b50_36 hk ?_) (fun g => b50_33 hk (b50_36 hk ?_)))
        · rw [cy, hr y hyn] at g
          cases hpy : p y with
          | none => exact absurd (q_rw_none hpy) g
          | some z =>
            rw [hpy] at ih
            rw [nI_1]
            exact ih
        · rw [cy, hr y hyn] at g
          cases hpy : p y with
          | none =>
            rw [hpy] at ih
            rw [nI_1, nI_1]
            exact ih
          | some z => rw [q_rw_some hpy] at g; exact absurd (Decidable.not_not.mp g).symm (q_m1ne (by have := q_okp_lt hp hpy; omega))
  exact e50 (b50_0 hk (loop (v_n V) 0 (by omega)))
def k_hd (V : QV) (k : Nat) (p : Nat → Option Nat) (τ : px_S) : Prop := ∀ s, q_sp V s → τ.1 (2 * k + 16) s = q_bi (q_held V p s)
theorem k_kin.hd (hK : k_kin V a k σ) : k_hd V k (q_par V a) σ := fun s hs => by
  obtain ⟨x, l, hx, hl, rfl⟩ := hs
  exact hK.2.1 x l hx hl
theorem c_sourceOf {s : Nat} (hV : q_wf V) (hk : k = 3 ∨ k = 4) (hH : k_H V σ) (hp : q_okp p (v_n V)) (hh : k_hd V k p σ) (hs : q_sp V s) (h : Q (some (.int (q_bi (q_org V p 6 s)))) σ) : Cw (d + 1) 54 [.ref k, .int (nI s)] σ Q := by
  have loop : ∀ m i (o : Option Nat), i + m = 6 → (∀ z, o = some z → q_sp V z) → o.bind (q_org V p m) = q_org V p 6 s → Wp d tb_54 4 [.ref k, .int (nI s), .int (q_bi o), .int (nI i)] [] σ Q := by
    intro m
    induction m with
    | zero =>
      intro i o hi ho he
      have e : q_org V p 6 s = none := by
        rw [← he]
        cases o with
        | none => rfl
        | some z => show q_org V p 0 z = none; rw [q_org]
      rw [e] at h
      exact b54_4 hk (fun _ => b54_41 hk h) (fun g => absurd (by rw [show i = 6 by omega]; decide) g)
    | succ m ih =>
      intro i o hi ho he
      refine b54_4 hk (fun g => absurd g (nI_nlt (b := i) (a := 5) (by omega) (by decide))) (fun _ => ?_)
      cases o with
      | none =>
        rw [← he] at h
        exact b54_9 hk (fun _ => b54_41 hk h) (fun g => absurd rfl g)
      | some z =>
        have hz := ho z rfl
        have hzl := q_sp_lt hV hz
        obtain ⟨iz, cz⟩ := q_lt (j := z) (N := 560) hzl (by decide)
        have hd5 := (hV.sp hz).1
        have he : q_org V p (m + 1) z = q_org V p 6 s := he
        rw [q_org] at he
        refine b54_9 hk (fun g => absurd g.symm (q_m1ne (by omega))) (fun _ => b54_14 hk iz (fun g => b54_28 hk iz ?_) (fun g => b54_26 hk ?_))
        · have g : ¬ σ.1 16 (nI z).toNatClampNeg = 0 := g
          show Wp d tb_54 4 [.ref k, .int (nI s), .int (σ.1 (2 * k + 16) (nI z).toNatClampNeg), .int (nI i + 1)] [] σ Q
          rw [cz, (hH.sp hz).1] at g
          rw [cz, hh z hz, nI_1]
          rw [if_neg (fun e => g (by rw [e]; rfl))] at he
          exact ih (i + 1) _ (by omega) (fun w hw => (q_held_in hp hw).1) he
        · have g : ¬ ¬ σ.1 16 (nI z).toNatClampNeg = 0 := g
          rw [cz, (hH.sp hz).1] at g
          rw [if_pos ((nI_eq (b := 0) (by omega) (by decide)).mp (Decidable.not_not.mp g))] at he
          rw [← he] at h
          exact h
  exact e54 (b54_0 hk (loop 6 0 (some s) (by omega) (fun z hz => by cases hz; exact hs) rfl))
theorem c_isAltered {s : Nat} (hV : q_wf V) (hk : k = 3 ∨ k = 4) (hH : k_H V σ) (hp : q_okp p (v_n V)) (hh : k_hd V k p σ) (hs : q_sp V s) (h : Q (some (.int (q_b (q_alt V p s)))) σ) : Cw (d + 1) 52 [.ref k, .int (nI s)] σ Q := by
  obtain ⟨is, cs⟩ := q_lt (j := s) (N := 560) (q_sp_lt hV hs) (by decide)
  have no : q_alt V p s = false → Wp d tb_52 41 [.ref k, .int (nI s)] [] σ Q := fun z => by rw [z] at h; exact b52_41 hk (b52_42 hk (Or.inl rfl) h)
  have eh := hh s hs
  cases hq : q_held V p s with
  | none =>
    rw [hq] at eh
    exact e52 (b52_0 hk is (fun _ => no (by unfold q_alt; rw [hq])) (fun g => absurd (by rw [cs, eh]; rfl) g))
  | some t =>
    rw [hq] at eh
    have ht := (q_held_in hp hq).1
    obtain ⟨it, ct⟩ := q_lt (j := t) (N := 560) (q_sp_lt hV ht) (by decide)
    have eh : σ.1 (2 * k + 16) s = nI t := eh
    refine e52 (b52_0 hk is (fun g => absurd g.symm (by rw [cs, eh]; exact q_m1ne (by have := q_sp_lt hV ht; omega))) (fun _ => b52_10 hk is (by rw [cs, eh]; exact it) is (fun g => no ?_) (fun g => b52_37 hk (b52_42 hk (Or.inr rfl) ?_))))
    · rw [cs, eh, ct, (hH.sp hs).2, (hH.sp ht).2, k_txeq hV ht hs] at g
      unfold q_alt; rw [hq]
      show (!decide (v_tx V s = v_tx V t)) = false
      rw [decide_eq_true g.symm]; rfl
    · rw [cs, eh, ct, (hH.sp hs).2, (hH.sp ht).2, k_txeq hV ht hs] at g
      have e : q_alt V p s = true := by
        unfold q_alt; rw [hq]
        show (!decide (v_tx V s = v_tx V t)) = true
        rw [decide_eq_false (fun z => g z.symm)]; rfl
      rw [e] at h
      exact h
theorem c_alteredLines (hV : q_wf V) (hk : k = 3 ∨ k = 4) (hH : k_H V σ) (hp : q_okp p (v_n V)) (hh : k_hd V k p σ) (h : Q (some (.int (nI (q_sum (fun x => q_cnt (fun l => q_alt V p (14 * x + l)) (v_sz V x)) (v_n V))))) σ) : Cw (d + 2) 51 [.ref k] σ Q := by
  have hn := hV.1
  have outer : ∀ m x (v3 : Value), x + m = v_n V → Wp (d + 1) tb_51 4 [.ref k, .int (nI (q_sum (fun x => q_cnt (fun l => q_alt V p (14 * x + l)) (v_sz V x)) x)), .int (nI x), v3] [] σ Q := by
    intro m
    induction m with
    | zero =>
      intro x v3 hx
      rw [show x = v_n V by omega]
      exact b51_4 hk (fun _ => b51_57 hk h) (fun g => absurd (by rw [hH.1]; exact Int32.le_refl _) g)
    | succ m ih =>
      intro x v3 hx
      have hxn : x < v_n V := by omega
      have hsz := (hV.2.1 x hxn).1
      obtain ⟨ix, cx⟩ := q_lt (j := x) (N := 40) (by omega) (by decide)
      have e14 := (hH.2.2.2.1 x hxn).2.2.2.1
      have inner : ∀ n l, l + n = v_sz V x → Wp (d + 1) tb_51 17 [.ref k, .int (nI (q_sum (fun x => q_cnt (fun l => q_alt V p (14 * x + l)) (v_sz V x)) x + q_cnt (fun l => q_alt V p (14 * x + l)) l)), .int (nI x), .int (nI l)] [] σ Q := by
        intro n
        induction n with
        | zero =>
          intro l hl
          refine b51_17 hk ix (fun _ => b51_51 hk ?_) (fun g => absurd (by rw [cx, e14]; exact nI_le (by omega) (by omega)) g)
          rw [nI_1, show l = v_sz V x by omega]
          exact ih (x + 1) _ (by omega)
        | succ n ih2 =>
          intro l hl
          have ih2 := ih2 (l + 1) (by omega)
          rw [q_cnt] at ih2
          refine b51_17 hk ix (fun g => absurd g (by rw [cx, e14]; exact nI_ge (by omega) (by omega))) (fun _ => b51_30 hk (c_spotOf (b51_36 hk (c_isAltered hV hk hH hp hh (q_wf_sp hxn (by omega)) ?_))))
          cases hb : q_alt V p (14 * x + l) with
          | false =>
            rw [hb] at ih2
            refine b51_39 hk (fun _ => b51_45 hk ?_) (fun g => absurd rfl g)
            rw [nI_1]
            exact ih2
          | true =>
            rw [hb] at ih2
            refine b51_39 hk (fun g => absurd g (by decide)) (fun _ => b51_42 hk (b51_45 hk ?_))
            rw [nI_1, nI_1]
            exact ih2
      exact b51_4 hk (fun g => absurd g (by rw [hH.1]; exact nI_ge (by omega) (by omega))) (fun _ => b51_15 hk (inner (v_sz V x) 0 (by omega)))
  exact e51 (b51_0 hk (outer (v_n V) 0 _ (by omega)))
theorem c_linesFrom {o : Option Nat} {v : Int32} (hV : q_wf V) (hk : k = 3 ∨ k = 4) (hH : k_H V σ) (hs : k_sn V a k σ) (hp : q_okp p (v_n V)) (hh : k_hd V k p σ) (hv : v = q_bi o) (ho : ∀ z, o = some z → z < 560) (h : Q (some (.int (nI (q_from V a p o)))) σ) : Cw (d + 2) 53 [.ref k, .int v] σ Q := by
  have hn := hV.1
  subst hv
  unfold q_from at h
  have outer : ∀ m x (v4 : Value), x + m = v_n V → Wp (d + 1) tb_53 4 [.ref k, .int (q_bi o), .int (nI (q_sum (fun y => if q_seen V a y then q_cnt (fun m => decide (q_org V p 6 (14 * y + m) = o)) (v_sz V y) else 0) x)), .int (nI x), v4] [] σ Q := by
    intro m
    induction m with
    | zero =>
      intro x v4 hx
      rw [show x = v_n V by omega]
      exact b53_4 hk (fun _ => b53_69 hk h) (fun g => absurd (by rw [hH.1]; exact Int32.le_refl _) g)
    | succ m ih =>
      intro x v4 hx
      have hxn : x < v_n V := by omega
      have hsz := (hV.2.1 x hxn).1
      obtain ⟨ix, cx⟩ := q_lt (j := x) (N := 40) (by omega) (by decide)
      have e14 := (hH.2.2.2.1 x hxn).2.2.2.1
      have ih := ih (x + 1)
      rw [q_sum] at ih
      refine b53_4 hk (fun g => absurd g (by rw [hH.1]; exact nI_ge (by omega) (by omega))) (fun _ => b53_15 hk ?_)
      cases hse : q_seen V a x with
      | false =>
        rw [hse, if_neg (by decide)] at ih
        refine b53_18 hk (c_seen hV hk hs hxn ?_)
        rw [hse]
        refine b53_23 hk (fun _ => b53_63 hk ?_) (fun g => absurd rfl g)
        rw [nI_1]
        exact ih _ (by omega)
      | true =>
        rw [hse, if_pos rfl] at ih
        have inner : ∀ n l, l + n = v_sz V x → Wp (d + 1) tb_53 18 [.ref k, .int (q_bi o), .int (nI (q_sum (fun y => if q_seen V a y then q_cnt (fun m => decide (q_org V p 6 (14 * y + m) = o)) (v_sz V y) else 0) x + q_cnt (fun m => decide (q_org V p 6 (14 * x + m) = o)) l)), .int (nI x), .int (nI l)] [] σ Q := by
          intro n
          induction n with
          | zero =>
            intro l hl
            refine b53_18 hk (c_seen hV hk hs hxn ?_)
            rw [hse]
            refine b53_23 hk (fun g => absurd g (by decide)) (fun _ => b53_26 hk ix (fun _ => b53_63 hk ?_) (fun g => absurd (by rw [cx, e14]; exact nI_le (by omega) (by omega)) g))
            rw [nI_1, show l = v_sz V x by omega]
            exact ih _ (by omega)
          | succ n ih2 =>
            intro l hl
            have ih2 := ih2 (l + 1) (by omega)
            rw [q_cnt] at ih2
            have hsp := q_wf_sp (V := V) hxn (show l < v_sz V x by omega)
            refine b53_18 hk (c_seen hV hk hs hxn ?_)
            rw [hse]
            refine b53_23 hk (fun g => absurd g (by decide)) (fun _ => b53_26 hk ix (fun g => absurd g (by rw [cx, e14]; exact nI_ge (by omega) (by omega))) (fun _ => b53_40 hk (c_spotOf (b53_47 hk (c_sourceOf hV hk hH hp hh hsp (b53_50 hk (fun g => b53_57 hk ?_) (fun g => b53_54 hk (b53_57 hk ?_))))))))
            · rw [q_bi_inj (fun z hz => q_sp_lt hV (q_org_sp hp 6 _ z hsp hz)) ho] at g
              rw [decide_eq_false g] at ih2
              rw [nI_1]
              exact ih2
            · rw [q_bi_inj (fun z hz => q_sp_lt hV (q_org_sp hp 6 _ z hsp hz)) ho] at g
              rw [decide_eq_true (Decidable.not_not.mp g)] at ih2
              rw [nI_1, nI_1]
              exact ih2
        exact inner (v_sz V x) 0 (by omega)
  exact e53 (b53_0 hk (outer (v_n V) 0 _ (by omega)))
theorem c_isQuarrel {x : Nat} (hV : q_wf V) (hk : k = 3 ∨ k = 4) (hH : k_H V σ) (hp : q_okp p (v_n V)) (hr : k_pr k p (v_n V) σ) (hx : x < v_n V) (h : Q (some (.int (q_b (q_qrl V p x)))) σ) : Cw (d + 2) 62 [.ref k, .int (nI x)] σ Q := by
  have hn := hV.1
  obtain ⟨ix, cx⟩ := q_lt (j := x) (N := 40) (by omega) (by decide)
  cases hpx : p x with
  | none =>
    have e : q_qrl V p x = false := by unfold q_qrl; rw [hpx]
    rw [e] at h
    exact e62 (b62_0 hk ix (fun _ => b62_28 hk (b62_29 hk (Or.inl rfl) h)) (fun g => absurd (by rw [cx, hr x hx, q_rw_none hpx]) g))
  | some y =>
    have hy := q_okp_lt hp hpx
    have e : q_qrl V p x = q_late V y x := by
      unfold q_qrl q_late; rw [hpx]
      show (decide (0 ≤ v_dy V x) && (decide (0 ≤ v_dy V y) && decide (v_dy V x < v_dy V y))) = _
      by_cases h1 : 0 ≤ v_dy V x
      · by_cases h2 : v_dy V x < v_dy V y
        · have : 0 ≤ v_dy V y := by
            rw [Int32.le_iff_toInt_le] at h1 ⊢; rw [Int32.lt_iff_toInt_lt] at h2; omega
          simp [h1, h2, this]
        · simp [h2]
      · simp [h1]
    rw [e] at h
    refine e62 (b62_0 hk ix (fun g => absurd g.symm (by rw [cx, hr x hx, q_rw_some hpx]; exact q_m1ne (by omega))) (fun _ => b62_10 hk ix ?_))
    rw [cx, hr x hx, q_rw_some hpx]
    refine c_isAfter hV hH hk hy hx ?_
    cases hl : q_late V y x with
    | false => rw [hl] at h; exact b62_21 hk (fun _ => b62_28 hk (b62_29 hk (Or.inl rfl) h)) (fun g => absurd rfl g)
    | true => rw [hl] at h; exact b62_21 hk (fun g => absurd g (by decide)) (fun _ => b62_24 hk (b62_29 hk (Or.inr rfl) h))
theorem c_quarrels (hV : q_wf V) (hk : k = 3 ∨ k = 4) (hH : k_H V σ) (hp : q_okp p (v_n V)) (hr : k_pr k p (v_n V) σ) (h : Q (some (.int (nI (q_cnt (q_qrl V p) (v_n V))))) σ) : Cw (d + 3) 61 [.ref k] σ Q := by
  have hn := hV.1
  have loop : ∀ m y, y + m = v_n V → Wp (d + 2) tb_61 4 [.ref k, .int (nI (q_cnt (q_qrl V p) y)), .int (nI y)] [] σ Q := by
    intro m
    induction m with
    | zero =>
      intro y hy
      rw [show y = v_n V by omega]
      exact b61_4 hk (fun _ => b61_32 hk h) (fun g => absurd (by rw [hH.1]; exact Int32.le_refl _) g)
    | succ m ih =>
      intro y hy
      have ih := ih (y + 1) (by omega)
      rw [q_cnt] at ih
      refine b61_4 hk (fun g => absurd g (by rw [hH.1]; exact nI_ge (by omega) (by omega))) (fun _ => b61_15 hk (c_isQuarrel hV hk hH hp hr (by omega) ?_))
      cases hb : q_qrl V p y with
      | false =>
        rw [hb] at ih
        refine b61_20 hk (fun _ => b61_26 hk ?_) (fun g => absurd rfl g)
        rw [nI_1]
        exact ih
      | true =>
        rw [hb] at ih
        refine b61_20 hk (fun g => absurd g (by decide)) (fun _ => b61_23 hk (b61_26 hk ?_))
        rw [nI_1, nI_1]
        exact ih
  exact e61 (b61_0 hk (loop (v_n V) 0 (by omega)))
theorem c_quarrelAt {i : Int32} (hV : q_wf V) (hk : k = 3 ∨ k = 4) (hH : k_H V σ) (hp : q_okp p (v_n V)) (hr : k_pr k p (v_n V) σ) (h : Q (some (.int (q_nth (q_qrl V p) i (v_n V) 0 0))) σ) : Cw (d + 3) 90 [.ref k, .int i] σ Q := by
  have hn := hV.1
  have loop : ∀ m y c, y + m = v_n V → c ≤ y → q_nth (q_qrl V p) i m y c = q_nth (q_qrl V p) i (v_n V) 0 0 → Wp (d + 2) tb_90 4 [.ref k, .int i, .int (nI c), .int (nI y)] [] σ Q := by
    intro m
    induction m with
    | zero =>
      intro y c hy hc he
      rw [← he, q_nth] at h
      exact b90_4 hk (fun _ => b90_42 hk h) (fun g => absurd (by rw [hH.1]; exact nI_le (by omega) (by omega)) g)
    | succ m ih =>
      intro y c hy hc he
      rw [q_nth] at he
      refine b90_4 hk (fun g => absurd g (by rw [hH.1]; exact nI_ge (by omega) (by omega))) (fun _ => b90_15 hk (c_isQuarrel hV hk hH hp hr (by omega) ?_))
      cases hb : q_qrl V p y with
      | false =>
        rw [hb, if_neg (by decide)] at he
        refine b90_20 hk (fun g => absurd rfl g) (fun _ => b90_23 hk (b90_36 hk ?_))
        rw [nI_1]
        exact ih (y + 1) c (by omega) (by omega) he
      | true =>
        rw [hb, if_pos rfl] at he
        refine b90_20 hk (fun _ => b90_26 hk (fun g => b90_33 hk (b90_36 hk ?_)) (fun g => b90_31 hk ?_)) (fun g => absurd (by decide) g)
        · rw [if_neg g] at he
          rw [nI_1, nI_1]
          exact ih (y + 1) (c + 1) (by omega) (by omega) he
        · rw [if_pos (Decidable.not_not.mp g)] at he
          rw [he]
          exact h
  exact e90 (b90_0 hk (loop (v_n V) 0 0 (by omega) (by omega) rfl))
theorem c_nextToWrite {W : Nat → Bool} {y1 : Int64} (hV : q_wf V) (hk : k = 3 ∨ k = 4) (hH : k_H V σ) (hs : k_sn V a k σ) (hp : q_okp p (v_n V)) (hr : k_pr k p (v_n V) σ) (hW : q_set y1 W) (h : Q (some (.int (q_bi (q_nx V a p W)))) σ) : Cw (d + 2) 88 [.ref k, .long y1] σ Q := by
  have hn := hV.1
  have loop : ∀ m x (v4 v5 : Value), x + m = v_n V → q_up (q_nxf V a p W) m x = q_nx V a p W → Wp (d + 1) tb_88 2 [.ref k, .long y1, .null, .int (nI x), v4, v5] [] σ Q := by
    intro m
    induction m with
    | zero =>
      intro x v4 v5 hx he
      rw [← he] at h
      exact b88_2 hk (fun _ => b88_88 hk h) (fun g => absurd (by rw [hH.1]; exact nI_le (by omega) (by omega)) g)
    | succ m ih =>
      intro x v4 v5 hx he
      have hxn : x < v_n V := by omega
      obtain ⟨ix, cx⟩ := q_lt (j := x) (N := 40) (by omega) (by decide)
      rw [q_up] at he
      have rest : ∀ b c, W x = b → (match p x with
          | none => true
          | some y => W y) = c → Wp (d + 1) tb_88 60 [.ref k, .long y1, .null, .int (nI x), .int (q_b b), v5] [.int (q_b c)] σ Q := by
        intro b c hb hc
        have hf : q_nxf V a p W x = (q_seen V a x && (c && !b)) := by rw [← hb, ← hc]; unfold q_nxf; cases p x <;> rfl
        have no : q_nxf V a p W x = false → Wp (d + 1) tb_88 82 [.ref k, .long y1, .null, .int (nI x), .int (q_b b), .int (q_b c)] [] σ Q := fun z => by
          rw [z, if_neg (by decide)] at he
          refine b88_82 hk ?_
          rw [nI_1]
          exact ih (x + 1) _ _ (by omega) he
        refine b88_60 hk (c_seen hV hk hs hxn ?_)
        cases hse : q_seen V a x with
        | false => exact b88_67 hk (fun _ => no (by rw [hf, hse]; rfl)) (fun g => absurd rfl g)
        | true =>
          refine b88_67 hk (fun g => absurd g (by decide)) (fun _ => b88_70 hk (fun g => no ?_) (fun g => b88_75 hk (fun g2 => no ?_) (fun g2 => b88_80 hk ?_)))
          · have : b = true := by
              cases b with
              | true => rfl
              | false => exact absurd rfl g
            rw [hf, this]; simp
          · rw [q_bz] at g2
            rw [hf, g2]; simp
          · have g := q_bz.mp (Decidable.not_not.mp g)
            have hc1 : c = true := by
              cases c with
              | true => rfl
              | false => exact absurd rfl g2
            rw [hf, hse, g, hc1, if_pos (by decide)] at he
            rw [← he] at h
            exact h
      have mid : ∀ b, W x = b → Wp (d + 1) tb_88 28 [.ref k, .long y1, .null, .int (nI x), v4, v5] [.int (q_b b)] σ Q := by
        intro b hb
        cases hpx : p x with
        | none =>
          exact b88_28 hk ix (fun _ => b88_55 hk (rest b true hb (by rw [hpx]))) (fun g => absurd (by rw [cx, hr x hxn, q_rw_none hpx]) g)
        | some z =>
          have hz := q_okp_lt hp hpx
          refine b88_28 hk ix (fun g => absurd g.symm (by rw [cx, hr x hxn, q_rw_some hpx]; exact q_m1ne (by omega))) (fun _ => b88_40 hk ix (fun g => b88_59 hk (rest b false hb ?_)) (fun g => b88_55 hk (rest b true hb ?_)))
          · rw [cx, hr x hxn, q_rw_some hpx, hW.u0 (by omega)] at g
            rw [hpx]; exact g
          · rw [cx, hr x hxn, q_rw_some hpx, hW.u0 (by omega)] at g
            rw [hpx]
            show W z = true
            cases hw : W z with
            | true => rfl
            | false => exact absurd hw g
      refine b88_2 hk (fun g => absurd g (by rw [hH.1]; exact nI_ge (by omega) (by omega))) (fun _ => b88_13 hk (fun g => b88_27 hk (mid false ?_)) (fun g => b88_23 hk (mid true ?_)))
      · exact (hW.u0 (by omega)).mp g
      · cases hw : W x with
        | true => rfl
        | false => exact absurd ((hW.u0 (by omega)).mpr hw) g
  exact e88 (b88_0 hk (loop (v_n V) 0 _ _ (by omega) rfl))
theorem c_writtenAt {j : Nat} (hV : q_wf V) (hk : k = 3 ∨ k = 4) (hH : k_H V σ) (hs : k_sn V (-1) k σ) (hp : q_okp p (v_n V)) (hr : k_pr k p (v_n V) σ) (hj : j < v_n V) (h : Q (some (.int (q_odr V p (nI j) 41 (fun _ => false) 0))) σ) : Cw (d + 3) 87 [.ref k, .int (nI j)] σ Q := by
  have hn := hV.1
  have loop : ∀ m s (W : Nat → Bool) (y2 : Int64) (x4 : Int32), s + m = 41 → s ≤ j → q_set y2 W → q_odr V p (nI j) m W s = q_odr V p (nI j) 41 (fun _ => false) 0 → Wp (d + 2) tb_87 8 [.ref k, .int (nI j), .long y2, .null, .int x4, .int (nI s)] [] σ Q := by
    intro m
    induction m with
    | zero => intro s W y2 x4 hs; omega
    | succ m ih =>
      intro s W y2 x4 hs' hsj hW he
      rw [q_odr] at he
      refine b87_8 hk (fun g => absurd g (nI_nlt (by omega) (by omega))) (fun _ => b87_14 hk (fun g => absurd g (nI_ge (b := 40) (by omega) (by decide))) (fun _ => b87_21 hk (c_nextToWrite hV hk hH hs hp hr hW ?_)))
      cases hz : q_nx V (-1) p W with
      | none =>
        rw [hz] at he
        have he : (-1 : Int32) = q_odr V p (nI j) 41 (fun _ => false) 0 := he
        rw [← he] at h
        exact b87_26 hk (fun g => absurd rfl g) (fun _ => b87_34 hk h)
      | some z =>
        rw [hz] at he
        have he : (if nI s = nI j then nI z else q_odr V p (nI j) m (va_up W z true) (s + 1)) = q_odr V p (nI j) 41 (fun _ => false) 0 := he
        obtain ⟨-, z2, z3⟩ := q_up_in _ _ _ hz
        refine b87_26 hk (fun _ => b87_36 hk ?_) (fun g => absurd (fun e => q_m1ne (by omega) e.symm) g)
        rw [nI_1]
        by_cases hsj2 : s = j
        · rw [if_pos (by rw [hsj2])] at he
          rw [← he] at h
          exact b87_8 hk (fun _ => b87_49 hk h) (fun g => absurd (nI_lt (by omega) (by omega)) g)
        · rw [if_neg (fun e => hsj2 ((nI_eq (by omega) (by omega)).mp e))] at he
          exact ih (s + 1) (va_up W z true) _ _ (by omega) (by omega) (hW.add (by omega)) he
  exact e87 (b87_0 hk (loop 41 0 (fun _ => false) 0 (-1) (by omega) (by omega) q_set.zero rfl))
theorem c_greatest {x : Nat} (hV : q_wf V) (hk : k = 3 ∨ k = 4) (hH : k_H V σ) (hp : q_okp p (v_n V)) (hr : k_pr k p (v_n V) σ) (hx : x < v_n V) (h : Q (some (.int (q_lowf V p 40 (p x) 0))) σ) : Cw (d + 1) 92 [.ref k, .int (nI x)] σ Q := by
  have hn := hV.1
  obtain ⟨ix, cx⟩ := q_lt (j := x) (N := 40) (by omega) (by decide)
  have loop : ∀ m s (o : Option Nat) (c : Int32), s + m = 40 → (∀ z, o = some z → z < v_n V) → q_lowf V p m o c = q_lowf V p 40 (p x) 0 → Wp d tb_92 12 [.ref k, .int (nI x), .int c, .int (q_bi o), .int (nI s)] [] σ Q := by
    intro m
    induction m with
    | zero =>
      intro s o c hs ho he
      have e : q_lowf V p 0 o c = c := by cases o <;> rw [q_lowf]
      rw [e] at he
      rw [← he] at h
      exact b92_12 hk (fun _ => b92_51 hk h) (fun g => absurd (by rw [show s = 40 by omega]; decide) g)
    | succ m ih =>
      intro s o c hs ho he
      refine b92_12 hk (fun g => absurd g (nI_ge (b := 40) (by omega) (by decide))) (fun _ => ?_)
      cases o with
      | none =>
        rw [q_lowf] at he
        rw [← he] at h
        exact b92_19 hk (fun _ => b92_51 hk h) (fun g => absurd rfl g)
      | some z =>
        have hz := ho z rfl
        obtain ⟨iz, cz⟩ := q_lt (j := z) (N := 40) (by omega) (by decide)
        rw [q_lowf] at he
        refine b92_19 hk (fun g => absurd g.symm (q_m1ne (by omega))) (fun _ => b92_24 hk iz iz ?_)
        show Wp d tb_92 12 [.ref k, .int (nI x), .int (if c < σ.1 12 (nI z).toNatClampNeg then σ.1 12 (nI z).toNatClampNeg else c), .int (σ.1 (2 * k + 15) (nI z).toNatClampNeg), .int (nI s + 1)] [] σ Q
        rw [cz, (hH.2.2.2.1 z hz).2.1, hr z hz, nI_1, k_rwb]
        exact ih (s + 1) (p z) _ (by omega) (fun w hw => q_okp_lt hp hw) he
  refine e92 (b92_0 hk ix ?_)
  rw [cx, hr x hx, k_rwb]
  exact loop 40 0 (p x) 0 (by omega) (fun z hz => q_okp_lt hp hz) rfl
theorem c_least {x : Nat} (hV : q_wf V) (hk : k = 3 ∨ k = 4) (hH : k_H V σ) (hs : k_sn V (-1) k σ) (hp : q_okp p (v_n V)) (hr : k_pr k p (v_n V) σ) (hx : x < v_n V) (h : Q (some (.int (q_hif V p x (v_n V)))) σ) : Cw (d + 2) 93 [.ref k, .int (nI x)] σ Q := by
  have hn := hV.1
  have loop : ∀ m y, y + m = v_n V → Wp (d + 1) tb_93 6 [.ref k, .int (nI x), .int (q_hif V p x y), .int (nI y)] [] σ Q := by
    intro m
    induction m with
    | zero =>
      intro y hy
      rw [show y = v_n V by omega]
      exact b93_6 hk (fun _ => b93_72 hk h) (fun g => absurd (by rw [hH.1]; exact Int32.le_refl _) g)
    | succ m ih =>
      intro y hy
      have hyn : y < v_n V := by omega
      obtain ⟨iy, cy⟩ := q_lt (j := y) (N := 40) (by omega) (by decide)
      have dy := (hH.2.2.2.1 y hyn).2.1
      have ih := ih (y + 1) (by omega)
      rw [q_hif] at ih
      have no : q_hic V p x y (q_hif V p x y) = false → Wp (d + 1) tb_93 66 [.ref k, .int (nI x), .int (q_hif V p x y), .int (nI y)] [] σ Q := fun z => by
        rw [z, if_neg (by decide)] at ih
        refine b93_66 hk ?_
        rw [nI_1]
        exact ih
      refine b93_6 hk (fun g => absurd g (by rw [hH.1]; exact nI_ge (by omega) (by omega))) (fun _ => b93_17 hk (fun g => no ?_) (fun g => b93_22 hk iy (fun g2 => no ?_) (fun g2 => b93_35 hk (c_seen hV hk hs hyn ?_))))
      · have e : y = x := (nI_eq (by omega) (by omega)).mp g
        unfold q_hic; rw [decide_eq_false (fun z => z e)]; rfl
      · rw [cy, dy] at g2
        unfold q_hic; rw [g2]; simp
      · rw [cy, dy] at g2
        have hyx : ¬ y = x := fun e => g (by rw [e])
        have h0 : 0 ≤ v_dy V y := by
          rcases (hV.2.1 y hyn).2.2.1 with e | ⟨e, he, ee⟩
          · exact absurd e g2
          · rw [ee]; exact nI_pos' (by omega)
        cases hse : q_seen V (-1) y with
        | false => exact b93_40 hk (fun _ => no (by unfold q_hic; rw [hse]; simp)) (fun z => absurd rfl z)
        | true =>
          refine b93_40 hk (fun z => absurd z (by decide)) (fun _ => b93_43 hk (c_leadsTo hk hn hp hr hyn hx ?_))
          cases hc : q_cm p y x with
          | false => exact b93_49 hk (fun _ => no (by unfold q_hic; rw [hc]; simp)) (fun z => absurd rfl z)
          | true =>
            refine b93_49 hk (fun z => absurd z (by decide)) (fun _ => b93_52 hk iy ?_)
            rw [cy, dy]
            by_cases hl : v_dy V y < q_hif V p x y
            · rw [if_pos hl]
              have e : q_hic V p x y (q_hif V p x y) = true := by
                unfold q_hic; rw [decide_eq_true hyx, hse, decide_eq_true h0, decide_eq_true hl, hc]; rfl
              rw [e, if_pos rfl] at ih
              refine b93_66 hk ?_
              rw [nI_1]
              exact ih
            · rw [if_neg hl]
              exact no (by unfold q_hic; rw [decide_eq_false hl]; simp)
  exact e93 (b93_0 hk (loop (v_n V) 0 (by omega)))
theorem c_quotedAlike {x : Nat} (hV : q_wf V) (hk : k = 3 ∨ k = 4) (hH : k_H V σ) (hs : k_sn V a k σ) (hp : q_okp p (v_n V)) (hh : k_hd V k p σ) (hx : x < v_n V) (h : Q (some (.int (q_stl V a p x))) σ) : Cw (d + 2) 102 [.ref k, .int (nI x)] σ Q := by
  have hn := hV.1
  unfold q_stl at h
  obtain ⟨F, hF⟩ : ∃ F : Nat → Int32 → Int32, F = fun y c => if decide (¬ y = x) && q_seen V a y then q_fold (fun m c => q_stb V p x (14 * y + m) c) (v_sz V y) c else c := ⟨_, rfl⟩
  rw [← hF] at h
  have outer : ∀ m y (v4 v5 v6 : Value), y + m = v_n V → px_nc v4 = true → px_nc v5 = true → px_nc v6 = true → Wp (d + 1) tb_102 4 [.ref k, .int (nI x), .int (q_fold F y 0), .int (nI y), v4, v5, v6] [] σ Q := by
    intro m
    induction m with
    | zero =>
      intro y v4 v5 v6 hy n4 n5 n6
      rw [show y = v_n V by omega]
      exact b102_4 hk (fun _ => b102_125 hk h) (fun g => absurd (by rw [hH.1]; exact Int32.le_refl _) g)
    | succ m ih =>
      intro y v4 v5 v6 hy n4 n5 n6
      have hyn : y < v_n V := by omega
      have hsz := (hV.2.1 y hyn).1
      obtain ⟨iy, cy⟩ := q_lt (j := y) (N := 40) (by omega) (by decide)
      have e14 := (hH.2.2.2.1 y hyn).2.2.2.1
      have ih := ih (y + 1)
      rw [q_fold] at ih
      have skip : ∀ (v4 v5 v6 : Value), px_nc v4 = true → px_nc v5 = true → px_nc v6 = true → (decide (¬ y = x) && q_seen V a y) = false → Wp (d + 1) tb_102 119 [.ref k, .int (nI x), .int (q_fold F y 0), .int (nI y), v4, v5, v6] [] σ Q := by
        intro v4 v5 v6 n4 n5 n6 hb
        have e : F y (q_fold F y 0) = q_fold F y 0 := by
          have e2 : F y (q_fold F y 0) = if (decide (¬ y = x) && q_seen V a y) = true then q_fold (fun m c => q_stb V p x (14 * y + m) c) (v_sz V y) (q_fold F y 0) else q_fold F y 0 := by rw [hF]
          rw [e2, hb, if_neg (by decide)]
        rw [e] at ih
        refine b102_119 hk ?_
        rw [nI_1]
        exact ih v4 v5 v6 (by omega) n4 n5 n6
      refine b102_4 hk (fun g => absurd g (by rw [hH.1]; exact nI_ge (by omega) (by omega))) (fun _ => b102_15 hk (fun g => skip v4 v5 v6 n4 n5 n6 ?_) (fun g => b102_20 hk n4 n5 n6 (c_seen hV hk hs hyn ?_)))
      · have e : y = x := (nI_eq (by omega) (by omega)).mp g
        rw [decide_eq_false (fun z => z e)]; rfl
      · have hyx : ¬ y = x := fun e => g (by rw [e])
        cases hse : q_seen V a y with
        | false => exact b102_25 hk (fun z => absurd rfl z) (fun _ => b102_28 hk (skip v4 v5 v6 n4 n5 n6 (by rw [hse, Bool.and_false])))
        | true =>
          have e : F y (q_fold F y 0) = q_fold (fun m c => q_stb V p x (14 * y + m) c) (v_sz V y) (q_fold F y 0) := by
            have e2 : F y (q_fold F y 0) = if (decide (¬ y = x) && q_seen V a y) = true then q_fold (fun m c => q_stb V p x (14 * y + m) c) (v_sz V y) (q_fold F y 0) else q_fold F y 0 := by rw [hF]
            rw [e2, hse, decide_eq_true hyx, if_pos (by decide)]
          rw [e] at ih
          have inner : ∀ n l (v5 v6 : Value), l + n = v_sz V y → px_nc v5 = true → px_nc v6 = true → Wp (d + 1) tb_102 34 [.ref k, .int (nI x), .int (q_fold (fun m c => q_stb V p x (14 * y + m) c) l (q_fold F y 0)), .int (nI y), .int (nI l), v5, v6] [] σ Q := by
            intro n
            induction n with
            | zero =>
              intro l v5 v6 hl n5 n6
              refine b102_34 hk iy (fun _ => b102_119 hk ?_) (fun g => absurd (by rw [cy, e14]; exact nI_le (by omega) (by omega)) g)
              rw [nI_1, show l = v_sz V y by omega]
              exact ih _ _ _ (by omega) rfl n5 n6
            | succ n ih2 =>
              intro l v5 v6 hl n5 n6
              have ih2 := ih2 (l + 1)
              rw [q_fold] at ih2
              have hsp := q_wf_sp (V := V) hyn (show l < v_sz V y by omega)
              have ls := q_sp_lt hV hsp
              obtain ⟨is, cs⟩ := q_lt (j := 14 * y + l) (N := 560) ls (by decide)
              generalize hc : q_fold (fun m c => q_stb V p x (14 * y + m) c) l (q_fold F y 0) = c at ih2 ⊢
              have next : ∀ (z6 : Int32) (c' : Int32), c' = q_stb V p x (14 * y + l) c → Wp (d + 1) tb_102 113 [.ref k, .int (nI x), .int c', .int (nI y), .int (nI l), .int (nI (14 * y + l)), .int z6] [] σ Q := by
                intro z6 c' ec
                refine b102_113 hk ?_
                rw [nI_1, ec]
                exact ih2 _ _ (by omega) rfl rfl
              refine b102_34 hk iy (fun g => absurd g (by rw [cy, e14]; exact nI_ge (by omega) (by omega))) (fun _ => b102_48 hk n5 n6 (c_spotOf (b102_54 hk n6 (c_sourceOf hV hk hH hp hh hsp ?_))))
              cases ho : q_org V p 6 (14 * y + l) with
              | none =>
                refine b102_62 hk (fun _ => next _ c ?_) (fun g => absurd rfl g)
                unfold q_stb; rw [ho]
              | some z =>
                have hz := q_org_sp hp 6 _ z hsp ho
                have lz := q_sp_lt hV hz
                obtain ⟨iz, cz⟩ := q_lt (j := z) (N := 560) lz (by decide)
                have estb : q_stb V p x (14 * y + l) c = if z / 14 = x ∧ v_tx V z = v_tx V (14 * y + l) then c ||| ((1 : Int32) <<< (nI (z % 14) &&& 31)) else c := by unfold q_stb; rw [ho]
                have ed : nI z / (14 : Int32) = nI (z / 14) := by rw [show (14 : Int32) = nI 14 from rfl, pk_div (by omega) (by decide) (by decide)]
                have er : nI z - nI z / (14 : Int32) * (14 : Int32) = nI (z % 14) := by rw [show (14 : Int32) = nI 14 from rfl, pk_rem (by omega) (by decide) (by decide)]
                refine b102_62 hk (fun g => absurd (Eq.symm g) (q_m1ne (by omega))) (fun _ => b102_70 hk (fun g => next _ c ?_) (fun g => b102_79 hk iz is (fun g2 => next _ c ?_) (fun g2 => b102_103 hk (next _ _ ?_))))
                · have g : ¬ nI z / (14 : Int32) = nI x := g
                  rw [ed, nI_eq (by omega) (by omega)] at g
                  rw [estb, if_neg (fun q => g q.1)]
                · have g2 : ¬ lg_cmp (σ.2.1 17 (nI z).toNatClampNeg) (σ.2.1 17 (nI (14 * y + l)).toNatClampNeg) = 0 := g2
                  rw [cz, cs, (hH.sp hz).2, (hH.sp hsp).2, k_txeq hV hz hsp] at g2
                  rw [estb, if_neg (fun q => g2 q.2)]
                · have g : ¬ ¬ nI z / (14 : Int32) = nI x := g
                  rw [ed, nI_eq (by omega) (by omega)] at g
                  have g2 : ¬ ¬ lg_cmp (σ.2.1 17 (nI z).toNatClampNeg) (σ.2.1 17 (nI (14 * y + l)).toNatClampNeg) = 0 := g2
                  rw [cz, cs, (hH.sp hz).2, (hH.sp hsp).2, k_txeq hV hz hsp] at g2
                  rw [estb, if_pos ⟨Decidable.not_not.mp g, Decidable.not_not.mp g2⟩, ← er]
                  rfl
          exact b102_25 hk (fun _ => b102_31 hk (inner (v_sz V y) 0 v5 v6 (by omega) n5 n6)) (fun z => absurd (by decide) z)
  exact e102 (b102_0 hk (outer (v_n V) 0 _ _ _ (by omega) rfl rfl rfl))
end KY
