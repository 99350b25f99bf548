/-! ===== who answers whom: walks up, chosen parents (pure) ===== -/
def q_rw (p : Nat → Option Nat) (x : Nat) : Int32 := match p x with
  | none => -1
  | some y => nI y
/-- k steps up -/
def q_it (p : Nat → Option Nat) : Nat → Nat → Option Nat
  | 0, y => some y
  | k + 1, y => (p y).bind (q_it p k)
/-- whether x is among the first k that one comes to, from y on -/
def q_cmf (p : Nat → Option Nat) : Nat → Option Nat → Nat → Bool
  | 0, _, _ => false
  | _ + 1, none, _ => false
  | k + 1, some y, x => if y = x then true else q_cmf p k (p y) x
def q_cm (p : Nat → Option Nat) (y x : Nat) : Bool := q_cmf p 40 (some y) x
def q_rch (p : Nat → Option Nat) (y x : Nat) : Prop := ∃ k, q_it p k y = some x
/-- parents of n letters, no circle -/
def q_okp (p : Nat → Option Nat) (n : Nat) : Prop := ∃ r : Nat → Nat, ∀ y z, p y = some z → y < n ∧ z < n ∧ r z < r y
theorem q_pig : ∀ (n k : Nat) (u : Nat → Nat), (∀ i, i ≤ k → u i < n) → (∀ i j, i < j → j ≤ k → u i ≠ u j) → k < n
  | 0, k, u, h, _ => absurd (h 0 (Nat.zero_le _)) (Nat.not_lt_zero _)
  | n + 1, k, u, h, hd => by
    by_cases hn : ∃ i, i ≤ k ∧ u i = n
    · obtain ⟨i0, hi0, e0⟩ := hn
      rcases k with _ | k
      · omega
      · have := q_pig n k (fun i => if i < i0 then u i else u (i + 1)) (fun i hi => by
          try dsimp only
          split
          · have h1 := h i (by omega)
            have h2 := hd i i0 (by omega) hi0
            omega
          · have h1 := h (i + 1) (by omega)
            have h2 := hd i0 (i + 1) (by omega) (by omega)
            omega) (fun i j hij hj => by
          try dsimp only
          split
          · split
            · exact hd i j hij (by omega)
            · exact hd i (j + 1) (by omega) (by omega)
          · split
            · omega
            · exact hd (i + 1) (j + 1) (by omega) (by omega))
        omega
    · have := q_pig n k u (fun i hi => by
        have h1 := h i hi
        have h2 : u i ≠ n := fun e => hn ⟨i, hi, e⟩
        omega) hd
      omega
theorem q_it_succ {p : Nat → Option Nat} : ∀ (k y : Nat), q_it p (k + 1) y = (q_it p k y).bind p
  | 0, y => by simp [q_it]
  | k + 1, y => by
    rw [q_it]
    cases h : p y with
    | none => simp [q_it, h]
    | some z =>
      show q_it p (k + 1) z = _
      rw [q_it_succ k z, q_it, h]
      rfl
theorem q_it_pre {p : Nat → Option Nat} {y x : Nat} : ∀ {k : Nat}, q_it p k y = some x → ∀ i, i ≤ k → ∃ z, q_it p i y = some z
  | 0, _, i, hi => ⟨y, by rw [show i = 0 by omega]; rfl⟩
  | k + 1, h, i, hi => by
    by_cases e : i = k + 1
    · subst e; exact ⟨x, h⟩
    · rw [q_it_succ] at h
      cases hk : q_it p k y with
      | none => rw [hk] at h; cases h
      | some z => exact q_it_pre hk i (by omega)
theorem q_it_rank {p : Nat → Option Nat} {n : Nat} {r : Nat → Nat} (hr : ∀ y z, p y = some z → y < n ∧ z < n ∧ r z < r y) {y : Nat} : ∀ (i j u v : Nat), i < j → q_it p i y = some u → q_it p j y = some v → r v < r u
  | i, 0, _, _, h, _, _ => absurd h (Nat.not_lt_zero _)
  | i, j + 1, u, v, hij, hu, hv => by
    rw [q_it_succ] at hv
    cases hj : q_it p j y with
    | none => rw [hj] at hv; cases hv
    | some w =>
      rw [hj] at hv
      have h1 := (hr w v hv).2.2
      by_cases e : i = j
      · subst e
        rw [hj] at hu
        cases hu
        exact h1
      · have h2 := q_it_rank hr i j u w (by omega) hu hj
        omega
/-- a way up has fewer than n steps -/
theorem q_it_lt {p : Nat → Option Nat} {n : Nat} (hp : q_okp p n) {y x k : Nat} (hy : y < n) (h : q_it p k y = some x) : k < n := by
  obtain ⟨r, hr⟩ := hp
  refine q_pig n k (fun i => (q_it p i y).getD 0) (fun i hi => ?_) (fun i j hij hj e => ?_)
  · obtain ⟨z, hz⟩ := q_it_pre h i hi
    try dsimp only
    rw [hz]
    rcases i with _ | i
    · cases hz; exact hy
    · rw [q_it_succ] at hz
      cases hw : q_it p i y with
      | none => rw [hw] at hz; cases hz
      | some w => rw [hw] at hz; exact (hr w z hz).2.1
  · obtain ⟨z, hz⟩ := q_it_pre h i (by omega)
    obtain ⟨w, hw⟩ := q_it_pre h j hj
    have h1 := q_it_rank hr i j z w hij hz hw
    try dsimp only at e
    rw [hz, hw] at e
    have : z = w := e
    subst this
    omega
theorem q_cmf_rch {p : Nat → Option Nat} {x : Nat} : ∀ (k : Nat) (y : Nat), q_cmf p k (some y) x = true → q_rch p y x
  | 0, _, h => by cases h
  | k + 1, y, h => by
    rw [q_cmf] at h
    split at h
    · rename_i e; exact ⟨0, by rw [e]; rfl⟩
    · cases hp : p y with
      | none => rw [hp] at h; cases k <;> cases h
      | some z =>
        rw [hp] at h
        obtain ⟨j, hj⟩ := q_cmf_rch k z h
        exact ⟨j + 1, by rw [q_it, hp]; exact hj⟩
theorem q_cmf_of {p : Nat → Option Nat} {x : Nat} : ∀ (j k y : Nat), j < k → q_it p j y = some x → q_cmf p k (some y) x = true
  | j, 0, _, h, _ => absurd h (Nat.not_lt_zero _)
  | 0, k + 1, y, _, h => by cases h; simp [q_cmf]
  | j + 1, k + 1, y, hjk, h => by
    rw [q_cmf]
    split
    · rfl
    · rw [q_it] at h
      cases hp : p y with
      | none => rw [hp] at h; cases h
      | some z => rw [hp] at h; exact q_cmf_of j k z (by omega) h
theorem q_cm_iff {p : Nat → Option Nat} {n y x : Nat} (hp : q_okp p n) (hn : n ≤ 40) (hy : y < n) : q_cm p y x = true ↔ q_rch p y x := by
  constructor
  · exact q_cmf_rch 40 y
  · rintro ⟨k, hk⟩
    exact q_cmf_of k 40 y (by have := q_it_lt hp hy hk; omega) hk
theorem q_cm_not {p : Nat → Option Nat} {n y x : Nat} (hp : q_okp p n) (hn : n ≤ 40) (hy : y < n) (h : ¬ q_rch p y x) : q_cm p y x = false := by
  cases e : q_cm p y x with
  | false => rfl
  | true => exact absurd ((q_cm_iff hp hn hy).mp e) h
theorem q_rch_step {p : Nat → Option Nat} {u z x : Nat} (h : p u = some z) (hr : q_rch p z x) : q_rch p u x := by
  obtain ⟨k, hk⟩ := hr
  exact ⟨k + 1, by rw [q_it, h]; exact hk⟩
/-- a parent more -/
theorem q_okp_up {p : Nat → Option Nat} {n x y : Nat} (hp : q_okp p n) (hx : x < n) (hy : y < n) (h0 : p x = none) (hc : ¬ q_rch p y x) : q_okp (va_up p x (some y)) n := by
  obtain ⟨r, hr⟩ := hp
  refine ⟨fun u => @ite _ (q_rch p u x) (Classical.propDecidable _) (r u + (r y + 1)) (r u), fun u z h => ?_⟩
  by_cases hu : u = x
  · subst hu
    rw [va_up_self] at h
    cases h
    refine ⟨hx, hy, ?_⟩
    dsimp only
    rw [@if_neg _ (Classical.propDecidable _) hc, @if_pos _ (Classical.propDecidable _) ⟨0, rfl⟩]
    omega
  · rw [va_up_ne _ _ hu] at h
    obtain ⟨h1, h2, h3⟩ := hr u z h
    refine ⟨h1, h2, ?_⟩
    dsimp only
    by_cases hz : q_rch p z x
    · rw [@if_pos _ (Classical.propDecidable _) hz, @if_pos _ (Classical.propDecidable _) (q_rch_step h hz)]
      omega
    · rw [@if_neg _ (Classical.propDecidable _) hz]
      by_cases hw : q_rch p u x
      · rw [@if_pos _ (Classical.propDecidable _) hw]; omega
      · rw [@if_neg _ (Classical.propDecidable _) hw]; exact h3
theorem q_okp_none {p : Nat → Option Nat} {n x : Nat} (hp : q_okp p n) (h0 : p x = none) : q_okp (va_up p x none) n := by
  have e : va_up p x none = p := by
    funext u
    by_cases hu : u = x
    · subst hu; rw [va_up_self, h0]
    · rw [va_up_ne _ _ hu]
  rw [e]; exact hp
/-! the choice of a parent -/
def q_late (V : QV) (y x : Nat) : Bool := decide (0 ≤ v_dy V x) && decide (v_dy V x < v_dy V y)
def q_nmo (V : QV) (x : Nat) : Option Nat := if v_nm V x < 0 then none else some (v_nm V x).toNatClampNeg
/-- y may be chosen for x by fit, beyond 'most' -/
def q_bt (V : QV) (a : Int32) (p : Nat → Option Nat) (x y most : Nat) : Bool :=
  decide (y ≠ x) && (q_seen V a y && (!(q_late V y x) && (!(q_cm p y x) && (decide (most < q_fit V x y) && decide ((v_ru V 1).toInt * (q_quo V x : Int) ≤ 100 * (q_fit V x y : Int))))))
def q_ftl (V : QV) (a : Int32) (p : Nat → Option Nat) (x : Nat) : Nat → Option Nat × Nat
  | 0 => (none, 0)
  | y + 1 => if q_bt V a p x y (q_ftl V a p x y).2 then (some y, q_fit V x y) else q_ftl V a p x y
def q_named (V : QV) (a : Int32) (p : Nat → Option Nat) (x : Nat) : Option Nat := match q_nmo V x with
  | none => none
  | some y => if v_ru V 2 = 1 ∧ q_seen V a y = true ∧ q_cm p y x = false then some y else none
def q_ch (V : QV) (a : Int32) (p : Nat → Option Nat) (x : Nat) : Option Nat :=
  if q_seen V a x then (match q_named V a p x with
    | some y => some y
    | none => (q_ftl V a p x (v_n V)).1) else none
def q_ps (V : QV) (a : Int32) : Nat → Nat → Option Nat
  | 0 => fun _ => none
  | k + 1 => va_up (q_ps V a k) k (q_ch V a (q_ps V a k) k)
def q_par (V : QV) (a : Int32) : Nat → Option Nat := q_ps V a (v_n V)
theorem q_ftl_in {V : QV} {a : Int32} {p : Nat → Option Nat} {x y : Nat} : ∀ n, (q_ftl V a p x n).1 = some y → y < n ∧ y ≠ x ∧ q_seen V a y = true ∧ q_cm p y x = false
  | 0, h => by cases h
  | n + 1, h => by
    rw [q_ftl] at h
    split at h
    · rename_i hb
      cases h
      unfold q_bt at hb
      simp only [Bool.and_eq_true, decide_eq_true_eq, Bool.not_eq_true'] at hb
      exact ⟨by omega, hb.1, hb.2.1, hb.2.2.2.1⟩
    · have := q_ftl_in n h
      exact ⟨by omega, this.2⟩
theorem q_nmo_lt {V : QV} (hV : q_wf V) {x y : Nat} (hx : x < v_n V) (h : q_nmo V x = some y) : y < x ∧ v_nm V x = nI y := by
  have hn := hV.1
  unfold q_nmo at h
  split at h
  · cases h
  · rename_i hz
    rcases (hV.2.1 x hx).2.2.2 with e | ⟨z, hz1, e⟩
    · rw [e] at hz; exact absurd (by decide) hz
    · rw [e, nI_clamp (by omega)] at h
      cases h
      exact ⟨hz1, e⟩
theorem q_ch_in {V : QV} {a : Int32} {p : Nat → Option Nat} {x y : Nat} (hV : q_wf V) (hx : x < v_n V) (h : q_ch V a p x = some y) : y < v_n V ∧ q_seen V a x = true ∧ q_seen V a y = true ∧ q_cm p y x = false := by
  unfold q_ch at h
  split at h
  · rename_i hs
    split at h
    · rename_i z hz
      cases h
      unfold q_named at hz
      split at hz
      · cases hz
      · rename_i w hw
        split at hz
        · rename_i hc
          cases hz
          have := (q_nmo_lt hV hx hw).1
          exact ⟨by omega, hs, hc.2.1, hc.2.2⟩
        · cases hz
    · have := q_ftl_in _ h
      exact ⟨this.1, hs, this.2.2⟩
  · cases h
/-- the parents so far: no circle, none set from k on -/
theorem q_ps_ok {V : QV} {a : Int32} (hV : q_wf V) : ∀ k, k ≤ v_n V → q_okp (q_ps V a k) (v_n V) ∧ ∀ x, k ≤ x → q_ps V a k x = none
  | 0, _ => ⟨⟨fun _ => 0, fun y z h => by cases h⟩, fun _ _ => rfl⟩
  | k + 1, hk => by
    obtain ⟨h1, h2⟩ := q_ps_ok hV k (by omega)
    refine ⟨?_, fun x hx => ?_⟩
    · rw [q_ps]
      cases hc : q_ch V a (q_ps V a k) k with
      | none => exact q_okp_none h1 (h2 k (Nat.le_refl _))
      | some y =>
        obtain ⟨g1, -, -, g4⟩ := q_ch_in hV (by omega) hc
        refine q_okp_up h1 (by omega) g1 (h2 k (Nat.le_refl _)) (fun z => ?_)
        rw [(q_cm_iff h1 hV.1 g1).mpr z] at g4
        cases g4
    · rw [q_ps, va_up_ne _ _ (by omega)]
      exact h2 x (by omega)
