/-! ===== roots, steps; which line of the parent a line is held to; origins ===== -/
def q_root (p : Nat → Option Nat) : Nat → Nat → Nat
  | 0, y => y
  | k + 1, y => match p y with
    | none => y
    | some z => q_root p k z
def q_stp (p : Nat → Option Nat) : Nat → Nat → Nat
  | 0, _ => 0
  | k + 1, y => match p y with
    | none => 0
    | some z => q_stp p k z + 1
/-- the least of i .. i + m - 1 -/
def q_up (f : Nat → Bool) : Nat → Nat → Option Nat
  | 0, _ => none
  | m + 1, i => if f i then some i else q_up f m (i + 1)
theorem q_up_in {f : Nat → Bool} : ∀ (m i l : Nat), q_up f m i = some l → i ≤ l ∧ l < i + m ∧ f l = true
  | 0, _, _, h => by cases h
  | m + 1, i, l, h => by
    rw [q_up] at h
    split at h
    · rename_i hf; cases h; exact ⟨Nat.le_refl _, by omega, hf⟩
    · have := q_up_in m (i + 1) l h
      exact ⟨by omega, by omega, this.2.2⟩
def q_sm (V : QV) (s t : Nat) : Bool := decide (v_dp V t + 1 = v_dp V s) && decide (v_tx V s = v_tx V t)
/-- what the line at s is held to in the letter y -/
def q_hl (V : QV) (s y : Nat) : Option Nat := match q_up (fun l => q_sm V s (14 * y + l)) (v_sz V y) 0 with
  | some l => some (14 * y + l)
  | none => (q_up (fun l => q_lk V s (14 * y + l)) (v_sz V y) 0).map (fun l => 14 * y + l)
def q_held (V : QV) (p : Nat → Option Nat) (s : Nat) : Option Nat := (p (s / 14)).bind (q_hl V s)
def q_org (V : QV) (p : Nat → Option Nat) : Nat → Nat → Option Nat
  | 0, _ => none
  | k + 1, s => if v_dp V s = 0 then some s else (q_held V p s).bind (q_org V p k)
theorem q_hl_in {V : QV} {s y t : Nat} (h : q_hl V s y = some t) : (∃ l, l < v_sz V y ∧ t = 14 * y + l) ∧ v_dp V t + 1 = v_dp V s := by
  unfold q_hl at h
  split at h
  · rename_i l hl
    cases h
    obtain ⟨-, h2, h3⟩ := q_up_in _ _ _ hl
    unfold q_sm at h3
    simp only [Bool.and_eq_true, decide_eq_true_eq] at h3
    exact ⟨⟨l, by omega, rfl⟩, h3.1⟩
  · cases hu : q_up (fun l => q_lk V s (14 * y + l)) (v_sz V y) 0 with
    | none => rw [hu] at h; cases h
    | some l =>
      rw [hu] at h
      cases h
      obtain ⟨-, h2, h3⟩ := q_up_in _ _ _ hu
      exact ⟨⟨l, by omega, rfl⟩, ((q_lk_iff V _ _).mp h3).2.1⟩
theorem q_held_in {V : QV} {p : Nat → Option Nat} {s t : Nat} (hp : q_okp p (v_n V)) (h : q_held V p s = some t) : q_sp V t ∧ v_dp V t + 1 = v_dp V s := by
  unfold q_held at h
  cases hy : p (s / 14) with
  | none => rw [hy] at h; cases h
  | some y =>
    rw [hy] at h
    obtain ⟨r, hr⟩ := hp
    obtain ⟨⟨l, h1, h2⟩, h3⟩ := q_hl_in h
    exact ⟨⟨y, l, (hr _ _ hy).2.1, h1, h2⟩, h3⟩
theorem q_sp_div {V : QV} {x l : Nat} (hV : q_wf V) (hx : x < v_n V) (hl : l < v_sz V x) : (14 * x + l) / 14 = x ∧ (14 * x + l) % 14 = l := by
  have := (hV.2.1 x hx).1
  omega
theorem q_am1 (x : Int32) : x + (-1) = x - 1 := (Int32.sub_eq_add_neg ..).symm
section QH
variable {d : Nat} {Q : Option Value → px_S → Prop} {σ : px_S} {V : QV} {a : Int32} {p : Nat → Option Nat}
theorem q_rw_some {y z : Nat} (h : p y = some z) : q_rw p y = nI z := by unfold q_rw; rw [h]
theorem q_rw_none {y : Nat} (h : p y = none) : q_rw p y = -1 := by unfold q_rw; rw [h]
theorem m_rootOf {y : Nat} (hp : q_okp p (v_n V)) (hn : v_n V ≤ 40) (hr : q_row p (v_n V) σ) (hy : y < v_n V) (h : Q (some (.int (nI (q_root p 40 y)))) σ) : Cw (d + 1) 151 [.ref 9, .int (nI y)] σ Q := by
  have h40 : q_it p 40 y = none := by
    cases e : q_it p 40 y with
    | none => rfl
    | some z => have := q_it_lt hp hy e; omega
  have loop : ∀ k z, z < v_n V → q_it p k z = none → q_root p k z = q_root p 40 y → Wp d tb_151 2 [.ref 9, .int (nI y), .int (nI z)] [] σ Q := by
    intro k
    induction k with
    | zero => intro z hz h0; cases h0
    | succ k ih =>
      intro z hz h0 he
      obtain ⟨iz, cz⟩ := q_lt (j := z) (N := 40) (by omega) (by decide)
      cases hpz : p z with
      | none =>
        rw [q_root, hpz] at he
        have he : z = q_root p 40 y := he
        refine b151_2 iz (fun _ => b151_21 (by rw [he]; exact h)) (fun g => absurd ?_ g)
        rw [cz, hr z hz, q_rw_none hpz]; decide
      | some w =>
        rw [q_root, hpz] at he
        rw [q_it, hpz] at h0
        obtain ⟨r, hrk⟩ := hp
        have hw := (hrk z w hpz).2.1
        refine b151_2 iz (fun g => absurd g ?_) (fun _ => b151_11 iz ?_)
        · rw [cz, hr z hz, q_rw_some hpz]; exact nI_pos (by omega)
        · rw [cz, hr z hz, q_rw_some hpz]
          exact ih w hw h0 he
  exact e151 (b151_0 (loop 40 y hy h40 rfl))
theorem m_stepsOf {y : Nat} (hp : q_okp p (v_n V)) (hn : v_n V ≤ 40) (hr : q_row p (v_n V) σ) (hy : y < v_n V) (h : Q (some (.int (nI (q_stp p 40 y)))) σ) : Cw (d + 1) 152 [.ref 9, .int (nI y)] σ Q := by
  have h40 : q_it p 40 y = none := by
    cases e : q_it p 40 y with
    | none => rfl
    | some z => have := q_it_lt hp hy e; omega
  have loop : ∀ k z c, z < v_n V → q_it p k z = none → c + q_stp p k z = q_stp p 40 y → Wp d tb_152 4 [.ref 9, .int (nI y), .int (nI c), .int (nI z)] [] σ Q := by
    intro k
    induction k with
    | zero => intro z c hz h0; cases h0
    | succ k ih =>
      intro z c hz h0 he
      obtain ⟨iz, cz⟩ := q_lt (j := z) (N := 40) (by omega) (by decide)
      cases hpz : p z with
      | none =>
        rw [q_stp, hpz] at he
        have he : c + 0 = q_stp p 40 y := he
        refine b152_4 iz (fun _ => b152_26 (by rw [show c = q_stp p 40 y by omega]; exact h)) (fun g => absurd ?_ g)
        rw [cz, hr z hz, q_rw_none hpz]; decide
      | some w =>
        rw [q_stp, hpz] at he
        have he : c + (q_stp p k w + 1) = q_stp p 40 y := he
        rw [q_it, hpz] at h0
        obtain ⟨r, hrk⟩ := hp
        have hw := (hrk z w hpz).2.1
        refine b152_4 iz (fun g => absurd g ?_) (fun _ => b152_13 iz ?_)
        · rw [cz, hr z hz, q_rw_some hpz]; exact nI_pos (by omega)
        · rw [cz, hr z hz, q_rw_some hpz, nI_1]
          exact ih w (c + 1) hw h0 (by omega)
  exact e152 (b152_0 (loop 40 y 0 hy h40 (by omega)))
def q_s1 (k : Nat) : Prop := k = 47
theorem q_s1_scr : ∀ k, q_s1 k → q_scr k := by intro k h; unfold q_s1 at h; unfold q_scr; omega
theorem m_heldTo {s : Nat} (hV : q_wf V) (hM : q_Ma V a σ) (hp : q_okp p (v_n V)) (hr : q_row p (v_n V) σ) (hs : q_sp V s) (h : ∀ τ, q_eqx q_s1 σ τ → Q (some (.int (q_bi (q_held V p s)))) τ) : Cw (d + 4) 156 [.ref 9, .int (nI s)] σ Q := by
  have hn := hV.1
  have ls := q_sp_lt hV hs
  obtain ⟨is, cs⟩ := q_lt (j := s) (N := 560) ls (by decide)
  obtain ⟨x, l, hx, hl, es⟩ := id hs
  have hdv : s / 14 = x := by rw [es]; exact (q_sp_div hV hx hl).1
  have ed : nI s / (14 : Int32) = nI x := by rw [show (14 : Int32) = nI 14 from rfl, pk_div (by omega) (by decide) (by decide), hdv]
  obtain ⟨ix, cx⟩ := q_lt (j := x) (N := 40) (by omega) (by decide)
  have hrx := hr x hx
  cases hpx : p x with
  | none =>
    have eh : q_held V p s = none := by unfold q_held; rw [hdv, hpx]; rfl
    rw [eh] at h
    refine e156 (b156_0 (by rw [ed]; exact ix) (fun g => absurd g ?_) (fun _ => b156_14 (h σ q_eqx.rf)))
    rw [ed, cx, hrx, q_rw_none hpx]; decide
  | some y =>
    have hyn : y < v_n V := by obtain ⟨r, hrk⟩ := hp; exact (hrk x y hpx).2.1
    have eh : q_held V p s = q_hl V s y := by unfold q_held; rw [hdv, hpx]; rfl
    rw [eh] at h
    obtain ⟨iy, cy⟩ := q_lt (j := y) (N := 40) (by omega) (by decide)
    have hsy := (hV.2.1 y hyn).1
    have e41 : ∀ τ, q_eqx q_s1 σ τ → τ.1 41 y = nI (v_sz V y) := fun τ he => by rw [he.2 41 (by unfold q_s1; omega)]; exact (hM.2.1 y hyn).2.2.2.1
    -- a value of the first pass, of the second
    obtain ⟨lk1, hlk1⟩ : ∃ v : Int32, v = q_bi ((q_up (fun l => q_lk V s (14 * y + l)) (v_sz V y) 0).map (fun l => 14 * y + l)) := ⟨_, rfl⟩
    have loop2 : ∀ i m (τ : px_S) (v5 : Value), i + m = v_sz V y → q_eqx q_s1 σ τ → Wp (d + 3) tb_156 76 [.ref 9, .int (nI s), .int (nI y), .int (match q_up (fun l => q_sm V s (14 * y + l)) m i with
        | some l => nI (14 * y + l)
        | none => lk1), .int (nI i - 1), v5] [] τ Q := by
      intro i
      induction i with
      | zero =>
        intro m τ v5 hi he
        have em : m = v_sz V y := by omega
        subst em
        refine b156_76 (fun _ => b156_131 ?_) (fun g => absurd (by decide) g)
        have e9 : (match q_up (fun l => q_sm V s (14 * y + l)) (v_sz V y) 0 with
          | some l => nI (14 * y + l)
          | none => lk1) = q_bi (q_hl V s y) := by
          unfold q_hl
          cases q_up (fun l => q_sm V s (14 * y + l)) (v_sz V y) 0 with
          | none => exact hlk1
          | some l => rfl
        rw [e9]
        exact h τ he
      | succ i ih =>
        intro m τ v5 hi he
        have hMt : q_Ma V a τ := hM.eqx (he.mono q_s1_scr)
        have ht : q_sp V (14 * y + i) := ⟨y, i, hyn, by omega, rfl⟩
        obtain ⟨it, ct⟩ := q_lt (j := 14 * y + i) (N := 560) (q_sp_lt hV ht) (by decide)
        obtain ⟨p1, -, -⟩ := hMt.sp hs
        obtain ⟨p2, -, -⟩ := hMt.sp ht
        have d1 := (hV.sp hs).1
        have d2 := (hV.sp ht).1
        rw [nI_pred]
        have no : ∀ (τ' : px_S), q_eqx q_s1 σ τ' → q_sm V s (14 * y + i) = false → Wp (d + 3) tb_156 123 [.ref 9, .int (nI s), .int (nI y), .int (match q_up (fun l => q_sm V s (14 * y + l)) m (i + 1) with
            | some l => nI (14 * y + l)
            | none => lk1), .int (nI i), .int (nI (14 * y + i))] [] τ' Q := by
          intro τ' he' hb
          refine b156_123 (b156_124 ?_)
          have e := ih (m + 1) τ' (.int (nI (14 * y + i))) (by omega) he'
          rw [q_up, hb, if_neg (by decide)] at e
          rw [q_am1]
          exact e
        refine b156_76 (fun g => absurd g (nI_pos (by omega))) (fun _ => b156_81 (by rw [q_ix14]; exact it) is (fun g => ?_) (fun g => ?_))
        · rw [q_ix14, ct, cs, p1, p2] at g
          rw [q_ix14]
          refine no τ he ?_
          unfold q_sm
          have : ¬ v_dp V (14 * y + i) + 1 = v_dp V s := fun z => g (by rw [← z, nI_pred])
          simp [this]
        · rw [q_ix14, ct, cs, p1, p2] at g
          have g := Decidable.not_not.mp g
          rw [q_ix14]
          have hdp : v_dp V (14 * y + i) + 1 = v_dp V s := by
            rcases Nat.eq_zero_or_pos (v_dp V s) with z | z
            · rw [z] at g
              have h1 := congrArg Int32.toInt g
              rw [nI_toInt (by omega), q_m1 (by decide)] at h1
              omega
            · rw [show v_dp V s = (v_dp V s - 1) + 1 by omega, nI_pred] at g
              have := (nI_eq (by omega) (by omega)).mp g
              omega
          refine b156_108 (m_isSame hV hMt hs ht ?_)
          by_cases hst : v_tx V s = v_tx V (14 * y + i)
          · rw [if_pos hst]
            refine b156_115 (fun g => absurd g (by decide)) (fun _ => b156_118 (b156_124 ?_))
            have hb : q_sm V s (14 * y + i) = true := by unfold q_sm; simp [hdp, hst]
            have e := ih (m + 1) τ (.int (nI (14 * y + i))) (by omega) he
            rw [q_up, hb, if_pos rfl] at e
            rw [q_am1]
            exact e
          · rw [if_neg hst]
            exact b156_115 (fun _ => no τ he (by unfold q_sm; simp [hst])) (fun g => absurd rfl g)
    have loop1 : ∀ i m (τ : px_S), i + m = v_sz V y → q_eqx q_s1 σ τ → Wp (d + 3) tb_156 28 [.ref 9, .int (nI s), .int (nI y), .int (q_bi ((q_up (fun l => q_lk V s (14 * y + l)) m i).map (fun l => 14 * y + l))), .int (nI i - 1), .null] [] τ Q := by
      intro i
      induction i with
      | zero =>
        intro m τ hi he
        have em : m = v_sz V y := by omega
        subst em
        refine b156_28 (fun _ => b156_66 iy ?_) (fun g => absurd (by decide) g)
        rw [cy, e41 τ he, ← hlk1]
        exact loop2 (v_sz V y) 0 τ .null (by omega) he
      | succ i ih =>
        intro m τ hi he
        have hMt : q_Ma V a τ := hM.eqx (he.mono q_s1_scr)
        have ht : q_sp V (14 * y + i) := ⟨y, i, hyn, by omega, rfl⟩
        rw [nI_pred]
        refine b156_28 (fun g => absurd g (nI_pos (by omega))) (fun _ => b156_33 ?_)
        rw [q_ix14]
        refine m_isLike hV hMt hs ht (fun hlk τ' he' => ?_) (fun hlk τ' he' => ?_)
        · refine b156_45 (fun g => absurd g (by decide)) (fun _ => b156_48 ?_)
          rw [q_ix14]
          refine b156_59 ?_
          have e := ih (m + 1) τ' (by omega) (he.tr he')
          rw [q_up, (q_lk_iff V _ _).mpr hlk, if_pos rfl] at e
          rw [q_am1]
          exact e
        · refine b156_45 (fun _ => b156_58 (b156_59 ?_)) (fun g => absurd rfl g)
          have e := ih (m + 1) τ' (by omega) (he.tr he')
          rw [q_up, q_lk_not hlk, if_neg (by decide)] at e
          rw [q_am1]
          exact e
    refine e156 (b156_0 (by rw [ed]; exact ix) (fun _ => ?_) (fun g => absurd ?_ g))
    · rw [ed, cx, hrx, q_rw_some hpx]
      refine b156_16 iy ?_
      rw [cy, e41 σ q_eqx.rf]
      exact loop1 (v_sz V y) 0 σ (by omega) q_eqx.rf
    · rw [ed, cx, hrx, q_rw_some hpx]; exact nI_pos' (by omega)
end QH
