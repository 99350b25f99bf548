/-! ===== the class: groups of letters with pieces ===== -/
theorem q_cnt_full {f : Nat → Bool} : ∀ n, n ≤ q_cnt f n → ∀ i, i < n → f i = true
  | 0, _, i, hi => absurd hi (Nat.not_lt_zero _)
  | n + 1, h, i, hi => by
    have h1 := q_cnt_le f n
    rw [q_cnt] at h
    cases hf : f n with
    | false => rw [hf] at h; simp at h; omega
    | true =>
      rw [hf] at h
      simp at h
      by_cases hin : i = n
      · rw [hin]; exact hf
      · exact q_cnt_full n (by omega) i (by omega)
theorem q_cnt_inj {f : Nat → Bool} {r s : Nat} (hr : f r = true) (hs : f s = true) (h : q_cnt f r = q_cnt f s) : r = s := by
  have key : ∀ r s, f r = true → r < s → q_cnt f r < q_cnt f s := by
    intro r s hr hlt
    have h1 := q_cnt_mono f (show r + 1 ≤ s from hlt)
    rw [q_cnt, hr] at h1
    simp at h1
    omega
  rcases Nat.lt_trichotomy r s with z | z | z
  · have := key r s hr z; omega
  · exact z
  · have := key s r hs z; omega
theorem q_fl_head {f : Nat → Bool} {r : Nat} (hr : f r = true) (h0 : ∀ z, z < r → f z = false) : ∀ n, r < n → (q_fl f n).getD 0 0 = r := by
  have empty : ∀ n, n ≤ r → q_fl f n = [] := by
    intro n
    induction n with
    | zero => intro _; rfl
    | succ n ih => intro hn; rw [q_fl, ih (by omega), h0 n (by omega)]; rfl
  intro n
  induction n with
  | zero => intro h; omega
  | succ n ih =>
    intro hn
    rw [q_fl]
    by_cases hrn : r = n
    · subst hrn
      rw [empty r (Nat.le_refl _), hr]; rfl
    · rw [q_getD_al]
      · exact ih (by omega)
      · exact List.length_pos_of_mem (q_fl_mem hr n (by omega))
theorem q_lab_cn {V : QV} {a : Int32} {p : Nat → Option Nat} {x y : Nat} (hx : x < v_n V) (hm : q_mem V a p x = true) (h : q_cn V a p x y) : q_lab V a p y = q_lab V a p x := by
  obtain ⟨h1, h2, h3, h4⟩ := q_lab_ok hx hm
  refine q_lab_eq (by omega) (q_cn_tr (q_cn_sym h) h3) (fun z hz => h4 z (q_cn_tr h hz))
/-- a group is what hangs together with its least letter -/
theorem q_lab_iff {V : QV} {a : Int32} {p : Nat → Option Nat} {x y : Nat} (hr : q_isr V a p x = true) (hx : x < v_n V) (hy : y < v_n V) : (q_mem V a p y = true ∧ q_lab V a p y = x) ↔ q_cn V a p x y := by
  obtain ⟨hm, hl⟩ := q_lab_r hr
  constructor
  · rintro ⟨h1, h2⟩
    have := (q_lab_ok hy h1).2.2.1
    rw [h2] at this
    exact q_cn_sym this
  · intro h
    exact ⟨(q_cn_mem hx hm h).2, by rw [q_lab_cn hx hm h, hl]⟩
section KG
variable {d : Nat} {Q : Option Value → px_S → Prop} {σ : px_S} {V : QV} {a : Int32} {p : Nat → Option Nat}
theorem c_isOfPiece {x l : Nat} (hV : q_wf V) (hH : k_H V σ) (hs : k_sn V a 3 σ) (hp : q_okp p (v_n V)) (hh : k_hd V 3 p σ) (hx : x < v_n V) (hl : l < v_sz V x) (h : Q (some (.int (q_b (q_seen V a x && q_pce V p (14 * x + l))))) σ) : Cw (d + 2) 57 [.ref 5, .int (nI x), .int (nI l)] σ Q := by
  have hsp := q_wf_sp (V := V) hx hl
  have ls := q_sp_lt hV hsp
  obtain ⟨is, cs⟩ := q_lt (j := 14 * x + l) (N := 560) ls (by decide)
  have e16 := (hH.sp hsp).1
  have d5 := (hV.sp hsp).1
  have e22 : σ.1 22 (14 * x + l) = q_bi (q_held V p (14 * x + l)) := hh _ hsp
  have no : (q_seen V a x && q_pce V p (14 * x + l)) = false → Wp (d + 1) tb_57 47 [.ref 5, .int (nI x), .int (nI l), .int (nI (14 * x + l))] [] σ Q := fun z => by
    rw [z] at h; exact b57_47 (b57_48 (Or.inl rfl) h)
  refine e57 (b57_0 (c_spotOf (b57_5 (c_seen hV (Or.inl rfl) hs hx ?_))))
  cases hse : q_seen V a x with
  | false => exact b57_14 (fun _ => no (by rw [hse]; rfl)) (fun g => absurd rfl g)
  | true =>
    rw [hse, Bool.true_and] at h no
    refine b57_14 (fun g => absurd g (by decide)) (fun _ => b57_17 is (fun g => no ?_) (fun g => b57_30 is (fun g2 => no ?_) (fun g2 => b57_43 (b57_48 (Or.inr rfl) ?_))))
    · rw [cs, e16] at g
      unfold q_pce
      rw [decide_eq_false (fun z => g (by rw [z]; rfl))]; rfl
    · rw [cs, e22] at g2
      unfold q_pce
      cases hq : q_held V p (14 * x + l) with
      | none => rw [hq] at g2; exact absurd rfl g2
      | some t => exact Bool.and_false _
    · rw [cs, e16] at g
      rw [cs, e22] at g2
      have h1 : v_dp V (14 * x + l) = 1 := (nI_eq (b := 1) (by omega) (by decide)).mp (Decidable.not_not.mp g)
      have h2 : q_held V p (14 * x + l) = none := by
        cases hq : q_held V p (14 * x + l) with
        | none => rfl
        | some t =>
          rw [hq] at g2
          have ht := q_sp_lt hV (q_held_in hp hq).1
          exact absurd (Eq.symm (Decidable.not_not.mp g2)) (q_m1ne (by omega))
      have e : q_pce V p (14 * x + l) = true := by unfold q_pce; rw [decide_eq_true h1, h2]; rfl
      rw [e] at h
      exact h
theorem c_hasPiece {x : Nat} (hV : q_wf V) (hH : k_H V σ) (hs : k_sn V a 3 σ) (hp : q_okp p (v_n V)) (hh : k_hd V 3 p σ) (hx : x < v_n V) (h : Q (some (.int (q_b (q_mem V a p x)))) σ) : Cw (d + 3) 56 [.ref 5, .int (nI x)] σ Q := by
  have hn := hV.1
  have hsz := (hV.2.1 x hx).1
  obtain ⟨ix, cx⟩ := q_lt (j := x) (N := 40) (by omega) (by decide)
  have e14 := (hH.2.2.2.1 x hx).2.2.2.1
  have loop : ∀ m l, l + m = v_sz V x → (∀ i, i < l → (q_seen V a x && q_pce V p (14 * x + i)) = false) → Wp (d + 2) tb_56 2 [.ref 5, .int (nI x), .int (nI l)] [] σ Q := by
    intro m
    induction m with
    | zero =>
      intro l hl hno
      have e : q_mem V a p x = false := by
        unfold q_mem
        cases hse : q_seen V a x with
        | false => rfl
        | true =>
          rw [Bool.true_and]
          cases hb : q_hp V p x with
          | false => rfl
          | true =>
            obtain ⟨i, h1, h2⟩ := (q_any_iff _).mp hb
            have := hno i (by omega)
            rw [hse, h2] at this
            cases this
      rw [e] at h
      exact b56_2 ix (fun _ => b56_32 h) (fun g => absurd (by rw [cx, e14]; exact nI_le (by omega) (by omega)) g)
    | succ m ih =>
      intro l hl hno
      refine b56_2 ix (fun g => absurd g (by rw [cx, e14]; exact nI_ge (by omega) (by omega))) (fun _ => b56_15 (c_isOfPiece hV hH hs hp hh hx (by omega) ?_))
      cases hb : (q_seen V a x && q_pce V p (14 * x + l)) with
      | false =>
        refine b56_21 (fun _ => b56_26 ?_) (fun g => absurd rfl g)
        rw [nI_1]
        refine ih (l + 1) (by omega) (fun i hi => ?_)
        by_cases hil : i = l
        · rw [hil]; exact hb
        · exact hno i (by omega)
      | true =>
        rw [Bool.and_eq_true] at hb
        have e : q_mem V a p x = true := by
          unfold q_mem
          rw [hb.1, Bool.true_and]
          exact (q_any_iff _).mpr ⟨l, by omega, hb.2⟩
        rw [e] at h
        exact b56_21 (fun g => absurd g (by decide)) (fun _ => b56_24 h)
  exact e56 (b56_0 (loop (v_sz V x) 0 (by omega) (fun i hi => absurd hi (Nat.not_lt_zero _))))
theorem c_pieceHas {y s : Nat} (hV : q_wf V) (hH : k_H V σ) (hs : k_sn V a 3 σ) (hp : q_okp p (v_n V)) (hh : k_hd V 3 p σ) (hy : y < v_n V) (hsp : q_sp V s) (h : Q (some (.int (q_b (q_any (fun m => decide (v_tx V (14 * y + m) = v_tx V s) && (q_seen V a y && q_pce V p (14 * y + m))) (v_sz V y))))) σ) : Cw (d + 3) 60 [.ref 5, .int (nI y), .long (lN (q_pn (v_tx V s)))] σ Q := by
  have hn := hV.1
  have hsz := (hV.2.1 y hy).1
  obtain ⟨iy, cy⟩ := q_lt (j := y) (N := 40) (by omega) (by decide)
  have e14 := (hH.2.2.2.1 y hy).2.2.2.1
  obtain ⟨F, hF⟩ : ∃ F : Nat → Bool, F = fun m => decide (v_tx V (14 * y + m) = v_tx V s) && (q_seen V a y && q_pce V p (14 * y + m)) := ⟨_, rfl⟩
  rw [← hF] at h
  have loop : ∀ m l, l + m = v_sz V y → (∀ i, i < l → F i = false) → Wp (d + 2) tb_60 3 [.ref 5, .int (nI y), .long (lN (q_pn (v_tx V s))), .null, .int (nI l)] [] σ Q := by
    intro m
    induction m with
    | zero =>
      intro l hl hno
      have e : q_any F (v_sz V y) = false := by
        cases hb : q_any F (v_sz V y) with
        | false => rfl
        | true =>
          obtain ⟨i, h1, h2⟩ := (q_any_iff _).mp hb
          rw [hno i (by omega)] at h2
          cases h2
      rw [e] at h
      exact b60_3 iy (fun _ => b60_54 h) (fun g => absurd (by rw [cy, e14]; exact nI_le (by omega) (by omega)) g)
    | succ m ih =>
      intro l hl hno
      have hsp2 := q_wf_sp (V := V) hy (show l < v_sz V y by omega)
      obtain ⟨is, cs⟩ := q_lt (j := 14 * y + l) (N := 560) (q_sp_lt hV hsp2) (by decide)
      have next : F l = false → Wp (d + 2) tb_60 48 [.ref 5, .int (nI y), .long (lN (q_pn (v_tx V s))), .null, .int (nI l)] [] σ Q := fun hb => by
        refine b60_48 ?_
        rw [nI_1]
        refine ih (l + 1) (by omega) (fun i hi => ?_)
        by_cases hil : i = l
        · rw [hil]; exact hb
        · exact hno i (by omega)
      refine b60_3 iy (fun g => absurd g (by rw [cy, e14]; exact nI_ge (by omega) (by omega))) (fun _ => b60_17 (c_spotOf (b60_30 is (fun g => next ?_) (fun g => b60_36 (c_isOfPiece hV hH hs hp hh hy (by omega) ?_)))))
      · rw [cs, (hH.sp hsp2).2, k_txeq hV hsp2 hsp] at g
        rw [hF]
        show (decide (v_tx V (14 * y + l) = v_tx V s) && _) = false
        rw [decide_eq_false g]; rfl
      · rw [cs, (hH.sp hsp2).2, k_txeq hV hsp2 hsp] at g
        have eF : F l = (q_seen V a y && q_pce V p (14 * y + l)) := by
          rw [hF]
          show (decide (v_tx V (14 * y + l) = v_tx V s) && _) = _
          rw [decide_eq_true (Decidable.not_not.mp g)]; rfl
        cases hb : (q_seen V a y && q_pce V p (14 * y + l)) with
        | false => exact b60_43 (fun _ => next (by rw [eF, hb])) (fun z => absurd rfl z)
        | true =>
          have e : q_any F (v_sz V y) = true := (q_any_iff _).mpr ⟨l, by omega, by rw [eF, hb]⟩
          rw [e] at h
          exact b60_43 (fun z => absurd z (by decide)) (fun _ => b60_46 h)
  exact e60 (b60_0 (loop (v_sz V y) 0 (by omega) (fun i hi => absurd hi (Nat.not_lt_zero _))))
theorem c_shareText {x y : Nat} (hV : q_wf V) (hH : k_H V σ) (hs : k_sn V a 3 σ) (hp : q_okp p (v_n V)) (hh : k_hd V 3 p σ) (hx : x < v_n V) (hy : y < v_n V) (h : Q (some (.int (q_b (q_seen V a x && (q_seen V a y && q_com V p x y))))) σ) : Cw (d + 4) 59 [.ref 5, .int (nI x), .int (nI y)] σ Q := by
  have hn := hV.1
  have hsz := (hV.2.1 x hx).1
  obtain ⟨ix, cx⟩ := q_lt (j := x) (N := 40) (by omega) (by decide)
  have e14 := (hH.2.2.2.1 x hx).2.2.2.1
  obtain ⟨F, hF⟩ : ∃ F : Nat → Bool, F = fun l => (q_seen V a x && q_pce V p (14 * x + l)) && q_any (fun m => decide (v_tx V (14 * y + m) = v_tx V (14 * x + l)) && (q_seen V a y && q_pce V p (14 * y + m))) (v_sz V y) := ⟨_, rfl⟩
  have eF : ∀ l, F l = ((q_seen V a x && q_pce V p (14 * x + l)) && q_any (fun m => decide (v_tx V (14 * y + m) = v_tx V (14 * x + l)) && (q_seen V a y && q_pce V p (14 * y + m))) (v_sz V y)) := fun l => by rw [hF]
  have loop : ∀ m l, l + m = v_sz V x → (∀ i, i < l → F i = false) → Wp (d + 3) tb_59 2 [.ref 5, .int (nI x), .int (nI y), .int (nI l)] [] σ Q := by
    intro m
    induction m with
    | zero =>
      intro l hl hno
      have e : (q_seen V a x && (q_seen V a y && q_com V p x y)) = false := by
        cases hb : (q_seen V a x && (q_seen V a y && q_com V p x y)) with
        | false => rfl
        | true =>
          rw [Bool.and_eq_true, Bool.and_eq_true] at hb
          obtain ⟨b1, b2, b3⟩ := hb
          obtain ⟨i, h1, m, h2, h3⟩ := (q_com_iff x y).mp b3
          unfold q_cmt at h3
          rw [Bool.and_eq_true, Bool.and_eq_true, decide_eq_true_eq] at h3
          have hz := hno i (by omega)
          rw [eF, b1, h3.2.1, Bool.true_and, Bool.true_and] at hz
          have : q_any (fun m => decide (v_tx V (14 * y + m) = v_tx V (14 * x + i)) && (q_seen V a y && q_pce V p (14 * y + m))) (v_sz V y) = true := (q_any_iff _).mpr ⟨m, h2, by rw [decide_eq_true h3.1.symm, b2, h3.2.2]; rfl⟩
          rw [this] at hz
          cases hz
      rw [e] at h
      exact b59_2 ix (fun _ => b59_53 h) (fun g => absurd (by rw [cx, e14]; exact nI_le (by omega) (by omega)) g)
    | succ m ih =>
      intro l hl hno
      have hsp := q_wf_sp (V := V) hx (show l < v_sz V x by omega)
      obtain ⟨is, cs⟩ := q_lt (j := 14 * x + l) (N := 560) (q_sp_lt hV hsp) (by decide)
      have next : F l = false → Wp (d + 3) tb_59 47 [.ref 5, .int (nI x), .int (nI y), .int (nI l)] [] σ Q := fun hb => by
        refine b59_47 ?_
        rw [nI_1]
        refine ih (l + 1) (by omega) (fun i hi => ?_)
        by_cases hil : i = l
        · rw [hil]; exact hb
        · exact hno i (by omega)
      refine b59_2 ix (fun g => absurd g (by rw [cx, e14]; exact nI_ge (by omega) (by omega))) (fun _ => b59_15 (c_isOfPiece hV hH hs hp hh hx (by omega) ?_))
      cases hb : (q_seen V a x && q_pce V p (14 * x + l)) with
      | false => exact b59_21 (fun _ => next (by rw [eF, hb]; rfl)) (fun z => absurd rfl z)
      | true =>
        refine b59_21 (fun z => absurd z (by decide)) (fun _ => b59_24 (c_spotOf (b59_38 is ?_)))
        rw [cs, (hH.sp hsp).2]
        refine c_pieceHas hV hH hs hp hh hy hsp ?_
        cases hc : q_any (fun m => decide (v_tx V (14 * y + m) = v_tx V (14 * x + l)) && (q_seen V a y && q_pce V p (14 * y + m))) (v_sz V y) with
        | false => exact b59_42 (fun _ => next (by rw [eF, hb, hc]; rfl)) (fun z => absurd rfl z)
        | true =>
          rw [Bool.and_eq_true] at hb
          obtain ⟨m2, h1, h2⟩ := (q_any_iff _).mp hc
          rw [Bool.and_eq_true, Bool.and_eq_true, decide_eq_true_eq] at h2
          have e : (q_seen V a x && (q_seen V a y && q_com V p x y)) = true := by
            rw [hb.1, h2.2.1, Bool.true_and, Bool.true_and]
            refine (q_com_iff x y).mpr ⟨l, by omega, m2, h1, ?_⟩
            unfold q_cmt
            rw [decide_eq_true h2.1.symm, hb.2, h2.2.2]; rfl
          rw [e] at h
          exact b59_42 (fun z => absurd z (by decide)) (fun _ => b59_45 h)
  exact e59 (b59_0 (loop (v_sz V x) 0 (by omega) (fun i hi => absurd hi (Nat.not_lt_zero _))))
def k_sg (c : Nat) : Prop := c = 25 ∨ c = 28
/-- what the gathering holds: found so far S, the members in their order M, how many f -/
def k_GI (V : QV) (a : Int32) (p : Nat → Option Nat) (x g : Nat) (σ : px_S) (S : Nat → Bool) (M : Nat → Nat) (f : Nat) (τ : px_S) : Prop :=
  f = q_cnt S (v_n V) ∧ (∀ i, i < f → S (M i) = true ∧ τ.1 28 i = nI (M i)) ∧ (∀ z, S z = true → z < v_n V ∧ q_cn V a p x z ∧ ∃ i, i < f ∧ M i = z) ∧ (∀ z, τ.1 25 z = if S z then nI g else σ.1 25 z) ∧ k_e k_sg k_t0 σ τ
theorem c_gather {x g : Nat} (hV : q_wf V) (hH : k_H V σ) (hs : k_sn V a 3 σ) (hp : q_okp p (v_n V)) (hh : k_hd V 3 p σ) (hx : x < v_n V) (hr : q_isr V a p x = true) (hg : g < 40) (hG : ∀ y, y < v_n V → q_mem V a p y = true → x ≤ q_lab V a p y → σ.1 25 y = -1) (h : ∀ τ, k_e k_sg k_t0 σ τ → (∀ y, τ.1 25 y = if (decide (y < v_n V) && (q_mem V a p y && decide (q_lab V a p y = x))) then nI g else σ.1 25 y) → Q (some (.int (nI (q_cnt (fun y => q_mem V a p y && decide (q_lab V a p y = x)) (v_n V))))) τ) : Cw (d + 5) 58 [.ref 5, .int (nI x), .int (nI g)] σ Q := by
  have hn := hV.1
  obtain ⟨hm, hl⟩ := q_lab_r hr
  obtain ⟨ix, cx⟩ := q_lt (j := x) (N := 40) (by omega) (by decide)
  have hmin := (q_lab_ok hx hm).2.2.2
  rw [hl] at hmin
  have hge : ∀ c, k_sg c → 17 ≤ c := fun c hc => by unfold k_sg at hc; omega
  have eE : ∀ u v, q_cn V a p x u → q_E V a p u v → q_cn V a p x v := fun u v h1 h2 => q_cn_tr h1 (q_cn_E h2)
  -- the end: S is the group
  have fin : ∀ (S : Nat → Bool) (M : Nat → Nat) (f i : Nat) (v5 : Value) (τ : px_S), k_GI V a p x g σ S M f τ → S x = true → f ≤ i → (∀ i', i' < i → i' < f → ∀ y, q_E V a p (M i') y → S y = true) → Wp (d + 4) tb_58 113 [.ref 5, .int (nI x), .int (nI g), .int (nI f), .int (nI i), v5] [] τ Q := by
    intro S M f i v5 τ ⟨g1, g2, g3, g4, g5⟩ hSx hfi hcl
    have hS : ∀ y, S y = (decide (y < v_n V) && (q_mem V a p y && decide (q_lab V a p y = x))) := by
      intro y
      cases hb : S y with
      | true =>
        obtain ⟨z1, z2, -⟩ := g3 y hb
        obtain ⟨z3, z4⟩ := (q_lab_iff hr hx z1).mpr z2
        rw [decide_eq_true z1, z3, decide_eq_true z4]; rfl
      | false =>
        cases hc : (decide (y < v_n V) && (q_mem V a p y && decide (q_lab V a p y = x))) with
        | false => rfl
        | true =>
          rw [Bool.and_eq_true, Bool.and_eq_true, decide_eq_true_eq, decide_eq_true_eq] at hc
          have hcn := (q_lab_iff hr hx hc.1).mp hc.2
          have : S y = true := hcn (fun z => S z = true) hSx (fun u v hu hE => by
            obtain ⟨-, -, i', hi', ei'⟩ := g3 u hu
            exact hcl i' (by omega) hi' v (by rw [ei']; exact hE))
          rw [this] at hb; cases hb
    have ecnt : f = q_cnt (fun y => q_mem V a p y && decide (q_lab V a p y = x)) (v_n V) := by
      rw [g1]
      exact q_cnt_cg _ (fun i hi => by rw [hS i, decide_eq_true hi]; rfl)
    refine b58_113 ?_
    rw [ecnt]
    exact h τ g5 (fun y => by rw [g4 y, hS y])
  have outer : ∀ m i (S : Nat → Bool) (M : Nat → Nat) (f : Nat) (v5 : Value) (τ : px_S), i + m = v_n V → i ≤ f → k_GI V a p x g σ S M f τ → S x = true → (∀ i', i' < i → i' < f → ∀ y, q_E V a p (M i') y → S y = true) → Wp (d + 4) tb_58 19 [.ref 5, .int (nI x), .int (nI g), .int (nI f), .int (nI i), v5] [] τ Q := by
    intro m
    induction m with
    | zero =>
      intro i S M f v5 τ hi hif hI hSx hcl
      have hfn : f ≤ v_n V := by rw [hI.1]; exact q_cnt_le _ _
      exact b58_19 (fun _ => fin S M f i v5 τ hI hSx (by omega) hcl) (fun gg => absurd (nI_le (by omega) (by omega)) gg)
    | succ m ih =>
      intro i S M f v5 τ hi hif hI hSx hcl
      have hfn : f ≤ v_n V := by rw [hI.1]; exact q_cnt_le _ _
      by_cases hfi : f ≤ i
      · exact b58_19 (fun _ => fin S M f i v5 τ hI hSx hfi hcl) (fun gg => absurd (nI_le hfi (by omega)) gg)
      · obtain ⟨ii, ci⟩ := q_lt (j := i) (N := 40) (by omega) (by decide)
        have inner : ∀ m2 y (S : Nat → Bool) (M2 : Nat → Nat) (f : Nat) (τ : px_S), y + m2 = v_n V → i < f → M2 i = M i → k_GI V a p x g σ S M2 f τ → S x = true → (∀ i', i' < i → ∀ y, q_E V a p (M2 i') y → S y = true) → (∀ y', y' < y → q_E V a p (M i) y' → S y' = true) → Wp (d + 4) tb_58 37 [.ref 5, .int (nI x), .int (nI g), .int (nI f), .int (nI i), .int (nI y)] [] τ Q := by
          intro m2
          induction m2 with
          | zero =>
            intro y S M2 f τ hy hif2 eM hI hSx hcl hcur
            refine b58_37 (fun _ => b58_107 ?_) (fun gg => absurd (by rw [(hH.ef hI.2.2.2.2 hge).1]; exact nI_le (by omega) (by omega)) gg)
            rw [nI_1]
            refine ih (i + 1) S M2 f _ τ (by omega) (by omega) hI hSx (fun i' h1 h2 y' hE => ?_)
            by_cases hii : i' = i
            · subst hii; rw [eM] at hE; exact hcur y' (by have := hE.2.1; omega) hE
            · exact hcl i' (by omega) y' hE
          | succ m2 ih2 =>
            intro y S M2 f τ hy hif2 eM hI hSx hcl hcur
            obtain ⟨g1, g2, g3, g4, g5⟩ := hI
            have hHt : k_H V τ := hH.ef g5 hge
            have hst : k_sn V a 3 τ := by unfold k_sn; rw [g5.2.1 3 id]; exact hs
            have hht : k_hd V 3 p τ := fun s hs' => by rw [g5.1 (2 * 3 + 16) (by unfold k_sg; omega)]; exact hh s hs'
            have hfn : f ≤ v_n V := by rw [g1]; exact q_cnt_le _ _
            obtain ⟨iy, cy⟩ := q_lt (j := y) (N := 40) (by omega) (by decide)
            obtain ⟨mi1, mi2⟩ := g2 i hif2
            rw [eM] at mi1 mi2
            obtain ⟨mn, mc, -⟩ := g3 _ mi1
            -- y is passed over
            have pass : (q_E V a p (M i) y → S y = true) → Wp (d + 4) tb_58 101 [.ref 5, .int (nI x), .int (nI g), .int (nI f), .int (nI i), .int (nI y)] [] τ Q := fun hz => by
              refine b58_101 ?_
              rw [nI_1]
              refine ih2 (y + 1) S M2 f τ (by omega) hif2 eM ⟨g1, g2, g3, g4, g5⟩ hSx hcl (fun y' hy' hE => ?_)
              by_cases hyy : y' = y
              · subst hyy; exact hz hE
              · exact hcur y' (by omega) hE
            refine b58_37 (fun gg => absurd gg (by rw [hHt.1]; exact nI_ge (by omega) (by omega))) (fun _ => b58_49 (fun gg => ?_) (fun gg => b58_55 iy (fun g6 => pass (fun hE => ?_)) (fun g6 => b58_66 ii ?_)))
            · -- all are found
              rw [show (40 : Int32) = nI 40 from rfl, nI_leI (by decide) (by omega)] at gg
              refine b58_107 ?_
              rw [nI_1]
              have hall : ∀ z, z < v_n V → S z = true := q_cnt_full _ (by rw [← g1]; omega)
              exact ih (i + 1) S M2 f _ τ (by omega) (by omega) ⟨g1, g2, g3, g4, g5⟩ hSx (fun i' _ _ y' hE => hall y' hE.2.1)
            · rw [cy, g4 y] at g6
              cases hb : S y with
              | true => rfl
              | false =>
                rw [hb, if_neg (by decide)] at g6
                have hc := eE _ _ mc hE
                obtain ⟨z1, z2⟩ := (q_lab_iff hr hx hE.2.1).mpr hc
                exact absurd (hG y hE.2.1 z1 (by omega)) g6
            · rw [ci, mi2]
              rw [cy, g4 y] at g6
              have hSy : S y = false := by
                cases hb : S y with
                | false => rfl
                | true =>
                  rw [hb, if_pos rfl] at g6
                  exact absurd (Eq.symm (Decidable.not_not.mp g6)) (q_m1ne (by omega))
              refine c_shareText hV hHt hst hp hht mn (by omega) ?_
              cases hb : (q_seen V a (M i) && (q_seen V a y && q_com V p (M i) y)) with
              | false =>
                refine b58_79 (fun _ => pass (fun hE => ?_)) (fun z => absurd rfl z)
                have e1 := hE.2.2.1
                have e2 := hE.2.2.2.1
                unfold q_mem at e1 e2
                rw [Bool.and_eq_true] at e1 e2
                rw [e1.1, e2.1, hE.2.2.2.2] at hb
                cases hb
              | true =>
                rw [Bool.and_eq_true, Bool.and_eq_true] at hb
                obtain ⟨b1, b2, b3⟩ := hb
                have hyn : y < v_n V := by omega
                have hmy : q_mem V a p y = true := by
                  unfold q_mem
                  rw [b2, Bool.true_and]
                  obtain ⟨l, h1, m3, h2, h3⟩ := (q_com_iff (M i) y).mp b3
                  unfold q_cmt at h3
                  rw [Bool.and_eq_true, Bool.and_eq_true] at h3
                  exact (q_any_iff _).mpr ⟨m3, h2, h3.2.2⟩
                have hmM : q_mem V a p (M i) = true := (q_cn_mem hx hm mc).2
                have hcy : q_cn V a p x y := eE _ _ mc ⟨mn, hyn, hmM, hmy, b3⟩
                have hup := q_cnt_up hSy (v_n V)
                rw [if_pos hyn, ← g1] at hup
                have hf1 : f < v_n V := by have := q_cnt_le (va_up S y true) (v_n V); omega
                obtain ⟨iff, cff⟩ := q_lt (j := f) (N := 40) (by omega) (by decide)
                refine b58_79 (fun z => absurd z (by decide)) (fun _ => b58_82 iff (b58_90 iy (b58_98 (b58_101 ?_))))
                rw [nI_1, nI_1, cff, cy]
                refine ih2 (y + 1) (va_up S y true) (va_up M2 f y) (f + 1) _ (by omega) (by omega) (by rw [va_up_ne _ _ (by omega)]; exact eM) ⟨by rw [hup], fun i' hi' => ?_, fun z hz => ?_, fun z => ?_, ?_⟩ ?_ (fun i' hi' y' hE => ?_) (fun y' hy' hE => ?_)
                · rw [q_uc (by decide), q_u]
                  by_cases hif3 : i' = f
                  · subst hif3; rw [va_up_self, va_up_self, if_pos ⟨rfl, rfl⟩]; exact ⟨rfl, rfl⟩
                  · rw [va_up_ne _ _ hif3, if_neg (fun z => hif3 z.2)]
                    obtain ⟨k1, k2⟩ := g2 i' (by omega)
                    refine ⟨?_, k2⟩
                    rw [va_up_ne _ _ (fun z => by rw [z, hSy] at k1; cases k1)]
                    exact k1
                · by_cases hzy : z = y
                  · subst hzy; exact ⟨hyn, hcy, f, by omega, va_up_self _ _ _⟩
                  · rw [va_up_ne _ _ hzy] at hz
                    obtain ⟨k1, k2, i', k3, k4⟩ := g3 z hz
                    exact ⟨k1, k2, i', by omega, by rw [va_up_ne _ _ (by omega)]; exact k4⟩
                · rw [q_u]
                  by_cases hzy : z = y
                  · rw [if_pos ⟨rfl, hzy⟩, hzy, va_up_self, if_pos rfl]
                  · rw [if_neg (fun q => hzy q.2), va_up_ne _ _ hzy, q_uc (by decide)]; exact g4 z
                · exact (g5.tr (k_e.uI (Or.inr rfl))).tr (k_e.uI (Or.inl rfl))
                · by_cases hxy : x = y
                  · rw [← hxy, va_up_self]
                  · rw [va_up_ne _ _ hxy]; exact hSx
                · rw [va_up_ne _ _ (by omega)] at hE
                  by_cases hyy : y' = y
                  · rw [hyy, va_up_self]
                  · rw [va_up_ne _ _ hyy]; exact hcl i' hi' y' hE
                · by_cases hyy : y' = y
                  · rw [hyy, va_up_self]
                  · rw [va_up_ne _ _ hyy]; exact hcur y' (by omega) hE
        refine b58_19 (fun gg => absurd gg (nI_ge (by omega) (by omega))) (fun _ => b58_25 (fun gg => absurd gg (nI_ge (b := 40) (by omega) (by decide))) (fun _ => b58_32 ?_))
        rw [nI_1]
        obtain ⟨mi1, -⟩ := hI.2.1 i (by omega)
        obtain ⟨-, mc, -⟩ := hI.2.2.1 _ mi1
        refine inner (v_n V - (x + 1)) (x + 1) S M f τ (by omega) (by omega) rfl hI hSx (fun i' hi' => hcl i' hi' (by omega)) (fun y' hy' hE => ?_)
        have := hmin y' (eE _ _ mc hE)
        rw [show y' = x by omega]
        exact hSx
  have e0 : (0 : Int32).toNatClampNeg = 0 := by decide
  refine e58 (b58_0 (by unfold vp_in; decide) (b58_7 ix (b58_14 ?_)))
  rw [cx, e0]
  have hc1 : q_cnt (va_up (fun _ => false) x true) (v_n V) = 1 := by rw [q_cnt_up rfl, q_cnt_f, if_pos hx]
  refine outer (v_n V) 0 (va_up (fun _ => false) x true) (fun _ => x) 1 .null _ (by omega) (by omega) ⟨hc1.symm, fun i hi => ⟨va_up_self _ _ _, ?_⟩, fun z hz => ?_, fun z => ?_, ?_⟩ (va_up_self _ _ _) (fun i' hi' => absurd hi' (Nat.not_lt_zero _))
  · rw [q_uc (by decide), q_u, show i = 0 by omega, if_pos ⟨rfl, rfl⟩]
  · by_cases hzx : z = x
    · subst hzx; exact ⟨hx, q_cn_rf z, 0, by omega, rfl⟩
    · rw [va_up_ne _ _ hzx] at hz; cases hz
  · rw [q_u]
    by_cases hzx : z = x
    · rw [if_pos ⟨rfl, hzx⟩, hzx, va_up_self, if_pos rfl]
    · rw [if_neg (fun q => hzx q.2), va_up_ne _ _ hzx, q_uc (by decide)]; rfl
  · exact (k_e.uI (Or.inr rfl)).tr (k_e.uI (Or.inl rfl))
end KG
