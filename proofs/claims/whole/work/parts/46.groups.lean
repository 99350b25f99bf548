/-! ===== groups: what hangs together; labels ===== -/
def q_mem (V : QV) (a : Int32) (p : Nat → Option Nat) (x : Nat) : Bool := q_seen V a x && q_hp V p x
def q_E (V : QV) (a : Int32) (p : Nat → Option Nat) (x y : Nat) : Prop := x < v_n V ∧ y < v_n V ∧ q_mem V a p x = true ∧ q_mem V a p y = true ∧ q_com V p x y = true
def q_cn (V : QV) (a : Int32) (p : Nat → Option Nat) (x y : Nat) : Prop := ∀ S : Nat → Prop, S x → (∀ u v, S u → q_E V a p u v → S v) → S y
noncomputable def q_lab (V : QV) (a : Int32) (p : Nat → Option Nat) (x : Nat) : Nat := (q_up (fun z => @decide (q_cn V a p x z) (Classical.propDecidable _)) (v_n V) 0).getD x
noncomputable def q_isr (V : QV) (a : Int32) (p : Nat → Option Nat) (x : Nat) : Bool := q_mem V a p x && decide (q_lab V a p x = x)
noncomputable def q_gn (V : QV) (a : Int32) (p : Nat → Option Nat) (x : Nat) : Option Nat := if q_mem V a p x then some (q_cnt (q_isr V a p) (q_lab V a p x)) else none
noncomputable def q_gs (V : QV) (a : Int32) (p : Nat → Option Nat) : Nat := q_cnt (q_isr V a p) (v_n V)
section QG
variable {V : QV} {a : Int32} {p : Nat → Option Nat}
theorem q_cmt_sym (s t : Nat) : q_cmt V p s t = q_cmt V p t s := by
  unfold q_cmt
  rw [Bool.and_comm (q_pce V p s)]
  congr 1
  exact decide_eq_decide.mpr ⟨Eq.symm, Eq.symm⟩
theorem q_com_iff (x y : Nat) : q_com V p x y = true ↔ ∃ l, l < v_sz V x ∧ ∃ m, m < v_sz V y ∧ q_cmt V p (14 * x + l) (14 * y + m) = true := by
  unfold q_com
  rw [q_any_iff]
  constructor
  · rintro ⟨l, h1, h2⟩
    exact ⟨l, h1, (q_any_iff _).mp h2⟩
  · rintro ⟨l, h1, h2⟩
    exact ⟨l, h1, (q_any_iff _).mpr h2⟩
theorem q_com_sym {x y : Nat} (h : q_com V p x y = true) : q_com V p y x = true := by
  rw [q_com_iff] at h ⊢
  obtain ⟨l, h1, m, h2, h3⟩ := h
  exact ⟨m, h2, l, h1, by rw [q_cmt_sym]; exact h3⟩
theorem q_E_sym {x y : Nat} (h : q_E V a p x y) : q_E V a p y x := ⟨h.2.1, h.1, h.2.2.2.1, h.2.2.1, q_com_sym h.2.2.2.2⟩
theorem q_cn_rf (x : Nat) : q_cn V a p x x := fun _ h _ => h
theorem q_cn_tr {x y z : Nat} (h1 : q_cn V a p x y) (h2 : q_cn V a p y z) : q_cn V a p x z := fun S hx hc => h2 S (h1 S hx hc) hc
theorem q_cn_E {x y : Nat} (h : q_E V a p x y) : q_cn V a p x y := fun _ hx hc => hc x y hx h
theorem q_cn_sym {x y : Nat} (h : q_cn V a p x y) : q_cn V a p y x := h (fun z => q_cn V a p z x) (q_cn_rf x) (fun _ _ h1 h2 => q_cn_tr (q_cn_E (q_E_sym h2)) h1)
theorem q_cn_mem {x y : Nat} (hx : x < v_n V) (hm : q_mem V a p x = true) (h : q_cn V a p x y) : y < v_n V ∧ q_mem V a p y = true := h (fun z => z < v_n V ∧ q_mem V a p z = true) ⟨hx, hm⟩ (fun _ _ _ h2 => ⟨h2.2.1, h2.2.2.2.1⟩)
theorem q_up_first {f : Nat → Bool} : ∀ (m i l : Nat), i ≤ l → l < i + m → f l = true → (∀ k, i ≤ k → k < l → f k = false) → q_up f m i = some l
  | 0, i, l, h1, h2, _, _ => by omega
  | m + 1, i, l, h1, h2, h3, h4 => by
    rw [q_up]
    by_cases h : i = l
    · subst h; rw [h3]; rfl
    · rw [h4 i (Nat.le_refl _) (by omega)]
      exact q_up_first m (i + 1) l (by omega) (by omega) h3 (fun k hk => h4 k (by omega))
theorem q_lab_eq {x z : Nat} (hz : z < v_n V) (h1 : q_cn V a p x z) (h2 : ∀ y, q_cn V a p x y → z ≤ y) : q_lab V a p x = z := by
  unfold q_lab
  have e := q_up_first (f := fun z => @decide (q_cn V a p x z) (Classical.propDecidable _)) (v_n V) 0 z (by omega) (by omega) (@decide_eq_true _ (Classical.propDecidable _) h1) (fun k _ hk => @decide_eq_false _ (Classical.propDecidable _) (fun hc => by have := h2 k hc; omega))
  rw [e]; rfl
/-- labels on the way: members have one, of their own component, not above themselves -/
def q_LI (V : QV) (a : Int32) (p : Nat → Option Nat) (G : Nat → Option Nat) : Prop := ∀ x, x < v_n V → (q_mem V a p x = false → G x = none) ∧ (q_mem V a p x = true → ∃ z, G x = some z ∧ z ≤ x ∧ q_cn V a p x z)
def q_LF (V : QV) (p : Nat → Option Nat) (G : Nat → Option Nat) (x y : Nat) : Prop := ∀ u v, G x = some u → G y = some v → u < v → q_com V p x y = false
theorem q_LI_lab {G : Nat → Option Nat} (h : q_LI V a p G) (hf : ∀ x y, x < v_n V → y < v_n V → q_LF V p G x y) {x : Nat} (hx : x < v_n V) (hm : q_mem V a p x = true) : G x = some (q_lab V a p x) := by
  obtain ⟨z, e1, e2, e3⟩ := (h x hx).2 hm
  have le : ∀ u v, q_E V a p u v → ∀ g k, G u = some g → G v = some k → k ≤ g := by
    intro u v hE g k hg hk
    apply Decidable.byContradiction
    intro hlt
    have := hf u v hE.1 hE.2.1 g k hg hk (by omega)
    rw [hE.2.2.2.2] at this; cases this
  have eq : ∀ y, q_cn V a p x y → G y = some z := by
    intro y hy
    refine (hy (fun w => (w < v_n V ∧ q_mem V a p w = true) ∧ G w = some z) ⟨⟨hx, hm⟩, e1⟩ (fun u v hu hE => ?_)).2
    refine ⟨⟨hE.2.1, hE.2.2.2.1⟩, ?_⟩
    obtain ⟨k0, k1, -, -⟩ := (h v hE.2.1).2 hE.2.2.2.1
    have h1 := le u v hE z k0 hu.2 k1
    have h2 := le v u (q_E_sym hE) k0 z k1 hu.2
    rw [k1, show k0 = z by omega]
  have hzn := (q_cn_mem hx hm e3).1
  rw [e1, q_lab_eq hzn e3 (fun y hy => ?_)]
  obtain ⟨hy1, hy2⟩ := q_cn_mem hx hm hy
  obtain ⟨k0, k1, k2, -⟩ := (h y hy1).2 hy2
  have := eq y hy
  rw [k1] at this
  cases this
  exact k2
theorem q_LI_up {G : Nat → Option Nat} (h : q_LI V a p G) {x y u v : Nat} (hx : x < v_n V) (hy : y < v_n V) (hu : G x = some u) (hv : G y = some v) (huv : u < v) (hc : q_com V p x y = true) : q_LI V a p (va_up G y (some u)) := by
  intro w hw
  by_cases hwy : w = y
  · subst hwy
    rw [va_up_self]
    have hmw : q_mem V a p w = true := by
      cases hm : q_mem V a p w with
      | true => rfl
      | false => rw [(h w hw).1 hm] at hv; cases hv
    have hmx : q_mem V a p x = true := by
      cases hm : q_mem V a p x with
      | true => rfl
      | false => rw [(h x hx).1 hm] at hu; cases hu
    obtain ⟨z, e1, e2, e3⟩ := (h x hx).2 hmx
    rw [e1] at hu; cases hu
    obtain ⟨z2, f1, f2, f3⟩ := (h w hw).2 hmw
    rw [f1] at hv; cases hv
    exact ⟨fun hm => (by rw [hmw] at hm; cases hm), fun _ => ⟨_, rfl, by omega, q_cn_tr (q_cn_E ⟨hw, hx, hmw, hmx, q_com_sym hc⟩) e3⟩⟩
  · rw [va_up_ne _ _ hwy]; exact h w hw
def q_lsum (G : Nat → Option Nat) (n : Nat) : Nat := q_sum (fun x => (G x).getD 0) n
theorem q_lsum_up {G : Nat → Option Nat} {y u v : Nat} (hv : G y = some v) (huv : u < v) : ∀ n, q_lsum (va_up G y (some u)) n + (if y < n then v - u else 0) = q_lsum G n
  | 0 => rfl
  | n + 1 => by
    have ih := q_lsum_up hv huv n
    unfold q_lsum at ih ⊢
    rw [q_sum, q_sum]
    by_cases h : n = y
    · subst h
      rw [va_up_self, hv]
      rw [if_neg (by omega)] at ih
      rw [if_pos (by omega)]
      simp only [Option.getD_some]
      omega
    · rw [va_up_ne _ _ h]
      by_cases h2 : y < n
      · rw [if_pos h2] at ih; rw [if_pos (by omega)]; omega
      · rw [if_neg h2] at ih; rw [if_neg (by omega)]; omega
end QG
theorem q_Ma.u9 {V : QV} {a : Int32} {σ : px_S} {j : Nat} {v : Int32} (h : q_Ma V a σ) (hj : j ≠ 1 ∧ j ≠ 10 ∧ j ≠ 12 ∧ j ≠ 13 ∧ j ≠ 26 ∧ j ≠ 29 ∧ j ≠ 32) : q_Ma V a (px_uI σ 9 j v) := by
  obtain ⟨h1, h2, h3, h4, h5, h6, h7, h8, h10, h11⟩ := h
  have u : ∀ k, k ≠ 9 → (px_uI σ 9 j v).1 k = σ.1 k := fun k hk => q_uc hk
  have e : ∀ i, i ≠ j → (px_uI σ 9 j v).1 9 i = σ.1 9 i := fun i hi => q_u9n hi
  refine ⟨?_, ?_, ?_, ?_, ?_, ?_, ?_, ?_, ?_, ?_⟩
  · rw [e 1 (by omega)]; exact h1
  · rw [u 38 (by decide), u 39 (by decide), u 40 (by decide), u 41 (by decide), u 42 (by decide)]; exact h2
  · rw [u 43 (by decide), u 44 (by decide), u 45 (by decide)]; exact h3
  · rw [e 10 (by omega), u 46 (by decide)]; exact h4
  · rw [e 12 (by omega)]; exact h5
  · rw [e 13 (by omega)]; exact h6
  · rw [u 37 (by decide)]; exact h7
  · rw [e 26 (by omega), u 56 (by decide)]; exact h8
  · rw [e 29 (by omega), u 57 (by decide)]; exact h10
  · rw [e 32 (by omega)]; exact h11
def q_s150 (k : Nat) : Prop := k = 47 ∨ k = 50
theorem q_s150_scr : ∀ k, q_s150 k → q_scr k := by intro k h; unfold q_s150 at h; unfold q_scr; omega
theorem q_s1_150 : ∀ k, q_s1 k → q_s150 k := by intro k h; unfold q_s1 at h; unfold q_s150; omega
theorem q_s150_mc : ∀ k, q_s150 k → q_mc k := by intro k h; unfold q_s150 at h; unfold q_mc; omega
theorem q_s150_49 : ¬ q_s150 49 := by unfold q_s150; omega
def q_rowG (G : Nat → Option Nat) (n : Nat) (τ : px_S) : Prop := ∀ x, x < n → τ.1 50 x = q_bi (G x)
section QFG
variable {d : Nat} {Q : Option Value → px_S → Prop} {σ : px_S} {V : QV} {a : Int32} {p : Nat → Option Nat}
/-- the first rows of labels, then the labels until nothing moves -/
theorem m_labels (hV : q_wf V) (hM : q_Ma V a σ) (hp : q_okp p (v_n V)) (hr : q_row p (v_n V) σ) (h : ∀ τ, q_eqx q_s150 σ τ → q_rowG (fun x => if q_mem V a p x then some (q_lab V a p x) else none) (v_n V) τ → ∀ v2 v3, Wp (d + 6) tb_162 137 [.ref 9, .int 0, v2, v3] [] τ Q) : Wp (d + 6) tb_162 4 [.ref 9, .null, .null, .null] [] σ Q := by
  have hn := hV.1
  have inv : ∀ {τ : px_S}, q_eqx q_s150 σ τ → q_Ma V a τ := fun he => hM.eqx (he.mono q_s150_scr)
  -- the relaxing
  have relax : ∀ N (G : Nat → Option Nat) (τ : px_S) (v2 v3 : Value), q_lsum G (v_n V) < N → q_eqx q_s150 σ τ → q_LI V a p G → q_rowG G (v_n V) τ → Wp (d + 6) tb_162 49 [.ref 9, .int 1, v2, v3] [] τ Q := by
    intro N
    induction N with
    | zero => intro G τ v2 v3 hN; omega
    | succ N ihN =>
      intro G0 τ v2 v3 hN he hLI hrow
      -- in a pass
      have fin : ∀ (G : Nat → Option Nat) (more : Bool) (τ : px_S) (v2 v3 : Value), (more = true → q_lsum G (v_n V) < q_lsum G0 (v_n V)) → (more = false → ∀ x y, x < v_n V → y < v_n V → q_LF V p G x y) → q_eqx q_s150 σ τ → q_LI V a p G → q_rowG G (v_n V) τ → Wp (d + 6) tb_162 49 [.ref 9, .int (q_b more), v2, v3] [] τ Q := by
        intro G more τ v2 v3 hm hf he hLI hrow
        cases more with
        | true => exact ihN G τ v2 v3 (by have := hm rfl; omega) he hLI hrow
        | false =>
          refine b162_49 (fun _ => h τ he (fun x hx => ?_) v2 v3) (fun g => absurd rfl g)
          rw [hrow x hx]
          dsimp only
          cases hmx : q_mem V a p x with
          | true => rw [q_LI_lab hLI (hf rfl) hx hmx]; rfl
          | false => rw [(hLI x hx).1 hmx]; rfl
      have outer : ∀ m x (G : Nat → Option Nat) (more : Bool) (τ : px_S) (v3 : Value), x + m = v_n V → (more = true → q_lsum G (v_n V) < q_lsum G0 (v_n V)) → (more = false → G = G0 ∧ ∀ u y, u < x → y < v_n V → q_LF V p G u y) → q_eqx q_s150 σ τ → q_LI V a p G → q_rowG G (v_n V) τ → Wp (d + 6) tb_162 57 [.ref 9, .int (q_b more), .int (nI x), v3] [] τ Q := by
        intro m
        induction m with
        | zero =>
          intro x G more τ v3 hx hm hf he hLI hrow
          have e : x = v_n V := by omega
          subst e
          exact b162_57 (fun _ => b162_134 (fin G more τ _ _ hm (fun z u y hu hy => (hf z).2 u y hu hy) he hLI hrow)) (fun g => absurd (by rw [(inv he).1]; exact Int32.le_refl _) g)
        | succ m ih =>
          intro x G more τ v3 hx hm hf he hLI hrow
          have hxn : x < v_n V := by omega
          obtain ⟨ix, cx⟩ := q_lt (j := x) (N := 40) (by omega) (by decide)
          have inner : ∀ j y (G : Nat → Option Nat) (more : Bool) (τ : px_S), y + j = v_n V → (more = true → q_lsum G (v_n V) < q_lsum G0 (v_n V)) → (more = false → G = G0 ∧ (∀ u w, u < x → w < v_n V → q_LF V p G u w) ∧ ∀ w, w < y → q_LF V p G x w) → q_eqx q_s150 σ τ → q_LI V a p G → q_rowG G (v_n V) τ → Wp (d + 6) tb_162 67 [.ref 9, .int (q_b more), .int (nI x), .int (nI y)] [] τ Q := by
            intro j
            induction j with
            | zero =>
              intro y G more τ hy hm hf he hLI hrow
              refine b162_67 (fun _ => b162_128 ?_) (fun g => absurd (by rw [(inv he).1, show y = v_n V by omega]; exact Int32.le_refl _) g)
              rw [nI_1]
              refine ih (x + 1) G more τ _ (by omega) hm (fun z => ⟨(hf z).1, fun u w hu hw => ?_⟩) he hLI hrow
              by_cases hux : u = x
              · subst hux; exact (hf z).2.2 w (by omega)
              · exact (hf z).2.1 u w (by omega) hw
            | succ j ih2 =>
              intro y G more τ hy hm hf he hLI hrow
              have hyn : y < v_n V := by omega
              have hMt := inv he
              obtain ⟨iy, cy⟩ := q_lt (j := y) (N := 40) (by omega) (by decide)
              have rx := hrow x hxn
              have ry := hrow y hyn
              have lbl : ∀ {w z}, w < v_n V → G w = some z → z ≤ w := fun hw hz => by
                rename_i w z
                cases hmw : q_mem V a p w with
                | false => rw [(hLI w hw).1 hmw] at hz; cases hz
                | true =>
                  obtain ⟨z2, f1, f2, -⟩ := (hLI w hw).2 hmw
                  rw [f1] at hz; cases hz; exact f2
              have no : ∀ (τ' : px_S), q_eqx q_s1 τ τ' → q_LF V p G x y → Wp (d + 6) tb_162 122 [.ref 9, .int (q_b more), .int (nI x), .int (nI y)] [] τ' Q := by
                intro τ' he' hlf
                refine b162_122 ?_
                rw [nI_1]
                refine ih2 (y + 1) G more τ' (by omega) hm (fun z => ⟨(hf z).1, (hf z).2.1, fun w hw => ?_⟩) (he.tr (he'.mono q_s1_150)) hLI (fun w hw => by rw [he'.2 50 (by unfold q_s1; omega)]; exact hrow w hw)
                by_cases hwy : w = y
                · subst hwy; exact hlf
                · exact (hf z).2.2 w (by omega)
              refine b162_67 (fun g => absurd g (by rw [hMt.1]; exact nI_ge (by omega) (by omega))) (fun _ => b162_75 ix (fun g => ?_) (fun g => b162_84 iy ix (fun g2 => ?_) (fun g2 => ?_)))
              · rw [cx, rx] at g
                refine no τ q_eqx.rf (fun u v hu => ?_)
                rw [hu] at g
                exact absurd g (nI_pos (by have := lbl hxn hu; omega))
              · rw [cx, rx] at g
                rw [cx, cy, rx, ry] at g2
                refine no τ q_eqx.rf (fun u v hu hv huv => ?_)
                rw [hu, hv] at g2
                exact absurd g2 (nI_ge huv (by have := lbl hyn hv; omega))
              · rw [cx, rx] at g
                rw [cx, cy, rx, ry] at g2
                cases hu : G x with
                | none => rw [hu] at g; exact absurd (by decide) g
                | some u =>
                  cases hv : G y with
                  | none =>
                    rw [hu, hv] at g2
                    exact absurd (Int32.le_trans (show (-1 : Int32) ≤ 0 by decide) (nI_pos' (by have := lbl hxn hu; omega))) g2
                  | some v =>
                    rw [hu, hv] at g2
                    have lu := lbl hxn hu
                    have lv := lbl hyn hv
                    have huv : u < v := by
                      apply Decidable.byContradiction
                      intro hb
                      exact g2 (nI_le (by omega) (by omega))
                    refine b162_99 (m_haveCommon hV hMt hp (hr.eqx he q_s150_49) hxn hyn (fun τ' he' => ?_))
                    cases hc : q_com V p x y with
                    | false => exact b162_105 (fun _ => no τ' he' (fun _ _ _ _ _ => hc)) (fun g => absurd rfl g)
                    | true =>
                      refine b162_105 (fun g => absurd g (by decide)) (fun _ => b162_108 ix iy (b162_120 (b162_122 ?_)))
                      have r50 : τ'.1 50 x = nI u := by rw [he'.2 50 (by unfold q_s1; omega), rx, hu]; rfl
                      rw [cx, cy, r50, nI_1]
                      refine ih2 (y + 1) (va_up G y (some u)) true _ (by omega) (fun _ => ?_) (fun z => by cases z) ((he.tr (he'.mono q_s1_150)).tr (q_eqx.uI (Or.inr rfl))) (q_LI_up hLI hxn hyn hu hv huv hc) (fun w hw => ?_)
                      · have h1 := q_lsum_up hv huv (v_n V)
                        rw [if_pos hyn] at h1
                        cases more with
                        | true => have := hm rfl; omega
                        | false => rw [← (hf rfl).1]; omega
                      · rw [q_u]
                        by_cases hwy : w = y
                        · subst hwy; rw [if_pos ⟨rfl, rfl⟩, va_up_self]; rfl
                        · rw [if_neg (fun z => hwy z.2), va_up_ne _ _ hwy, he'.2 50 (by unfold q_s1; omega)]; exact hrow w hw
          refine b162_57 (fun g => absurd g (by rw [(inv he).1]; exact nI_ge (by omega) (by omega))) (fun _ => b162_65 ?_)
          exact inner (v_n V) 0 G more τ (by omega) hm (fun z => ⟨(hf z).1, (hf z).2, fun w hw => absurd hw (Nat.not_lt_zero _)⟩) he hLI hrow
      refine b162_49 (fun g => absurd g (by decide)) (fun _ => b162_53 ?_)
      exact outer (v_n V) 0 G0 false τ _ (by omega) (fun z => by cases z) (fun _ => ⟨rfl, fun u y hu => absurd hu (Nat.not_lt_zero _)⟩) he hLI hrow
  -- the first rows
  let G1 := fun x => if q_mem V a p x then some x else (none : Option Nat)
  have first : ∀ m x (τ : px_S), x + m = v_n V → q_eqx q_s150 σ τ → (∀ y, y < x → τ.1 50 y = q_bi (G1 y)) → Wp (d + 6) tb_162 6 [.ref 9, .int (nI x), .null, .null] [] τ Q := by
    intro m
    induction m with
    | zero =>
      intro x τ hx he hrow
      have e : x = v_n V := by omega
      subst e
      refine b162_6 (fun _ => b162_47 (relax (q_lsum G1 (v_n V) + 1) G1 τ _ _ (by omega) he (fun y hy => ?_) hrow)) (fun g => absurd (by rw [(inv he).1]; exact Int32.le_refl _) g)
      refine ⟨fun hm => ?_, fun hm => ⟨y, ?_, Nat.le_refl _, q_cn_rf y⟩⟩
      · show (if q_mem V a p y = true then _ else _) = _; rw [hm]; rfl
      · show (if q_mem V a p y = true then _ else _) = _; rw [hm]; rfl
    | succ m ih =>
      intro x τ hx he hrow
      have hxn : x < v_n V := by omega
      have hMt := inv he
      obtain ⟨ix, cx⟩ := q_lt (j := x) (N := 40) (by omega) (by decide)
      have put : ∀ (τ' : px_S) (v : Int32) (b : Bool), q_eqx q_s1 τ τ' → q_mem V a p x = b → v = (if b then nI x else -1) → Wp (d + 6) tb_162 40 [.ref 9, .int (nI x), .null, .null] [.int v, .int (nI x), .ref 50] τ' Q := by
        intro τ' v b he' hb hv
        refine b162_40 ix (b162_41 ?_)
        rw [cx, nI_1]
        refine ih (x + 1) _ (by omega) ((he.tr (he'.mono q_s1_150)).tr (q_eqx.uI (Or.inr rfl))) (fun y hy => ?_)
        rw [q_u]
        by_cases hyx : y = x
        · subst hyx
          rw [if_pos ⟨rfl, rfl⟩, hv]
          show _ = q_bi (if q_mem V a p y = true then some y else none)
          rw [hb]; cases b <;> rfl
        · rw [if_neg (fun z => hyx z.2), he'.2 50 (by unfold q_s1; omega)]; exact hrow y (by omega)
      refine b162_6 (fun g => absurd g (by rw [hMt.1]; exact nI_ge (by omega) (by omega))) (fun _ => b162_14 (m_isSeen hV hMt hxn ?_))
      cases hs : q_seen V a x with
      | false => exact b162_24 (fun _ => b162_39 (put τ _ false q_eqx.rf (by unfold q_mem; rw [hs]; rfl) rfl)) (fun g => absurd rfl g)
      | true =>
        refine b162_24 (fun g => absurd g (by decide)) (fun _ => b162_27 (m_hasPiece hV hMt hp (hr.eqx he q_s150_49) hxn (fun τ' he' => ?_)))
        cases hh : q_hp V p x with
        | false => exact b162_32 (fun _ => b162_39 (put τ' _ false he' (by unfold q_mem; rw [hs, hh]; rfl) rfl)) (fun g => absurd rfl g)
        | true => exact b162_32 (fun g => absurd g (by decide)) (fun _ => b162_35 (put τ' _ true he' (by unfold q_mem; rw [hs, hh]; rfl) rfl))
  exact b162_4 (first (v_n V) 0 σ (by omega) q_eqx.rf (fun y hy => absurd hy (Nat.not_lt_zero _)))
end QFG
