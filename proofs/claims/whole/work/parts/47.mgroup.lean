/-! ===== findGroups, group, count: the reference ===== -/
theorem q_cnt_mono (f : Nat → Bool) : ∀ {m n : Nat}, m ≤ n → q_cnt f m ≤ q_cnt f n := by
  intro m n h
  induction n with
  | zero => have : m = 0 := by omega
            subst this; exact Nat.le_refl _
  | succ n ih =>
    by_cases hm : m = n + 1
    · subst hm; exact Nat.le_refl _
    · have := ih (by omega); rw [q_cnt]; omega
section QFH
variable {d : Nat} {Q : Option Value → px_S → Prop} {σ : px_S} {V : QV} {a : Int32}
theorem q_lab_in {p : Nat → Option Nat} {x : Nat} (hx : x < v_n V) (hm : q_mem V a p x = true) (G : Nat → Option Nat) (h : q_LI V a p G) (hf : ∀ x y, x < v_n V → y < v_n V → q_LF V p G x y) : q_lab V a p x ≤ x ∧ q_isr V a p (q_lab V a p x) = true := by
  have e := q_LI_lab h hf hx hm
  obtain ⟨z, e1, e2, e3⟩ := (h x hx).2 hm
  rw [e] at e1
  cases e1
  obtain ⟨h1, h2⟩ := q_cn_mem hx hm e3
  refine ⟨e2, ?_⟩
  unfold q_isr
  rw [h2, Bool.true_and, decide_eq_true_eq]
  obtain ⟨w, f1, f2, f3⟩ := (h _ h1).2 h2
  have f4 := q_LI_lab h hf h1 h2
  refine q_lab_eq h1 (q_cn_rf _) (fun y hy => ?_)
  have hxy := q_cn_tr e3 hy
  obtain ⟨g1, g2⟩ := q_cn_mem hx hm hxy
  have e5 : q_lab V a p x ≤ y := by
    have le : ∀ u v, q_E V a p u v → ∀ g k, G u = some g → G v = some k → k ≤ g := by
      intro u v hE g k hg hk
      apply Decidable.byContradiction
      intro hlt
      have := hf u v hE.1 hE.2.1 g k hg hk (by omega)
      rw [hE.2.2.2.2] at this; cases this
    have eq : G y = some (q_lab V a p x) := by
      refine (hxy (fun w => (w < v_n V ∧ q_mem V a p w = true) ∧ G w = some (q_lab V a p x)) ⟨⟨hx, hm⟩, e⟩ (fun u v hu hE => ?_)).2
      refine ⟨⟨hE.2.1, hE.2.2.2.1⟩, ?_⟩
      obtain ⟨k0, k1, -, -⟩ := (h v hE.2.1).2 hE.2.2.2.1
      have h1 := le u v hE _ k0 hu.2 k1
      have h2 := le v u (q_E_sym hE) k0 _ k1 hu.2
      rw [k1, show k0 = q_lab V a p x by omega]
    obtain ⟨k0, k1, k2, -⟩ := (h y g1).2 g2
    rw [eq] at k1; cases k1; exact k2
  exact e5
/-- least labels always exist -/
theorem q_lab_ok {p : Nat → Option Nat} {x : Nat} (hx : x < v_n V) (hm : q_mem V a p x = true) : q_lab V a p x ≤ x ∧ q_isr V a p (q_lab V a p x) = true ∧ q_cn V a p x (q_lab V a p x) ∧ ∀ y, q_cn V a p x y → q_lab V a p x ≤ y := by
  have key : ∃ z, z ≤ x ∧ q_cn V a p x z ∧ ∀ y, q_cn V a p x y → z ≤ y := by
    have : ∀ n z, z < n → z ≤ x → q_cn V a p x z → ∃ z, z ≤ x ∧ q_cn V a p x z ∧ ∀ y, q_cn V a p x y → z ≤ y := by
      intro n
      induction n with
      | zero => intro z h; omega
      | succ n ih =>
        intro z h1 h2 h3
        by_cases hex : ∃ y, q_cn V a p x y ∧ y < z
        · obtain ⟨y, hy1, hy2⟩ := hex
          exact ih y (by omega) (by omega) hy1
        · exact ⟨z, h2, h3, fun y hy => Nat.le_of_not_lt (fun hlt => hex ⟨y, hy, hlt⟩)⟩
    exact this (x + 1) x (by omega) (Nat.le_refl _) (q_cn_rf x)
  obtain ⟨z, h1, h2, h3⟩ := key
  have e : q_lab V a p x = z := q_lab_eq (by omega) h2 h3
  rw [e]
  refine ⟨h1, ?_, h2, h3⟩
  obtain ⟨g1, g2⟩ := q_cn_mem hx hm h2
  unfold q_isr
  rw [g2, Bool.true_and, decide_eq_true_eq]
  exact q_lab_eq g1 (q_cn_rf z) (fun y hy => h3 y (q_cn_tr h2 hy))
theorem q_lab_r {p : Nat → Option Nat} {x : Nat} (h : q_isr V a p x = true) : q_mem V a p x = true ∧ q_lab V a p x = x := by
  unfold q_isr at h
  rw [Bool.and_eq_true, decide_eq_true_eq] at h
  exact h
/-- a label once the roots below r are numbered -/
noncomputable def q_num (V : QV) (a : Int32) (p : Nat → Option Nat) (r x : Nat) : Int32 := if q_mem V a p x then (if q_lab V a p x < r then nI (40 + q_cnt (q_isr V a p) (q_lab V a p x)) else nI (q_lab V a p x)) else -1
def q_s9150 (k : Nat) : Prop := k = 9 ∨ k = 47 ∨ k = 50
theorem m_numbers (hV : q_wf V) (hM : q_Ma V a σ) {p : Nat → Option Nat} (hrow : q_rowG (fun x => if q_mem V a p x then some (q_lab V a p x) else none) (v_n V) σ) (h : ∀ τ, q_Ma V a τ → q_eqx q_s9150 σ τ → (∀ x, x < v_n V → τ.1 50 x = q_bi (q_gn V a p x)) → τ.1 9 18 = nI (q_gs V a p) → Q none τ) {v2 v3 : Value} : Wp (d + 6) tb_162 137 [.ref 9, .int 0, v2, v3] [] σ Q := by
  have hn := hV.1
  have lab : ∀ {x}, x < v_n V → q_mem V a p x = true → q_lab V a p x ≤ x := fun hx hm => (q_lab_ok hx hm).1
  have third : ∀ m x (τ : px_S) (v3 : Value), x + m = v_n V → q_Ma V a τ → q_eqx q_s9150 σ τ → (∀ y, y < x → τ.1 50 y = q_bi (q_gn V a p y)) → (∀ y, x ≤ y → y < v_n V → τ.1 50 y = q_num V a p (v_n V) y) → τ.1 9 18 = nI (q_gs V a p) → Wp (d + 6) tb_162 228 [.ref 9, .int 0, .int (nI x), v3] [] τ Q := by
    intro m
    induction m with
    | zero =>
      intro x τ v3 hx hMt he h1 h2 h3
      have e : x = v_n V := by omega
      subst e
      exact b162_228 (fun _ => b162_272 (h τ hMt he h1 h3)) (fun g => absurd (by rw [hMt.1]; exact Int32.le_refl _) g)
    | succ m ih =>
      intro x τ v3 hx hMt he h1 h2 h3
      have hxn : x < v_n V := by omega
      obtain ⟨ix, cx⟩ := q_lt (j := x) (N := 40) (by omega) (by decide)
      have rx := h2 x (Nat.le_refl _) hxn
      have put : ∀ (v : Int32), v = q_bi (q_gn V a p x) → Wp (d + 6) tb_162 265 [.ref 9, .int 0, .int (nI x), v3] [.int v, .int (nI x), .ref 50] τ Q := by
        intro v hv
        refine b162_265 ix (b162_266 ?_)
        rw [cx, nI_1]
        refine ih (x + 1) _ _ (by omega) (hMt.eqx ((q_eqx.uI (S := q_s150) (Or.inr rfl)).mono q_s150_scr)) (he.tr (q_eqx.uI (Or.inr (Or.inr rfl)))) (fun y hy => ?_) (fun y hy hyn => ?_) (by rw [q_uc (by decide)]; exact h3)
        · rw [q_u]
          by_cases hyx : y = x
          · subst hyx; rw [if_pos ⟨rfl, rfl⟩]; exact hv
          · rw [if_neg (fun z => hyx z.2)]; exact h1 y (by omega)
        · rw [q_u, if_neg (fun z => by have := z.2; omega)]; exact h2 y (by omega) hyn
      cases hm : q_mem V a p x with
      | false =>
        have e1 : q_num V a p (v_n V) x = -1 := by unfold q_num; rw [hm]; rfl
        have e2 : q_gn V a p x = none := by unfold q_gn; rw [hm]; rfl
        refine b162_228 (fun g => absurd g (by rw [hMt.1]; exact nI_ge (by omega) (by omega))) (fun _ => b162_236 ix (fun _ => b162_264 (put _ (by rw [e2]; rfl))) (fun g => absurd (by rw [cx, rx, e1]; decide) g))
      | true =>
        have l1 := lab hxn hm
        have l2 := q_cnt_le (q_isr V a p) (q_lab V a p x)
        have e1 : q_num V a p (v_n V) x = nI (40 + q_cnt (q_isr V a p) (q_lab V a p x)) := by unfold q_num; rw [hm, if_pos rfl, if_pos (by omega)]
        have e2 : q_gn V a p x = some (q_cnt (q_isr V a p) (q_lab V a p x)) := by unfold q_gn; rw [hm]; rfl
        refine b162_228 (fun g => absurd g (by rw [hMt.1]; exact nI_ge (by omega) (by omega))) (fun _ => b162_236 ix (fun g => absurd g ?_) (fun _ => b162_252 ix (put _ ?_)))
        · rw [cx, rx, e1]; exact nI_nlt (a := 40 + q_cnt (q_isr V a p) (q_lab V a p x)) (b := 40) (by omega) (by omega)
        · rw [cx, rx, e1, e2, show (40 : Int32) = nI 40 from rfl, pk_sub (by omega), Nat.add_sub_cancel_left]; rfl
  have second : ∀ m x (τ : px_S) (v3 : Value), x + m = v_n V → q_Ma V a τ → q_eqx q_s9150 σ τ → (∀ y, y < v_n V → τ.1 50 y = q_num V a p x y) → τ.1 9 18 = nI (q_cnt (q_isr V a p) x) → Wp (d + 6) tb_162 144 [.ref 9, .int 0, .int (nI x), v3] [] τ Q := by
    intro m
    induction m with
    | zero =>
      intro x τ v3 hx hMt he h1 h2
      have e : x = v_n V := by omega
      subst e
      exact b162_144 (fun _ => b162_226 (third (v_n V) 0 τ v3 (by omega) hMt he (fun y hy => absurd hy (Nat.not_lt_zero _)) (fun y _ hy => h1 y hy) h2)) (fun g => absurd (by rw [hMt.1]; exact Int32.le_refl _) g)
    | succ m ih =>
      intro x τ v3 hx hMt he h1 h2
      have hxn : x < v_n V := by omega
      obtain ⟨ix, cx⟩ := q_lt (j := x) (N := 40) (by omega) (by decide)
      have rx := h1 x hxn
      have lc := q_cnt_le (q_isr V a p) x
      have is_r : q_num V a p x x = nI x ↔ q_isr V a p x = true := by
        unfold q_num
        constructor
        · intro hz
          cases hm : q_mem V a p x with
          | false => rw [hm] at hz; exact absurd hz (q_m1ne (by omega))
          | true =>
            rw [hm, if_pos rfl] at hz
            have l1 := lab hxn hm
            split at hz
            · have l2 := q_cnt_le (q_isr V a p) (q_lab V a p x)
              rw [nI_eq (by omega) (by omega)] at hz
              omega
            · rw [nI_eq (by omega) (by omega)] at hz
              unfold q_isr; rw [hm, hz]; simp
        · intro hz
          obtain ⟨h3, h4⟩ := q_lab_r hz
          rw [h3, if_pos rfl, h4, if_neg (by omega)]
      cases hr : q_isr V a p x with
      | false =>
        refine b162_144 (fun g => absurd g (by rw [hMt.1]; exact nI_ge (by omega) (by omega))) (fun _ => b162_152 ix (fun _ => b162_220 ?_) (fun g => absurd ?_ g))
        · rw [nI_1]
          refine ih (x + 1) τ _ (by omega) hMt he (fun y hy => ?_) (by rw [h2, q_cnt, hr]; rfl)
          rw [h1 y hy]
          unfold q_num
          cases hm : q_mem V a p y with
          | false => rfl
          | true =>
            have hlr := (q_lab_ok hy hm).2.1
            have hne : q_lab V a p y ≠ x := fun e => by rw [e, hr] at hlr; cases hlr
            by_cases hlt : q_lab V a p y < x
            · rw [if_pos rfl, if_pos rfl, if_pos hlt, if_pos (by omega)]
            · rw [if_pos rfl, if_pos rfl, if_neg hlt, if_neg (by omega)]
        · rw [cx, rx, is_r, hr]; decide
      | true =>
        refine b162_144 (fun g => absurd g (by rw [hMt.1]; exact nI_ge (by omega) (by omega))) (fun _ => b162_152 ix (fun g => absurd (by rw [cx, rx]; exact is_r.mpr hr) g) (fun _ => b162_162 ?_))
        have inner : ∀ j y (τ' : px_S), y + j = v_n V → x ≤ y → q_Ma V a τ' → q_eqx q_s150 τ τ' → (∀ w, w < y → w < v_n V → τ'.1 50 w = q_num V a p (x + 1) w) → (∀ w, y ≤ w → w < v_n V → τ'.1 50 w = q_num V a p x w) → Wp (d + 6) tb_162 164 [.ref 9, .int 0, .int (nI x), .int (nI y)] [] τ' Q := by
          intro j
          induction j with
          | zero =>
            intro y τ' hy hxy hM' he' k1 k2
            have e : y = v_n V := by omega
            subst e
            have e18 : τ'.1 9 18 = nI (q_cnt (q_isr V a p) x) := by rw [he'.2 9 (by unfold q_s150; omega)]; exact h2
            refine b162_164 (fun _ => b162_210 (b162_220 ?_)) (fun g => absurd (by rw [hM'.1]; exact Int32.le_refl _) g)
            rw [nI_1, e18, nI_1]
            refine ih (x + 1) _ _ (by omega) (hM'.u9 (by decide)) ((he.tr (he'.mono (fun k hk => by unfold q_s150 at hk; unfold q_s9150; omega))).tr (q_eqx.uI (Or.inl rfl))) (fun y hy => ?_) ?_
            · rw [q_uc (by decide)]; exact k1 y hy hy
            · rw [q_u9, q_cnt, hr]; rfl
          | succ j ih2 =>
            intro y τ' hy hxy hM' he' k1 k2
            have hyn : y < v_n V := by omega
            obtain ⟨iy, cy⟩ := q_lt (j := y) (N := 40) (by omega) (by decide)
            have ry := k2 y (Nat.le_refl _) hyn
            have e18 : τ'.1 9 18 = nI (q_cnt (q_isr V a p) x) := by rw [he'.2 9 (by unfold q_s150; omega)]; exact h2
            have put : ∀ v : Int32, v = q_num V a p (x + 1) y → Wp (d + 6) tb_162 203 [.ref 9, .int 0, .int (nI x), .int (nI y)] [.int v, .int (nI y), .ref 50] τ' Q := by
              intro v hv
              refine b162_203 iy (b162_204 ?_)
              rw [cy, nI_1]
              refine ih2 (y + 1) _ (by omega) (by omega) (hM'.eqx ((q_eqx.uI (S := q_s150) (Or.inr rfl)).mono q_s150_scr)) (he'.tr (q_eqx.uI (Or.inr rfl))) (fun w hw hwn => ?_) (fun w hw hwn => ?_)
              · rw [q_u]
                by_cases hwy : w = y
                · subst hwy; rw [if_pos ⟨rfl, rfl⟩]; exact hv
                · rw [if_neg (fun z => hwy z.2)]; exact k1 w (by omega) hwn
              · rw [q_u, if_neg (fun z => by have := z.2; omega)]; exact k2 w (by omega) hwn
            -- is its label x?
            by_cases hl : q_mem V a p y = true ∧ q_lab V a p y = x
            · have e1 : q_num V a p x y = nI x := by unfold q_num; rw [hl.1, if_pos rfl, hl.2, if_neg (by omega)]
              refine b162_164 (fun g => absurd g (by rw [hM'.1]; exact nI_ge (by omega) (by omega))) (fun _ => b162_172 iy (fun g => absurd (by rw [cy, ry, e1]) g) (fun _ => b162_187 (put _ ?_)))
              rw [e18, show (40 : Int32) = nI 40 from rfl, nI_add]
              unfold q_num; rw [hl.1, if_pos rfl, hl.2, if_pos (by omega)]
            · have e1 : q_num V a p (x + 1) y = q_num V a p x y := by
                unfold q_num
                cases hm : q_mem V a p y with
                | false => rfl
                | true =>
                  have hne : q_lab V a p y ≠ x := fun e => hl ⟨hm, e⟩
                  by_cases hlt : q_lab V a p y < x
                  · rw [if_pos rfl, if_pos rfl, if_pos hlt, if_pos (by omega)]
                  · rw [if_pos rfl, if_pos rfl, if_neg hlt, if_neg (by omega)]
              refine b162_164 (fun g => absurd g (by rw [hM'.1]; exact nI_ge (by omega) (by omega))) (fun _ => b162_172 iy (fun g => b162_197 iy (put _ ?_)) (fun g => absurd ?_ g))
              · rw [cy, ry, e1]
              · rw [cy, ry]
                unfold q_num
                cases hm : q_mem V a p y with
                | false => exact q_m1ne (by omega)
                | true =>
                  have l1 := lab hyn hm
                  rw [if_pos rfl]
                  split
                  · have l2 := q_cnt_le (q_isr V a p) (q_lab V a p y)
                    rw [nI_eq (by omega) (by omega)]; omega
                  · rw [nI_eq (by omega) (by omega)]; exact fun e => hl ⟨hm, e⟩
        refine inner m.succ x τ (by omega) (Nat.le_refl _) hMt q_eqx.rf (fun w hw hwn => ?_) (fun w _ hwn => h1 w hwn)
        rw [h1 w hwn]
        unfold q_num
        cases hm : q_mem V a p w with
        | false => rfl
        | true =>
          have l1 := lab hwn hm
          rw [if_pos rfl, if_pos rfl, if_pos (by omega), if_pos (by omega)]
  refine b162_137 (b162_142 (second (v_n V) 0 _ v3 (by omega) (hM.u9 (by decide)) (q_eqx.uI (Or.inl rfl)) (fun y hy => ?_) q_u9))
  rw [q_uc (by decide), hrow y hy]
  unfold q_num
  dsimp only
  cases hm : q_mem V a p y with
  | false => rfl
  | true => rw [if_pos rfl, if_pos rfl, if_neg (Nat.not_lt_zero _)]; rfl
theorem m_findGroups (hV : q_wf V) (hM : q_Ma V a σ) (h : ∀ τ, q_Ma V a τ → q_mk σ τ → q_row (q_par V a) (v_n V) τ → (∀ x, x < v_n V → τ.1 50 x = q_bi (q_gn V a (q_par V a) x)) → τ.1 9 18 = nI (q_gs V a (q_par V a)) → Q none τ) : Cw (d + 7) 162 [.ref 9] σ Q := by
  refine e162 (b162_0 (m_findParents hV hM (fun τ he hr hk => ?_)))
  have hMt : q_Ma V a τ := hM.eqx (he.mono q_s3_scr)
  refine m_labels hV hMt (q_par_ok hV a) hr (fun τ2 he2 hrow v2 v3 => ?_)
  have hM2 : q_Ma V a τ2 := hMt.eqx (he2.mono q_s150_scr)
  refine m_numbers hV hM2 hrow (fun τ3 hM3 he3 h1 h2 => ?_)
  refine h τ3 hM3 (((q_mk.scr he q_s3_scr hk).tr (q_mk.mc (he2.mono q_s150_mc))).tr (q_mk.mc (he3.mono (fun k hk => by unfold q_s9150 at hk; unfold q_mc; omega)))) ?_ h1 h2
  exact (hr.eqx he2 q_s150_49).eqx he3 (by unfold q_s9150; omega)
noncomputable def sp_group (V : QV) (x : Int32) : Int32 := if q_has V x then q_bi (q_gn V (-1) (q_par V (-1)) x.toNatClampNeg) else -1001
theorem m_group {x : Int32} (hV : q_wf V) (hM : q_M V σ) (h : ∀ τ, q_M V τ → q_mk σ τ → Q (some (.int (sp_group V x))) τ) : Cw (d + 8) 161 [.ref 9, .int x] σ Q := by
  have hn := hV.1
  refine e161 (b161_0 (m_noLetter hV hM (fun j hj ej => ?_) (fun hno => ?_)))
  · subst ej
    have hh : q_has V (nI j) := q_has_nI hn hj
    obtain ⟨ij, cj⟩ := q_lt (j := j) (N := 40) (by omega) (by decide)
    unfold sp_group at h
    rw [if_pos hh, cj] at h
    refine b161_5 (fun _ => b161_12 (m_findGroups hV hM (fun τ hMt hk hr h1 h2 => b161_16 ij ?_))) (fun g => absurd rfl g)
    rw [cj, h1 j hj]
    exact h τ hMt hk
  · unfold sp_group at h
    rw [if_neg (fun z => by obtain ⟨j, h1, h2⟩ := q_has_of z; exact hno j h1 h2)] at h
    exact b161_5 (fun g => absurd g (by decide)) (fun _ => b161_8 (h σ hM q_mk.rf))
end QFH
