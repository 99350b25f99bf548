/-! ===== the class: groups found anew; group, count ===== -/
def k_sl (c : Nat) : Prop := c = 5 ∨ c = 25 ∨ c = 26 ∨ c = 27 ∨ c = 28
/-- the groups of the letters below x stand -/
def k_RI (V : QV) (p : Nat → Option Nat) (x : Nat) (τ : px_S) : Prop :=
  τ.1 5 9 = -1 ∧ τ.1 5 7 = nI (q_cnt (q_isr V (-1) p) x) ∧ (∀ y, y < v_n V → τ.1 25 y = if q_mem V (-1) p y = true ∧ q_lab V (-1) p y < x then nI (q_cnt (q_isr V (-1) p) (q_lab V (-1) p y)) else -1) ∧
  (∀ r, r < x → q_isr V (-1) p r = true → τ.1 26 (q_cnt (q_isr V (-1) p) r) = nI (q_cnt (fun z => q_mem V (-1) p z && decide (q_lab V (-1) p z = r)) (v_n V)) ∧ τ.1 27 (q_cnt (q_isr V (-1) p) r) = nI r)
theorem q_ms_r {V : QV} {a : Int32} {p : Nat → Option Nat} {g r : Nat} (hr : q_isr V a p r = true) (hrn : r < v_n V) (hg : q_cnt (q_isr V a p) r = g) : (q_ms V a p g).length = q_cnt (fun z => q_mem V a p z && decide (q_lab V a p z = r)) (v_n V) ∧ (q_ms V a p g).getD 0 0 = r := by
  have key : ∀ z, z < v_n V → decide (q_gn V a p z = some g) = (q_mem V a p z && decide (q_lab V a p z = r)) := by
    intro z hz
    unfold q_gn
    cases hm : q_mem V a p z with
    | false => rw [if_neg (by decide)]; rfl
    | true =>
      rw [if_pos rfl, Bool.true_and]
      apply decide_eq_decide.mpr
      constructor
      · intro e
        have e : q_cnt (q_isr V a p) (q_lab V a p z) = g := Option.some.inj e
        exact q_cnt_inj (q_lab_ok hz hm).2.1 hr (by rw [e, hg])
      · intro e; rw [e, hg]
  obtain ⟨hmr, hlr⟩ := q_lab_r hr
  refine ⟨?_, ?_⟩
  · unfold q_ms; rw [q_fl_len]; exact q_cnt_cg _ key
  · unfold q_ms
    refine q_fl_head ?_ (fun z hz => ?_) _ hrn
    · show decide (q_gn V a p r = some g) = true
      rw [key r hrn, hmr, decide_eq_true hlr]; rfl
    · show decide (q_gn V a p z = some g) = false
      rw [key z (by omega)]
      cases hm : q_mem V a p z with
      | false => rfl
      | true =>
        have := (q_lab_ok (V := V) (a := a) (p := p) (x := z) (by omega) hm).1
        rw [decide_eq_false (by omega)]; rfl
section KLR
variable {d : Nat} {Q : Option Value → px_S → Prop} {σ : px_S} {V : QV}
theorem k_I.lost {τ : px_S} (hI : k_I V σ) (he : k_e k_sl k_t0 σ τ) (hL : k_L V τ) : k_I V τ := by
  obtain ⟨i1, i2, i3, i4, i5, i6, i7, i8, -, i10⟩ := hI
  have c : ∀ c, ¬ (c = 5 ∨ (25 ≤ c ∧ c ≤ 28)) → τ.1 c = σ.1 c := fun c hc => he.1 c (fun z => by unfold k_sl at z; omega)
  have l : ∀ c, τ.2.1 c = σ.2.1 c := fun c => he.2.1 c id
  exact ⟨i1.fr (c 1 (by omega)) (fun j k1 k2 => c j (by omega)) (l 1) (l 17), i2.fr (c 10 (by omega)), i3.fr (c 0 (by omega)) (l 0), i4.fr (c 7 (by omega)) (c 34 (by omega)), i5.fr (c 8 (by omega)) (c 35 (by omega)), i6.fr (c 18 (by omega)), i7.fr (c 3 (by omega)) (c 21 (by omega)) (c 22 (by omega)) (l 3), i8.fr (c 4 (by omega)) (c 23 (by omega)) (c 24 (by omega)) (l 4), hL, i10.fr (c 33 (by omega)) he.2.2⟩
theorem c_lostRefresh (hV : q_wf V) (hI : k_I V σ) (hK : k_kin V (-1) 3 σ) (h : ∀ τ, k_I V τ → k_kin V (-1) 3 τ → τ.1 5 8 = 1 → k_fr σ τ → Q none τ) : Cw (d + 6) 55 [.ref 5] σ Q := by
  have hn := hV.1
  have hp := q_par_ok hV (-1)
  generalize epar : q_par V (-1) = p at hp
  have hHe : ∀ τ, k_e k_sl k_t0 σ τ → k_H V τ := fun τ he => hI.1.fr (he.1 1 (by unfold k_sl; omega)) (fun j k1 k2 => he.1 j (by unfold k_sl; omega)) (he.2.1 1 id) (he.2.1 17 id)
  have hKe : ∀ τ, k_e k_sl k_t0 σ τ → k_kin V (-1) 3 τ := fun τ he => hK.fr (he.1 21 (by unfold k_sl; omega)) (he.1 22 (by unfold k_sl; omega)) (he.2.1 3 id)
  have hse : ∀ τ, k_e k_sl k_t0 σ τ → k_sn V (-1) 3 τ := fun τ he => (hKe τ he).2.2
  have hhe : ∀ τ, k_e k_sl k_t0 σ τ → k_hd V 3 p τ := fun τ he => by rw [← epar]; exact (hKe τ he).hd
  have loop : ∀ m x (τ : px_S), x + m = v_n V → k_e k_sl k_t0 σ τ → k_RI V p x τ → Wp (d + 5) tb_55 28 [.ref 5, .int (nI x)] [] τ Q := by
    intro m
    induction m with
    | zero =>
      intro x τ hx he ⟨r1, r2, r3, r4⟩
      have ex : x = v_n V := by omega
      subst ex
      refine b55_28 (fun _ => b55_101 (b55_106 ?_)) (fun g => absurd (by rw [(hHe τ he).1]; exact Int32.le_refl _) g)
      have he2 : k_e k_sl k_t0 σ (px_uI τ 5 8 1) := he.tr (k_e.uI (Or.inl rfl))
      have e58 : (px_uI τ 5 8 1).1 5 8 = 1 := by rw [q_u, if_pos ⟨rfl, rfl⟩]
      refine h _ (hI.lost he2 (Or.inr ⟨e58, ⟨fun y hy => ?_, ?_, fun g hg => ?_⟩, Or.inl ?_⟩)) (hKe _ he2) e58 (he2.fr (fun c hc => by unfold k_sl at hc; omega))
      · rw [q_uc (by decide), r3 y hy, epar]
        unfold q_gn
        cases hm : q_mem V (-1) p y with
        | false => rw [if_neg (fun z => by cases z.1), if_neg (by decide)]; rfl
        | true =>
          have := (q_lab_ok hy hm).1
          rw [if_pos ⟨rfl, by omega⟩, if_pos rfl]; rfl
      · rw [q_u, if_neg (by decide), r2, epar]; rfl
      · rw [epar] at hg ⊢
        obtain ⟨r, hr1, hr2, hr3⟩ := q_cnt_ex (v_n V) hg
        obtain ⟨m1, m2⟩ := q_ms_r hr2 hr1 hr3
        obtain ⟨k1, k2⟩ := r4 r hr1 hr2
        rw [hr3] at k1 k2
        rw [q_uc (by decide), q_uc (by decide), m1, m2]
        exact ⟨k1, k2⟩
      · rw [q_u, if_neg (by decide)]; exact r1
    | succ m ih =>
      intro x τ hx he hR
      obtain ⟨r1, r2, r3, r4⟩ := id hR
      have hxn : x < v_n V := by omega
      obtain ⟨ix, cx⟩ := q_lt (j := x) (N := 40) (by omega) (by decide)
      have cle := q_cnt_le (q_isr V (-1) p) x
      have pass : q_isr V (-1) p x = false → Wp (d + 5) tb_55 95 [.ref 5, .int (nI x)] [] τ Q := fun hz => by
        refine b55_95 ?_
        rw [nI_1]
        refine ih (x + 1) τ (by omega) he ⟨r1, ?_, fun y hy => ?_, fun r hr hir => ?_⟩
        · rw [r2, q_cnt, hz]; rfl
        · rw [r3 y hy]
          by_cases hc : q_mem V (-1) p y = true ∧ q_lab V (-1) p y < x
          · rw [if_pos hc, if_pos ⟨hc.1, by omega⟩]
          · rw [if_neg hc, if_neg (fun z => ?_)]
            have hlx : q_lab V (-1) p y = x := by
              have := z.2
              apply Decidable.byContradiction
              intro hne
              exact hc ⟨z.1, by omega⟩
            have := (q_lab_ok hy z.1).2.1
            rw [hlx, hz] at this
            cases this
        · by_cases hrx : r = x
          · rw [hrx, hz] at hir; cases hir
          · exact r4 r (by omega) hir
      refine b55_28 (fun g => absurd g (by rw [(hHe τ he).1]; exact nI_ge (by omega) (by omega))) (fun _ => b55_39 ix (fun g => pass ?_) (fun g => b55_49 (c_hasPiece hV (hHe τ he) (hse τ he) hp (hhe τ he) hxn ?_)))
      · rw [cx, r3 x hxn] at g
        by_cases hc : q_mem V (-1) p x = true ∧ q_lab V (-1) p x < x
        · unfold q_isr
          rw [decide_eq_false (by have := hc.2; omega), Bool.and_false]
        · rw [if_neg hc] at g; exact absurd rfl g
      · cases hm : q_mem V (-1) p x with
        | false => exact b55_54 (fun _ => pass (by unfold q_isr; rw [hm]; rfl)) (fun z => absurd rfl z)
        | true =>
          rw [cx, r3 x hxn] at g
          have hlx : q_lab V (-1) p x = x := by
            have h1 := (q_lab_ok hxn hm).1
            apply Decidable.byContradiction
            intro hne
            rw [if_pos ⟨hm, by omega⟩] at g
            exact absurd (Decidable.not_not.mp g) (fun z => q_m1ne (by have := q_cnt_le (q_isr V (-1) p) (q_lab V (-1) p x); omega) z.symm)
          have hir : q_isr V (-1) p x = true := by unfold q_isr; rw [hm, decide_eq_true hlx]; rfl
          obtain ⟨ig, cg⟩ := q_lt (j := q_cnt (q_isr V (-1) p) x) (N := 40) (by omega) (by decide)
          refine b55_54 (fun z => absurd z (by decide)) (fun _ => b55_57 (by rw [r2]; exact ig) (b55_67 ?_))
          rw [r2, cg]
          generalize eg : q_cnt (q_isr V (-1) p) x = g0 at r2 cle ig cg
          have he1 : k_e k_sl k_t0 σ (px_uI τ 27 g0 (nI x)) := he.tr (k_e.uI (by unfold k_sl; omega))
          have e57 : (px_uI τ 27 g0 (nI x)).1 5 7 = nI g0 := by rw [q_uc (by decide)]; exact r2
          rw [e57]
          refine c_gather hV (hHe _ he1) (hse _ he1) hp (hhe _ he1) hxn hir (by omega) (fun y hy h1 h2 => ?_) (fun τ' he' h25 => b55_84 ig (b55_85 (b55_95 ?_)))
          · rw [q_uc (by decide), r3 y hy, if_neg (fun z => by have := z.2; omega)]
          · rw [cg]
            have sub : k_e k_sl k_t0 (px_uI τ 27 g0 (nI x)) τ' := he'.mono (fun c hc => by unfold k_sg at hc; unfold k_sl; omega) (fun _ => id)
            have e26 : (px_uI τ' 26 g0 (nI (q_cnt (fun y => q_mem V (-1) p y && decide (q_lab V (-1) p y = x)) (v_n V)))).1 5 7 = nI g0 := by rw [q_uc (by decide), he'.1 5 (by unfold k_sg; omega)]; exact e57
            rw [e26, nI_1, nI_1]
            refine ih (x + 1) _ (by omega) (((he1.tr sub).tr (k_e.uI (by unfold k_sl; omega))).tr (k_e.uI (by unfold k_sl; omega))) ⟨?_, ?_, fun y hy => ?_, fun r hr hir2 => ?_⟩
            · rw [q_u, if_neg (by decide), q_uc (by decide), he'.1 5 (by unfold k_sg; omega), q_uc (by decide)]; exact r1
            · rw [q_u, if_pos ⟨rfl, rfl⟩, q_cnt, eg, hir]; rfl
            · rw [q_uc (by decide), q_uc (by decide), h25 y, q_uc (by decide), r3 y hy, decide_eq_true hy, Bool.true_and]
              cases hmy : q_mem V (-1) p y with
              | false => rw [Bool.false_and, if_neg (by decide), if_neg (fun z => by cases z.1), if_neg (fun z => by cases z.1)]
              | true =>
                rw [Bool.true_and]
                by_cases hly : q_lab V (-1) p y = x
                · rw [decide_eq_true hly, if_pos rfl, if_pos ⟨rfl, by omega⟩, hly, eg]
                · rw [decide_eq_false hly, if_neg (by decide)]
                  by_cases hlt : q_lab V (-1) p y < x
                  · rw [if_pos ⟨rfl, hlt⟩, if_pos ⟨rfl, by omega⟩]
                  · rw [if_neg (fun z => hlt z.2), if_neg (fun z => by have := z.2; omega)]
            · by_cases hrx : r = x
              · subst hrx
                rw [eg]
                exact ⟨by rw [q_uc (by decide), q_u, if_pos ⟨rfl, rfl⟩], by rw [q_uc (by decide), q_uc (by decide), he'.1 27 (by unfold k_sg; omega), q_u, if_pos ⟨rfl, rfl⟩]⟩
              · obtain ⟨k1, k2⟩ := r4 r (by omega) hir2
                have hne : q_cnt (q_isr V (-1) p) r ≠ g0 := fun z => hrx (q_cnt_inj hir2 hir (by rw [z, eg]))
                exact ⟨by rw [q_uc (by decide), q_u, if_neg (fun z => hne z.2), he'.1 26 (by unfold k_sg; omega), q_uc (by decide)]; exact k1, by rw [q_uc (by decide), q_uc (by decide), he'.1 27 (by unfold k_sg; omega), q_u, if_neg (fun z => hne z.2)]; exact k2⟩
  rcases hI.2.2.2.2.2.2.2.2.1 with z | ⟨z, -⟩
  · refine e55 (b55_0 (fun _ => b55_8 (b55_13 (b55_18 (c_fill (N := 40) (by decide) (fun _ => rfl) (fun τ h1 h2 h3 => b55_26 ?_))))) (fun g => absurd z g))
    refine loop (v_n V) 0 τ (by omega) ⟨fun c hc => ?_, fun c _ => by rw [h3]; rfl, by rw [h3]; rfl⟩ ⟨?_, ?_, fun y hy => ?_, fun r hr => absurd hr (Nat.not_lt_zero _)⟩
    · rw [h1 c (fun e => hc (by rw [e]; unfold k_sl; omega)), q_uc (fun e => hc (by rw [e]; unfold k_sl; omega)), q_uc (fun e => hc (by rw [e]; unfold k_sl; omega))]
    · rw [h1 5 (by decide), q_u, if_pos ⟨rfl, rfl⟩]
    · rw [h1 5 (by decide), q_u, if_neg (by decide), q_u, if_pos ⟨rfl, rfl⟩]; rfl
    · rw [h2 y (by omega), if_neg (fun z => by have := z.2; omega)]
  · exact e55 (b55_0 (fun g => absurd g (by rw [z]; decide)) (fun _ => b55_7 (h σ hI hK z k_fr.rf)))
theorem k_I.grp (hI : k_I V σ) (h1 : σ.1 5 8 = 1) : k_grp V σ ∧ (σ.1 5 9 = -1 ∨ ∃ g, g < q_gs V (-1) (q_par V (-1)) ∧ σ.1 5 9 = nI g ∧ k_row V g σ) := by
  rcases hI.2.2.2.2.2.2.2.2.1 with z | ⟨-, z⟩
  · rw [h1] at z; exact absurd z (by decide)
  · exact z
theorem c_group {x : Int32} (hV : q_wf V) (hI : k_I V σ) (h : ∀ τ, k_I V τ → k_fr σ τ → Q (some (.int (sp_group V x))) τ) : Cw (d + 8) 66 [.ref 0, .int x] σ Q := by
  have hn := hV.1
  refine e66 (b66_0 (c_has hV hI.1 (fun j hj ej => ?_) (fun hno => ?_)))
  · subst ej
    obtain ⟨ij, cj⟩ := q_lt (j := j) (N := 40) (by omega) (by decide)
    unfold sp_group at h
    rw [if_pos (q_has_nI hn hj), cj] at h
    refine b66_8 (fun _ => b66_15 (c_refresh hV (Or.inl rfl) hI (fun τ hIt hK hf => b66_23 (c_lostRefresh hV hIt hK (fun τ2 hI2 hK2 h2 hf2 => b66_30 ij ?_))))) (fun z => absurd (by decide) z)
    rw [cj, (hI2.grp h2).1.1 j hj]
    exact h τ2 hI2 (hf.tr hf2)
  · unfold sp_group at h
    rw [if_neg (fun z => by obtain ⟨j, h1, h2⟩ := q_has_of z; exact hno j h1 h2)] at h
    exact b66_8 (fun g => absurd rfl g) (fun _ => b66_11 (h σ hI k_fr.rf))
theorem c_seenLetters (hV : q_wf V) (hH : k_H V σ) (h : Q (some (.int (nI (q_cnt (q_seen V (-1)) (v_n V))))) σ) : Cw (d + 4) 48 [.ref 1] σ Q := by
  have hn := hV.1
  have loop : ∀ m y, y + m = v_n V → Wp (d + 3) tb_48 4 [.ref 1, .int (nI (q_cnt (q_seen V (-1)) y)), .int (nI y)] [] σ Q := by
    intro m
    induction m with
    | zero =>
      intro y hy
      rw [show y = v_n V by omega]
      exact b48_4 (fun _ => b48_29 h) (fun g => absurd (by rw [hH.1]; exact Int32.le_refl _) g)
    | succ m ih =>
      intro y hy
      have ih := ih (y + 1) (by omega)
      rw [q_cnt] at ih
      refine b48_4 (fun g => absurd g (by rw [hH.1]; exact nI_ge (by omega) (by omega))) (fun _ => b48_12 (c_isSeen hV hH (by omega) ?_))
      cases hse : q_seen V (-1) y with
      | false =>
        rw [hse] at ih
        refine b48_17 (fun _ => b48_23 ?_) (fun g => absurd rfl g)
        rw [nI_1]
        exact ih
      | true =>
        rw [hse] at ih
        refine b48_17 (fun g => absurd g (by decide)) (fun _ => b48_20 (b48_23 ?_))
        rw [nI_1, nI_1]
        exact ih
  exact e48 (b48_0 (loop (v_n V) 0 (by omega)))
theorem q_sum_cg {f g : Nat → Nat} : ∀ n, (∀ i, i < n → f i = g i) → q_sum f n = q_sum g n
  | 0, _ => rfl
  | n + 1, h => by rw [q_sum, q_sum, q_sum_cg n (fun i hi => h i (by omega)), h n (by omega)]
theorem q_alts_all (hV : q_wf V) (a : Int32) : q_alts V a (q_par V a) = q_sum (fun x => q_cnt (fun l => q_alt V (q_par V a) (14 * x + l)) (v_sz V x)) (v_n V) := by
  unfold q_alts
  refine q_sum_cg _ (fun x hx => ?_)
  cases hse : q_seen V a x with
  | true => rw [if_pos rfl]
  | false =>
    rw [if_neg (by decide)]
    have : q_cnt (fun l => q_alt V (q_par V a) (14 * x + l)) (v_sz V x) = q_cnt (fun _ => false) (v_sz V x) := by
      refine q_cnt_cg _ (fun l hl => ?_)
      have hd := (q_sp_div hV hx hl).1
      have hq : q_held V (q_par V a) (14 * x + l) = none := by
        unfold q_held
        rw [hd]
        cases hpx : q_par V a x with
        | none => rfl
        | some y => rw [q_par_seen hV hpx] at hse; cases hse
      unfold q_alt
      rw [hq]
    rw [this, q_cnt_f]
theorem q_qrl_all (hV : q_wf V) (a : Int32) : q_cnt (fun x => q_seen V a x && q_qrl V (q_par V a) x) (v_n V) = q_cnt (q_qrl V (q_par V a)) (v_n V) := by
  refine q_cnt_cg _ (fun x hx => ?_)
  cases hse : q_seen V a x with
  | true => rfl
  | false =>
    cases hpx : q_par V a x with
    | none => unfold q_qrl; rw [hpx]; rfl
    | some y => rw [q_par_seen hV hpx] at hse; cases hse
theorem c_countFindings {w : Int32} (hV : q_wf V) (hI : k_I V σ) (hK : k_kin V (-1) 3 σ) (hw : 3 ≤ w.toInt ∧ w.toInt ≤ 7) (h : ∀ τ, k_I V τ → k_fr σ τ → Q (some (.int (sp_count V w))) τ) : Cw (d + 7) 49 [.ref 0, .int w] σ Q := by
  have hn := hV.1
  have hk : (3 : Nat) = 3 ∨ (3 : Nat) = 4 := Or.inl rfl
  have hp := q_par_ok hV (-1)
  unfold sp_count at h
  have h0 := h σ hI k_fr.rf
  refine e49 (b49_0 (fun hd => b49_72 (c_quarrels hV hk hI.1 hp hK.1 (b49_79 ?_))) (fun j t hjt hj => ?_))
  · have e7 : w.toInt = 7 := by omega
    rw [e7] at h0
    rw [← q_qrl_all hV]
    exact h0
  · match j, hjt, hj with
    | 0, hjt, hj =>
      cases hjt
      have e6 : w.toInt = 3 := by omega
      rw [e6] at h0
      exact b49_32 (c_roots hV hk hI.1 hK.2.2 hp hK.1 (b49_39 h0))
    | 1, hjt, hj =>
      cases hjt
      have e6 : w.toInt = 4 := by omega
      rw [e6] at h0
      refine b49_40 (c_alteredLines hV hk hI.1 hp hK.hd (b49_47 ?_))
      rw [← q_alts_all hV]
      exact h0
    | 2, hjt, hj =>
      cases hjt
      have e6 : w.toInt = 5 := by omega
      rw [e6] at h0
      exact b49_48 (c_linesFrom (o := none) hV hk hI.1 hK.2.2 hp hK.hd rfl (fun z hz => by cases hz) (b49_56 h0))
    | 3, hjt, hj =>
      cases hjt
      have e6 : w.toInt = 6 := by omega
      rw [e6] at h
      refine b49_57 (c_lostRefresh hV hI hK (fun τ2 hI2 hK2 h2 hf2 => b49_64 ?_))
      rw [(hI2.grp h2).1.2.1]
      exact h τ2 hI2 hf2
    | j + 4, hjt, hj => cases hjt
theorem c_count {w : Int32} (hV : q_wf V) (hI : k_I V σ) (h : ∀ τ, k_I V τ → k_fr σ τ → Q (some (.int (sp_count V w))) τ) : Cw (d + 8) 47 [.ref 0, .int w] σ Q := by
  have hn := hV.1
  have h0 := h σ hI k_fr.rf
  unfold sp_count at h0
  have rest : ¬ (w.toInt = 0 ∨ w.toInt = 1 ∨ w.toInt = 2 ∨ w.toInt = 8 ∨ w.toInt = 9 ∨ w.toInt = 10) → Wp (d + 7) tb_47 105 [.ref 0, .int w] [] σ Q := by
    intro hz
    have out : ¬ (3 ≤ w.toInt ∧ w.toInt ≤ 7) → Wp (d + 7) tb_47 115 [.ref 0, .int w] [] σ Q := fun hy => by
      unfold q_ctf at h0
      rw [if_neg (by omega), if_neg (by omega), if_neg (by omega), if_neg (by omega), if_neg (by omega), if_neg (by omega), if_neg (by omega), if_neg (by omega), if_neg (by omega), if_neg (by omega), if_neg (by omega)] at h0
      exact b47_115 h0
    refine b47_105 (fun g => out ?_) (fun g => b47_109 (fun g2 => ?_) (fun g2 => out ?_))
    · rw [k_neg] at g; omega
    · rw [k_neg] at g
      rw [k_le (n := 10) (by decide)] at g2
      exact b47_119 (c_refresh hV (Or.inl rfl) hI (fun τ hIt hK hf => b47_127 (c_countFindings hV hIt hK (by omega) (fun τ2 hI2 hf2 => b47_132 (h τ2 hI2 (hf.tr hf2))))))
    · rw [k_le (n := 10) (by decide)] at g2; omega
  refine e47 (b47_0 (fun hd => rest (by omega)) (fun j t hjt hj => ?_))
  match j, hjt, hj with
  | 0, hjt, hj =>
    cases hjt
    have e6 : w.toInt = 0 := by omega
    rw [e6] at h0
    exact b47_60 (by rw [hI.1.1]; exact h0)
  | 1, hjt, hj =>
    cases hjt
    have e6 : w.toInt = 1 := by omega
    rw [e6] at h0
    exact b47_68 (c_seenLetters hV hI.1 (b47_75 h0))
  | 2, hjt, hj =>
    cases hjt
    have e6 : w.toInt = 2 := by omega
    rw [e6] at h0
    exact b47_76 (by rw [hI.2.2.1.2]; exact h0)
  | 3, hjt, hj => cases hjt; exact rest (by omega)
  | 4, hjt, hj => cases hjt; exact rest (by omega)
  | 5, hjt, hj => cases hjt; exact rest (by omega)
  | 6, hjt, hj => cases hjt; exact rest (by omega)
  | 7, hjt, hj => cases hjt; exact rest (by omega)
  | 8, hjt, hj =>
    cases hjt
    have e6 : w.toInt = 8 := by omega
    rw [e6] at h0
    exact b47_81 (by rw [hI.2.2.2.1.1]; exact h0)
  | 9, hjt, hj =>
    cases hjt
    have e6 : w.toInt = 9 := by omega
    rw [e6] at h0
    exact b47_89 (by rw [hI.2.2.2.2.1.1]; exact h0)
  | 10, hjt, hj =>
    cases hjt
    have e6 : w.toInt = 10 := by omega
    rw [e6] at h0
    exact b47_97 (by rw [hI.1.2.1]; exact h0)
  | j + 11, hjt, hj => cases hjt
end KLR
