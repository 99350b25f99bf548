/-! ===== the reference finds all parents ===== -/
section QP
variable {d : Nat} {Q : Option Value → px_S → Prop} {σ : px_S} {V : QV} {a : Int32}
def q_s3 (k : Nat) : Prop := k = 47 ∨ k = 48 ∨ k = 49
theorem q_s3_scr : ∀ k, q_s3 k → q_scr k := by intro k h; unfold q_s3 at h; unfold q_scr; omega
theorem q_s23 : ∀ k, q_s2 k → q_s3 k := by intro k h; unfold q_s2 at h; unfold q_s3; omega
theorem q_row_up {p : Nat → Option Nat} {n x : Nat} {τ : px_S} {c : Option Nat} {v : Int32} (hr : q_row p n τ) (hv : v = q_bi c) : q_row (va_up p x c) n (px_uI τ 49 x v) := by
  intro y hy
  rw [q_u]
  by_cases h : y = x
  · subst h
    rw [if_pos ⟨rfl, rfl⟩, hv]
    unfold q_rw q_bi
    rw [va_up_self]
    cases c <;> rfl
  · rw [if_neg (fun z => h z.2), hr y hy]
    unfold q_rw
    rw [va_up_ne _ _ h]
/-- the row of parents: as it was, or letters or -1 -/
def q_pk (σ τ : px_S) : Prop := ∀ y, τ.1 49 y = σ.1 49 y ∨ τ.1 49 y = -1 ∨ ∃ z, z < 40 ∧ τ.1 49 y = nI z
theorem q_pk.rf {σ : px_S} : q_pk σ σ := fun _ => Or.inl rfl
theorem q_pk.tr {σ τ υ : px_S} (h1 : q_pk σ τ) (h2 : q_pk τ υ) : q_pk σ υ := fun y => by
  rcases h2 y with h | h
  · rw [h]; exact h1 y
  · exact Or.inr h
theorem q_pk.eqx {S : Nat → Prop} {σ τ : px_S} (h : q_eqx S σ τ) (hS : ¬ S 49) : q_pk σ τ := fun y => Or.inl (by rw [h.2 49 hS])
theorem q_pk.row {p : Nat → Option Nat} {n : Nat} {σ τ : px_S} (hn : n ≤ 40) (hp : q_okp p n) (hr : q_row p n τ) (hk : ∀ y, n ≤ y → τ.1 49 y = σ.1 49 y) : q_pk σ τ := fun y => by
  by_cases hy : y < n
  · right
    rw [hr y hy]
    cases h : p y with
    | none => left; unfold q_rw; rw [h]
    | some z =>
      obtain ⟨r, hrr⟩ := hp
      exact Or.inr ⟨z, by have := (hrr y z h).2.1; omega, by unfold q_rw; rw [h]⟩
  · exact Or.inl (hk y (by omega))
theorem m_findParents (hV : q_wf V) (hM : q_Ma V a σ) (h : ∀ τ, q_eqx q_s3 σ τ → q_row (q_par V a) (v_n V) τ → q_pk σ τ → Q none τ) : Cw (d + 6) 148 [.ref 9] σ Q := by
  have hn := hV.1
  have loop2 : ∀ m x (τ : px_S) (v2 v3 : Value), x + m = v_n V → q_eqx q_s3 σ τ → q_row (q_ps V a x) (v_n V) τ → (∀ y, v_n V ≤ y → τ.1 49 y = σ.1 49 y) → px_nc v2 = true → px_nc v3 = true → Wp (d + 5) tb_148 25 [.ref 9, .int (nI x), v2, v3] [] τ Q := by
    intro m
    induction m with
    | zero =>
      intro x τ v2 v3 hx he hr hk n2 n3
      have hMt : q_Ma V a τ := hM.eqx (he.mono q_s3_scr)
      have e : x = v_n V := by omega
      subst e
      exact b148_25 (fun _ => b148_110 (h τ he hr (q_pk.row hn (q_ps_ok hV (v_n V) (Nat.le_refl _)).1 hr hk))) (fun g => absurd (by rw [hMt.1]; exact Int32.le_refl _) g)
    | succ m ih =>
      intro x τ v2 v3 hx he hr hk n2 n3
      have hMt : q_Ma V a τ := hM.eqx (he.mono q_s3_scr)
      obtain ⟨hp, hnone⟩ := q_ps_ok (a := a) hV x (by omega)
      obtain ⟨ix, cx⟩ := q_lt (j := x) (N := 40) (by omega) (by decide)
      have nx : τ.1 40 x = v_nm V x := (hMt.2.1 x (by omega)).2.2.1
      have store : ∀ (τ' : px_S) (v2 v3 s0 : Int32) (c : Option Nat), q_eqx q_s3 σ τ' → q_row (q_ps V a x) (v_n V) τ' → (∀ y, v_n V ≤ y → τ'.1 49 y = σ.1 49 y) → s0 = q_bi c → c = q_ch V a (q_ps V a x) x → Wp (d + 5) tb_148 103 [.ref 9, .int (nI x), .int v2, .int v3] [.int s0, .int (nI x), .ref 49] τ' Q := by
        intro τ' v2 v3 s0 c he' hr' hk' e0 ec
        refine b148_103 ix (b148_104 ?_)
        rw [cx, nI_1]
        refine ih (x + 1) _ _ _ (by omega) (he'.tr (q_eqx.uI (Or.inr (Or.inr rfl)))) ?_ (fun y hy => by rw [q_u, if_neg (fun z => by have := z.2; omega)]; exact hk' y hy) rfl rfl
        rw [q_ps, ← ec]
        exact q_row_up hr' e0
      refine b148_25 (fun g => absurd g (by rw [hMt.1]; exact nI_ge (by omega) (by omega))) (fun _ => b148_33 n2 n3 (m_isSeen hV hMt (by omega) ?_))
      cases hs : q_seen V a x with
      | false =>
        refine b148_38 (fun _ => b148_104 ?_) (fun g => absurd rfl g)
        rw [nI_1]
        refine ih (x + 1) τ v2 v3 (by omega) he ?_ hk n2 n3
        have ec : q_ch V a (q_ps V a x) x = none := by unfold q_ch; rw [hs]; rfl
        rw [q_ps, ec]
        intro y hy
        rw [hr y hy]
        unfold q_rw
        by_cases hyx : y = x
        · subst hyx; rw [va_up_self, hnone y (Nat.le_refl _)]
        · rw [va_up_ne _ _ hyx]
      | true =>
        have fitg : ∀ (v2 v3 : Int32), q_named V a (q_ps V a x) x = none → Wp (d + 5) tb_148 98 [.ref 9, .int (nI x), .int v2, .int v3] [.int (nI x), .ref 49] τ Q := by
          intro v2 v3 hnm
          refine b148_98 (m_fitting hV hMt hp hr (by omega) (fun τ' he' => ?_))
          refine store τ' v2 v3 _ _ (he.tr (he'.mono q_s23)) (fun y hy => ?_) (fun y hy => ?_) rfl ?_
          · rw [he'.2 49 (by unfold q_s2; omega)]; exact hr y hy
          · rw [he'.2 49 (by unfold q_s2; omega)]; exact hk y hy
          · unfold q_ch; rw [hs, hnm]; rfl
        have no : ∀ (v3 : Value), q_named V a (q_ps V a x) x = none → Wp (d + 5) tb_148 83 [.ref 9, .int (nI x), .int (v_nm V x), v3] [] τ Q := fun v3 hnm => b148_83 (b148_84 (fun _ => fitg _ _ hnm) (fun g => absurd rfl g))
        refine b148_38 (fun g => absurd g (by decide)) (fun _ => b148_41 ix (fun g => ?_) (fun g => ?_))
        · rw [cx, nx] at g ⊢
          refine no v3 ?_
          have e : q_nmo V x = none := by unfold q_nmo; rw [if_pos g]
          unfold q_named; rw [e]
        · rw [cx, nx] at g ⊢
          obtain ⟨y, hy⟩ : ∃ y, q_nmo V x = some y := ⟨_, by unfold q_nmo; rw [if_neg g]⟩
          obtain ⟨hyx, ey⟩ := q_nmo_lt hV (by omega) hy
          have er : τ.1 37 (2 : Int32).toNatClampNeg = v_ru V 2 := hMt.2.2.2.2.2.2.1 2 (by decide)
          have nmd : ∀ c : Prop, [Decidable c] → (c ↔ (v_ru V 2 = 1 ∧ q_seen V a y = true ∧ q_cm (q_ps V a x) y x = false)) → q_named V a (q_ps V a x) x = if c then some y else none := by
            intro c _ hc
            unfold q_named
            rw [hy]
            dsimp only
            by_cases hcc : c
            · rw [if_pos hcc, if_pos (hc.mp hcc)]
            · rw [if_neg hcc, if_neg (fun z => hcc (hc.mpr z))]
          refine b148_52 (by unfold vp_in; decide) (fun g2 => ?_) (fun g2 => ?_)
          · rw [er] at g2
            exact no v3 ((nmd False ⟨fun z => z.elim, fun z => g2 z.1⟩).trans (if_neg id))
          · rw [er] at g2
            have g2 := Decidable.not_not.mp g2
            rw [ey]
            refine b148_62 n3 (m_isSeen hV hMt (by omega) ?_)
            cases hsy : q_seen V a y with
            | false =>
              refine b148_67 (fun _ => ?_) (fun g => absurd rfl g)
              rw [← ey]
              exact no v3 ((nmd False ⟨fun z => z.elim, fun z => by rw [hsy] at z; cases z.2.1⟩).trans (if_neg id))
            | true =>
              refine b148_67 (fun g => absurd g (by decide)) (fun _ => b148_70 n3 (m_comesTo hp hn hr (by omega) (by omega) ?_))
              cases hcm : q_cm (q_ps V a x) y x with
              | true =>
                refine b148_76 (fun _ => ?_) (fun g => absurd (by decide) g)
                rw [← ey]
                exact no v3 ((nmd False ⟨fun z => z.elim, fun z => by rw [hcm] at z; cases z.2.2⟩).trans (if_neg id))
              | false =>
                have hnm : q_named V a (q_ps V a x) x = some y := (nmd True ⟨fun _ => ⟨g2, hsy, hcm⟩, fun _ => trivial⟩).trans (if_pos trivial)
                refine b148_76 (fun g => absurd rfl g) (fun _ => b148_79 (b148_84 (fun g => absurd g (by decide)) (fun _ => b148_94 (store τ _ _ _ (some y) he hr hk rfl ?_))))
                unfold q_ch; rw [hs, hnm]; rfl
  have loop1 : ∀ m x (τ : px_S), x + m = v_n V → q_eqx q_s3 σ τ → (∀ y, y < x → τ.1 49 y = -1) → (∀ y, v_n V ≤ y → τ.1 49 y = σ.1 49 y) → Wp (d + 5) tb_148 2 [.ref 9, .int (nI x), .null, .null] [] τ Q := by
    intro m
    induction m with
    | zero =>
      intro x τ hx he hr hk
      have hMt : q_Ma V a τ := hM.eqx (he.mono q_s3_scr)
      have e : x = v_n V := by omega
      subst e
      refine b148_2 (fun _ => b148_23 (loop2 (v_n V) 0 τ _ _ (by omega) he (fun y hy => hr y hy) hk rfl rfl)) (fun g => absurd (by rw [hMt.1]; exact Int32.le_refl _) g)
    | succ m ih =>
      intro x τ hx he hr hk
      have hMt : q_Ma V a τ := hM.eqx (he.mono q_s3_scr)
      obtain ⟨ix, cx⟩ := q_lt (j := x) (N := 40) (by omega) (by decide)
      refine b148_2 (fun g => absurd g (by rw [hMt.1]; exact nI_ge (by omega) (by omega))) (fun _ => b148_10 ix (b148_17 ?_))
      rw [cx, nI_1]
      refine ih (x + 1) _ (by omega) (he.tr (q_eqx.uI (Or.inr (Or.inr rfl)))) (fun y hy => ?_) (fun y hy => by rw [q_u, if_neg (fun z => by have := z.2; omega)]; exact hk y hy)
      rw [q_u]
      by_cases hyx : y = x
      · rw [if_pos ⟨rfl, hyx⟩]
      · rw [if_neg (fun z => hyx z.2)]; exact hr y (by omega)
  exact e148 (b148_0 (loop1 (v_n V) 0 σ (by omega) q_eqx.rf (fun y hy => absurd hy (Nat.not_lt_zero _)) (fun _ _ => rfl)))
/-- the parents that were found: facts -/
theorem q_par_ok (hV : q_wf V) (a : Int32) : q_okp (q_par V a) (v_n V) := (q_ps_ok hV (v_n V) (Nat.le_refl _)).1
end QP
