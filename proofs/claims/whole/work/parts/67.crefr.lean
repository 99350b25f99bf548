/-! ===== the class: all parents and held lines found anew ===== -/
def k_sk (k c : Nat) : Prop := c = 18 ∨ c = 19 ∨ c = 20 ∨ c = k ∨ c = 2 * k + 15 ∨ c = 2 * k + 16
def k_tk (k c : Nat) : Prop := c = k
section KR
variable {d : Nat} {Q : Option Value → px_S → Prop} {σ : px_S} {V : QV} {k : Nat} {a : Int32}
theorem k_I.kin {τ : px_S} (hk : k = 3 ∨ k = 4) (hI : k_I V σ) (he : k_e (k_sk k) (k_tk k) σ τ) (hF : k_F V τ) (hK : k_K V k τ) : k_I V τ := by
  obtain ⟨i1, i2, i3, i4, i5, -, i7, i8, i9, i10⟩ := hI
  have c : ∀ c, ¬ (c = 18 ∨ c = 19 ∨ c = 20 ∨ c = k ∨ c = 2 * k + 15 ∨ c = 2 * k + 16) → τ.1 c = σ.1 c := fun c hc => he.1 c hc
  have l : ∀ c, c ≠ k → τ.2.1 c = σ.2.1 c := fun c hc => he.2.1 c hc
  refine ⟨i1.fr (c 1 (by omega)) (fun j k1 k2 => c j (by omega)) (l 1 (by omega)) (l 17 (by omega)), i2.fr (c 10 (by omega)), i3.fr (c 0 (by omega)) (l 0 (by omega)), i4.fr (c 7 (by omega)) (c 34 (by omega)), i5.fr (c 8 (by omega)) (c 35 (by omega)), hF, ?_, ?_, i9.fr (c 5 (by omega)) (c 25 (by omega)) (c 26 (by omega)) (c 27 (by omega)) (c 6 (by omega)) (l 32 (by omega)), i10.fr (c 33 (by omega)) he.2.2⟩
  · rcases hk with rfl | rfl
    · exact hK
    · exact i7.fr (c 3 (by omega)) (c 21 (by omega)) (c 22 (by omega)) (l 3 (by omega))
  · rcases hk with rfl | rfl
    · exact i8.fr (c 4 (by omega)) (c 23 (by omega)) (c 24 (by omega)) (l 4 (by omega))
    · exact hK
theorem k_H.ek {τ : px_S} (hk : k = 3 ∨ k = 4) (hH : k_H V σ) (he : k_e (k_sk k) (k_tk k) σ τ) : k_H V τ := hH.fr (he.1 1 (by unfold k_sk; omega)) (fun j k1 k2 => he.1 j (by unfold k_sk; omega)) (he.2.1 1 (by unfold k_tk; omega)) (he.2.1 17 (by unfold k_tk; omega))
theorem k_R.ek {τ : px_S} (hk : k = 3 ∨ k = 4) (hR : k_R V σ) (he : k_e (k_sk k) (k_tk k) σ τ) : k_R V τ := hR.fr (he.1 10 (by unfold k_sk; omega))
theorem k_pr_up {p : Nat → Option Nat} {n x : Nat} {τ : px_S} {c : Option Nat} {v : Int32} (hr : k_pr k p n τ) (hv : v = q_bi c) : k_pr k (va_up p x c) n (px_uI τ (2 * k + 15) x v) := by
  intro y hy
  rw [q_u]
  by_cases h : y = x
  · subst h
    rw [if_pos ⟨rfl, rfl⟩, hv]
    unfold q_rw q_bi
    rw [va_up_self]
    cases c <;> rfl
  · rw [if_neg (fun z => h z.2), hr y hy]
    unfold q_rw
    rw [va_up_ne _ _ h]
theorem c_refresh (hV : q_wf V) (hk : k = 3 ∨ k = 4) (hI : k_I V σ) (h : ∀ τ, k_I V τ → k_kin V a k τ → k_fr σ τ → Q none τ) : Cw (d + 7) 23 [.ref k, .int a] σ Q := by
  have hn := hV.1
  have hH := hI.1
  have hR := hI.2.1
  have hF := hI.2.2.2.2.2.1
  have hK : k_K V k σ := by
    rcases hk with rfl | rfl
    · exact hI.2.2.2.2.2.2.1
    · exact hI.2.2.2.2.2.2.2.1
  have e17 : ∀ τ, k_e (k_sk k) (k_tk k) σ τ → τ.1 1 7 = nI (v_n V) := fun τ he => (hH.ek hk he).1
  have sub : ∀ τ τ' : px_S, k_e k_sf k_t0 τ τ' → k_e (k_sk k) (k_tk k) τ τ' := fun τ τ' he => he.mono (fun c hc => by unfold k_sf at hc; unfold k_sk; omega) (fun c hc => hc.elim)
  have loop3 : ∀ m x (τ : px_S), x + m = v_n V → k_e (k_sk k) (k_tk k) σ τ → k_F V τ → k_sn V a k τ → k_pr k (q_par V a) (v_n V) τ → (∀ y l, y < x → l < v_sz V y → τ.1 (2 * k + 16) (14 * y + l) = q_bi (q_held V (q_par V a) (14 * y + l))) → Wp (d + 6) tb_23 115 [.ref k, .int a, .int (nI x)] [] τ Q := by
    intro m
    induction m with
    | zero =>
      intro x τ hx he hFt hs hr hh
      refine b23_115 hk (fun _ => b23_137 hk (b23_142 hk (b23_147 hk ?_))) (fun g => absurd (by rw [e17 τ he]; exact nI_le (by omega) (by omega)) g)
      have he2 : k_e (k_sk k) (k_tk k) σ (px_uI (px_uI τ k 6 a) k 5 1) := (he.tr (k_e.uI (by unfold k_sk; omega))).tr (k_e.uI (by unfold k_sk; omega))
      have hkin : k_kin V a k (px_uI (px_uI τ k 6 a) k 5 1) := by
        refine ⟨fun y hy => ?_, fun y l hy hl => ?_, hs⟩
        · rw [q_uc (by omega), q_uc (by omega)]; exact hr y hy
        · rw [q_uc (by omega), q_uc (by omega)]; exact hh y l (by omega) hl
      refine h _ (hI.kin hk he2 (hFt.fr (by rw [q_uc (by omega), q_uc (by omega)])) (Or.inr ⟨by rw [q_u, if_pos ⟨rfl, rfl⟩], ?_⟩)) hkin (he2.fr (fun c hc => by unfold k_sk at hc; omega))
      have e6 : (px_uI (px_uI τ k 6 a) k 5 1).1 k 6 = a := by rw [q_u, if_neg (fun z => by omega), q_u, if_pos ⟨rfl, rfl⟩]
      rw [e6]
      exact hkin
    | succ m ih =>
      intro x τ hx he hFt hs hr hh
      refine b23_115 hk (fun g => absurd g (by rw [e17 τ he]; exact nI_ge (by omega) (by omega))) (fun _ => b23_126 hk (c_holdLines hV hk (hH.ek hk he) (hR.ek hk he) (q_par_ok hV a) hr (by omega) (fun τ' he' hw ho => b23_131 hk ?_)))
      rw [nI_1]
      refine ih (x + 1) τ' (by omega) (he.tr (he'.mono (fun c hc => by unfold k_sk; omega) (fun c hc => hc.elim))) (hFt.fr (he'.1 18 (by omega))) ?_ (fun y hy => by rw [he'.1 (2 * k + 15) (by omega)]; exact hr y hy) (fun y l hy hl => ?_)
      · unfold k_sn; rw [he'.2.1 k id]; exact hs
      · by_cases hyx : y = x
        · subst hyx; exact hw l hl
        · have := (hV.2.1 y (by omega)).1
          rw [ho _ (by omega)]; exact hh y l (by omega) hl
  have loop2 : ∀ m x (τ : px_S), x + m = v_n V → k_e (k_sk k) (k_tk k) σ τ → k_F V τ → k_sn V a k τ → k_pr k (q_ps V a x) (v_n V) τ → Wp (d + 6) tb_23 73 [.ref k, .int a, .int (nI x)] [] τ Q := by
    intro m
    induction m with
    | zero =>
      intro x τ hx he hFt hs hr
      have e : x = v_n V := by omega
      subst e
      exact b23_73 hk (fun _ => b23_113 hk (loop3 (v_n V) 0 τ (by omega) he hFt hs hr (fun y l hy => absurd hy (Nat.not_lt_zero _)))) (fun g => absurd (by rw [e17 τ he]; exact Int32.le_refl _) g)
    | succ m ih =>
      intro x τ hx he hFt hs hr
      obtain ⟨ix, cx⟩ := q_lt (j := x) (N := 40) (by omega) (by decide)
      obtain ⟨hp, hnone⟩ := q_ps_ok (a := a) hV x (by omega)
      have store : ∀ (τ' : px_S) (v : Int32), k_e k_sf k_t0 τ τ' → k_F V τ' → v = q_bi (q_ch V a (q_ps V a x) x) → Wp (d + 6) tb_23 106 [.ref k, .int a, .int (nI x)] [.int v, .int (nI x), .ref (2 * k + 15)] τ' Q := by
        intro τ' v he' hF' ev
        refine b23_106 hk ix (b23_107 hk ?_)
        rw [cx, nI_1]
        have hr' : k_pr k (q_ps V a x) (v_n V) τ' := fun y hy => by rw [he'.1 (2 * k + 15) (by unfold k_sf; omega)]; exact hr y hy
        refine ih (x + 1) _ (by omega) ((he.tr (sub τ τ' he')).tr (k_e.uI (by unfold k_sk; omega))) (hF'.fr (q_uc (by omega))) ?_ ?_
        · show k_sn V a k τ'
          unfold k_sn; rw [he'.2.1 k id]; exact hs
        · rw [q_ps]; exact k_pr_up hr' ev
      refine b23_73 hk (fun g => absurd g (by rw [e17 τ he]; exact nI_ge (by omega) (by omega))) (fun _ => b23_84 hk (c_seen hV hk hs (by omega) ?_))
      cases hse : q_seen V a x with
      | false =>
        refine b23_94 hk (fun _ => b23_105 hk (store τ _ k_e.rf hFt ?_)) (fun g => absurd rfl g)
        unfold q_ch; rw [hse]; rfl
      | true =>
        exact b23_94 hk (fun g => absurd g (by decide)) (fun _ => b23_97 hk (c_findParent hV hk (hH.ek hk he) (hR.ek hk he) hFt hs hp hr (by omega) hse (fun τ' hF' he' => b23_102 hk (store τ' _ he' hF' rfl))))
  have loop1 : ∀ m x (τ : px_S), x + m = v_n V → k_e (k_sk k) (k_tk k) σ τ → k_F V τ → q_set (τ.2.1 k 7) (fun i => decide (i < x) && q_seen V a i) → (∀ y, y < x → τ.1 (2 * k + 15) y = -1) → Wp (d + 6) tb_23 23 [.ref k, .int a, .int (nI x)] [] τ Q := by
    intro m
    induction m with
    | zero =>
      intro x τ hx he hFt hs hr
      have e : x = v_n V := by omega
      subst e
      exact b23_23 hk (fun _ => b23_71 hk (loop2 (v_n V) 0 τ (by omega) he hFt hs (fun y hy => hr y hy))) (fun g => absurd (by rw [e17 τ he]; exact Int32.le_refl _) g)
    | succ m ih =>
      intro x τ hx he hFt hs hr
      obtain ⟨ix, cx⟩ := q_lt (j := x) (N := 40) (by omega) (by decide)
      refine b23_23 hk (fun g => absurd g (by rw [e17 τ he]; exact nI_ge (by omega) (by omega))) (fun _ => b23_34 hk ix (b23_41 hk ?_))
      rw [cx]
      have he1 : k_e (k_sk k) (k_tk k) σ (px_uI τ (2 * k + 15) x (-1)) := he.tr (k_e.uI (by unfold k_sk; omega))
      have hF1 : k_F V (px_uI τ (2 * k + 15) x (-1)) := hFt.fr (q_uc (by omega))
      have hr1 : ∀ y, y < x + 1 → (px_uI τ (2 * k + 15) x (-1)).1 (2 * k + 15) y = -1 := fun y hy => by
        rw [q_u]
        by_cases hyx : y = x
        · rw [if_pos ⟨rfl, hyx⟩]
        · rw [if_neg (fun z => hyx z.2)]; exact hr y (by omega)
      refine c_isSeenWith hV (hH.ek hk he1) (by omega) ?_
      cases hse : q_seen V a x with
      | false =>
        refine b23_50 hk (fun _ => b23_65 hk ?_) (fun g => absurd rfl g)
        rw [nI_1]
        refine ih (x + 1) _ (by omega) he1 hF1 (fun i hi => ?_) hr1
        rw [show (px_uI τ (2 * k + 15) x (-1)).2.1 k 7 = τ.2.1 k 7 from rfl, hs i hi]
        show (decide (i < x) && q_seen V a i) = (decide (i < x + 1) && q_seen V a i)
        by_cases hix : i = x
        · rw [hix, hse]; simp
        · rw [show decide (i < x + 1) = decide (i < x) from decide_eq_decide.mpr (by omega)]
      | true =>
        refine b23_50 hk (fun g => absurd g (by decide)) (fun _ => b23_53 hk (b23_65 hk ?_))
        rw [nI_1]
        refine ih (x + 1) _ (by omega) (he1.tr (k_e.uL rfl)) hF1 (fun i hi => ?_) hr1
        rw [k_uL, if_pos ⟨rfl, rfl⟩]
        have h2 := hs.add (x := x) (by omega)
        rw [show (px_uI τ (2 * k + 15) x (-1)).2.1 k 7 = τ.2.1 k 7 from rfl, h2 i hi]
        show _ = (decide (i < x + 1) && q_seen V a i)
        by_cases hix : i = x
        · rw [hix, va_up_self, hse]; simp
        · rw [va_up_ne _ _ hix, show decide (i < x + 1) = decide (i < x) from decide_eq_decide.mpr (by omega)]
  have anew : Wp (d + 6) tb_23 16 [.ref k, .int a, .null] [] σ Q := by
    refine b23_16 hk (b23_21 hk (loop1 (v_n V) 0 _ (by omega) (k_e.uL rfl) hF (fun i hi => ?_) (fun y hy => absurd hy (Nat.not_lt_zero _))))
    rw [k_uL, if_pos ⟨rfl, rfl⟩, q_set.zero i hi]
    simp
  refine e23 (b23_0 hk (fun _ => anew) (fun g => b23_7 hk (fun _ => anew) (fun g2 => b23_15 hk (h σ hI ?_ k_fr.rf))))
  rcases hK with z | ⟨-, z⟩
  · exact absurd z g
  · rw [Decidable.not_not.mp g2] at z; exact z
end KR
