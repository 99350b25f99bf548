/-! ===== the class: a state gone through; the search; the row written; cells wiped ===== -/
theorem q_cnt_strict {f g : Nat → Bool} (h : ∀ i, f i = true → g i = true) {k : Nat} (hf : f k = false) (hg : g k = true) : ∀ n, k < n → q_cnt f n < q_cnt g n := by
  have mono : ∀ n, q_cnt f n ≤ q_cnt g n := by
    intro n
    induction n with
    | zero => exact Nat.le_refl _
    | succ n ih =>
      rw [q_cnt, q_cnt]
      cases hfn : f n with
      | false => rw [if_neg (by decide)]; omega
      | true => rw [h n hfn]; omega
  intro n
  induction n with
  | zero => intro h; omega
  | succ n ih =>
    intro hk
    rw [q_cnt, q_cnt]
    by_cases hkn : k = n
    · subst hkn
      have := mono k
      rw [hf, hg, if_neg (by decide), if_pos rfl]; omega
    · have := ih (by omega)
      cases hfn : f n with
      | false => rw [if_neg (by decide)]; omega
      | true => rw [h n hfn, if_pos rfl]; omega
def b_cf (ln : Nat → Nat) (tx : Nat → Nat → Nat) (u : Nat → Nat) (t k : Nat) : Bool := match b_hk ln tx u k with
  | some w => decide (w < t)
  | none => false
def b_T (S : Nat → Nat → Nat) (pr : Nat → Nat) (j : Nat) : Nat := if j = 0 then 0 else b_e (S j) - b_e (S (pr j))
def b_N (m : Nat) (S : Nat → Nat → Nat) (j : Nat) : Nat := if j + 1 < m then b_e (S (j + 1)) else 0
/-- the cells hold what was found -/
def b_C (m : Nat) (S : Nat → Nat → Nat) (pr : Nat → Nat) (τ : px_S) : Prop := (∀ j, j < m → τ.1 33 (b_e (S j)) = nI (b_T S pr j * 65536 + b_N m S j)) ∧ (∀ s, (∀ j, j < m → s ≠ b_e (S j)) → τ.1 33 s = 0)
def b_s33 (k : Nat) : Prop := k = 33
def b_t31 (k : Nat) : Prop := k = 31
section KGO
variable {d : Nat} {Q : Option Value → px_S → Prop} {σ : px_S} {ln : Nat → Nat} {tx : Nat → Nat → Nat} {P : Nat} {m q t : Nat} {S : Nat → Nat → Nat} {R : Nat → List Nat} {pr wd : Nat → Nat}
theorem b_P.fr {τ : px_S} (h : b_P ln tx P σ) (h6 : τ.1 6 5 = σ.1 6 5) (h30 : τ.1 30 = σ.1 30) (l29 : τ.2.1 29 = σ.2.1 29) : b_P ln tx P τ := by
  unfold b_P; rw [h6, h30, l29]; exact h
theorem b_D.T (hW : b_W ln tx P) (h : b_D ln tx m q t S R pr wd) {j : Nat} (h0 : 0 < j) (hj : j < m) : b_T S pr j = b_st ln tx (S (pr j)) (wd j) ∧ b_e (S j) = b_e (S (pr j)) + b_st ln tx (S (pr j)) (wd j) ∧ 0 < b_T S pr j ∧ b_T S pr j ≤ 4369 := by
  obtain ⟨e1, e2, e3, e4, e5⟩ := h.2.2.2.2.1 j h0 hj
  have hs := b_st_pos e3
  have hm : b_e (S j) = b_e (S (pr j)) + b_st ln tx (S (pr j)) (wd j) := by rw [e5, b_st_mv]
  have hT : b_T S pr j = b_st ln tx (S (pr j)) (wd j) := by unfold b_T; rw [if_neg (by omega), hm]; omega
  exact ⟨hT, hm, by rw [hT]; exact hs.1, by rw [hT]; exact hs.2⟩
theorem b_D.T4 (hW : b_W ln tx P) (h : b_D ln tx m q t S R pr wd) {j : Nat} (hj : j < m) : b_T S pr j ≤ 4369 := by
  rcases Nat.eq_zero_or_pos j with z | z
  · rw [z]; unfold b_T; rw [if_pos rfl]; omega
  · exact (h.T hW z hj).2.2.2
theorem b_D.lt (hW : b_W ln tx P) (h : b_D ln tx m q t S R pr wd) {j : Nat} (hj : j < m) : b_e (S j) < 16 ^ P ∧ b_e (S j) < 65536 := b_e_lt hW (h.2.1 j hj).1
theorem b_D.N (hW : b_W ln tx P) (h : b_D ln tx m q t S R pr wd) (j : Nat) : b_N m S j < 65536 := by
  unfold b_N
  split
  · exact (h.lt hW (by assumption)).2
  · omega
theorem b_D.inj (hW : b_W ln tx P) (h : b_D ln tx m q t S R pr wd) {i j : Nat} (hi : i < m) (hj : j < m) (he : b_e (S i) = b_e (S j)) : i = j := by
  have key : ∀ k, k < m → ∀ c, S k c ≤ 15 ∧ (4 ≤ c → S k c = 0) := fun k hk c => by
    have h1 := (h.2.1 k hk).1 c
    have h2 := hW.2.1 c
    refine ⟨by omega, fun hc => ?_⟩
    have h3 := hW.2.2.1 c (by have := hW.1; omega)
    omega
  have e : S i = S j := b_e_inj (fun c => (key i hi c).1) (fun c => (key j hj c).1) (fun c hc => by rw [(key i hi c).2 hc, (key j hj c).2 hc]) he
  rcases Nat.lt_trichotomy i j with z | z | z
  · exact absurd e (h.2.2.2.1 i j z hj)
  · exact z
  · exact absurd e.symm (h.2.2.2.1 j i z hi)
theorem b_D.le (hW : b_W ln tx P) (h : b_D ln tx m q t S R pr wd) : m ≤ 16 ^ P := by
  have h0 := h.1.1
  have := q_pig (16 ^ P) (m - 1) (fun j => b_e (S j)) (fun j hj => (h.lt hW (by omega)).1) (fun i j hij hj he => by
    have := h.inj hW (show i < m by omega) (show j < m by omega) he
    omega)
  omega
/-- a found state's cell isn't 0, the first one's aside -/
theorem b_C.ne (hW : b_W ln tx P) (h : b_D ln tx m q t S R pr wd) (hC : b_C m S pr σ) {j : Nat} (h0 : 0 < j) (hj : j < m) : ¬ σ.1 33 (b_e (S j)) = 0 := by
  obtain ⟨-, -, t1, t2⟩ := h.T hW h0 hj
  have hn := h.N hW j
  rw [hC.1 j hj]
  exact nI_ne0 (by omega) (by omega)
theorem c_goOn (hW : b_W ln tx P) (hPr : b_P ln tx P σ) (hlen : 16 ^ P ≤ σ.2.2.1 ∧ σ.2.2.1 ≤ 65536) (hD : b_D ln tx m q 0 S R pr wd) (hC : b_C m S pr σ) (hq : q < m)
    (h : ∀ τ m' S' R' pr' wd', b_D ln tx m' (q + 1) 0 S' R' pr' wd' → b_C m' S' pr' τ → m ≤ m' → S' q = S q → pr' q = pr q → k_e b_s33 b_t31 σ τ → Q (some (.int (nI (b_e (S' (m' - 1)))))) τ) : Cw (d + 2) 77 [.ref 6, .int (nI (b_e (S q))), .int (nI (b_e (S (m - 1))))] σ Q := by
  obtain ⟨hP4, hl14, hl0, htx⟩ := id hW
  obtain ⟨p1, p2, p3⟩ := id hPr
  have hSq := (hD.2.1 q hq).1
  have el := (hD.lt hW hq).2
  have u15 : ∀ k, S q k ≤ 15 := fun k => by have := hSq k; have := hl14 k; omega
  generalize eu : S q = u at hSq el u15
  generalize eb : b_e u = eq at el
  -- the heads of the state stand
  have second : ∀ (τ0 : px_S) (v4 : Value), k_e b_s33 b_t31 σ τ0 → τ0.1 33 = σ.1 33 → b_H ln tx u P τ0 → px_nc v4 = true → ∀ x3 : Int32, Wp (d + 1) tb_77 58 [.ref 6, .int (nI eq), .int (nI (b_e (S (m - 1)))), .int x3, v4, .null, .null, .null, .null] [] τ0 Q := by
    intro τ0 v4 he0 h33 hH0 n4 x3
    have rounds : ∀ n rd m' t' (S' : Nat → Nat → Nat) R' pr' wd' (o : Option Nat) (τ : px_S) (v7 v8 : Value), rd + n = P → px_nc v7 = true → px_nc v8 = true → k_e b_s33 b_t31 τ0 τ → b_H ln tx u P τ → b_D ln tx m' q t' S' R' pr' wd' → b_C m' S' pr' τ → m ≤ m' → S' q = u → pr' q = pr q → b_Ls ln tx u t' P o → rd ≤ q_cnt (b_cf ln tx u t') P → Wp (d + 1) tb_77 72 [.ref 6, .int (nI eq), .int (nI (b_e (S (m - 1)))), .int (nI (b_e (S' (m' - 1)))), .long (b_l o), .null, .int (nI rd), v7, v8] [] τ Q := by
      intro n
      induction n with
      | zero =>
        intro rd m' t' S' R' pr' wd' o τ v7 v8 hrd n7 n8 he hH hD' hC' hmm hSq' hpq hL hcnt
        have h6 : τ.1 6 5 = nI P := by rw [he.1 6 (by unfold b_s33; omega), he0.1 6 (by unfold b_s33; omega)]; exact p1
        have hall : ∀ v, q_hd ln tx (S' q) v → v < t' := by
          intro v hv
          rw [hSq', b_hd_iff hW] at hv
          obtain ⟨k, hk, ek⟩ := hv
          have := q_cnt_full (f := b_cf ln tx u t') P (by omega) k hk
          unfold b_cf at this
          rw [ek] at this
          exact of_decide_eq_true this
        refine b77_72 (fun _ => b77_164 (h τ m' S' R' pr' wd' (hD'.next hall) hC' hmm (by rw [hSq', eu]) hpq (he0.tr he))) (fun g => absurd (by rw [h6]; exact nI_le (by omega) (by omega)) g)
      | succ n ih =>
        intro rd m' t' S' R' pr' wd' o τ v7 v8 hrd n7 n8 he hH hD' hC' hmm hSq' hpq hL hcnt
        have h6 : τ.1 6 5 = nI P := by rw [he.1 6 (by unfold b_s33; omega), he0.1 6 (by unfold b_s33; omega)]; exact p1
        have hlen' : τ.2.2.1 = σ.2.2.1 := by rw [he.2.2, he0.2.2]
        have olt : ∀ v, o = some v → v < 2 ^ 48 := fun v hv => by
          obtain ⟨-, i, i1, i2⟩ := hL.1 v hv
          exact b_hk_lt hW i1 i2
        refine b77_72 (fun g => absurd g (by rw [h6]; exact nI_ge (by omega) (by omega))) (fun _ => b77_81 (fun g => ?_) (fun g => ?_))
        · rw [lg_cmp_eq, b_l_m1 olt] at g
          have hall : ∀ v, q_hd ln tx (S' q) v → v < t' := by
            intro v hv
            rw [hSq', b_hd_iff hW] at hv
            obtain ⟨k, hk, ek⟩ := hv
            rcases Nat.lt_or_ge v t' with z | z
            · exact z
            · obtain ⟨v', e1, -⟩ := hL.2 k v hk ek z
              rw [g] at e1; cases e1
          exact b77_164 (h τ m' S' R' pr' wd' (hD'.next hall) hC' hmm (by rw [hSq', eu]) hpq (he0.tr he))
        · rw [lg_cmp_eq, b_l_m1 olt] at g
          cases ho : o with
          | none => exact absurd ho g
          | some w =>
            have hwl := olt w ho
            obtain ⟨htw, kw, kw1, kw2⟩ := hL.1 w ho
            have hhd : q_hd ln tx (S' q) w := by rw [hSq', b_hd_iff hW]; exact ⟨kw, kw1, kw2⟩
            have hhdu : q_hd ln tx u w := by rw [← hSq']; exact hhd
            have hno : ∀ v, q_hd ln tx (S' q) v → v < w → v < t' := by
              intro v hv hvw
              rw [hSq', b_hd_iff hW] at hv
              obtain ⟨k, hk, ek⟩ := hv
              rcases Nat.lt_or_ge v t' with z | z
              · exact z
              · obtain ⟨v', e1, e2⟩ := hL.2 k v hk ek z
                rw [ho] at e1; cases e1; omega
            have hqm : q < m' := by omega
            have hmv : ∀ k, q_mv ln tx u w k ≤ ln k := q_mv_in (fun k => by rw [← hSq']; exact (hD'.2.1 q hqm).1 k)
            have emv : b_e (q_mv ln tx u w) = eq + b_st ln tx u w := by rw [b_st_mv, eb]
            have elt := b_e_lt hW hmv
            have hst := b_st_pos hhdu
            have hcnt2 : rd + 1 ≤ q_cnt (b_cf ln tx u (w + 1)) P := by
              refine Nat.lt_of_le_of_lt hcnt (q_cnt_strict (fun i hi => ?_) (k := kw) ?_ ?_ P kw1)
              · unfold b_cf at hi ⊢
                cases hz : b_hk ln tx u i with
                | none => rw [hz] at hi; cases hi
                | some v => rw [hz] at hi; exact decide_eq_true (by have := of_decide_eq_true hi; omega)
              · unfold b_cf; rw [kw2]; exact decide_eq_false (by omega)
              · unfold b_cf; rw [kw2]; exact decide_eq_true (by omega)
            -- the next text
            have goon : ∀ (m2 : Nat) (S2 : Nat → Nat → Nat) R2 pr2 wd2 (τ2 : px_S) (x7 x8 : Int32), k_e b_s33 b_t31 τ0 τ2 → b_H ln tx u P τ2 → b_D ln tx m2 q (w + 1) S2 R2 pr2 wd2 → b_C m2 S2 pr2 τ2 → m ≤ m2 → S2 q = u → pr2 q = pr q → Wp (d + 1) tb_77 150 [.ref 6, .int (nI eq), .int (nI (b_e (S (m - 1)))), .int (nI (b_e (S2 (m2 - 1)))), .long (b_l (some w)), .null, .int (nI rd), .int x7, .int x8] [] τ2 Q := by
              intro m2 S2 R2 pr2 wd2 τ2 x7 x8 he2 hH2 hD2 hC2 hm2 hS2 hp2
              have h62 : τ2.1 6 5 = nI P := by rw [he2.1 6 (by unfold b_s33; omega), he0.1 6 (by unfold b_s33; omega)]; exact p1
              refine b77_150 (c_leastHead hW h62 hH2 (fun v hv => by cases hv; exact hwl) (fun o2 hL2 => b77_156 ?_))
              rw [nI_1]
              exact ih (rd + 1) m2 (w + 1) S2 R2 pr2 wd2 o2 τ2 _ _ (by omega) rfl rfl he2 hH2 hD2 hC2 hm2 hS2 hp2 hL2 hcnt2
            refine b77_90 n7 n8 (c_stepBy hW h6 hH hwl (b77_96 (fun g2 => ?_) (fun g2 => b77_114 ?_ (fun g3 => ?_) (fun g3 => b77_124 ?_ (b77_136 ?_ ?_ (b77_147 ?_))))))
            · exfalso
              rw [nI_add, ← emv] at g2
              have g2 : nI τ.2.2.1 ≤ nI (b_e (q_mv ln tx u w)) := g2
              rw [hlen', nI_leI (by omega) (by omega)] at g2
              omega
            · rw [nI_add, ← emv, hlen']; exact vp_in_nI (by omega) (by omega)
            · -- known already
              rw [nI_add, ← emv, nI_clamp (by omega)] at g3
              obtain ⟨j, hj1, hj2⟩ : ∃ j, j < m' ∧ b_e (q_mv ln tx u w) = b_e (S' j) := by
                apply Classical.byContradiction
                intro hne
                exact g3 (hC'.2 _ (fun j hj he => hne ⟨j, hj, he⟩))
              have hSj : S' j = q_mv ln tx (S' q) w := by
                rw [hSq']
                have k1 := hD'.2.1 j hj1
                refine (b_e_inj (fun c => ?_) (fun c => ?_) (fun c hc => ?_) hj2).symm
                · have := hmv c; have := hl14 c; omega
                · have := k1.1 c; have := hl14 c; omega
                · have a1 := hmv c; have a2 := k1.1 c; have a3 := hl0 c (by omega); omega
              exact goon m' S' R' pr' wd' τ _ _ he hH (hD'.skip hqm hhd htw hno hj1 hSj) hC' hmm hSq' hpq
            · rw [nI_add, ← emv, hlen']; exact vp_in_nI (by omega) (by omega)
            · have := (hD'.lt hW (show m' - 1 < m' by omega)).1
              show vp_in _ τ.2.2.1
              rw [hlen']; exact vp_in_nI (by omega) (by omega)
            · have := (hD'.lt hW (show m' - 1 < m' by omega)).1
              show vp_in _ τ.2.2.1
              rw [hlen']; exact vp_in_nI (by omega) (by omega)
            · -- a new state
              rw [nI_add, ← emv, nI_clamp (by omega)] at g3
              have g3 := Decidable.not_not.mp g3
              have lastlt := hD'.lt hW (show m' - 1 < m' by omega)
              rw [nI_add, ← emv, nI_clamp (by omega), nI_clamp (by omega), b_shl16 hst.2]
              have hq0 : S' 0 = fun _ => 0 := hD'.1.2.1
              have hnew : ∀ j, j < m' → S' j ≠ q_mv ln tx (S' q) w := by
                intro j hj he2
                rw [hSq'] at he2
                rcases Nat.eq_zero_or_pos j with z | z
                · rw [z, hq0] at he2
                  have : b_e (q_mv ln tx u w) = 0 := by rw [← he2]; rfl
                  omega
                · exact hC'.ne hW hD' z hj (by rw [he2]; exact g3)
              have hne : ∀ j, j < m' → b_e (S' j) ≠ b_e (q_mv ln tx u w) := by
                intro j hj he2
                have k1 := hD'.2.1 j hj
                refine hnew j hj ?_
                rw [hSq']
                refine b_e_inj (fun c => ?_) (fun c => ?_) (fun c hc => ?_) he2
                · have := k1.1 c; have := hl14 c; omega
                · have := hmv c; have := hl14 c; omega
                · have a1 := hmv c; have a2 := k1.1 c; have a3 := hl0 c (by omega); omega
              have e33 : (px_uI τ 33 (b_e (q_mv ln tx u w)) (nI (b_st ln tx u w * 65536))).1 33 (b_e (S' (m' - 1))) = nI (b_T S' pr' (m' - 1) * 65536) := by
                rw [q_u, if_neg (fun z => hne (m' - 1) (by omega) z.2), hC'.1 (m' - 1) (by omega)]
                unfold b_N
                rw [if_neg (by omega), Nat.add_zero]
              rw [e33, b_or16 elt.2]
              have hadd := hD'.add hqm hhd htw hno hnew
              rw [hSq'] at hadd
              have go2 := goon (m' + 1) (va_up S' m' (q_mv ln tx u w)) _ _ _ (px_uI (px_uI τ 33 (b_e (q_mv ln tx u w)) (nI (b_st ln tx u w * 65536))) 33 (b_e (S' (m' - 1))) (nI (b_T S' pr' (m' - 1) * 65536 + b_e (q_mv ln tx u w)))) (nI (b_st ln tx u w)) (nI (b_e (q_mv ln tx u w))) ((he.tr (k_e.uI rfl)).tr (k_e.uI rfl)) hH hadd ?_ (by omega) (by rw [va_up_ne _ _ (by omega)]; exact hSq') (by rw [va_up_ne _ _ (by omega)]; exact hpq)
              · rw [show m' + 1 - 1 = m' by omega, va_up_self] at go2
                exact go2
              · refine ⟨fun j hj => ?_, fun s hs => ?_⟩
                · by_cases hjm : j = m'
                  · subst hjm
                    rw [va_up_self, q_u, if_neg (fun z => hne (j - 1) (by omega) z.2.symm), q_u, if_pos ⟨rfl, rfl⟩]
                    have t1 : b_T (va_up S' j (q_mv ln tx u w)) (va_up pr' j q) j = b_st ln tx u w := by
                      unfold b_T
                      rw [if_neg (by omega), va_up_self, va_up_self, va_up_ne _ _ (by omega), hSq', emv, eb]; omega
                    have t2 : b_N (j + 1) (va_up S' j (q_mv ln tx u w)) j = 0 := by unfold b_N; rw [if_neg (by omega)]
                    rw [t1, t2, Nat.add_zero]
                  · have hj' : j < m' := by omega
                    have sj : va_up S' m' (q_mv ln tx u w) j = S' j := va_up_ne _ _ (by omega)
                    have t1 : b_T (va_up S' m' (q_mv ln tx u w)) (va_up pr' m' q) j = b_T S' pr' j := by
                      unfold b_T
                      by_cases hj0 : j = 0
                      · rw [if_pos hj0, if_pos hj0]
                      · have := (hD'.2.2.2.2.1 j (by omega) hj').1
                        rw [if_neg hj0, if_neg hj0, sj, va_up_ne pr' _ (by omega), va_up_ne S' _ (by omega)]
                    rw [sj, t1, q_u]
                    by_cases hjl : j = m' - 1
                    · rw [if_pos ⟨rfl, by rw [hjl]⟩, ← hjl]
                      have t2 : b_N (m' + 1) (va_up S' m' (q_mv ln tx u w)) j = b_e (q_mv ln tx u w) := by
                        unfold b_N; rw [if_pos (by omega), show j + 1 = m' by omega, va_up_self]
                      rw [t2]
                    · rw [if_neg (fun z => hjl (hD'.inj hW hj' (by omega) z.2)), q_u, if_neg (fun z => hne j hj' z.2), hC'.1 j hj']
                      have t2 : b_N (m' + 1) (va_up S' m' (q_mv ln tx u w)) j = b_N m' S' j := by
                        unfold b_N
                        rw [if_pos (by omega), if_pos (by omega), va_up_ne _ _ (by omega)]
                      rw [t2]
                · have h1 : s ≠ b_e (q_mv ln tx u w) := fun z => hs m' (by omega) (by rw [va_up_self]; exact z)
                  have h2 : ∀ j, j < m' → s ≠ b_e (S' j) := fun j hj z => hs j (by omega) (by rw [va_up_ne _ _ (by omega)]; exact z)
                  rw [q_u, if_neg (fun z => h2 (m' - 1) (by omega) z.2), q_u, if_neg (fun z => h1 z.2)]
                  exact hC'.2 s h2
    have h60 : τ0.1 6 5 = nI P := by rw [he0.1 6 (by unfold b_s33; omega)]; exact p1
    refine b77_58 n4 (c_leastHead (t := none) hW h60 hH0 (fun v hv => (by cases hv)) (fun o hL => b77_67 ?_))
    exact rounds P 0 m 0 S R pr wd o τ0 .null .null (by omega) rfl rfl k_e.rf hH0 hD (by unfold b_C; rw [h33]; exact hC) (Nat.le_refl _) eu rfl hL (Nat.zero_le _)
  have first : ∀ n k (τ0 : px_S) (v4 : Value), k + n = P → px_nc v4 = true → k_e b_s33 b_t31 σ τ0 → τ0.1 33 = σ.1 33 → (∀ i, i < k → τ0.2.1 31 i = b_l (b_hk ln tx u i)) → Wp (d + 1) tb_77 2 [.ref 6, .int (nI eq), .int (nI (b_e (S (m - 1)))), .int (nI k), v4, .null, .null, .null, .null] [] τ0 Q := by
    intro n
    induction n with
    | zero =>
      intro k τ0 v4 hk n4 he0 h33 hH
      have h60 : τ0.1 6 5 = nI P := by rw [he0.1 6 (by unfold b_s33; omega)]; exact p1
      exact b77_2 (fun _ => second τ0 v4 he0 h33 (fun i hi => hH i (by omega)) n4 _) (fun g => absurd (by rw [h60]; exact nI_le (by omega) (by omega)) g)
    | succ n ih =>
      intro k τ0 v4 hk n4 he0 h33 hH
      have h60 : τ0.1 6 5 = nI P := by rw [he0.1 6 (by unfold b_s33; omega)]; exact p1
      obtain ⟨ik, ck⟩ := q_lt (j := k) (N := 4) (by omega) (by decide)
      have e30 : τ0.1 30 k = nI (ln k) := by rw [he0.1 30 (by unfold b_s33; omega)]; exact p2 k (by omega)
      have dg : eq / b_16 k % 16 = u k := by rw [← eb]; exact b_e_dig u15 (by omega)
      have hlk := hl14 k
      have huk := u15 k
      have store : ∀ y : Int64, y = b_l (b_hk ln tx u k) → Wp (d + 1) tb_77 51 [.ref 6, .int (nI eq), .int (nI (b_e (S (m - 1)))), .int (nI k), .int (nI (u k)), .null, .null, .null, .null] [.long y, .int (nI k), .ref 31] τ0 Q := fun y hy => by
        refine b77_51 ik (b77_52 ?_)
        rw [ck, nI_1, hy]
        refine ih (k + 1) _ _ (by omega) rfl (he0.tr (k_e.uL rfl)) h33 (fun i hi => ?_)
        rw [k_uL]
        by_cases hik : i = k
        · rw [if_pos ⟨rfl, hik⟩, hik]
        · rw [if_neg (fun z => hik z.2)]; exact hH i (by omega)
      refine b77_2 (fun g => absurd g (by rw [h60]; exact nI_ge (by omega) (by omega))) (fun _ => b77_10 n4 (c_positionOf el (by omega) ?_))
      rw [dg]
      refine b77_15 ik (fun g => b77_48 (store _ ?_)) (fun g => b77_33 ?_ (store _ ?_))
      · rw [ck, e30, nI_leI (by omega) (by omega)] at g
        unfold b_hk; rw [if_neg (by omega)]; rfl
      · rw [ck, e30, nI_leI (by omega) (by omega)] at g
        rw [q_ix14]; exact vp_in_nI (by omega) (by decide)
      · rw [ck, e30, nI_leI (by omega) (by omega)] at g
        rw [q_ix14, nI_clamp (by omega), he0.2.1 29 (by unfold b_t31; omega), p3 k (u k) (by omega) (by omega)]
        unfold b_hk; rw [if_pos (by omega)]; rfl
  refine e77 (b77_0 ?_)
  exact first P 0 σ _ (by omega) rfl k_e.rf rfl (fun i hi => absurd hi (Nat.not_lt_zero _))
end KGO
