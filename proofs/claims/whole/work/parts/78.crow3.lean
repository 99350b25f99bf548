/-! ===== the class: the row written, cells wiped, the row found ===== -/
theorem b_rem {ln : Nat → Nat} {tx : Nat → Nat → Nat} : ∀ (r : List Nat) (u : Nat → Nat), q_ok ln tx u r → q_rem ln (q_go ln tx u r) + r.length ≤ q_rem ln u
  | [], u, _ => Nat.le_refl _
  | w :: r, u, h => by
    have h1 := b_rem r (q_mv ln tx u w) h.2
    have h2 := q_mv_rem h.1
    show q_rem ln (q_go ln tx (q_mv ln tx u w) r) + (r.length + 1) ≤ _
    omega
section KFR
variable {d : Nat} {Q : Option Value → px_S → Prop} {σ : px_S} {ln : Nat → Nat} {tx : Nat → Nat → Nat} {P : Nat} {m q t : Nat} {S : Nat → Nat → Nat} {R : Nat → List Nat} {pr wd : Nat → Nat}
theorem b_D.len (hW : b_W ln tx P) (h : b_D ln tx m q t S R pr wd) {j : Nat} (hj : j < m) : (R j).length ≤ 56 := by
  have h1 := b_rem (R j) (fun _ => 0) (h.2.1 j hj).2.1
  have a0 := hW.2.1 0; have a1 := hW.2.1 1; have a2 := hW.2.1 2; have a3 := hW.2.1 3
  have : q_rem ln (fun _ => 0) ≤ 56 := by unfold q_rem; omega
  omega
theorem c_writeRow {j : Nat} (hW : b_W ln tx P) (hPr : b_P ln tx P σ) (hlen : 16 ^ P ≤ σ.2.2.1 ∧ σ.2.2.1 ≤ 65536) (hD : b_D ln tx m q t S R pr wd) (hC : b_C m S pr σ) (hj : j < m)
    (h : ∀ τ : px_S, τ.1 6 4 = nI (R j).length → (∀ i, i < (R j).length → τ.2.1 32 i = lN ((R j).getD i 0)) → (∀ k, k ≠ 6 → τ.1 k = σ.1 k) → (∀ f, f ≠ 4 → τ.1 6 f = σ.1 6 f) → (∀ k, k ≠ 32 → τ.2.1 k = σ.2.1 k) → τ.2.2 = σ.2.2 → Q none τ) : Cw (d + 3) 81 [.ref 6, .int (nI (b_e (S j)))] σ Q := by
  have hl56 := hD.len hW hj
  have fact : ∀ i, 0 < i → i < m → (nI (b_T S pr i * 65536 + b_N m S i)).toUInt32 >>> ((16 : Int32).toUInt32 &&& Int32.toUInt32 31) = (nI (b_T S pr i)).toUInt32 ∧ nI (b_e (S i)) - nI (b_T S pr i) = nI (b_e (S (pr i))) := fun i i0 im => by
    obtain ⟨t1, t2, t3, t4⟩ := hD.T hW i0 im
    refine ⟨?_, ?_⟩
    · have := b_ushr16 (a := b_T S pr i) (b := b_N m S i) t4 (hD.N hW i)
      rw [← this]; rfl
    · rw [t2, t1, pk_sub (by omega)]; congr 1; omega
  have ush : ∀ i, 0 < i → i < m → ((nI (b_T S pr i * 65536 + b_N m S i)).toUInt32 >>> ((16 : Int32).toUInt32 &&& Int32.toUInt32 31)).toInt32 = nI (b_T S pr i) := fun i i0 im => b_ushr16 (hD.T hW i0 im).2.2.2 (hD.N hW i)
  have ez : ∀ i, i < m → b_e (S i) = 0 → i = 0 := fun i im he => by
    rcases Nat.eq_zero_or_pos i with z | z
    · exact z
    · have := (hD.T hW z im).2.1; have := (hD.T hW z im).2.2.1; have := (hD.T hW z im).1; omega
  -- the texts, from the last on
  have second : ∀ n i c (τ : px_S) (v4 : Value), i < m → c = (R i).length → c ≤ n → px_nc v4 = true → (∀ k, k < c → (R j).getD k 0 = (R i).getD k 0) → c ≤ (R j).length → τ.1 6 4 = nI (R j).length → (∀ k, c ≤ k → k < (R j).length → τ.2.1 32 k = lN ((R j).getD k 0)) → (∀ k, k ≠ 6 → τ.1 k = σ.1 k) → (∀ f, f ≠ 4 → τ.1 6 f = σ.1 6 f) → (∀ k, k ≠ 32 → τ.2.1 k = σ.2.1 k) → τ.2.2 = σ.2.2 → Wp (d + 2) tb_81 54 [.ref 6, .int (nI (b_e (S j))), .int (nI (b_e (S i))), .int (nI c - 1), v4] [] τ Q := by
    intro n
    induction n with
    | zero =>
      intro i c τ v4 im ec hcn n4 hpre hcl e4 hrow f1 f2 f3 f4
      have hc0 : c = 0 := by omega
      subst hc0
      exact b81_54 (fun _ => b81_97 (h τ e4 (fun k hk => hrow k (by omega) hk) f1 f2 f3 f4)) (fun g => absurd (by decide) g)
    | succ n ih =>
      intro i c τ v4 im ec hcn n4 hpre hcl e4 hrow f1 f2 f3 f4
      rcases Nat.eq_zero_or_pos c with hc0 | hc0
      · subst hc0
        exact b81_54 (fun _ => b81_97 (h τ e4 (fun k hk => hrow k (by omega) hk) f1 f2 f3 f4)) (fun g => absurd (by decide) g)
      · obtain ⟨c', rfl⟩ : ∃ c', c = c' + 1 := ⟨c - 1, by omega⟩
        have i0 : 0 < i := by
          rcases Nat.eq_zero_or_pos i with z | z
          · rw [z, hD.1.2.2] at ec; cases ec
          · exact z
        obtain ⟨e1, e2, e3, e4', e5⟩ := hD.2.2.2.2.1 i i0 im
        have hpm : pr i < m := by omega
        obtain ⟨t1, t2, t3, t4⟩ := hD.T hW i0 im
        have elt := hD.lt hW im
        have e33 : τ.1 33 (b_e (S i)) = nI (b_T S pr i * 65536 + b_N m S i) := by rw [f1 33 (by decide)]; exact hC.1 i im
        have hPt : b_P ln tx P τ := hPr.fr (f2 5 (by decide)) (f1 30 (by decide)) (f3 29 (by decide))
        obtain ⟨ic, cc⟩ := q_lt (j := c') (N := 56) (by omega) (by decide)
        rw [nI_pred]
        refine b81_54 (fun g => absurd g (nI_pos (by omega))) (fun _ => b81_58 (fun g => absurd g (nI_nle (by omega) (by omega))) (fun _ => b81_62 ?_ ?_))
        · rw [f4]; exact vp_in_nI (by omega) (by omega)
        · rw [nI_clamp (by omega), e33, ush i i0 im, (fact i i0 im).2, t1]
          refine c_textOfStep hW hPt (hD.2.1 (pr i) hpm).1 e3 (b81_90 ic (b81_91 ?_))
          rw [cc, q_am1]
          have el : (R i).length = (R (pr i)).length + 1 := by rw [e4']; simp
          have ec' : c' = (R (pr i)).length := by omega
          have hget : (R i).getD c' 0 = wd i := by rw [e4', ec', q_getD_ar]
          refine ih (pr i) c' _ _ hpm ec' (by omega) rfl (fun k hk => ?_) (by omega) e4 (fun k hk1 hk2 => ?_) f1 f2 (fun k hk => ?_) f4
          · rw [hpre k (by omega), e4', q_getD_al (by omega)]
          · rw [k_uL]
            by_cases hkc : k = c'
            · rw [if_pos ⟨rfl, hkc⟩, hkc, hpre c' (by omega), hget]
            · rw [if_neg (fun z => hkc z.2)]; exact hrow k (by omega) hk2
          · rw [k_uLc hk]; exact f3 k hk
  -- how long it is
  have first : ∀ n i (τ : px_S), i < m → (R i).length ≤ n → τ.1 6 4 = nI ((R j).length - (R i).length) → (R i).length ≤ (R j).length → (∀ k, k ≠ 6 → τ.1 k = σ.1 k) → (∀ f, f ≠ 4 → τ.1 6 f = σ.1 6 f) → τ.2 = σ.2 → Wp (d + 2) tb_81 7 [.ref 6, .int (nI (b_e (S j))), .int (nI (b_e (S i))), .null, .null] [] τ Q := by
    have fin : ∀ (x2 : Int32) (τ : px_S), τ.1 6 4 = nI (R j).length → (∀ k, k ≠ 6 → τ.1 k = σ.1 k) → (∀ f, f ≠ 4 → τ.1 6 f = σ.1 6 f) → τ.2 = σ.2 → Wp (d + 2) tb_81 45 [.ref 6, .int (nI (b_e (S j))), .int x2, .null, .null] [] τ Q := fun x2 τ e4 f1 f2 f3 => by
      refine b81_45 ?_
      rw [e4]
      exact second (R j).length j (R j).length τ .null hj rfl (Nat.le_refl _) rfl (fun _ _ => rfl) (Nat.le_refl _) e4 (fun k h1 h2 => by omega) f1 f2 (fun k _ => by rw [f3]) (by rw [f3])
    intro n
    induction n with
    | zero =>
      intro i τ im hin e4 hle f1 f2 f3
      have i0 : i = 0 := by
        rcases Nat.eq_zero_or_pos i with z | z
        · exact z
        · obtain ⟨e1, e2, e3, e4', e5⟩ := hD.2.2.2.2.1 i z im
          rw [e4'] at hin; simp at hin
      subst i0
      have es : b_e (S 0) = 0 := by rw [hD.1.2.1]; rfl
      rw [hD.1.2.2] at e4
      refine b81_7 (fun _ => fin _ τ (by rw [e4]; simp) f1 f2 f3) (fun g => absurd (by rw [es]; decide) g)
    | succ n ih =>
      intro i τ im hin e4 hle f1 f2 f3
      rcases Nat.eq_zero_or_pos i with i0 | i0
      · subst i0
        have es : b_e (S 0) = 0 := by rw [hD.1.2.1]; rfl
        rw [hD.1.2.2] at e4
        refine b81_7 (fun _ => fin _ τ (by rw [e4]; simp) f1 f2 f3) (fun g => absurd (by rw [es]; decide) g)
      · obtain ⟨e1, e2, e3, e4', e5⟩ := hD.2.2.2.2.1 i i0 im
        have hpm : pr i < m := by omega
        obtain ⟨t1, t2, t3, t4⟩ := hD.T hW i0 im
        have elt := hD.lt hW im
        have el : (R i).length = (R (pr i)).length + 1 := by rw [e4']; simp
        have e33 : τ.1 33 (b_e (S i)) = nI (b_T S pr i * 65536 + b_N m S i) := by rw [f1 33 (by decide)]; exact hC.1 i im
        refine b81_7 (fun g => absurd g (nI_nle (by omega) (by omega))) (fun _ => b81_11 (fun g => absurd g (by rw [e4]; exact nI_ge (b := 56) (by omega) (by decide))) (fun _ => b81_20 (b81_30 ?_ ?_)))
        · show vp_in _ τ.2.2.1
          rw [f3]; exact vp_in_nI (by omega) (by omega)
        · rw [nI_clamp (by omega), q_uc (by decide), e33, ush i i0 im, (fact i i0 im).2, e4, nI_1]
          refine ih (pr i) _ hpm (by omega) ?_ (by omega) (fun k hk => by rw [q_uc hk]; exact f1 k hk) (fun f hf => by rw [q_u, if_neg (fun z => hf z.2)]; exact f2 f hf) f3
          rw [q_u, if_pos ⟨rfl, rfl⟩]
          congr 1; omega
  refine e81 (b81_0 (b81_5 (first (R j).length j _ hj (Nat.le_refl _) ?_ (Nat.le_refl _) (fun k hk => q_uc hk) (fun f hf => by rw [q_u, if_neg (fun z => hf z.2)]) rfl)))
  rw [q_u, if_pos ⟨rfl, rfl⟩, Nat.sub_self]; rfl
theorem c_wipe (hW : b_W ln tx P) (hlen : 16 ^ P ≤ σ.2.2.1 ∧ σ.2.2.1 ≤ 65536) (hD : b_D ln tx m q t S R pr wd) (hC : b_C m S pr σ)
    (h : ∀ τ : px_S, (∀ i, τ.1 33 i = 0) → (∀ k, k ≠ 33 → τ.1 k = σ.1 k) → τ.2 = σ.2 → Q none τ) : Cw (d + 1) 83 [.ref 6] σ Q := by
  have hm := hD.le hW
  have hm0 := hD.1.1
  have loop : ∀ n j (τ : px_S) (v3 : Value), j + 1 + n = m → (∀ i, i < j → τ.1 33 (b_e (S i)) = 0) → (∀ i, j ≤ i → i < m → τ.1 33 (b_e (S i)) = σ.1 33 (b_e (S i))) → (∀ s, (∀ i, i < m → s ≠ b_e (S i)) → τ.1 33 s = 0) → (∀ k, k ≠ 33 → τ.1 k = σ.1 k) → τ.2 = σ.2 → Wp d tb_83 4 [.ref 6, .int (nI (b_e (S j))), .int (nI j), v3] [] τ Q := by
    intro n
    induction n with
    | zero =>
      intro j τ v3 hj h1 h2 h3 h4 h5
      have elt := hD.lt hW (show j < m by omega)
      have t4 := hD.T4 hW (show j < m by omega)
      have e33 : τ.1 33 (b_e (S j)) = nI (b_T S pr j * 65536 + b_N m S j) := by rw [h2 j (Nat.le_refl _) (by omega)]; exact hC.1 j (by omega)
      have eN : b_N m S j = 0 := by unfold b_N; rw [if_neg (by omega)]
      refine b83_4 (fun g => absurd g ?_) (fun _ => b83_13 ?_ ?_ (b83_30 (fun g => absurd ?_ g) (fun _ => b83_34 (h _ (fun s => ?_) (fun k hk => by rw [q_uc hk]; exact h4 k hk) h5))))
      · show ¬ nI τ.2.2.1 ≤ nI j
        rw [h5]; exact nI_ge (by omega) (by omega)
      · rw [h5]; exact vp_in_nI (by omega) (by omega)
      · rw [h5]; exact vp_in_nI (by omega) (by omega)
      · rw [nI_clamp (by omega), e33, b_and16 t4 (hD.N hW j), eN]; rfl
      · rw [nI_clamp (by omega), q_u]
        by_cases hs : s = b_e (S j)
        · rw [if_pos ⟨rfl, hs⟩]
        · rw [if_neg (fun z => hs z.2)]
          by_cases hex : ∃ i, i < m ∧ s = b_e (S i)
          · obtain ⟨i, i1, i2⟩ := hex
            rw [i2]
            have : i ≠ j := fun z => hs (by rw [i2, z])
            exact h1 i (by omega)
          · exact h3 s (fun i hi he => hex ⟨i, hi, he⟩)
    | succ n ih =>
      intro j τ v3 hj h1 h2 h3 h4 h5
      have elt := hD.lt hW (show j < m by omega)
      have t4 := hD.T4 hW (show j < m by omega)
      have e33 : τ.1 33 (b_e (S j)) = nI (b_T S pr j * 65536 + b_N m S j) := by rw [h2 j (Nat.le_refl _) (by omega)]; exact hC.1 j (by omega)
      have eN : b_N m S j = b_e (S (j + 1)) := by unfold b_N; rw [if_pos (by omega)]
      have elt2 := hD.lt hW (show j + 1 < m by omega)
      have hpos : 0 < b_e (S (j + 1)) := by
        have a1 := (hD.T hW (show 0 < j + 1 by omega) (show j + 1 < m by omega))
        have := a1.2.1; have := a1.1; have := a1.2.2.1; omega
      refine b83_4 (fun g => absurd g ?_) (fun _ => b83_13 ?_ ?_ (b83_30 (fun _ => b83_35 ?_) (fun g => absurd ?_ g)))
      · show ¬ nI τ.2.2.1 ≤ nI j
        rw [h5]; exact nI_ge (by omega) (by omega)
      · rw [h5]; exact vp_in_nI (by omega) (by omega)
      · rw [h5]; exact vp_in_nI (by omega) (by omega)
      · rw [nI_clamp (by omega), e33, b_and16 t4 (hD.N hW j), eN, nI_1]
        refine ih (j + 1) _ _ (by omega) (fun i hi => ?_) (fun i hi1 hi2 => ?_) (fun s hs => ?_) (fun k hk => by rw [q_uc hk]; exact h4 k hk) h5
        · rw [q_u]
          by_cases hij : i = j
          · rw [if_pos ⟨rfl, by rw [hij]⟩]
          · rw [if_neg (fun z => hij (hD.inj hW (by omega) (by omega) z.2))]; exact h1 i (by omega)
        · rw [q_u, if_neg (fun z => by have := hD.inj hW hi2 (by omega) z.2; omega)]; exact h2 i (by omega) hi2
        · rw [q_u, if_neg (fun z => hs j (by omega) z.2)]; exact h3 s hs
      · rw [nI_clamp (by omega), e33, b_and16 t4 (hD.N hW j), eN]
        exact nI_ne0 hpos (by omega)
  refine e83 (b83_0 ?_)
  have es : b_e (S 0) = 0 := by rw [hD.1.2.1]; rfl
  have := loop (m - 1) 0 σ .null (by omega) (fun i hi => absurd hi (Nat.not_lt_zero _)) (fun _ _ _ => rfl) hC.2 (fun _ _ => rfl) rfl
  rw [es] at this
  exact this
/-- what the finding of a row leaves -/
def b_F (σ τ : px_S) : Prop := (∀ k, k ≠ 6 → k ≠ 33 → τ.1 k = σ.1 k) ∧ (∀ f, f ≠ 4 → τ.1 6 f = σ.1 6 f) ∧ (∀ k, k ≠ 31 → k ≠ 32 → τ.2.1 k = σ.2.1 k)
theorem c_findRow (hW : b_W ln tx P) (hPr : b_P ln tx P σ) (hK : k_C σ) (hne : ∃ k, k < P ∧ 0 < ln k)
    (h : ∀ (τ : px_S) (r : List Nat), q_isR ln tx (fun _ => 0) r → r.length ≤ 56 → τ.1 6 4 = nI r.length → (∀ i, i < r.length → τ.2.1 32 i = lN (r.getD i 0)) → (∀ i, i < r.length → ∃ u, (∀ k, u k ≤ ln k) ∧ q_hd ln tx u (r.getD i 0)) → k_C τ → b_F σ τ → Q none τ) : Cw (d + 4) 76 [.ref 6] σ Q := by
  obtain ⟨hP4, hl14, hl0, htx⟩ := id hW
  obtain ⟨p1, p2, p3⟩ := id hPr
  have hln : ∀ k, ln k ≤ ln k := fun k => Nat.le_refl _
  have eend := b_e_lt hW hln
  have hepos : 0 < b_e ln := by
    obtain ⟨k, hk, hk2⟩ := hne
    unfold b_e
    rcases b_4 (show k < 4 by omega) with rfl | rfl | rfl | rfl <;> omega
  have h16 : 16 ^ P ≤ 65536 := by
    have : 16 ^ P ≤ 16 ^ 4 := Nat.pow_le_pow_right (by decide) hP4
    omega
  -- the search
  have search : ∀ σ1 : px_S, b_P ln tx P σ1 → 16 ^ P ≤ σ1.2.2.1 ∧ σ1.2.2.1 ≤ 65536 → (∀ i, σ1.1 33 i = 0) → k_C σ1 → (∀ k, k ≠ 33 → σ1.1 k = σ.1 k) → σ1.2.1 = σ.2.1 → Wp (d + 3) tb_76 56 [.ref 6, .int (nI (b_e ln)), .int (nI (16 ^ P)), .null, .null, .null] [] σ1 Q := by
    intro σ1 hP1 hl1 h33 hK1 hc1 hlg1
    have fin : ∀ (τ : px_S) (m q t : Nat) S R pr wd j (x3 x4 x5 : Int32), k_e b_s33 b_t31 σ1 τ → b_D ln tx m q t S R pr wd → b_C m S pr τ → j < m → q_end ln (S j) → b_e (S j) = b_e ln → Wp (d + 3) tb_76 104 [.ref 6, .int (nI (b_e ln)), .int (nI (16 ^ P)), .int x3, .int x4, .int x5] [] τ Q := by
      intro τ m q t S R pr wd j x3 x4 x5 he hD hC hj hend ej
      have hPt : b_P ln tx P τ := hP1.fr (by rw [he.1 6 (by unfold b_s33; omega)]) (he.1 30 (by unfold b_s33; omega)) (he.2.1 29 (by unfold b_t31; omega))
      have hlt : 16 ^ P ≤ τ.2.2.1 ∧ τ.2.2.1 ≤ 65536 := by rw [he.2.2]; exact hl1
      refine b76_104 ?_
      rw [← ej]
      refine c_writeRow hW hPt hlt hD hC hj (fun τ2 g4 grow g1 g2 g3 g5 => b76_109 ?_)
      have hC2 : b_C m S pr τ2 := by unfold b_C; rw [g1 33 (by decide)]; exact hC
      refine c_wipe hW (by rw [g5]; exact hlt) hD hC2 (fun τ3 z1 z2 z3 => b76_113 ?_)
      have hrow := hD.row hj hend
      have hok := (hD.2.1 j hj).2.1
      refine h τ3 (R j) hrow (hD.len hW hj) (by rw [z2 6 (by decide)]; exact g4) (fun i hi => by rw [z3]; exact grow i hi) (fun i hi => ?_) ?_ ⟨fun k k6 k33 => ?_, fun f hf => ?_, fun k k31 k32 => ?_⟩
      · -- each text of the row is a head somewhere
        have key : ∀ n i, i < m → (R i).length ≤ n → ∀ c, c < (R i).length → ∃ u, (∀ k, u k ≤ ln k) ∧ q_hd ln tx u ((R i).getD c 0) := by
          intro n
          induction n with
          | zero => intro i him hl c hc; omega
          | succ n ih =>
            intro i him hl c hc
            rcases Nat.eq_zero_or_pos i with i0 | i0
            · rw [i0, hD.1.2.2] at hc; exact absurd hc (Nat.not_lt_zero _)
            · obtain ⟨e1, e2, e3, e4', e5⟩ := hD.2.2.2.2.1 i i0 him
              have el : (R i).length = (R (pr i)).length + 1 := by rw [e4']; simp
              by_cases hcl : c = (R (pr i)).length
              · refine ⟨S (pr i), (hD.2.1 (pr i) (by omega)).1, ?_⟩
                rw [e4', hcl, q_getD_ar]; exact e3
              · rw [e4', q_getD_al (by omega)]
                exact ih (pr i) (by omega) (by omega) c (by omega)
        exact key _ j hj (Nat.le_refl _) i hi
      · unfold k_C at hK1 ⊢
        have e22 : τ3.2.2 = σ1.2.2 := by rw [z3, g5, he.2.2]
        unfold px_cc px_cs at hK1 ⊢
        rw [e22]
        exact ⟨z1, hK1.2⟩
      · rw [z2 k k33, g1 k k6, he.1 k k33, hc1 k k33]
      · rw [z2 6 (by decide), g2 f hf, he.1 6 (by unfold b_s33; omega), hc1 6 (by decide)]
      · rw [z3, g3 k k32, he.2.1 k k31, hlg1]
    have loop : ∀ n q m S R pr wd (x3 : Int32) (τ : px_S), q + n = 16 ^ P + 1 → k_e b_s33 b_t31 σ1 τ → b_D ln tx m q 0 S R pr wd → b_C m S pr τ → (q < m → x3 = nI (b_e (S q))) → Wp (d + 3) tb_76 64 [.ref 6, .int (nI (b_e ln)), .int (nI (16 ^ P)), .int x3, .int (nI (b_e (S (m - 1)))), .int (nI q)] [] τ Q := by
      intro n
      induction n with
      | zero =>
        intro q m S R pr wd x3 τ hqn he hD hC hx3
        have hm := hD.le hW
        obtain ⟨j, j1, j2⟩ := hD.done (by omega) (by
          obtain ⟨r, hr, -⟩ := q_to_ex (ln := ln) (tx := tx) (q_rem ln (fun _ => 0)) (fun _ => 0) (Nat.le_refl _) (fun k => Nat.zero_le _)
          exact ⟨r, hr⟩)
        have ej : b_e (S j) = b_e ln := by unfold b_e; rw [j2 0 (by omega), j2 1 (by omega), j2 2 (by omega), j2 3 (by omega)]
        exact b76_64 (fun _ => fin τ m q 0 S R pr wd j _ _ _ he hD hC j1 j2 ej) (fun g => absurd (nI_le (by omega) (by omega)) g)
      | succ n ih =>
        intro q m S R pr wd x3 τ hqn he hD hC hx3
        have hm := hD.le hW
        have hlt : 16 ^ P ≤ τ.2.2.1 ∧ τ.2.2.1 ≤ 65536 := by rw [he.2.2]; exact hl1
        by_cases hex : ∃ j, j < m ∧ q_end ln (S j)
        · obtain ⟨j, j1, j2⟩ := hex
          have ej : b_e (S j) = b_e ln := by unfold b_e; rw [j2 0 (by omega), j2 1 (by omega), j2 2 (by omega), j2 3 (by omega)]
          have j0 : 0 < j := by
            rcases Nat.eq_zero_or_pos j with z | z
            · rw [z, hD.1.2.1] at ej
              have : b_e (fun _ => 0) = 0 := rfl
              omega
            · exact z
          have go := fin τ m q 0 S R pr wd j x3 (nI (b_e (S (m - 1)))) (nI q) he hD hC j1 j2 ej
          refine b76_64 (fun _ => go) (fun _ => b76_70 (vp_in_nI (by omega) (by omega)) (fun _ => go) (fun g => absurd ?_ g))
          rw [nI_clamp (by omega), ← ej]
          exact hC.ne hW hD j0 j1
        · have hqm : q < m := by
            rcases Nat.lt_or_ge q m with z | z
            · exact z
            · exact absurd (hD.done z (by
                obtain ⟨r, hr, -⟩ := q_to_ex (ln := ln) (tx := tx) (q_rem ln (fun _ => 0)) (fun _ => 0) (Nat.le_refl _) (fun k => Nat.zero_le _)
                exact ⟨r, hr⟩)) hex
          have hPt : b_P ln tx P τ := hP1.fr (by rw [he.1 6 (by unfold b_s33; omega)]) (he.1 30 (by unfold b_s33; omega)) (he.2.1 29 (by unfold b_t31; omega))
          refine b76_64 (fun g => absurd g (nI_ge (by omega) (by omega))) (fun _ => b76_70 (vp_in_nI (by omega) (by omega)) (fun g => absurd ?_ g) (fun _ => b76_79 ?_))
          · rw [nI_clamp (by omega)]
            refine hC.2 _ (fun j hj ej => hex ⟨j, hj, fun k hk => ?_⟩)
            have k1 := (hD.2.1 j hj).1
            rw [← b_e_dig (u := S j) (fun c => by have := k1 c; have := hl14 c; omega) hk, ← ej, b_e_dig (u := ln) (fun c => by have := hl14 c; omega) hk]
          · rw [hx3 hqm]
            refine c_goOn hW hPt hlt hD hC hqm (fun τ2 m2 S2 R2 pr2 wd2 hD2 hC2 hm2 hSq hpq he2 => b76_86 ?_ ?_)
            · have := hD.lt hW hqm
              rw [he2.2.2]; exact vp_in_nI (by omega) (by omega)
            · have elt := hD.lt hW hqm
              have e33 : τ2.1 33 (b_e (S q)) = nI (b_T S2 pr2 q * 65536 + b_N m2 S2 q) := by rw [← hSq]; exact hC2.1 q (by omega)
              rw [nI_clamp (by omega), e33, b_and16 (hD2.T4 hW (by omega)) (hD2.N hW q), nI_1]
              refine ih (q + 1) m2 S2 R2 pr2 wd2 _ τ2 (by omega) (he.tr he2) hD2 hC2 (fun hq2 => ?_)
              unfold b_N; rw [if_pos hq2]
    refine b76_56 ?_
    have := loop (16 ^ P + 1) 0 1 (fun _ _ => 0) (fun _ => []) (fun _ => 0) (fun _ => 0) 0 σ1 (by omega) k_e.rf (b_D0 _ _) ⟨fun j hj => ?_, fun s _ => h33 s⟩ (fun _ => rfl)
    · exact this
    · rw [h33, show j = 0 by omega]; rfl
  have ends : ∀ n k, k + n = P → Wp (d + 3) tb_76 4 [.ref 6, .int (nI (b_ps ln k)), .int (nI k), .null, .null, .null] [] σ Q := by
    intro n
    induction n with
    | zero =>
      intro k hk
      have ee : b_ps ln k = b_e ln := by rw [show k = P by omega]; exact b_ps_e hP4 hl0
      refine b76_4 (fun _ => ?_) (fun g => absurd (by rw [p1]; exact nI_le (by omega) (by omega)) g)
      rw [ee]
      have esz : (1 : Int32) <<< (((4 : Int32) * σ.1 6 5) &&& 31) = nI (16 ^ P) := by
        rw [p1]
        have kk : P = 0 ∨ P = 1 ∨ P = 2 ∨ P = 3 ∨ P = 4 := by omega
        rcases kk with rfl | rfl | rfl | rfl | rfl <;> decide
      obtain ⟨k1, k2, k3, k4⟩ := id hK
      have hlen : σ.2.2.1 ≤ 65536 ∧ 16 ≤ σ.2.2.1 := by omega
      refine b76_31 (fun g => ?_) (fun g => b76_49 ?_ ?_ ?_)
      · rw [esz] at g ⊢
        have g : nI (16 ^ P) ≤ nI σ.2.2.1 := g
        rw [nI_leI (by omega) (by omega)] at g
        exact search σ hPr ⟨g, hlen.1⟩ k1 hK (fun _ _ => rfl) rfl
      · rw [esz]; exact nI_pos (by omega)
      · rw [esz, nI_clamp (by omega)]; omega
      · rw [esz] at g ⊢
        have g : ¬ nI (16 ^ P) ≤ nI σ.2.2.1 := g
        rw [nI_leI (by omega) (by omega)] at g
        rw [nI_clamp (by omega)]
        have c33 : ∀ k, k ≠ 33 → (px_nw σ (16 ^ P)).1 k = σ.1 k := fun k hk => by unfold px_nw; exact if_neg hk
        refine search (px_nw σ (16 ^ P)) (hPr.fr (by rw [c33 6 (by decide)]) (c33 30 (by decide)) rfl) ⟨Nat.le_refl _, h16⟩ (fun i => rfl) ?_ c33 rfl
        have kk : P = 0 ∨ P = 1 ∨ P = 2 ∨ P = 3 ∨ P = 4 := by omega
        refine ⟨fun i => rfl, ?_, ?_, ?_⟩
        · show 16 ^ P = 16 ∨ 16 ^ P = 256 ∨ 16 ^ P = 4096 ∨ 16 ^ P = 65536
          rcases kk with rfl | rfl | rfl | rfl | rfl <;> omega
        · show px_cc σ + 1 ≤ 16 ^ P; omega
        · show px_cs σ + 16 ^ P ≤ 2 * 16 ^ P
          rcases kk with rfl | rfl | rfl | rfl | rfl <;> omega
    | succ n ih =>
      intro k hk
      obtain ⟨ik, ck⟩ := q_lt (j := k) (N := 4) (by omega) (by decide)
      have ih := ih (k + 1) (by omega)
      rw [b_ps] at ih
      refine b76_4 (fun g => absurd g (by rw [p1]; exact nI_ge (by omega) (by omega))) (fun _ => b76_12 ik ?_)
      rw [ck, p2 k (by omega), b_or (by omega) (b_ps_lt hl14 (by omega)) (hl14 k), nI_1]
      exact ih
  exact e76 (b76_0 (ends P 0 (by omega)))
end KFR
