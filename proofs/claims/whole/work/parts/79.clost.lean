/-! ===== the class: lost, lostWord ===== -/
theorem q_fl_nth {f : Nat → Bool} {x : Nat} (hf : f x = true) : ∀ n, x < n → (q_fl f n).getD (q_cnt f x) 0 = x
  | 0, h => absurd h (Nat.not_lt_zero _)
  | n + 1, h => by
    rw [q_fl]
    by_cases hx : x = n
    · subst hx
      rw [hf, if_pos rfl, ← q_fl_len, q_getD_ar]
    · rw [q_getD_al]
      · exact q_fl_nth hf n (by omega)
      · rw [q_fl_len]
        have := q_cnt_mono f (show x + 1 ≤ n by omega)
        rw [q_cnt, hf, if_pos rfl] at this
        omega
def k_h1 (σ τ : px_S) : Prop := (∀ k, k ≠ 6 → k ≠ 30 → τ.1 k = σ.1 k) ∧ (∀ f, f ≠ 5 → τ.1 6 f = σ.1 6 f) ∧ (∀ k, k ≠ 29 → τ.2.1 k = σ.2.1 k) ∧ τ.2.2 = σ.2.2
theorem k_h1.rf {σ : px_S} : k_h1 σ σ := ⟨fun _ _ _ => rfl, fun _ _ => rfl, fun _ _ => rfl, rfl⟩
theorem k_h1.tr {σ τ υ : px_S} (h1 : k_h1 σ τ) (h2 : k_h1 τ υ) : k_h1 σ υ := ⟨fun k a b => (h2.1 k a b).trans (h1.1 k a b), fun f a => (h2.2.1 f a).trans (h1.2.1 f a), fun k a => (h2.2.2.1 k a).trans (h1.2.2.1 k a), h2.2.2.2.trans h1.2.2.2⟩
theorem k_h1.u6 {σ : px_S} {x : Int32} : k_h1 σ (px_uI σ 6 5 x) := ⟨fun k a _ => q_uc a, fun f a => by rw [q_u, if_neg (fun z => a z.2)], fun _ _ => rfl, rfl⟩
theorem k_h1.u30 {σ : px_S} {j : Nat} {x : Int32} : k_h1 σ (px_uI σ 30 j x) := ⟨fun k _ b => q_uc b, fun f _ => by rw [q_uc (by decide)], fun _ _ => rfl, rfl⟩
theorem k_h1.u29 {σ : px_S} {j : Nat} {x : Int64} : k_h1 σ (px_uL σ 29 j x) := ⟨fun _ _ _ => rfl, fun _ _ => rfl, fun k a => k_uLc a, rfl⟩
section KLO
variable {d : Nat} {Q : Option Value → px_S → Prop} {σ : px_S} {V : QV} {a : Int32} {p : Nat → Option Nat}
theorem c_handOver {x c : Nat} (hV : q_wf V) (hH : k_H V σ) (hs : k_sn V a 3 σ) (hp : q_okp p (v_n V)) (hh : k_hd V 3 p σ) (hx : x < v_n V) (hsx : q_seen V a x = true) (h5 : σ.1 6 5 = nI c) (hc : c < 4)
    (h : ∀ τ, k_h1 σ τ → τ.1 6 5 = nI (c + 1) → τ.1 30 c = nI (q_pl V p x).length → (∀ k, k ≠ c → τ.1 30 k = σ.1 30 k) → (∀ i, i < (q_pl V p x).length → τ.2.1 29 (14 * c + i) = lN (q_pn (v_tx V (14 * x + (q_pl V p x).getD i 0)))) → (∀ s, s < 14 * c → τ.2.1 29 s = σ.2.1 29 s) → Q none τ) : Cw (d + 3) 73 [.ref 5, .int (nI x)] σ Q := by
  have hn := hV.1
  have hsz := (hV.2.1 x hx).1
  obtain ⟨ix, cx⟩ := q_lt (j := x) (N := 40) (by omega) (by decide)
  obtain ⟨ic, cc⟩ := q_lt (j := c) (N := 4) hc (by decide)
  obtain ⟨F, hF⟩ : ∃ F : Nat → Bool, F = fun l => q_pce V p (14 * x + l) := ⟨_, rfl⟩
  have epl : q_pl V p x = q_fl F (v_sz V x) := by rw [hF]; rfl
  have ht : ∀ τ, k_h1 σ τ → k_H V τ ∧ k_sn V a 3 τ ∧ k_hd V 3 p τ := fun τ he =>
    ⟨hH.fr (he.1 1 (by decide) (by decide)) (fun k k1 k2 => he.1 k (by omega) (by omega)) (he.2.2.1 1 (by decide)) (he.2.2.1 17 (by decide)), by unfold k_sn; rw [he.2.2.1 3 (by decide)]; exact hs, fun s hs' => by rw [he.1 (2 * 3 + 16) (by decide) (by decide)]; exact hh s hs'⟩
  have loop : ∀ m l (τ : px_S), l + m = v_sz V x → k_h1 σ τ → τ.1 6 5 = nI (c + 1) → τ.1 30 c = nI (q_fl F l).length → (∀ k, k ≠ c → τ.1 30 k = σ.1 30 k) → (∀ i, i < (q_fl F l).length → τ.2.1 29 (14 * c + i) = lN (q_pn (v_tx V (14 * x + (q_fl F l).getD i 0)))) → (∀ s, s < 14 * c → τ.2.1 29 s = σ.2.1 29 s) → Wp (d + 2) tb_73 9 [.ref 5, .int (nI x), .int (nI l)] [] τ Q := by
    intro m
    induction m with
    | zero =>
      intro l τ hl he e5 e30 ek e29 es
      have el : l = v_sz V x := by omega
      rw [el, ← epl] at e30 e29
      have hHt := (ht τ he).1
      exact b73_9 ix (fun _ => b73_57 (h τ he e5 e30 ek e29 es)) (fun g => absurd (by rw [cx, (hHt.2.2.2.1 x hx).2.2.2.1]; exact nI_le (by omega) (by omega)) g)
    | succ m ih =>
      intro l τ hl he e5 e30 ek e29 es
      obtain ⟨hHt, hst, hht⟩ := ht τ he
      have hsp := q_wf_sp (V := V) hx (show l < v_sz V x by omega)
      obtain ⟨is, cs⟩ := q_lt (j := 14 * x + l) (N := 560) (q_sp_lt hV hsp) (by decide)
      have hle : (q_fl F l).length ≤ l := by rw [q_fl_len]; exact q_cnt_le _ _
      refine b73_9 ix (fun g => absurd g (by rw [cx, (hHt.2.2.2.1 x hx).2.2.2.1]; exact nI_ge (by omega) (by omega))) (fun _ => b73_22 (c_isOfPiece hV hHt hst hp hht hx (by omega) ?_))
      rw [hsx, Bool.true_and]
      cases hb : q_pce V p (14 * x + l) with
      | false =>
        have ef : q_fl F (l + 1) = q_fl F l := by
          rw [q_fl, hF]
          show q_fl _ l ++ (if q_pce V p (14 * x + l) = true then [l] else []) = _
          rw [hb, if_neg (by decide), List.append_nil]
        refine b73_28 (fun _ => b73_51 ?_) (fun g => absurd rfl g)
        rw [nI_1]
        exact ih (l + 1) τ (by omega) he e5 (by rw [ef]; exact e30) ek (by rw [ef]; exact e29) es
      | true =>
        have ef : q_fl F (l + 1) = q_fl F l ++ [l] := by
          rw [q_fl, hF]
          show q_fl _ l ++ (if q_pce V p (14 * x + l) = true then [l] else []) = _
          rw [hb, if_pos rfl]
        have elen : (q_fl F (l + 1)).length = (q_fl F l).length + 1 := by rw [ef]; simp
        refine b73_28 (fun g => absurd g (by decide)) (fun _ => b73_31 (c_spotOf (b73_47 is (e75 ?_))))
        rw [cs, (hHt.sp hsp).2]
        have e51 : τ.1 6 5 - 1 = nI c := by rw [e5, nI_pred]
        obtain ⟨it, ct⟩ := q_lt (j := 14 * c + (q_fl F l).length) (N := 56) (by omega) (by decide)
        refine b75_0 (fun g => absurd g (by rw [e51]; exact nI_pos (by omega))) (fun _ => ?_)
        rw [e51]
        refine b75_11 ic (fun g => absurd g (by rw [cc, e30]; exact nI_ge (b := 14) (by omega) (by decide))) (fun _ => b75_22 ic (by rw [cc, e30, q_ix14]; exact it) (b75_39 ic ic (b75_49 (b73_51 ?_))))
        rw [cc, e30, q_ix14, ct]
        have e30' : (px_uL τ 29 (14 * c + (q_fl F l).length) (lN (q_pn (v_tx V (14 * x + l))))).1 30 c = nI (q_fl F l).length := e30
        rw [e30', nI_1, nI_1]
        refine ih (l + 1) _ (by omega) ((he.tr k_h1.u29).tr k_h1.u30) (by rw [q_uc (by decide)]; exact e5) (by rw [q_u, if_pos ⟨rfl, rfl⟩, elen]) (fun k hk => by rw [q_u, if_neg (fun z => hk z.2)]; exact ek k hk) (fun i hi => ?_) (fun s hs' => ?_)
        · show (px_uL τ 29 (14 * c + (q_fl F l).length) (lN (q_pn (v_tx V (14 * x + l))))).2.1 29 (14 * c + i) = _
          rw [k_uL]
          by_cases hil : i = (q_fl F l).length
          · rw [if_pos ⟨rfl, by omega⟩, ef, hil, q_getD_ar]
          · rw [if_neg (fun z => hil (by omega)), ef, q_getD_al (by omega)]
            exact e29 i (by omega)
        · show (px_uL τ 29 (14 * c + (q_fl F l).length) (lN (q_pn (v_tx V (14 * x + l))))).2.1 29 s = _
          rw [k_uL, if_neg (fun z => by omega)]
          exact es s hs'
  refine e73 (b73_0 (e74 (b74_0 (fun g => absurd g (by rw [h5]; exact nI_ge (b := 4) (by omega) (by decide))) (fun _ => b74_8 (by rw [h5]; exact ic) (b74_18 (b74_28 (b73_7 ?_)))))))
  rw [h5, cc]
  have e5 : (px_uI σ 30 c 0).1 6 5 = nI c := by rw [q_uc (by decide)]; exact h5
  rw [e5, nI_1]
  exact loop (v_sz V x) 0 _ (by omega) (k_h1.u30.tr k_h1.u6) (by rw [q_u, if_pos ⟨rfl, rfl⟩]) (by rw [q_uc (by decide), q_u, if_pos ⟨rfl, rfl⟩]; rfl) (fun k hk => by rw [q_uc (by decide), q_u, if_neg (fun z => hk z.2)]) (fun i hi => absurd hi (Nat.not_lt_zero _)) (fun _ _ => rfl)
theorem c_makeRow {g : Nat} (hV : q_wf V) (hI : k_I V σ) (hK : k_kin V (-1) 3 σ) (h8 : σ.1 5 8 = 1) (hg : g < q_gs V (-1) (q_par V (-1))) (hL4 : (q_ms V (-1) (q_par V (-1)) g).length ≤ 4) (h : ∀ τ, k_I V τ → k_kin V (-1) 3 τ → τ.1 5 8 = 1 → k_row V g τ → k_fr σ τ → Q none τ) : Cw (d + 5) 71 [.ref 5, .int (nI g)] σ Q := by
  have hn := hV.1
  have hp := q_par_ok hV (-1)
  obtain ⟨hgrp, hrw⟩ := hI.grp h8
  have hgs : q_gs V (-1) (q_par V (-1)) ≤ v_n V := q_cnt_le _ _
  by_cases h9 : σ.1 5 9 = nI g
  · refine e71 (b71_0 (fun z => absurd h9 z) (fun _ => b71_8 (h σ hI hK h8 ?_ k_fr.rf)))
    rcases hrw with z | ⟨g', g1, g2, g3⟩
    · rw [z] at h9; exact absurd h9 (q_m1ne (by omega))
    · rw [g2, nI_eq (by omega) (by omega)] at h9
      rw [← h9]; exact g3
  · have hseen : k_sn V (-1) 3 σ := hK.2.2
    have hhd := hK.hd
    obtain ⟨L, eL⟩ : ∃ L, L = q_ms V (-1) (q_par V (-1)) g := ⟨_, rfl⟩
    have hLne : 0 < L.length := by rw [eL]; exact q_ms_ne hg
    rw [← eL] at hL4
    have hLin : ∀ x ∈ L, x < v_n V := by rw [eL]; exact q_ms_in
    obtain ⟨f, ef⟩ : ∃ f : Nat → Bool, f = fun x => decide (q_gn V (-1) (q_par V (-1)) x = some g) := ⟨_, rfl⟩
    have eLf : L = q_fl f (v_n V) := by rw [eL, ef]; rfl
    have hf : ∀ x, f x = true ↔ q_gn V (-1) (q_par V (-1)) x = some g := fun x => by rw [ef]; simp
    have hmem : ∀ x, f x = true → q_mem V (-1) (q_par V (-1)) x = true := fun x hx => by
      have := (hf x).mp hx
      unfold q_gn at this
      split at this
      · assumption
      · cases this
    generalize epar : q_par V (-1) = p at *
    obtain ⟨⟨w1, w2⟩, w3⟩ := q_RW_L (p := p) hV hLin
    have lnP : ∀ k, L.length ≤ k → q_lnL V p L k = 0 := fun k hk => if_neg (fun z => by omega)
    have lnk : ∀ k, k < L.length → q_lnL V p L k = (q_pl V p (L.getD k 0)).length := fun k hk => if_pos ⟨by omega, hk⟩
    have hW : b_W (q_lnL V p L) (q_tn V (q_spL V p L)) L.length := ⟨hL4, w1, lnP, fun k i hk hi => q_pn_lt (hV.sp (w2 k i (by omega) hi)).2⟩
    have hne : ∃ k, k < L.length ∧ 0 < q_lnL V p L k := by
      refine ⟨0, hLne, ?_⟩
      rw [lnk 0 hLne]
      have hx := hLin _ (q_getD_mem hLne)
      have hfx : f (L.getD 0 0) = true := by
        have := q_getD_mem hLne
        rw [eLf] at this
        rw [eLf]
        exact (q_fl_in _ this).2
      have hm := hmem _ hfx
      unfold q_mem at hm
      rw [Bool.and_eq_true] at hm
      obtain ⟨l, l1, l2⟩ := (q_any_iff _).mp hm.2
      exact List.length_pos_of_mem (q_fl_mem (f := fun l => q_pce V p (14 * L.getD 0 0 + l)) l2 _ l1)
    have fr1 : ∀ τ, k_h1 σ τ → k_H V τ ∧ k_sn V (-1) 3 τ ∧ k_hd V 3 p τ ∧ τ.1 25 = σ.1 25 := fun τ he =>
      ⟨hI.1.fr (he.1 1 (by decide) (by decide)) (fun k k1 k2 => he.1 k (by omega) (by omega)) (he.2.2.1 1 (by decide)) (he.2.2.1 17 (by decide)), by unfold k_sn; rw [he.2.2.1 3 (by decide)]; exact hseen, fun s hs' => by rw [he.1 (2 * 3 + 16) (by decide) (by decide)]; exact hhd s hs', he.1 25 (by decide) (by decide)⟩
    have loop : ∀ m x (τ : px_S), x + m = v_n V → k_h1 σ τ → τ.1 6 5 = nI (q_cnt f x) → (∀ k, k < q_cnt f x → τ.1 30 k = nI (q_lnL V p L k)) → (∀ k i, k < q_cnt f x → i < q_lnL V p L k → τ.2.1 29 (14 * k + i) = lN (q_tn V (q_spL V p L) k i)) → Wp (d + 4) tb_71 18 [.ref 5, .int (nI g), .int (nI x)] [] τ Q := by
      intro m
      induction m with
      | zero =>
        intro x τ hx he e5 e30 e29
        have ex : x = v_n V := by omega
        subst ex
        have ec : q_cnt f (v_n V) = L.length := by rw [eLf, q_fl_len]
        rw [ec] at e5 e30 e29
        obtain ⟨hHt, hst, hht, h25⟩ := fr1 τ he
        have hKC : k_C τ := hI.2.2.2.2.2.2.2.2.2.fr (he.1 33 (by decide) (by decide)) he.2.2.2
        refine b71_18 (fun _ => b71_50 (c_findRow hW ⟨e5, e30, e29⟩ hKC hne (fun τ2 r hr hr56 r4 r32 rhd hC2 hF2 => b71_57 (b71_62 ?_)))) (fun z => absurd (by rw [hHt.1]; exact Int32.le_refl _) z)
        have erow : q_rowOf V p L = r := q_best_eq hr
        obtain ⟨F1, F2, F3⟩ := hF2
        generalize eτ : px_uI τ2 5 9 (nI g) = τ3
        have c3 : ∀ k, k ≠ 5 → τ3.1 k = τ2.1 k := fun k hk => by rw [← eτ]; exact q_uc hk
        have l3 : τ3.2 = τ2.2 := by rw [← eτ]; rfl
        have cc : ∀ k, k ≠ 5 ∧ k ≠ 6 ∧ k ≠ 30 ∧ k ≠ 33 → τ3.1 k = σ.1 k := fun k hk => by rw [c3 k hk.1, F1 k hk.2.1 hk.2.2.2, he.1 k hk.2.1 hk.2.2.1]
        have cl : ∀ k, k ≠ 29 ∧ k ≠ 31 ∧ k ≠ 32 → τ3.2.1 k = σ.2.1 k := fun k hk => by rw [l3, F3 k hk.2.1 hk.2.2, he.2.2.1 k hk.1]
        have c5 : ∀ j, j ≠ 9 → τ3.1 5 j = σ.1 5 j := fun j hj => by rw [← eτ, q_u, if_neg (fun z => hj z.2), F1 5 (by decide) (by decide), he.1 5 (by decide) (by decide)]
        have h83 : τ3.1 5 8 = 1 := by rw [c5 8 (by decide)]; exact h8
        have h93 : τ3.1 5 9 = nI g := by rw [← eτ, q_u, if_pos ⟨rfl, rfl⟩]
        have hrow3 : k_row V g τ3 := by
          unfold k_row
          rw [epar, ← eL, erow]
          refine ⟨by rw [c3 6 (by decide)]; exact r4, hr56, fun i hi => ⟨by rw [l3]; exact r32 i hi, ?_⟩⟩
          obtain ⟨u, hu, kk, k1, k2, k3⟩ := rhd i hi
          have hk : kk < L.length := by
            rcases Nat.lt_or_ge kk L.length with z | z
            · exact z
            · rw [lnP kk z] at k2; omega
          exact ⟨v_tx V (q_spL V p L kk (u kk)), (hV.sp (w2 kk (u kk) k1 k2)).2, k3.symm⟩
        have hkin3 : k_kin V (-1) 3 τ3 := hK.fr (cc 21 (by decide)) (cc 22 (by decide)) (cl 3 (by decide))
        refine h τ3 ?_ hkin3 h83 hrow3 (fun k hk => cc k (by omega))
        obtain ⟨i1, i2, i3, i4, i5, i6, i7, i8, i9, i10⟩ := hI
        refine ⟨i1.fr (cc 1 (by decide)) (fun k k1 k2 => cc k (by omega)) (cl 1 (by decide)) (cl 17 (by decide)), i2.fr (cc 10 (by decide)), i3.fr (cc 0 (by decide)) (cl 0 (by decide)), i4.fr (cc 7 (by decide)) (cc 34 (by decide)), i5.fr (cc 8 (by decide)) (cc 35 (by decide)), i6.fr (cc 18 (by decide)), i7.fr (cc 3 (by decide)) (cc 21 (by decide)) (cc 22 (by decide)) (cl 3 (by decide)), i8.fr (cc 4 (by decide)) (cc 23 (by decide)) (cc 24 (by decide)) (cl 4 (by decide)), Or.inr ⟨h83, ?_, Or.inr ⟨g, by rw [epar]; exact hg, h93, hrow3⟩⟩, ?_⟩
        · unfold k_grp at hgrp ⊢
          rw [cc 25 (by decide), cc 26 (by decide), cc 27 (by decide), c5 7 (by decide)]
          exact hgrp
        · exact hC2.fr (c3 33 (by decide)) (by rw [l3])
      | succ m ih =>
        intro x τ hx he e5 e30 e29
        have hxn : x < v_n V := by omega
        obtain ⟨hHt, hst, hht, h25⟩ := fr1 τ he
        obtain ⟨ix, cx⟩ := q_lt (j := x) (N := 40) (by omega) (by decide)
        have hg1 : σ.1 25 x = q_bi (q_gn V (-1) p x) := by have := hgrp.1 x hxn; rw [epar] at this; exact this
        have hgi : q_bi (q_gn V (-1) p x) = nI g ↔ q_gn V (-1) p x = some g := q_bi_eq (fun z hz => by have := q_gn_lt hxn hz; omega) (by omega)
        refine b71_18 (fun z => absurd z (by rw [hHt.1]; exact nI_ge (by omega) (by omega))) (fun _ => b71_29 ix (fun gg => b71_44 ?_) (fun gg => b71_39 ?_))
        · rw [cx, h25, hg1, hgi] at gg
          have hfx : f x = false := by
            cases hb : f x with
            | false => rfl
            | true => exact absurd ((hf x).mp hb) gg
          have ec : q_cnt f (x + 1) = q_cnt f x := by rw [q_cnt, hfx]; rfl
          rw [nI_1]
          exact ih (x + 1) τ (by omega) he (by rw [ec]; exact e5) (by rw [ec]; exact e30) (by rw [ec]; exact e29)
        · rw [cx, h25, hg1, hgi, Decidable.not_not] at gg
          have hfx : f x = true := (hf x).mpr gg
          have ec : q_cnt f (x + 1) = q_cnt f x + 1 := by rw [q_cnt, hfx]; rfl
          have hcl : q_cnt f x < L.length := by
            have := q_cnt_mono f (show x + 1 ≤ v_n V from hxn)
            rw [eLf, q_fl_len]; omega
          have hLx : L.getD (q_cnt f x) 0 = x := by rw [eLf]; exact q_fl_nth hfx _ hxn
          have hsx : q_seen V (-1) x = true := by
            have := hmem x hfx
            unfold q_mem at this
            rw [Bool.and_eq_true] at this
            exact this.1
          refine c_handOver hV hHt hst hp hht hxn hsx e5 (by omega) (fun τ2 he2 g5 g30 gk g29 gs => b71_44 ?_)
          rw [nI_1]
          refine ih (x + 1) τ2 (by omega) (he.tr he2) (by rw [ec]; exact g5) (fun k hk => ?_) (fun k i hk hi => ?_)
          · by_cases hkc : k = q_cnt f x
            · rw [hkc, g30, lnk _ hcl, hLx]
            · rw [gk k hkc]; exact e30 k (by omega)
          · by_cases hkc : k = q_cnt f x
            · subst hkc
              rw [lnk _ hcl, hLx] at hi
              rw [g29 i hi]
              show lN (q_pn (v_tx V (14 * x + (q_pl V p x).getD i 0))) = lN (q_pn (v_tx V (q_spL V p L (q_cnt f x) i)))
              unfold q_spL
              rw [hLx]
            · have hi14 := w1 k
              rw [gs _ (by omega)]; exact e29 k i (by omega) hi
    refine e71 (b71_0 (fun _ => b71_9 (e72 (b72_0 (b72_5 (b71_16 ?_))))) (fun z => absurd h9 z))
    exact loop (v_n V) 0 _ (by omega) k_h1.u6 (by rw [q_u, if_pos ⟨rfl, rfl⟩]; rfl) (fun k hk => absurd hk (Nat.not_lt_zero _)) (fun k i hk => absurd hk (Nat.not_lt_zero _))
theorem c_lhas {x : Int32} (hV : q_wf V) (hgrp : k_grp V σ) (h1 : ∀ g, g < q_gs V (-1) (q_par V (-1)) → x = nI g → Q (some (.int 1)) σ) (h0 : ¬ q_in x 0 ((q_gs V (-1) (q_par V (-1)) : Int) - 1) → Q (some (.int 0)) σ) : Cw (d + 1) 68 [.ref 5, .int x] σ Q := by
  have hn := hV.1
  have hgs : q_gs V (-1) (q_par V (-1)) ≤ v_n V := q_cnt_le _ _
  have e7 := hgrp.2.1
  refine e68 (b68_0 (fun g => b68_16 (b68_17 (Or.inl rfl) (h0 ?_))) (fun g => b68_4 (fun g2 => b68_16 (b68_17 (Or.inl rfl) (h0 ?_))) (fun g2 => b68_12 (b68_17 (Or.inr rfl) ?_))))
  · rw [k_neg] at g; intro z; have := z.1; omega
  · rw [e7, k_ge (n := (q_gs V (-1) (q_par V (-1)) : Int)) (nI_toInt (by omega))] at g2
    intro z; have := z.2; omega
  · rw [e7] at g2
    obtain ⟨j, hj, ej⟩ := nI_of g
    refine h1 j ?_ ej
    rw [ej, nI_leI (by omega) hj] at g2
    omega
theorem c_isLarge {g : Nat} (hV : q_wf V) (hgrp : k_grp V σ) (hg : g < q_gs V (-1) (q_par V (-1))) (h : Q (some (.int (q_b (decide (4 < (q_ms V (-1) (q_par V (-1)) g).length))))) σ) : Cw (d + 1) 69 [.ref 5, .int (nI g)] σ Q := by
  have hn := hV.1
  have hgs : q_gs V (-1) (q_par V (-1)) ≤ v_n V := q_cnt_le _ _
  obtain ⟨ig, cg⟩ := q_lt (j := g) (N := 40) (by omega) (by decide)
  have e26 := (hgrp.2.2 g hg).1
  have hml : (q_ms V (-1) (q_par V (-1)) g).length ≤ v_n V := q_ms_le
  refine e69 (b69_0 ig (fun z => b69_14 (b69_15 (Or.inl rfl) ?_)) (fun z => b69_10 (b69_15 (Or.inr rfl) ?_)))
  · rw [cg, e26, show (4 : Int32) = nI 4 from rfl, nI_leI (by omega) (by decide)] at z
    rw [decide_eq_false (by omega)] at h; exact h
  · rw [cg, e26, show (4 : Int32) = nI 4 from rfl, nI_leI (by omega) (by decide)] at z
    rw [decide_eq_true (by omega)] at h; exact h
theorem c_rowLength {g : Nat} (hV : q_wf V) (hI : k_I V σ) (hK : k_kin V (-1) 3 σ) (h8 : σ.1 5 8 = 1) (hg : g < q_gs V (-1) (q_par V (-1))) (hL4 : (q_ms V (-1) (q_par V (-1)) g).length ≤ 4) (h : ∀ τ, k_I V τ → k_kin V (-1) 3 τ → τ.1 5 8 = 1 → k_row V g τ → k_fr σ τ → Q (some (.int (nI (q_rowOf V (q_par V (-1)) (q_ms V (-1) (q_par V (-1)) g)).length))) τ) : Cw (d + 6) 70 [.ref 5, .int (nI g)] σ Q :=
  e70 (b70_0 (c_makeRow hV hI hK h8 hg hL4 (fun τ hIt hKt h8t hr hf => b70_5 (by rw [hr.1]; exact h τ hIt hKt h8t hr hf))))
theorem c_lost {g w : Int32} (hV : q_wf V) (hI : k_I V σ) (h : ∀ τ, k_I V τ → k_fr σ τ → Q (some (.int (sp_lost V g w))) τ) : Cw (d + 8) 67 [.ref 0, .int g, .int w] σ Q := by
  have hn := hV.1
  have hgs : q_gs V (-1) (q_par V (-1)) ≤ v_n V := q_cnt_le _ _
  refine e67 (b67_0 (c_refresh hV (Or.inl rfl) hI (fun τ hIt hK hf => b67_8 (c_lostRefresh hV hIt hK (fun τ2 hI2 hK2 h82 hf2 => b67_15 ?_)))))
  obtain ⟨hgrp, -⟩ := hI2.grp h82
  have hff := hf.tr hf2
  refine c_lhas hV hgrp (fun gN hg eg => ?_) (fun hno => ?_)
  · subst eg
    obtain ⟨ig, cg⟩ := q_lt (j := gN) (N := 40) (by omega) (by decide)
    obtain ⟨g26, g27⟩ := hgrp.2.2 gN hg
    unfold sp_lost at h
    rw [if_pos ⟨by rw [nI_toInt (by omega)]; omega, by rw [nI_toInt (by omega)]; omega⟩, cg] at h
    have out : ¬ q_in w 0 2 → Wp (d + 7) tb_67 39 [.ref 0, .int (nI gN), .int w] [] τ2 Q := fun hz => by
      rw [if_neg hz] at h; exact b67_39 (h τ2 hI2 hff)
    refine b67_23 (fun _ => b67_30 (fun z => out ?_) (fun z => b67_34 (fun z2 => b67_43 (fun w0 => b67_57 (fun w1 => b67_72 (c_isLarge hV hgrp hg ?_)) (fun w1 => b67_62 ig ?_)) (fun w0 => b67_47 ig ?_)) (fun z2 => out ?_))) (fun z => absurd (by decide) z)
    · rw [k_neg] at z; intro y; have := y.1; omega
    · rw [k_neg] at z
      rw [k_le (n := 2) (by decide)] at z2
      rw [q_tI _ _ (n := 0) (by decide)] at w0
      rw [q_tI _ _ (n := 1) (by decide)] at w1
      rw [if_pos ⟨by omega, z2⟩] at h
      unfold q_lsf at h
      rw [if_neg w0, if_neg w1] at h
      by_cases hl : 4 < (q_ms V (-1) (q_par V (-1)) gN).length
      · rw [if_pos hl] at h
        rw [decide_eq_true hl]
        exact b67_80 (fun y => absurd y (by decide)) (fun _ => b67_83 (b67_97 (h τ2 hI2 hff)))
      · rw [if_neg hl] at h
        rw [decide_eq_false hl]
        exact b67_80 (fun _ => b67_89 (c_rowLength hV hI2 hK2 h82 hg (by omega) (fun τ3 hI3 hK3 h83 hr hf3 => b67_97 (h τ3 hI3 (hff.tr hf3))))) (fun y => absurd rfl y)
    · rw [k_neg] at z
      rw [k_le (n := 2) (by decide)] at z2
      rw [q_tI _ _ (n := 0) (by decide)] at w0
      rw [Decidable.not_not, q_tI _ _ (n := 1) (by decide)] at w1
      rw [if_pos ⟨by omega, z2⟩] at h
      unfold q_lsf at h
      rw [if_neg w0, if_pos w1] at h
      rw [cg, g27]
      exact h τ2 hI2 hff
    · rw [k_neg] at z
      rw [k_le (n := 2) (by decide)] at z2
      rw [Decidable.not_not, q_tI _ _ (n := 0) (by decide)] at w0
      rw [if_pos ⟨by omega, z2⟩] at h
      unfold q_lsf at h
      rw [if_pos w0] at h
      rw [cg, g26]
      exact h τ2 hI2 hff
    · rw [k_le (n := 2) (by decide)] at z2; intro y; have := y.2; omega
  · unfold sp_lost at h
    rw [if_neg hno] at h
    exact b67_23 (fun z => absurd rfl z) (fun _ => b67_26 (h τ2 hI2 hff))
theorem c_lostWord {g i k : Int32} (hV : q_wf V) (hI : k_I V σ) (h : ∀ τ, k_I V τ → k_fr σ τ → Q (some (.int (sp_lostWord V g i k))) τ) : Cw (d + 8) 84 [.ref 0, .int g, .int i, .int k] σ Q := by
  have hn := hV.1
  have hgs : q_gs V (-1) (q_par V (-1)) ≤ v_n V := q_cnt_le _ _
  refine e84 (b84_0 (c_refresh hV (Or.inl rfl) hI (fun τ hIt hK hf => b84_8 (c_lostRefresh hV hIt hK (fun τ2 hI2 hK2 h82 hf2 => b84_15 ?_)))))
  obtain ⟨hgrp, -⟩ := hI2.grp h82
  have hff := hf.tr hf2
  refine c_lhas hV hgrp (fun gN hg eg => ?_) (fun hno => ?_)
  · subst eg
    have cg : (nI gN).toNatClampNeg = gN := nI_clamp (by omega)
    unfold sp_lostWord at h
    rw [if_pos ⟨by rw [nI_toInt (by omega)]; omega, by rw [nI_toInt (by omega)]; omega⟩, cg] at h
    unfold q_lwf at h
    refine b84_23 (fun _ => b84_30 (c_isLarge hV hgrp hg ?_)) (fun z => absurd (by decide) z)
    by_cases hl : 4 < (q_ms V (-1) (q_par V (-1)) gN).length
    · rw [if_pos hl] at h
      rw [decide_eq_true hl]
      exact b84_38 (fun y => absurd y (by decide)) (fun _ => b84_41 (h τ2 hI2 hff))
    · rw [if_neg hl] at h
      rw [decide_eq_false hl]
      refine b84_38 (fun _ => b84_45 (fun z => b84_61 ?_) (fun z => b84_49 (c_rowLength hV hI2 hK2 h82 hg (by omega) (fun τ3 hI3 hK3 h83 hr hf3 => b84_58 (fun z2 => b84_63 ?_) (fun z2 => b84_61 ?_))))) (fun y => absurd rfl y)
      · rw [k_neg] at z
        rw [if_neg (fun y => by have := y.1; omega)] at h
        exact h τ2 hI2 hff
      · obtain ⟨r1, r2, r3⟩ := hr
        generalize eR : q_rowOf V (q_par V (-1)) (q_ms V (-1) (q_par V (-1)) gN) = rw0 at h z2
        rw [k_neg] at z
        rw [k_lt (n := (rw0.length : Int)) (nI_toInt (by rw [eR] at r2; omega))] at z2
        rw [eR] at r2
        rw [if_pos ⟨by omega, by omega⟩] at h
        obtain ⟨iN, eiN⟩ : ∃ iN : Nat, i.toInt = (iN : Int) := ⟨i.toInt.toNat, by omega⟩
        have ei := q_ofInt eiN
        subst ei
        have ci : (nI iN).toNatClampNeg = iN := nI_clamp (by omega)
        rw [ci] at h
        refine e85 (b85_0 (c_makeRow hV hI3 hK3 h83 hg (by omega) (fun τ4 hI4 hK4 h84 hr4 hf4 => ?_)))
        obtain ⟨s1, s2, s3⟩ := hr4
        rw [eR] at s1 s3
        obtain ⟨q1, t, q2, q3⟩ := s3 iN (by omega)
        have h := h τ4 hI4 ((hff.tr hf3).tr hf4)
        rw [q3, q_ut_pk q2] at h
        obtain ⟨ii, cii⟩ := q_lt (j := iN) (N := 56) (by omega) (by decide)
        refine b85_5 (fun y => absurd y (nI_pos (by omega))) (fun _ => b85_9 (fun y => absurd y (by rw [s1]; exact nI_ge (by omega) (by omega))) (fun _ => b85_20 ii (b85_33 ?_)))
        rw [cii, q1, q3]
        unfold q_lw at h
        have htl := q2.1
        refine b84_72 (fun y => b84_87 (c_wordOrNone q2 (b84_93 ?_))) (fun y => b84_79 (c_wordsIn q2 (b84_84 (b84_93 ?_))))
        · rw [if_neg y] at h
          have e : (if q_in k 0 7 then q_wd t k.toNatClampNeg else -1) = (if q_in k 0 ((t.length : Int) - 1) then nI (t.getD k.toNatClampNeg 0) else -1) := by
            unfold q_wd
            by_cases hk0 : 0 ≤ k.toInt
            · obtain ⟨kN, ekN⟩ : ∃ kN : Nat, k.toInt = (kN : Int) := ⟨k.toInt.toNat, by omega⟩
              have hkl := Int32.toInt_lt k
              have ck : k.toNatClampNeg = kN := by rw [q_ofInt ekN]; exact nI_clamp (by omega)
              rw [ck]
              by_cases hkt : kN < t.length
              · rw [if_pos ⟨by omega, by omega⟩, if_pos hkt, if_pos ⟨by omega, by omega⟩]
              · rw [if_neg (c := q_in k 0 ((t.length : Int) - 1)) (fun z => by have := z.2; omega), if_neg hkt]
                split <;> rfl
            · rw [if_neg (fun z => hk0 z.1), if_neg (fun z => hk0 z.1)]
          rw [e]
          exact h
        · rw [if_pos (Decidable.not_not.mp y)] at h
          exact h
      · have r2 := hr.2.1
        rw [k_neg] at z
        rw [k_lt (n := ((q_rowOf V (q_par V (-1)) (q_ms V (-1) (q_par V (-1)) gN)).length : Int)) (nI_toInt (by omega))] at z2
        rw [if_neg (fun y => by have := y.2; omega)] at h
        exact h τ3 hI3 (hff.tr hf3)
  · unfold sp_lostWord at h
    rw [if_neg hno] at h
    exact b84_23 (fun z => absurd rfl z) (fun _ => b84_26 (h τ2 hI2 hff))
end KLO
