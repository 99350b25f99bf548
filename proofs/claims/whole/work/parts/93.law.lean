/-! ===== the law's loop; the pure statement ===== -/
def w_Q (r : Option Value) (τ : px_S) : Prop := r = some (.int 1) ∧ px_cc τ ≤ 500000 ∧ px_cs τ ≤ 7000000
theorem w_end {V : QV} {σ : px_S} (hJ : w_J V σ) : px_cc σ ≤ 500000 ∧ px_cs σ ≤ 7000000 := by
  obtain ⟨-, h1, h2, h3⟩ := hJ.2.2.1.2.2.2.2.2.2.2.2.2
  omega
theorem w_loop {L : Nat} {xs : Nat → Int32} (hL : L ≤ 2560) : ∀ n i V σ, L ≤ i + n → i ≤ L + 5 → w_J V σ → Wp 9 (tb_law L xs) 18 (w_ls i) [] σ w_Q := by
  intro n
  induction n with
  | zero =>
    intro i V σ hn hi hJ
    refine Wp.step (lk_18 L xs) rfl (Wp.step (lk_19 L xs) rfl (Wp.step (lk_20 L xs) rfl (Wp.step (lk_21 L xs) rfl (Wp.step (lk_22 L xs) rfl (Wp.icmp (lk_23 L xs) (fun _ => ?_) (fun g => absurd ?_ g))))))
    · exact Wp.step (lk_1067 L xs) rfl (Wp.ret (r := some (.int 1)) (lk_1068 L xs) rfl ⟨rfl, w_end hJ⟩)
    · show nI L - nI 5 < nI i
      rw [Int32.lt_iff_toInt_lt, pk_sub_toInt (by omega) (by decide), nI_toInt (by omega)]
      omega
  | succ n ih =>
    intro i V σ hn hi hJ
    refine Wp.step (lk_18 L xs) rfl (Wp.step (lk_19 L xs) rfl (Wp.step (lk_20 L xs) rfl (Wp.step (lk_21 L xs) rfl (Wp.step (lk_22 L xs) rfl (Wp.icmp (lk_23 L xs) (fun _ => ?_) (fun g => ?_))))))
    · exact Wp.step (lk_1067 L xs) rfl (Wp.ret (r := some (.int 1)) (lk_1068 L xs) rfl ⟨rfl, w_end hJ⟩)
    · have g : ¬ nI L - nI 5 < nI i := g
      rw [Int32.lt_iff_toInt_lt, pk_sub_toInt (by omega) (by decide), nI_toInt (by omega)] at g
      have hi5 : i + 5 ≤ L := by omega
      have next : ∀ W τ, w_J W τ → Wp 9 (tb_law L xs) 1061 (w_ls i) [] τ w_Q := fun W τ hW => by
        refine Wp.step (q := (1064, w_ls (i + 5), [], τ)) (lk_1061 L xs) ?_ (Wp.step (lk_1064 L xs) rfl (ih (i + 5) W τ (by omega) (by omega) hW))
        show some (1064, [Value.ref 102, .ref 0, .ref 9, .int (nI i + 5)], [], τ) = _
        rw [show (5 : Int32) = nI 5 from rfl, nI_add]
      refine Wp.step (lk_26 L xs) rfl (Wp.step (lk_27 L xs) rfl (Wp.step (q := (29, w_ls i, [.int (xs i)], σ)) (lk_28 L xs) ?_ (Wp.step (lk_29 L xs) rfl (Wp.step (lk_31 L xs) rfl (Wp.tsw (lk_32 L xs) (by decide) (fun _ => next V σ hJ) (fun j t hjt _ => ?_))))))
      · show pi_sld 29 L xs (w_ls i) [.int (nI i), .ref 102] σ = _
        unfold pi_sld
        dsimp only
        rw [nI_clamp (by omega), if_pos ⟨rfl, fun z => by
          rcases z with z | z
          · exact nI_pos (by omega) z
          · omega⟩]
      · match j, hjt with
        | 0, hjt => cases hjt; exact w_case_0 hL hi5 hJ next
        | 1, hjt => cases hjt; exact w_case_1 hL hi5 hJ next
        | 2, hjt => cases hjt; exact w_case_2 hL hi5 hJ next
        | 3, hjt => cases hjt; exact w_case_3 hL hi5 hJ next
        | 4, hjt => cases hjt; exact w_case_4 hL hi5 hJ next
        | 5, hjt => cases hjt; exact w_case_5 hL hi5 hJ next
        | 6, hjt => cases hjt; exact w_case_6 hL hi5 hJ next
        | 7, hjt => cases hjt; exact w_case_7 hL hi5 hJ next
        | 8, hjt => cases hjt; exact w_case_8 hL hi5 hJ next
        | 9, hjt => cases hjt; exact w_case_9 hL hi5 hJ next
        | 10, hjt => cases hjt; exact w_case_10 hL hi5 hJ next
        | 11, hjt => cases hjt; exact w_case_11 hL hi5 hJ next
        | 12, hjt => cases hjt; exact w_case_12 hL hi5 hJ next
        | 13, hjt => cases hjt; exact w_case_13 hL hi5 hJ next
        | 14, hjt => cases hjt; exact w_case_14 hL hi5 hJ next
        | 15, hjt => cases hjt; exact w_case_15 hL hi5 hJ next
        | 16, hjt => cases hjt; exact w_case_16 hL hi5 hJ next
        | 17, hjt => cases hjt; exact w_case_17 hL hi5 hJ next
        | 18, hjt => cases hjt; exact w_case_18 hL hi5 hJ next
        | 19, hjt => cases hjt; exact w_case_19 hL hi5 hJ next
        | 20, hjt => cases hjt; exact w_case_20 hL hi5 hJ next
        | 21, hjt => cases hjt; exact w_case_21 hL hi5 hJ next
        | 22, hjt => cases hjt; exact w_case_22 hL hi5 hJ next
        | 23, hjt => cases hjt; exact w_case_23 hL hi5 hJ next
        | 24, hjt => cases hjt; exact w_case_24 hL hi5 hJ next
        | 25, hjt => cases hjt; exact w_case_25 hL hi5 hJ next
        | 26, hjt => cases hjt; exact w_case_26 hL hi5 hJ next
        | 27, hjt => cases hjt; exact w_case_27 hL hi5 hJ next
        | 28, hjt => cases hjt; exact w_case_28 hL hi5 hJ next
        | j + 29, hjt => cases hjt
theorem law_pure (L : Nat) (xs : Nat → Int32) (hL : L ≤ 2560) : px_LP L xs := by
  have w : Wp 9 (tb_law L xs) 16 [.ref 102, .ref 0, .ref 9, .null] [] px_s0 w_Q := Wp.step (lk_16 L xs) rfl (Wp.step (lk_17 L xs) rfl (w_loop hL L 0 w_V0 px_s0 (by omega) (by omega) w_0))
  obtain ⟨r, τ, ⟨h1, h2, h3⟩, f0, h4⟩ := w
  refine ⟨f0, f0, τ, ?_, h2, h3⟩
  rw [h4 f0 (Nat.le_refl _) f0 (Nat.le_refl _), h1]
