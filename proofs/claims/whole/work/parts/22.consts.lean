/-! ===== constants of the start: the nest, static rows, texts ===== -/
theorem lw_t1 {w : Cond} (i : Nat) (h0 : tables_1_1[i]? = some w) : w ∈ lw_tbl := by
  have h := List.mem_of_getElem? h0
  exact List.mem_append_right _ (List.mem_append_left _ h)
theorem lw_t2 {w : Cond} (i : Nat) (h0 : tables_1_2[i]? = some w) : w ∈ lw_tbl := by
  have h := List.mem_of_getElem? h0
  exact List.mem_append_right _ (List.mem_append_right _ (List.mem_append_left _ h))
theorem lw_t3 {w : Cond} (i : Nat) (h0 : tables_1_3[i]? = some w) : w ∈ lw_tbl := by
  have h := List.mem_of_getElem? h0
  exact List.mem_append_right _ (List.mem_append_right _ (List.mem_append_right _ (List.mem_append_left _ h)))
theorem lw_t4 {w : Cond} (i : Nat) (h0 : tables_1_4[i]? = some w) : w ∈ lw_tbl := by
  have h := List.mem_of_getElem? h0
  exact List.mem_append_right _ (List.mem_append_right _ (List.mem_append_right _ (List.mem_append_right _ (List.mem_append_left _ h))))
theorem lw_t5 {w : Cond} (i : Nat) (h0 : tables_1_5[i]? = some w) : w ∈ lw_tbl := by
  have h := List.mem_of_getElem? h0
  exact List.mem_append_right _ (List.mem_append_right _ (List.mem_append_right _ (List.mem_append_right _ (List.mem_append_right _ (List.mem_append_left _ h)))))
theorem lw_t6 {w : Cond} (i : Nat) (h0 : tables_1_6[i]? = some w) : w ∈ lw_tbl := by
  have h := List.mem_of_getElem? h0
  exact List.mem_append_right _ (List.mem_append_right _ (List.mem_append_right _ (List.mem_append_right _ (List.mem_append_right _ (List.mem_append_right _ (h))))))
set_option maxRecDepth 20000 in
theorem ln_RX1 : Cond.methodLinkNest RX1 59 yX8_spotOf RX8 ∈ lw_tbl := lw_t2 98 rfl
set_option maxRecDepth 20000 in
theorem ln_RX0 : Cond.methodLinkNest RX0 48 yX8_spotOf RX8 ∈ lw_tbl := lw_t2 184 rfl
set_option maxRecDepth 20000 in
theorem ln_RX2 : Cond.methodLinkNest RX2 92 yX8_spotOf RX8 ∈ lw_tbl := lw_t2 207 rfl
set_option maxRecDepth 20000 in
theorem ln_RX3 : Cond.methodLinkNest RX3 73 yX8_spotOf RX8 ∈ lw_tbl := lw_t3 65 rfl
set_option maxRecDepth 20000 in
theorem ln_f25 : Cond.fieldLinkNest RX6 25 RX8 "FIRST_RULES" "[I" RX8 ∈ lw_tbl := lw_t4 29 rfl
set_option maxRecDepth 20000 in
theorem ln_f83 : Cond.fieldLinkNest RX6 83 RX8 "RULE_BOUNDS" "[I" RX8 ∈ lw_tbl := lw_t4 124 rfl
set_option maxRecDepth 20000 in
theorem lc_1 : Cond.methodLinkNest RX8 24 yX1_init RX8 ∈ lw_tbl := lw_t1 33 rfl
set_option maxRecDepth 20000 in
theorem lc_4 : Cond.methodLinkNest RX8 61 yX4_init RX8 ∈ lw_tbl := lw_t1 226 rfl
set_option maxRecDepth 20000 in
theorem lc_6 : Cond.methodLinkNest RX8 68 yX6_init RX8 ∈ lw_tbl := lw_t2 0 rfl
set_option maxRecDepth 20000 in
theorem lc_5 : Cond.methodLinkNest RX3 11 yX5_init RX8 ∈ lw_tbl := lw_t1 160 rfl
set_option maxRecDepth 20000 in
theorem ls_F : Cond.laysStatic RX8 "FIRST_RULES" "[I" ∈ lw_tbl := lw_t1 27 rfl
set_option maxRecDepth 20000 in
theorem ls_B : Cond.laysStatic RX8 "RULE_BOUNDS" "[I" ∈ lw_tbl := lw_t4 125 rfl
set_option maxRecDepth 20000 in
theorem ls_C : Cond.laysStatic RJ0 "COMPACT_STRINGS" "Z" ∈ lw_tbl := lw_t4 68 rfl
set_option maxRecDepth 20000 in
theorem ls_S : Cond.laysStatic RJ3 "SIOOBE_FORMATTER" "Ljava/util/function/BiFunction;" ∈ lw_tbl := lw_t4 84 rfl
set_option maxRecDepth 20000 in
theorem li_Q : Cond.initialized RX8 ∈ lw_tbl := lw_t1 1 rfl
set_option maxRecDepth 20000 in
theorem li_S : Cond.initialized RJ0 ∈ lw_tbl := lw_t1 14 rfl
set_option maxRecDepth 20000 in
theorem li_P : Cond.initialized RJ3 ∈ lw_tbl := lw_t1 16 rfl
set_option maxRecDepth 20000 in
theorem lx_0 : Cond.stringRef RX6 90 "near" ∈ lw_tbl := lw_t4 50 rfl
set_option maxRecDepth 20000 in
theorem lx_1 : Cond.stringRef RX6 92 "fit" ∈ lw_tbl := lw_t4 51 rfl
set_option maxRecDepth 20000 in
theorem lx_2 : Cond.stringRef RX6 94 "trust" ∈ lw_tbl := lw_t4 52 rfl
set_option maxRecDepth 20000 in
theorem lx_3 : Cond.stringRef RX6 96 "keep" ∈ lw_tbl := lw_t4 53 rfl
set_option maxRecDepth 20000 in
theorem lx_4 : Cond.stringRef RX6 98 "deep" ∈ lw_tbl := lw_t4 54 rfl
set_option maxRecDepth 20000 in
theorem lx_5 : Cond.stringRef RX6 72 "yes" ∈ lw_tbl := lw_t4 115 rfl
set_option maxRecDepth 20000 in
theorem lx_6 : Cond.stringRef RX6 78 "no" ∈ lw_tbl := lw_t4 116 rfl
theorem px_size5 {args : Array Value} {s : State} {tm : Term} (hlen : (Term.length tm).eval args s none [] s = some (.int 5)) {t : Nat} (ht : tm.eval args s none [] s = some (.ref t)) : ∀ cell, s.heap[t]? = some cell → cell.slots.size = 5 := by
  obtain ⟨a, cell, ha, harr, hv⟩ := Term.length_spec hlen
  cases ha.symm.trans ht
  have hsz : cell.slots.size < 2 ^ 31 := by
    have h9 := hlen
    simp only [Term.eval, ht, harr, Option.bind_eq_bind, Option.bind_some] at h9
    by_cases hlt : cell.slots.size < 2147483648
    · exact hlt
    · simp [hlt] at h9
  obtain ⟨hcell, -, -, -⟩ := State.arrayAt?_spec harr
  intro c2 h2
  cases hcell.symm.trans h2
  have e : nI cell.slots.size = nI 5 := by
    have h8 : Value.int 5 = Value.int cell.slots.size.toInt32 := hv
    injection h8 with h8
    exact h8.symm
  exact (nI_eq hsz (by decide)).mp e
set_option maxRecDepth 20000 in
set_option maxHeartbeats 2000000 in
theorem px_X0 {s : State} {b : Nat} (hts : ∀ w ∈ lw_tbl, w.before #[Value.ref b] s = true) (hgv : (Jvm.Cond.and given_1 narrow_1).before #[Value.ref b] s = true) :
    ∃ (fr rb sa sf : Nat) (adK adV : Nat → Nat), ∀ ad : Nat → Nat, ad 100 = fr → ad 101 = rb → ad 130 = sa → ad 131 = sf → (∀ i, i < 7 → ad (110 + i) = adK i) → (∀ i, i < 7 → ad (120 + i) = adV i) → px_X ad (fun q : Nat => s.heap.size ≤ q) s s.heap := by
  have hs := flat_of_before _ hgv
  have hA : ∀ a : Nat, a < s.heap.size → ¬ (fun q : Nat => s.heap.size ≤ q) a := fun a h => Nat.not_le.mpr h
  have hlF : (Term.length (.static RX8 "FIRST_RULES" "[I")).eval #[Value.ref b] s none [] s = some (.int 5) := va_eqt (hs (Cond.eq (.length (.static RX8 "FIRST_RULES" "[I")) (.int 5)) (by decide +kernel))
  have hlB : (Term.length (.static RX8 "RULE_BOUNDS" "[I")).eval #[Value.ref b] s none [] s = some (.int 5) := va_eqt (hs (Cond.eq (.length (.static RX8 "RULE_BOUNDS" "[I")) (.int 5)) (by decide +kernel))
  obtain ⟨tF, eF, hF⟩ := va_Tof (tm := .static RX8 "FIRST_RULES" "[I") (ty := .int) (N := 5) (f := fun j => .int (px_FR j)) (A := fun q : Nat => s.heap.size ≤ q) (by decide) (hs (Cond.arrayOf (.static RX8 "FIRST_RULES" "[I") .int) (by decide +kernel)) hlF (fun j hj => by
    match j, hj with
    | 0, _ => exact va_eqt (hs (Cond.eq (.elem (.static RX8 "FIRST_RULES" "[I") (.int 0)) (.int 0)) (by decide +kernel))
    | 1, _ => exact va_eqt (hs (Cond.eq (.elem (.static RX8 "FIRST_RULES" "[I") (.int 1)) (.int 50)) (by decide +kernel))
    | 2, _ => exact va_eqt (hs (Cond.eq (.elem (.static RX8 "FIRST_RULES" "[I") (.int 2)) (.int 1)) (by decide +kernel))
    | 3, _ => exact va_eqt (hs (Cond.eq (.elem (.static RX8 "FIRST_RULES" "[I") (.int 3)) (.int 14)) (by decide +kernel))
    | 4, _ => exact va_eqt (hs (Cond.eq (.elem (.static RX8 "FIRST_RULES" "[I") (.int 4)) (.int 5)) (by decide +kernel))
    | k + 5, h => exact absurd h (by omega)) hA
  obtain ⟨tB, eB, hB⟩ := va_Tof (tm := .static RX8 "RULE_BOUNDS" "[I") (ty := .int) (N := 5) (f := fun j => .int (px_RB j)) (A := fun q : Nat => s.heap.size ≤ q) (by decide) (hs (Cond.arrayOf (.static RX8 "RULE_BOUNDS" "[I") .int) (by decide +kernel)) hlB (fun j hj => by
    match j, hj with
    | 0, _ => exact va_eqt (hs (Cond.eq (.elem (.static RX8 "RULE_BOUNDS" "[I") (.int 0)) (.int 2)) (by decide +kernel))
    | 1, _ => exact va_eqt (hs (Cond.eq (.elem (.static RX8 "RULE_BOUNDS" "[I") (.int 1)) (.int 100)) (by decide +kernel))
    | 2, _ => exact va_eqt (hs (Cond.eq (.elem (.static RX8 "RULE_BOUNDS" "[I") (.int 2)) (.int 1)) (by decide +kernel))
    | 3, _ => exact va_eqt (hs (Cond.eq (.elem (.static RX8 "RULE_BOUNDS" "[I") (.int 3)) (.int 14)) (by decide +kernel))
    | 4, _ => exact va_eqt (hs (Cond.eq (.elem (.static RX8 "RULE_BOUNDS" "[I") (.int 4)) (.int 5)) (by decide +kernel))
    | k + 5, h => exact absurd h (by omega)) hA
  have hXF : va_X tF 5 px_FR s s.heap := by
    obtain ⟨cell, h1, h2, h3, h4, h5, h6, h7⟩ := hF
    exact ⟨cell, h1, h2, h3, px_size5 hlF eF cell h1, h6⟩
  have hZF := va_Zof (A := fun q : Nat => s.heap.size ≤ q) (hts _ ls_F) (hts _ li_Q) eF hA
  have hZB := va_Zof (A := fun q : Nat => s.heap.size ≤ q) (hts _ ls_B) (hts _ li_Q) eB hA
  have hZC := va_Zof (A := fun q : Nat => s.heap.size ≤ q) (hts _ ls_C) (hts _ li_S) (va_eqi (hs (Cond.eq (.static RJ0 "COMPACT_STRINGS" "Z") (.int 1)) (by decide +kernel))) hA
  have hZS := va_Zqof (A := fun q : Nat => s.heap.size ≤ q) (hts _ ls_S) (hts _ li_P) (hs (Cond.isRef (.static RJ3 "SIOOBE_FORMATTER" "Ljava/util/function/BiFunction;")) (by decide +kernel)) hA
  obtain ⟨adK, adV, hV, hE⟩ := vk_Sof (args := #[Value.ref b]) (s := s) (N := 7) (tm := fun i => .string RX6 (px_si i)) (len := px_sl) (byt := px_sb) (A := fun q : Nat => s.heap.size ≤ q) (fun i hi => by
    match i, hi with
    | 0, _ => decide
    | 1, _ => decide
    | 2, _ => decide
    | 3, _ => decide
    | 4, _ => decide
    | 5, _ => decide
    | 6, _ => decide
    | k + 7, h => exact absurd h (by omega)) (fun i hi => by
    match i, hi with
    | 0, _ => exact hs (Cond.exactly (.string RX6 90) "java/lang/String") (by decide +kernel)
    | 1, _ => exact hs (Cond.exactly (.string RX6 92) "java/lang/String") (by decide +kernel)
    | 2, _ => exact hs (Cond.exactly (.string RX6 94) "java/lang/String") (by decide +kernel)
    | 3, _ => exact hs (Cond.exactly (.string RX6 96) "java/lang/String") (by decide +kernel)
    | 4, _ => exact hs (Cond.exactly (.string RX6 98) "java/lang/String") (by decide +kernel)
    | 5, _ => exact hs (Cond.exactly (.string RX6 72) "java/lang/String") (by decide +kernel)
    | 6, _ => exact hs (Cond.exactly (.string RX6 78) "java/lang/String") (by decide +kernel)
    | k + 7, h => exact absurd h (by omega)) (fun i hi => by
    match i, hi with
    | 0, _ => exact hs (Cond.eq (.field (.string RX6 90) "java/lang/String" "coder" "B") (.int 0)) (by decide +kernel)
    | 1, _ => exact hs (Cond.eq (.field (.string RX6 92) "java/lang/String" "coder" "B") (.int 0)) (by decide +kernel)
    | 2, _ => exact hs (Cond.eq (.field (.string RX6 94) "java/lang/String" "coder" "B") (.int 0)) (by decide +kernel)
    | 3, _ => exact hs (Cond.eq (.field (.string RX6 96) "java/lang/String" "coder" "B") (.int 0)) (by decide +kernel)
    | 4, _ => exact hs (Cond.eq (.field (.string RX6 98) "java/lang/String" "coder" "B") (.int 0)) (by decide +kernel)
    | 5, _ => exact hs (Cond.eq (.field (.string RX6 72) "java/lang/String" "coder" "B") (.int 0)) (by decide +kernel)
    | 6, _ => exact hs (Cond.eq (.field (.string RX6 78) "java/lang/String" "coder" "B") (.int 0)) (by decide +kernel)
    | k + 7, h => exact absurd h (by omega)) (fun i hi => by
    match i, hi with
    | 0, _ => exact hs (Cond.arrayOf (.field (.string RX6 90) "java/lang/String" "value" "[B") .byte) (by decide +kernel)
    | 1, _ => exact hs (Cond.arrayOf (.field (.string RX6 92) "java/lang/String" "value" "[B") .byte) (by decide +kernel)
    | 2, _ => exact hs (Cond.arrayOf (.field (.string RX6 94) "java/lang/String" "value" "[B") .byte) (by decide +kernel)
    | 3, _ => exact hs (Cond.arrayOf (.field (.string RX6 96) "java/lang/String" "value" "[B") .byte) (by decide +kernel)
    | 4, _ => exact hs (Cond.arrayOf (.field (.string RX6 98) "java/lang/String" "value" "[B") .byte) (by decide +kernel)
    | 5, _ => exact hs (Cond.arrayOf (.field (.string RX6 72) "java/lang/String" "value" "[B") .byte) (by decide +kernel)
    | 6, _ => exact hs (Cond.arrayOf (.field (.string RX6 78) "java/lang/String" "value" "[B") .byte) (by decide +kernel)
    | k + 7, h => exact absurd h (by omega)) (fun i hi => by
    match i, hi with
    | 0, _ => exact hs (Cond.eq (.length (.field (.string RX6 90) "java/lang/String" "value" "[B")) (.int 4)) (by decide +kernel)
    | 1, _ => exact hs (Cond.eq (.length (.field (.string RX6 92) "java/lang/String" "value" "[B")) (.int 3)) (by decide +kernel)
    | 2, _ => exact hs (Cond.eq (.length (.field (.string RX6 94) "java/lang/String" "value" "[B")) (.int 5)) (by decide +kernel)
    | 3, _ => exact hs (Cond.eq (.length (.field (.string RX6 96) "java/lang/String" "value" "[B")) (.int 4)) (by decide +kernel)
    | 4, _ => exact hs (Cond.eq (.length (.field (.string RX6 98) "java/lang/String" "value" "[B")) (.int 4)) (by decide +kernel)
    | 5, _ => exact hs (Cond.eq (.length (.field (.string RX6 72) "java/lang/String" "value" "[B")) (.int 3)) (by decide +kernel)
    | 6, _ => exact hs (Cond.eq (.length (.field (.string RX6 78) "java/lang/String" "value" "[B")) (.int 2)) (by decide +kernel)
    | k + 7, h => exact absurd h (by omega)) (fun i hi => by
    match i, hi with
    | 0, _ => 
      intro j hj
      match j, hj with
      | 0, _ => exact hs (Cond.eq (.elem (.field (.string RX6 90) "java/lang/String" "value" "[B") (.int 0)) (.int 110)) (by decide +kernel)
      | 1, _ => exact hs (Cond.eq (.elem (.field (.string RX6 90) "java/lang/String" "value" "[B") (.int 1)) (.int 101)) (by decide +kernel)
      | 2, _ => exact hs (Cond.eq (.elem (.field (.string RX6 90) "java/lang/String" "value" "[B") (.int 2)) (.int 97)) (by decide +kernel)
      | 3, _ => exact hs (Cond.eq (.elem (.field (.string RX6 90) "java/lang/String" "value" "[B") (.int 3)) (.int 114)) (by decide +kernel)
      | k + 4, h => exact absurd (show k + 4 < 4 from h) (by omega)
    | 1, _ => 
      intro j hj
      match j, hj with
      | 0, _ => exact hs (Cond.eq (.elem (.field (.string RX6 92) "java/lang/String" "value" "[B") (.int 0)) (.int 102)) (by decide +kernel)
      | 1, _ => exact hs (Cond.eq (.elem (.field (.string RX6 92) "java/lang/String" "value" "[B") (.int 1)) (.int 105)) (by decide +kernel)
      | 2, _ => exact hs (Cond.eq (.elem (.field (.string RX6 92) "java/lang/String" "value" "[B") (.int 2)) (.int 116)) (by decide +kernel)
      | k + 3, h => exact absurd (show k + 3 < 3 from h) (by omega)
    | 2, _ => 
      intro j hj
      match j, hj with
      | 0, _ => exact hs (Cond.eq (.elem (.field (.string RX6 94) "java/lang/String" "value" "[B") (.int 0)) (.int 116)) (by decide +kernel)
      | 1, _ => exact hs (Cond.eq (.elem (.field (.string RX6 94) "java/lang/String" "value" "[B") (.int 1)) (.int 114)) (by decide +kernel)
      | 2, _ => exact hs (Cond.eq (.elem (.field (.string RX6 94) "java/lang/String" "value" "[B") (.int 2)) (.int 117)) (by decide +kernel)
      | 3, _ => exact hs (Cond.eq (.elem (.field (.string RX6 94) "java/lang/String" "value" "[B") (.int 3)) (.int 115)) (by decide +kernel)
      | 4, _ => exact hs (Cond.eq (.elem (.field (.string RX6 94) "java/lang/String" "value" "[B") (.int 4)) (.int 116)) (by decide +kernel)
      | k + 5, h => exact absurd (show k + 5 < 5 from h) (by omega)
    | 3, _ => 
      intro j hj
      match j, hj with
      | 0, _ => exact hs (Cond.eq (.elem (.field (.string RX6 96) "java/lang/String" "value" "[B") (.int 0)) (.int 107)) (by decide +kernel)
      | 1, _ => exact hs (Cond.eq (.elem (.field (.string RX6 96) "java/lang/String" "value" "[B") (.int 1)) (.int 101)) (by decide +kernel)
      | 2, _ => exact hs (Cond.eq (.elem (.field (.string RX6 96) "java/lang/String" "value" "[B") (.int 2)) (.int 101)) (by decide +kernel)
      | 3, _ => exact hs (Cond.eq (.elem (.field (.string RX6 96) "java/lang/String" "value" "[B") (.int 3)) (.int 112)) (by decide +kernel)
      | k + 4, h => exact absurd (show k + 4 < 4 from h) (by omega)
    | 4, _ => 
      intro j hj
      match j, hj with
      | 0, _ => exact hs (Cond.eq (.elem (.field (.string RX6 98) "java/lang/String" "value" "[B") (.int 0)) (.int 100)) (by decide +kernel)
      | 1, _ => exact hs (Cond.eq (.elem (.field (.string RX6 98) "java/lang/String" "value" "[B") (.int 1)) (.int 101)) (by decide +kernel)
      | 2, _ => exact hs (Cond.eq (.elem (.field (.string RX6 98) "java/lang/String" "value" "[B") (.int 2)) (.int 101)) (by decide +kernel)
      | 3, _ => exact hs (Cond.eq (.elem (.field (.string RX6 98) "java/lang/String" "value" "[B") (.int 3)) (.int 112)) (by decide +kernel)
      | k + 4, h => exact absurd (show k + 4 < 4 from h) (by omega)
    | 5, _ => 
      intro j hj
      match j, hj with
      | 0, _ => exact hs (Cond.eq (.elem (.field (.string RX6 72) "java/lang/String" "value" "[B") (.int 0)) (.int 121)) (by decide +kernel)
      | 1, _ => exact hs (Cond.eq (.elem (.field (.string RX6 72) "java/lang/String" "value" "[B") (.int 1)) (.int 101)) (by decide +kernel)
      | 2, _ => exact hs (Cond.eq (.elem (.field (.string RX6 72) "java/lang/String" "value" "[B") (.int 2)) (.int 115)) (by decide +kernel)
      | k + 3, h => exact absurd (show k + 3 < 3 from h) (by omega)
    | 6, _ => 
      intro j hj
      match j, hj with
      | 0, _ => exact hs (Cond.eq (.elem (.field (.string RX6 78) "java/lang/String" "value" "[B") (.int 0)) (.int 110)) (by decide +kernel)
      | 1, _ => exact hs (Cond.eq (.elem (.field (.string RX6 78) "java/lang/String" "value" "[B") (.int 1)) (.int 111)) (by decide +kernel)
      | k + 2, h => exact absurd (show k + 2 < 2 from h) (by omega)
    | k + 7, h => exact absurd h (by omega)) (fun i j hi hj hij => by
    match i, j, hi, hj, hij with
    | 0, 1, _, _, _ => exact Or.inl (hs (Cond.not (Cond.eq (.string RX6 90) (.string RX6 92))) (by decide +kernel))
    | 0, 2, _, _, _ => exact Or.inl (hs (Cond.not (Cond.eq (.string RX6 90) (.string RX6 94))) (by decide +kernel))
    | 0, 3, _, _, _ => exact Or.inl (hs (Cond.not (Cond.eq (.string RX6 90) (.string RX6 96))) (by decide +kernel))
    | 0, 4, _, _, _ => exact Or.inl (hs (Cond.not (Cond.eq (.string RX6 90) (.string RX6 98))) (by decide +kernel))
    | 0, 5, _, _, _ => exact Or.inl (hs (Cond.not (Cond.eq (.string RX6 90) (.string RX6 72))) (by decide +kernel))
    | 0, 6, _, _, _ => exact Or.inl (hs (Cond.not (Cond.eq (.string RX6 90) (.string RX6 78))) (by decide +kernel))
    | 1, 0, _, _, _ => exact Or.inr (hs (Cond.not (Cond.eq (.string RX6 90) (.string RX6 92))) (by decide +kernel))
    | 1, 2, _, _, _ => exact Or.inl (hs (Cond.not (Cond.eq (.string RX6 92) (.string RX6 94))) (by decide +kernel))
    | 1, 3, _, _, _ => exact Or.inl (hs (Cond.not (Cond.eq (.string RX6 92) (.string RX6 96))) (by decide +kernel))
    | 1, 4, _, _, _ => exact Or.inl (hs (Cond.not (Cond.eq (.string RX6 92) (.string RX6 98))) (by decide +kernel))
    | 1, 5, _, _, _ => exact Or.inl (hs (Cond.not (Cond.eq (.string RX6 92) (.string RX6 72))) (by decide +kernel))
    | 1, 6, _, _, _ => exact Or.inl (hs (Cond.not (Cond.eq (.string RX6 92) (.string RX6 78))) (by decide +kernel))
    | 2, 0, _, _, _ => exact Or.inr (hs (Cond.not (Cond.eq (.string RX6 90) (.string RX6 94))) (by decide +kernel))
    | 2, 1, _, _, _ => exact Or.inr (hs (Cond.not (Cond.eq (.string RX6 92) (.string RX6 94))) (by decide +kernel))
    | 2, 3, _, _, _ => exact Or.inl (hs (Cond.not (Cond.eq (.string RX6 94) (.string RX6 96))) (by decide +kernel))
    | 2, 4, _, _, _ => exact Or.inl (hs (Cond.not (Cond.eq (.string RX6 94) (.string RX6 98))) (by decide +kernel))
    | 2, 5, _, _, _ => exact Or.inl (hs (Cond.not (Cond.eq (.string RX6 94) (.string RX6 72))) (by decide +kernel))
    | 2, 6, _, _, _ => exact Or.inl (hs (Cond.not (Cond.eq (.string RX6 94) (.string RX6 78))) (by decide +kernel))
    | 3, 0, _, _, _ => exact Or.inr (hs (Cond.not (Cond.eq (.string RX6 90) (.string RX6 96))) (by decide +kernel))
    | 3, 1, _, _, _ => exact Or.inr (hs (Cond.not (Cond.eq (.string RX6 92) (.string RX6 96))) (by decide +kernel))
    | 3, 2, _, _, _ => exact Or.inr (hs (Cond.not (Cond.eq (.string RX6 94) (.string RX6 96))) (by decide +kernel))
    | 3, 4, _, _, _ => exact Or.inl (hs (Cond.not (Cond.eq (.string RX6 96) (.string RX6 98))) (by decide +kernel))
    | 3, 5, _, _, _ => exact Or.inl (hs (Cond.not (Cond.eq (.string RX6 96) (.string RX6 72))) (by decide +kernel))
    | 3, 6, _, _, _ => exact Or.inl (hs (Cond.not (Cond.eq (.string RX6 96) (.string RX6 78))) (by decide +kernel))
    | 4, 0, _, _, _ => exact Or.inr (hs (Cond.not (Cond.eq (.string RX6 90) (.string RX6 98))) (by decide +kernel))
    | 4, 1, _, _, _ => exact Or.inr (hs (Cond.not (Cond.eq (.string RX6 92) (.string RX6 98))) (by decide +kernel))
    | 4, 2, _, _, _ => exact Or.inr (hs (Cond.not (Cond.eq (.string RX6 94) (.string RX6 98))) (by decide +kernel))
    | 4, 3, _, _, _ => exact Or.inr (hs (Cond.not (Cond.eq (.string RX6 96) (.string RX6 98))) (by decide +kernel))
    | 4, 5, _, _, _ => exact Or.inl (hs (Cond.not (Cond.eq (.string RX6 98) (.string RX6 72))) (by decide +kernel))
    | 4, 6, _, _, _ => exact Or.inl (hs (Cond.not (Cond.eq (.string RX6 98) (.string RX6 78))) (by decide +kernel))
    | 5, 0, _, _, _ => exact Or.inr (hs (Cond.not (Cond.eq (.string RX6 90) (.string RX6 72))) (by decide +kernel))
    | 5, 1, _, _, _ => exact Or.inr (hs (Cond.not (Cond.eq (.string RX6 92) (.string RX6 72))) (by decide +kernel))
    | 5, 2, _, _, _ => exact Or.inr (hs (Cond.not (Cond.eq (.string RX6 94) (.string RX6 72))) (by decide +kernel))
    | 5, 3, _, _, _ => exact Or.inr (hs (Cond.not (Cond.eq (.string RX6 96) (.string RX6 72))) (by decide +kernel))
    | 5, 4, _, _, _ => exact Or.inr (hs (Cond.not (Cond.eq (.string RX6 98) (.string RX6 72))) (by decide +kernel))
    | 5, 6, _, _, _ => exact Or.inl (hs (Cond.not (Cond.eq (.string RX6 72) (.string RX6 78))) (by decide +kernel))
    | 6, 0, _, _, _ => exact Or.inr (hs (Cond.not (Cond.eq (.string RX6 90) (.string RX6 78))) (by decide +kernel))
    | 6, 1, _, _, _ => exact Or.inr (hs (Cond.not (Cond.eq (.string RX6 92) (.string RX6 78))) (by decide +kernel))
    | 6, 2, _, _, _ => exact Or.inr (hs (Cond.not (Cond.eq (.string RX6 94) (.string RX6 78))) (by decide +kernel))
    | 6, 3, _, _, _ => exact Or.inr (hs (Cond.not (Cond.eq (.string RX6 96) (.string RX6 78))) (by decide +kernel))
    | 6, 4, _, _, _ => exact Or.inr (hs (Cond.not (Cond.eq (.string RX6 98) (.string RX6 78))) (by decide +kernel))
    | 6, 5, _, _, _ => exact Or.inr (hs (Cond.not (Cond.eq (.string RX6 72) (.string RX6 78))) (by decide +kernel))
    | 0, 0, _, _, h => exact absurd rfl h
    | 1, 1, _, _, h => exact absurd rfl h
    | 2, 2, _, _, h => exact absurd rfl h
    | 3, 3, _, _, h => exact absurd rfl h
    | 4, 4, _, _, h => exact absurd rfl h
    | 5, 5, _, _, h => exact absurd rfl h
    | 6, 6, _, _, h => exact absurd rfl h
    | k + 7, _, h, _, _ => exact absurd h (by omega)
    | _, k + 7, _, h, _ => exact absurd h (by omega)) hA
  obtain ⟨sa, sf, hZS⟩ : ∃ sa sf : Nat, va_Z RJ3 "SIOOBE_FORMATTER" "Ljava/util/function/BiFunction;" (if sf = 0 then .null else .ref sa) (fun q : Nat => s.heap.size ≤ q) s s.heap := by
    rcases hZS with h | ⟨t, h⟩
    · exact ⟨0, 0, h⟩
    · exact ⟨t, 1, h⟩
  refine ⟨tF, tB, sa, sf, adK, adV, fun ad e1 e2 e3 e4 e5 e6 => ?_⟩
  subst e1; subst e2; subst e3; subst e4
  refine ⟨⟨va_Nw.of rfl (hts _ ln_RX1), va_Nw.of rfl (hts _ ln_RX0), va_Nw.of rfl (hts _ ln_RX2), va_Nw.of rfl (hts _ ln_RX3), va_Nw.of rfl (hts _ ln_f25), va_Nw.of rfl (hts _ ln_f83)⟩, ⟨hZF, ⟨hXF, hF.out⟩, hZB, hB⟩, ⟨hZC, hZS⟩, ⟨fun i hi => ?_, fun i j hi hj h => ?_⟩, fun i hi => ?_⟩
  · have h9 := hV.1 i hi
    dsimp only
    rw [e5 i hi, e6 i hi]
    exact h9
  · dsimp only at h
    rw [e5 i hi, e5 j hj] at h
    exact hV.2 i j hi hj h
  · rw [e5 i hi]
    refine vk_R.of (A := #[Value.ref b]) ?_ (hE i hi)
    match i, hi with
    | 0, _ => exact hts _ lx_0
    | 1, _ => exact hts _ lx_1
    | 2, _ => exact hts _ lx_2
    | 3, _ => exact hts _ lx_3
    | 4, _ => exact hts _ lx_4
    | 5, _ => exact hts _ lx_5
    | 6, _ => exact hts _ lx_6
    | k + 7, h => exact absurd h (by omega)
