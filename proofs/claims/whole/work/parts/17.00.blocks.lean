/-! ===== basic blocks, 0 ===== -/
theorem b1_0 {d : Nat} {Q : Option Value → px_S → Prop} {σ : px_S} {x1 : Int32} (ht : x1 < (1 : Int32) → Wp d tb_1 11 [.ref 0, .int x1] [] σ Q) (hf : ¬ (x1 < (1 : Int32)) → Wp d tb_1 5 [.ref 0, .int x1] [] σ Q) : Wp d tb_1 0 [.ref 0, .int x1] [] σ Q := by
  refine Wp.adv (pc' := 2) (ls' := [.ref 0, .int x1]) (st' := [.int (1 : Int32), .int x1]) (σ' := σ) 2 rfl ?_
  exact Wp.icmp rfl ht hf
theorem b1_5 {d : Nat} {Q : Option Value → px_S → Prop} {σ : px_S} {x1 : Int32} (ht : x1 ≤ (63 : Int32) → Wp d tb_1 15 [.ref 0, .int x1] [] σ Q) (hf : ¬ (x1 ≤ (63 : Int32)) → Wp d tb_1 11 [.ref 0, .int x1] [] σ Q) : Wp d tb_1 5 [.ref 0, .int x1] [] σ Q := by
  refine Wp.adv (pc' := 8) (ls' := [.ref 0, .int x1]) (st' := [.int (63 : Int32), .int x1]) (σ' := σ) 2 rfl ?_
  exact Wp.icmp rfl ht hf
theorem b1_11 {d : Nat} {Q : Option Value → px_S → Prop} {σ : px_S} {x1 : Int32} (h : Q (some (.int (-1002 : Int32))) σ) : Wp d tb_1 11 [.ref 0, .int x1] [] σ Q := by
  refine Wp.adv (pc' := 14) (ls' := [.ref 0, .int x1]) (st' := [.int (-1002 : Int32)]) (σ' := σ) 1 rfl ?_
  exact Wp.ret rfl rfl h
theorem b1_15 {d : Nat} {Q : Option Value → px_S → Prop} {σ : px_S} {x1 : Int32} (ht : (σ.1 0 9) < (8 : Int32) → Wp d tb_1 28 [.ref 0, .int x1] [] σ Q) (hf : ¬ ((σ.1 0 9) < (8 : Int32)) → Wp d tb_1 24 [.ref 0, .int x1] [] σ Q) : Wp d tb_1 15 [.ref 0, .int x1] [] σ Q := by
  refine Wp.adv (pc' := 21) (ls' := [.ref 0, .int x1]) (st' := [.int (8 : Int32), .int (σ.1 0 9)]) (σ' := σ) 3 rfl ?_
  exact Wp.icmp rfl ht hf
theorem b1_24 {d : Nat} {Q : Option Value → px_S → Prop} {σ : px_S} {x1 : Int32} (h : Q (some (.int (-1004 : Int32))) σ) : Wp d tb_1 24 [.ref 0, .int x1] [] σ Q := by
  refine Wp.adv (pc' := 27) (ls' := [.ref 0, .int x1]) (st' := [.int (-1004 : Int32)]) (σ' := σ) 1 rfl ?_
  exact Wp.ret rfl rfl h
theorem b1_28 {d : Nat} {Q : Option Value → px_S → Prop} {σ : px_S} {x1 : Int32} (h : Cw d 2 [.long (σ.2.1 0 8), .int (σ.1 0 9), .int x1] σ (fun r τ => Wp d tb_1 41 [.ref 0, .int x1] (r.toList ++ [.ref 0]) τ Q)) : Wp d tb_1 28 [.ref 0, .int x1] [] σ Q := by
  refine Wp.adv (pc' := 38) (ls' := [.ref 0, .int x1]) (st' := [.int x1, .int (σ.1 0 9), .long (σ.2.1 0 8), .ref 0]) (σ' := σ) 6 rfl ?_
  exact Wp.call (q := (2, 3, 0, 41)) rfl (Nat.le_of_ble_eq_true rfl) rfl h
theorem b1_41 {d : Nat} {Q : Option Value → px_S → Prop} {σ : px_S} {x1 : Int32} {t0 : Int64} (h : Wp d tb_1 44 [.ref 0, .int x1] [] (px_uL σ 0 8 t0) Q) : Wp d tb_1 41 [.ref 0, .int x1] [.long t0, .ref 0] σ Q := by
  refine Wp.step (q := (44, [.ref 0, .int x1], [], (px_uL σ 0 8 t0))) rfl rfl ?_
  exact h
theorem b1_44 {d : Nat} {Q : Option Value → px_S → Prop} {σ : px_S} {x1 : Int32} (h : Wp d tb_1 54 [.ref 0, .int x1] [] (px_uI σ 0 9 ((σ.1 0 9) + (1 : Int32))) Q) : Wp d tb_1 44 [.ref 0, .int x1] [] σ Q := by
  refine Wp.adv (pc' := 51) (ls' := [.ref 0, .int x1]) (st' := [.int ((σ.1 0 9) + (1 : Int32)), .ref 0]) (σ' := σ) 5 rfl ?_
  refine Wp.step (q := (54, [.ref 0, .int x1], [], (px_uI σ 0 9 ((σ.1 0 9) + (1 : Int32))))) rfl rfl ?_
  exact h
theorem b1_54 {d : Nat} {Q : Option Value → px_S → Prop} {σ : px_S} {x1 : Int32} (h : Q (some (.int (σ.1 0 9))) σ) : Wp d tb_1 54 [.ref 0, .int x1] [] σ Q := by
  refine Wp.adv (pc' := 58) (ls' := [.ref 0, .int x1]) (st' := [.int (σ.1 0 9)]) (σ' := σ) 2 rfl ?_
  exact Wp.ret rfl rfl h
theorem e1 {d : Nat} {Q : Option Value → px_S → Prop} {σ : px_S} {x1 : Int32} (h : Wp d tb_1 0 [.ref 0, .int x1] [] σ Q) : Cw (d + 1) 1 [.ref 0, .int x1] σ Q := Cw.of (nL := 2) (y := yX8_word) (cc := cX8_word) (rt := some .int) rfl (Nat.le_of_ble_eq_true rfl) h
theorem b2_0 {d : Nat} {Q : Option Value → px_S → Prop} {σ : px_S} {x2 x3 : Int32} {y0 : Int64} (h : Q (some (.long (y0 ||| ((x3).toInt64 <<< ((((6 : Int32) * ((7 : Int32) - x2))).toInt64 &&& 63))))) σ) : Wp d tb_2 0 [.long y0, .null, .int x2, .int x3] [] σ Q := by
  refine Wp.adv (pc' := 12) (ls' := [.long y0, .null, .int x2, .int x3]) (st' := [.long (y0 ||| ((x3).toInt64 <<< ((((6 : Int32) * ((7 : Int32) - x2))).toInt64 &&& 63)))]) (σ' := σ) 10 rfl ?_
  exact Wp.ret rfl rfl h
theorem e2 {d : Nat} {Q : Option Value → px_S → Prop} {σ : px_S} {x2 x3 : Int32} {y0 : Int64} (h : Wp d tb_2 0 [.long y0, .null, .int x2, .int x3] [] σ Q) : Cw (d + 1) 2 [.long y0, .int x2, .int x3] σ Q := Cw.of (nL := 4) (y := yX7_with) (cc := cX7_with) (rt := some .long) rfl (Nat.le_of_ble_eq_true rfl) h
theorem b3_0 {d : Nat} {Q : Option Value → px_S → Prop} {σ : px_S} {x1 x2 x3 : Int32} (ht : x3 = (-1 : Int32) → Wp d tb_3 20 [.ref 0, .int x1, .int x2, .int x3] [] σ Q) (hf : ¬ (x3 = (-1 : Int32)) → Wp d tb_3 5 [.ref 0, .int x1, .int x2, .int x3] [] σ Q) : Wp d tb_3 0 [.ref 0, .int x1, .int x2, .int x3] [] σ Q := by
  refine Wp.adv (pc' := 2) (ls' := [.ref 0, .int x1, .int x2, .int x3]) (st' := [.int (-1 : Int32), .int x3]) (σ' := σ) 2 rfl ?_
  exact Wp.icmp rfl ht hf
theorem b3_5 {d : Nat} {Q : Option Value → px_S → Prop} {σ : px_S} {x1 x2 x3 : Int32} (h : Cw d 4 [.ref 1, .int x3] σ (fun r τ => Wp d tb_3 13 [.ref 0, .int x1, .int x2, .int x3] (r.toList ++ []) τ Q)) : Wp d tb_3 5 [.ref 0, .int x1, .int x2, .int x3] [] σ Q := by
  refine Wp.adv (pc' := 10) (ls' := [.ref 0, .int x1, .int x2, .int x3]) (st' := [.int x3, .ref 1]) (σ' := σ) 3 rfl ?_
  exact Wp.call (q := (4, 2, 2, 13)) rfl (Nat.le_of_ble_eq_true rfl) rfl h
theorem b3_13 {d : Nat} {Q : Option Value → px_S → Prop} {σ : px_S} {x1 x2 x3 s0 : Int32} (ht : ¬ s0 = 0 → Wp d tb_3 20 [.ref 0, .int x1, .int x2, .int x3] [] σ Q) (hf : ¬ (¬ s0 = 0) → Wp d tb_3 16 [.ref 0, .int x1, .int x2, .int x3] [] σ Q) : Wp d tb_3 13 [.ref 0, .int x1, .int x2, .int x3] [.int s0] σ Q := by
  exact Wp.if_ rfl ht hf
theorem b3_16 {d : Nat} {Q : Option Value → px_S → Prop} {σ : px_S} {x1 x2 x3 : Int32} (h : Q (some (.int (-1001 : Int32))) σ) : Wp d tb_3 16 [.ref 0, .int x1, .int x2, .int x3] [] σ Q := by
  refine Wp.adv (pc' := 19) (ls' := [.ref 0, .int x1, .int x2, .int x3]) (st' := [.int (-1001 : Int32)]) (σ' := σ) 1 rfl ?_
  exact Wp.ret rfl rfl h
theorem b3_20 {d : Nat} {Q : Option Value → px_S → Prop} {σ : px_S} {x1 x2 x3 : Int32} (h : Cw d 5 [.int x1] σ (fun r τ => Wp d tb_3 24 [.ref 0, .int x1, .int x2, .int x3] (r.toList ++ []) τ Q)) : Wp d tb_3 20 [.ref 0, .int x1, .int x2, .int x3] [] σ Q := by
  refine Wp.adv (pc' := 21) (ls' := [.ref 0, .int x1, .int x2, .int x3]) (st' := [.int x1]) (σ' := σ) 1 rfl ?_
  exact Wp.call (q := (5, 1, 0, 24)) rfl (Nat.le_of_ble_eq_true rfl) rfl h
theorem b3_24 {d : Nat} {Q : Option Value → px_S → Prop} {σ : px_S} {x1 x2 x3 s0 : Int32} (ht : ¬ s0 = 0 → Wp d tb_3 34 [.ref 0, .int x1, .int x2, .int x3] [] σ Q) (hf : ¬ (¬ s0 = 0) → Wp d tb_3 27 [.ref 0, .int x1, .int x2, .int x3] [] σ Q) : Wp d tb_3 24 [.ref 0, .int x1, .int x2, .int x3] [.int s0] σ Q := by
  exact Wp.if_ rfl ht hf
theorem b3_27 {d : Nat} {Q : Option Value → px_S → Prop} {σ : px_S} {x1 x2 x3 : Int32} (h : Cw d 6 [.int x2] σ (fun r τ => Wp d tb_3 31 [.ref 0, .int x1, .int x2, .int x3] (r.toList ++ []) τ Q)) : Wp d tb_3 27 [.ref 0, .int x1, .int x2, .int x3] [] σ Q := by
  refine Wp.adv (pc' := 28) (ls' := [.ref 0, .int x1, .int x2, .int x3]) (st' := [.int x2]) (σ' := σ) 1 rfl ?_
  exact Wp.call (q := (6, 1, 0, 31)) rfl (Nat.le_of_ble_eq_true rfl) rfl h
theorem b3_31 {d : Nat} {Q : Option Value → px_S → Prop} {σ : px_S} {x1 x2 x3 s0 : Int32} (ht : s0 = 0 → Wp d tb_3 38 [.ref 0, .int x1, .int x2, .int x3] [] σ Q) (hf : ¬ (s0 = 0) → Wp d tb_3 34 [.ref 0, .int x1, .int x2, .int x3] [] σ Q) : Wp d tb_3 31 [.ref 0, .int x1, .int x2, .int x3] [.int s0] σ Q := by
  exact Wp.if_ rfl ht hf
theorem b3_34 {d : Nat} {Q : Option Value → px_S → Prop} {σ : px_S} {x1 x2 x3 : Int32} (h : Q (some (.int (-1002 : Int32))) σ) : Wp d tb_3 34 [.ref 0, .int x1, .int x2, .int x3] [] σ Q := by
  refine Wp.adv (pc' := 37) (ls' := [.ref 0, .int x1, .int x2, .int x3]) (st' := [.int (-1002 : Int32)]) (σ' := σ) 1 rfl ?_
  exact Wp.ret rfl rfl h
theorem b3_38 {d : Nat} {Q : Option Value → px_S → Prop} {σ : px_S} {x1 x2 x3 : Int32} (ht : (σ.1 1 7) < (40 : Int32) → Wp d tb_3 54 [.ref 0, .int x1, .int x2, .int x3] [] σ Q) (hf : ¬ ((σ.1 1 7) < (40 : Int32)) → Wp d tb_3 50 [.ref 0, .int x1, .int x2, .int x3] [] σ Q) : Wp d tb_3 38 [.ref 0, .int x1, .int x2, .int x3] [] σ Q := by
  refine Wp.adv (pc' := 47) (ls' := [.ref 0, .int x1, .int x2, .int x3]) (st' := [.int (40 : Int32), .int (σ.1 1 7)]) (σ' := σ) 4 rfl ?_
  exact Wp.icmp rfl ht hf
theorem b3_50 {d : Nat} {Q : Option Value → px_S → Prop} {σ : px_S} {x1 x2 x3 : Int32} (h : Q (some (.int (-1004 : Int32))) σ) : Wp d tb_3 50 [.ref 0, .int x1, .int x2, .int x3] [] σ Q := by
  refine Wp.adv (pc' := 53) (ls' := [.ref 0, .int x1, .int x2, .int x3]) (st' := [.int (-1004 : Int32)]) (σ' := σ) 1 rfl ?_
  exact Wp.ret rfl rfl h
theorem b3_54 {d : Nat} {Q : Option Value → px_S → Prop} {σ : px_S} {x1 x2 x3 : Int32} (h : Cw d 7 [.ref 0] σ (fun r τ => Wp d tb_3 58 [.ref 0, .int x1, .int x2, .int x3] (r.toList ++ []) τ Q)) : Wp d tb_3 54 [.ref 0, .int x1, .int x2, .int x3] [] σ Q := by
  refine Wp.adv (pc' := 55) (ls' := [.ref 0, .int x1, .int x2, .int x3]) (st' := [.ref 0]) (σ' := σ) 1 rfl ?_
  exact Wp.call (q := (7, 1, 8, 58)) rfl (Nat.le_of_ble_eq_true rfl) rfl h
theorem b3_58 {d : Nat} {Q : Option Value → px_S → Prop} {σ : px_S} {x1 x2 x3 : Int32} (h : Cw d 8 [.ref 1, .int x1, .int x2, .int x3] σ (fun r τ => Wp d tb_3 68 [.ref 0, .int x1, .int x2, .int x3] (r.toList ++ []) τ Q)) : Wp d tb_3 58 [.ref 0, .int x1, .int x2, .int x3] [] σ Q := by
  refine Wp.adv (pc' := 65) (ls' := [.ref 0, .int x1, .int x2, .int x3]) (st' := [.int x3, .int x2, .int x1, .ref 1]) (σ' := σ) 5 rfl ?_
  exact Wp.call (q := (8, 4, 2, 68)) rfl (Nat.le_of_ble_eq_true rfl) rfl h
theorem b3_68 {d : Nat} {Q : Option Value → px_S → Prop} {σ : px_S} {x1 x2 x3 s0 : Int32} (h : Q (some (.int s0)) σ) : Wp d tb_3 68 [.ref 0, .int x1, .int x2, .int x3] [.int s0] σ Q := by
  exact Wp.ret rfl rfl h
theorem e3 {d : Nat} {Q : Option Value → px_S → Prop} {σ : px_S} {x1 x2 x3 : Int32} (h : Wp d tb_3 0 [.ref 0, .int x1, .int x2, .int x3] [] σ Q) : Cw (d + 1) 3 [.ref 0, .int x1, .int x2, .int x3] σ Q := Cw.of (nL := 4) (y := yX8_letter) (cc := cX8_letter) (rt := some .int) rfl (Nat.le_of_ble_eq_true rfl) h
theorem b4_0 {d : Nat} {Q : Option Value → px_S → Prop} {σ : px_S} {x1 : Int32} (ht : x1 < 0 → Wp d tb_4 16 [.ref 1, .int x1] [] σ Q) (hf : ¬ (x1 < 0) → Wp d tb_4 4 [.ref 1, .int x1] [] σ Q) : Wp d tb_4 0 [.ref 1, .int x1] [] σ Q := by
  refine Wp.adv (pc' := 1) (ls' := [.ref 1, .int x1]) (st' := [.int x1]) (σ' := σ) 1 rfl ?_
  exact Wp.if_ rfl ht hf
theorem b4_4 {d : Nat} {Q : Option Value → px_S → Prop} {σ : px_S} {x1 : Int32} (ht : (σ.1 1 7) ≤ x1 → Wp d tb_4 16 [.ref 1, .int x1] [] σ Q) (hf : ¬ ((σ.1 1 7) ≤ x1) → Wp d tb_4 12 [.ref 1, .int x1] [] σ Q) : Wp d tb_4 4 [.ref 1, .int x1] [] σ Q := by
  refine Wp.adv (pc' := 9) (ls' := [.ref 1, .int x1]) (st' := [.int (σ.1 1 7), .int x1]) (σ' := σ) 3 rfl ?_
  exact Wp.icmp rfl ht hf
theorem b4_12 {d : Nat} {Q : Option Value → px_S → Prop} {σ : px_S} {x1 : Int32} (h : Wp d tb_4 17 [.ref 1, .int x1] [.int (1 : Int32)] σ Q) : Wp d tb_4 12 [.ref 1, .int x1] [] σ Q := by
  refine Wp.adv (pc' := 17) (ls' := [.ref 1, .int x1]) (st' := [.int (1 : Int32)]) (σ' := σ) 2 rfl ?_
  exact h
theorem b4_16 {d : Nat} {Q : Option Value → px_S → Prop} {σ : px_S} {x1 : Int32} (h : Wp d tb_4 17 [.ref 1, .int x1] [.int (0 : Int32)] σ Q) : Wp d tb_4 16 [.ref 1, .int x1] [] σ Q := by
  refine Wp.adv (pc' := 17) (ls' := [.ref 1, .int x1]) (st' := [.int (0 : Int32)]) (σ' := σ) 1 rfl ?_
  exact h
theorem b4_17 {d : Nat} {Q : Option Value → px_S → Prop} {σ : px_S} {x1 s0 : Int32} (c1 : s0 = 0 ∨ s0 = 1) (h : Q (some (.int s0)) σ) : Wp d tb_4 17 [.ref 1, .int x1] [.int s0] σ Q := by
  exact Wp.zret rfl c1 h
theorem e4 {d : Nat} {Q : Option Value → px_S → Prop} {σ : px_S} {x1 : Int32} (h : Wp d tb_4 0 [.ref 1, .int x1] [] σ Q) : Cw (d + 1) 4 [.ref 1, .int x1] σ Q := Cw.of (nL := 2) (y := yX1_has) (cc := cX1_has) (rt := some .boolean) rfl (Nat.le_of_ble_eq_true rfl) h
theorem b5_0 {d : Nat} {Q : Option Value → px_S → Prop} {σ : px_S} {x0 : Int32} (ht : x0 < 0 → Wp d tb_5 10 [.int x0] [] σ Q) (hf : ¬ (x0 < 0) → Wp d tb_5 4 [.int x0] [] σ Q) : Wp d tb_5 0 [.int x0] [] σ Q := by
  refine Wp.adv (pc' := 1) (ls' := [.int x0]) (st' := [.int x0]) (σ' := σ) 1 rfl ?_
  exact Wp.if_ rfl ht hf
theorem b5_4 {d : Nat} {Q : Option Value → px_S → Prop} {σ : px_S} {x0 : Int32} (ht : x0 ≤ (9 : Int32) → Wp d tb_5 14 [.int x0] [] σ Q) (hf : ¬ (x0 ≤ (9 : Int32)) → Wp d tb_5 10 [.int x0] [] σ Q) : Wp d tb_5 4 [.int x0] [] σ Q := by
  refine Wp.adv (pc' := 7) (ls' := [.int x0]) (st' := [.int (9 : Int32), .int x0]) (σ' := σ) 2 rfl ?_
  exact Wp.icmp rfl ht hf
theorem b5_10 {d : Nat} {Q : Option Value → px_S → Prop} {σ : px_S} {x0 : Int32} (h : Wp d tb_5 15 [.int x0] [.int (1 : Int32)] σ Q) : Wp d tb_5 10 [.int x0] [] σ Q := by
  refine Wp.adv (pc' := 15) (ls' := [.int x0]) (st' := [.int (1 : Int32)]) (σ' := σ) 2 rfl ?_
  exact h
theorem b5_14 {d : Nat} {Q : Option Value → px_S → Prop} {σ : px_S} {x0 : Int32} (h : Wp d tb_5 15 [.int x0] [.int (0 : Int32)] σ Q) : Wp d tb_5 14 [.int x0] [] σ Q := by
  refine Wp.adv (pc' := 15) (ls' := [.int x0]) (st' := [.int (0 : Int32)]) (σ' := σ) 1 rfl ?_
  exact h
theorem b5_15 {d : Nat} {Q : Option Value → px_S → Prop} {σ : px_S} {x0 s0 : Int32} (c1 : s0 = 0 ∨ s0 = 1) (h : Q (some (.int s0)) σ) : Wp d tb_5 15 [.int x0] [.int s0] σ Q := by
  exact Wp.zret rfl c1 h
theorem e5 {d : Nat} {Q : Option Value → px_S → Prop} {σ : px_S} {x0 : Int32} (h : Wp d tb_5 0 [.int x0] [] σ Q) : Cw (d + 1) 5 [.int x0] σ Q := Cw.of (nL := 1) (y := yX8_isWrongWriter) (cc := cX8_isWrongWriter) (rt := some .boolean) rfl (Nat.le_of_ble_eq_true rfl) h
theorem b6_0 {d : Nat} {Q : Option Value → px_S → Prop} {σ : px_S} {x0 : Int32} (ht : x0 < (-1 : Int32) → Wp d tb_6 12 [.int x0] [] σ Q) (hf : ¬ (x0 < (-1 : Int32)) → Wp d tb_6 5 [.int x0] [] σ Q) : Wp d tb_6 0 [.int x0] [] σ Q := by
  refine Wp.adv (pc' := 2) (ls' := [.int x0]) (st' := [.int (-1 : Int32), .int x0]) (σ' := σ) 2 rfl ?_
  exact Wp.icmp rfl ht hf
theorem b6_5 {d : Nat} {Q : Option Value → px_S → Prop} {σ : px_S} {x0 : Int32} (ht : x0 ≤ (9999 : Int32) → Wp d tb_6 16 [.int x0] [] σ Q) (hf : ¬ (x0 ≤ (9999 : Int32)) → Wp d tb_6 12 [.int x0] [] σ Q) : Wp d tb_6 5 [.int x0] [] σ Q := by
  refine Wp.adv (pc' := 9) (ls' := [.int x0]) (st' := [.int (9999 : Int32), .int x0]) (σ' := σ) 2 rfl ?_
  exact Wp.icmp rfl ht hf
theorem b6_12 {d : Nat} {Q : Option Value → px_S → Prop} {σ : px_S} {x0 : Int32} (h : Wp d tb_6 17 [.int x0] [.int (1 : Int32)] σ Q) : Wp d tb_6 12 [.int x0] [] σ Q := by
  refine Wp.adv (pc' := 17) (ls' := [.int x0]) (st' := [.int (1 : Int32)]) (σ' := σ) 2 rfl ?_
  exact h
theorem b6_16 {d : Nat} {Q : Option Value → px_S → Prop} {σ : px_S} {x0 : Int32} (h : Wp d tb_6 17 [.int x0] [.int (0 : Int32)] σ Q) : Wp d tb_6 16 [.int x0] [] σ Q := by
  refine Wp.adv (pc' := 17) (ls' := [.int x0]) (st' := [.int (0 : Int32)]) (σ' := σ) 1 rfl ?_
  exact h
theorem b6_17 {d : Nat} {Q : Option Value → px_S → Prop} {σ : px_S} {x0 s0 : Int32} (c1 : s0 = 0 ∨ s0 = 1) (h : Q (some (.int s0)) σ) : Wp d tb_6 17 [.int x0] [.int s0] σ Q := by
  exact Wp.zret rfl c1 h
theorem e6 {d : Nat} {Q : Option Value → px_S → Prop} {σ : px_S} {x0 : Int32} (h : Wp d tb_6 0 [.int x0] [] σ Q) : Cw (d + 1) 6 [.int x0] σ Q := Cw.of (nL := 1) (y := yX8_isWrongDay) (cc := cX8_isWrongDay) (rt := some .boolean) rfl (Nat.le_of_ble_eq_true rfl) h
theorem b7_0 {d : Nat} {Q : Option Value → px_S → Prop} {σ : px_S}  (h : Wp d tb_7 8 [.ref 0] [] (px_uI σ 3 5 (0 : Int32)) Q) : Wp d tb_7 0 [.ref 0] [] σ Q := by
  refine Wp.adv (pc' := 5) (ls' := [.ref 0]) (st' := [.int (0 : Int32), .ref 3]) (σ' := σ) 3 rfl ?_
  refine Wp.step (q := (8, [.ref 0], [], (px_uI σ 3 5 (0 : Int32)))) rfl rfl ?_
  exact h
theorem b7_8 {d : Nat} {Q : Option Value → px_S → Prop} {σ : px_S}  (h : Wp d tb_7 16 [.ref 0] [] (px_uI σ 4 5 (0 : Int32)) Q) : Wp d tb_7 8 [.ref 0] [] σ Q := by
  refine Wp.adv (pc' := 13) (ls' := [.ref 0]) (st' := [.int (0 : Int32), .ref 4]) (σ' := σ) 3 rfl ?_
  refine Wp.step (q := (16, [.ref 0], [], (px_uI σ 4 5 (0 : Int32)))) rfl rfl ?_
  exact h
theorem b7_16 {d : Nat} {Q : Option Value → px_S → Prop} {σ : px_S}  (h : Wp d tb_7 24 [.ref 0] [] (px_uI σ 5 8 (0 : Int32)) Q) : Wp d tb_7 16 [.ref 0] [] σ Q := by
  refine Wp.adv (pc' := 21) (ls' := [.ref 0]) (st' := [.int (0 : Int32), .ref 5]) (σ' := σ) 3 rfl ?_
  refine Wp.step (q := (24, [.ref 0], [], (px_uI σ 5 8 (0 : Int32)))) rfl rfl ?_
  exact h
theorem b7_24 {d : Nat} {Q : Option Value → px_S → Prop} {σ : px_S}  (h : Q none σ) : Wp d tb_7 24 [.ref 0] [] σ Q := by
  exact Wp.ret rfl rfl h
theorem e7 {d : Nat} {Q : Option Value → px_S → Prop} {σ : px_S}  (h : Wp d tb_7 0 [.ref 0] [] σ Q) : Cw (d + 1) 7 [.ref 0] σ Q := Cw.of (nL := 1) (y := yX8_forgetFindings) (cc := cX8_forgetFindings) (rt := none) rfl (Nat.le_of_ble_eq_true rfl) h
theorem b8_0 {d : Nat} {Q : Option Value → px_S → Prop} {σ : px_S} {x1 x2 x3 : Int32} (ht : (40 : Int32) ≤ (σ.1 1 7) → Wp d tb_8 47 [.ref 1, .int x1, .int x2, .int x3, .int (σ.1 1 7)] [] σ Q) (hf : ¬ ((40 : Int32) ≤ (σ.1 1 7)) → Wp d tb_8 13 [.ref 1, .int x1, .int x2, .int x3, .int (σ.1 1 7)] [] σ Q) : Wp d tb_8 0 [.ref 1, .int x1, .int x2, .int x3, .null] [] σ Q := by
  refine Wp.adv (pc' := 10) (ls' := [.ref 1, .int x1, .int x2, .int x3, .int (σ.1 1 7)]) (st' := [.int (40 : Int32), .int (σ.1 1 7)]) (σ' := σ) 5 rfl ?_
  exact Wp.icmp rfl ht hf
theorem b8_13 {d : Nat} {Q : Option Value → px_S → Prop} {σ : px_S} {x1 x2 x3 x4 : Int32} (c1 : vp_in x4 40) (h : Wp d tb_8 21 [.ref 1, .int x1, .int x2, .int x3, .int x4] [] (px_uI σ 11 (x4).toNatClampNeg x1) Q) : Wp d tb_8 13 [.ref 1, .int x1, .int x2, .int x3, .int x4] [] σ Q := by
  refine Wp.adv (pc' := 20) (ls' := [.ref 1, .int x1, .int x2, .int x3, .int x4]) (st' := [.int x1, .int x4, .ref 11]) (σ' := σ) 4 rfl ?_
  refine Wp.iast (N := 40) rfl rfl c1 ?_
  exact h
theorem b8_21 {d : Nat} {Q : Option Value → px_S → Prop} {σ : px_S} {x1 x2 x3 x4 : Int32} (c1 : vp_in x4 40) (h : Wp d tb_8 29 [.ref 1, .int x1, .int x2, .int x3, .int x4] [] (px_uI σ 12 (x4).toNatClampNeg x2) Q) : Wp d tb_8 21 [.ref 1, .int x1, .int x2, .int x3, .int x4] [] σ Q := by
  refine Wp.adv (pc' := 28) (ls' := [.ref 1, .int x1, .int x2, .int x3, .int x4]) (st' := [.int x2, .int x4, .ref 12]) (σ' := σ) 4 rfl ?_
  refine Wp.iast (N := 40) rfl rfl c1 ?_
  exact h
theorem b8_29 {d : Nat} {Q : Option Value → px_S → Prop} {σ : px_S} {x1 x2 x3 x4 : Int32} (c1 : vp_in x4 40) (h : Wp d tb_8 37 [.ref 1, .int x1, .int x2, .int x3, .int x4] [] (px_uI σ 13 (x4).toNatClampNeg x3) Q) : Wp d tb_8 29 [.ref 1, .int x1, .int x2, .int x3, .int x4] [] σ Q := by
  refine Wp.adv (pc' := 36) (ls' := [.ref 1, .int x1, .int x2, .int x3, .int x4]) (st' := [.int x3, .int x4, .ref 13]) (σ' := σ) 4 rfl ?_
  refine Wp.iast (N := 40) rfl rfl c1 ?_
  exact h
theorem b8_37 {d : Nat} {Q : Option Value → px_S → Prop} {σ : px_S} {x1 x2 x3 x4 : Int32} (h : Wp d tb_8 47 [.ref 1, .int x1, .int x2, .int x3, .int x4] [] (px_uI σ 1 7 ((σ.1 1 7) + (1 : Int32))) Q) : Wp d tb_8 37 [.ref 1, .int x1, .int x2, .int x3, .int x4] [] σ Q := by
  refine Wp.adv (pc' := 44) (ls' := [.ref 1, .int x1, .int x2, .int x3, .int x4]) (st' := [.int ((σ.1 1 7) + (1 : Int32)), .ref 1]) (σ' := σ) 5 rfl ?_
  refine Wp.step (q := (47, [.ref 1, .int x1, .int x2, .int x3, .int x4], [], (px_uI σ 1 7 ((σ.1 1 7) + (1 : Int32))))) rfl rfl ?_
  exact h
theorem b8_47 {d : Nat} {Q : Option Value → px_S → Prop} {σ : px_S} {x1 x2 x3 x4 : Int32} (h : Q (some (.int x4)) σ) : Wp d tb_8 47 [.ref 1, .int x1, .int x2, .int x3, .int x4] [] σ Q := by
  refine Wp.adv (pc' := 49) (ls' := [.ref 1, .int x1, .int x2, .int x3, .int x4]) (st' := [.int x4]) (σ' := σ) 1 rfl ?_
  exact Wp.ret rfl rfl h
theorem e8 {d : Nat} {Q : Option Value → px_S → Prop} {σ : px_S} {x1 x2 x3 : Int32} (h : Wp d tb_8 0 [.ref 1, .int x1, .int x2, .int x3, .null] [] σ Q) : Cw (d + 1) 8 [.ref 1, .int x1, .int x2, .int x3] σ Q := Cw.of (nL := 5) (y := yX1_addLetter) (cc := cX1_addLetter) (rt := some .int) rfl (Nat.le_of_ble_eq_true rfl) h
theorem b9_0 {d : Nat} {Q : Option Value → px_S → Prop} {σ : px_S} {x1 x2 : Int32} (h : Cw d 4 [.ref 1, .int x1] σ (fun r τ => Wp d tb_9 8 [.ref 0, .int x1, .int x2, .null] (r.toList ++ []) τ Q)) : Wp d tb_9 0 [.ref 0, .int x1, .int x2, .null] [] σ Q := by
  refine Wp.adv (pc' := 5) (ls' := [.ref 0, .int x1, .int x2, .null]) (st' := [.int x1, .ref 1]) (σ' := σ) 3 rfl ?_
  exact Wp.call (q := (4, 2, 2, 8)) rfl (Nat.le_of_ble_eq_true rfl) rfl h
theorem b9_8 {d : Nat} {Q : Option Value → px_S → Prop} {σ : px_S} {x1 x2 s0 : Int32} (ht : ¬ s0 = 0 → Wp d tb_9 15 [.ref 0, .int x1, .int x2, .null] [] σ Q) (hf : ¬ (¬ s0 = 0) → Wp d tb_9 11 [.ref 0, .int x1, .int x2, .null] [] σ Q) : Wp d tb_9 8 [.ref 0, .int x1, .int x2, .null] [.int s0] σ Q := by
  exact Wp.if_ rfl ht hf
theorem b9_11 {d : Nat} {Q : Option Value → px_S → Prop} {σ : px_S} {x1 x2 : Int32} (h : Q (some (.int (-1001 : Int32))) σ) : Wp d tb_9 11 [.ref 0, .int x1, .int x2, .null] [] σ Q := by
  refine Wp.adv (pc' := 14) (ls' := [.ref 0, .int x1, .int x2, .null]) (st' := [.int (-1001 : Int32)]) (σ' := σ) 1 rfl ?_
  exact Wp.ret rfl rfl h
theorem b9_15 {d : Nat} {Q : Option Value → px_S → Prop} {σ : px_S} {x1 x2 : Int32} (ht : x2 < 0 → Wp d tb_9 24 [.ref 0, .int x1, .int x2, .null] [] σ Q) (hf : ¬ (x2 < 0) → Wp d tb_9 19 [.ref 0, .int x1, .int x2, .null] [] σ Q) : Wp d tb_9 15 [.ref 0, .int x1, .int x2, .null] [] σ Q := by
  refine Wp.adv (pc' := 16) (ls' := [.ref 0, .int x1, .int x2, .null]) (st' := [.int x2]) (σ' := σ) 1 rfl ?_
  exact Wp.if_ rfl ht hf
theorem b9_19 {d : Nat} {Q : Option Value → px_S → Prop} {σ : px_S} {x1 x2 : Int32} (ht : x2 ≤ (5 : Int32) → Wp d tb_9 28 [.ref 0, .int x1, .int x2, .null] [] σ Q) (hf : ¬ (x2 ≤ (5 : Int32)) → Wp d tb_9 24 [.ref 0, .int x1, .int x2, .null] [] σ Q) : Wp d tb_9 19 [.ref 0, .int x1, .int x2, .null] [] σ Q := by
  refine Wp.adv (pc' := 21) (ls' := [.ref 0, .int x1, .int x2, .null]) (st' := [.int (5 : Int32), .int x2]) (σ' := σ) 2 rfl ?_
  exact Wp.icmp rfl ht hf
theorem b9_24 {d : Nat} {Q : Option Value → px_S → Prop} {σ : px_S} {x1 x2 : Int32} (h : Q (some (.int (-1002 : Int32))) σ) : Wp d tb_9 24 [.ref 0, .int x1, .int x2, .null] [] σ Q := by
  refine Wp.adv (pc' := 27) (ls' := [.ref 0, .int x1, .int x2, .null]) (st' := [.int (-1002 : Int32)]) (σ' := σ) 1 rfl ?_
  exact Wp.ret rfl rfl h
theorem b9_28 {d : Nat} {Q : Option Value → px_S → Prop} {σ : px_S} {x1 x2 : Int32} (c1 : vp_in x1 40) (ht : (σ.1 14 (x1).toNatClampNeg) < (14 : Int32) → Wp d tb_9 46 [.ref 0, .int x1, .int x2, .null] [] σ Q) (hf : ¬ ((σ.1 14 (x1).toNatClampNeg) < (14 : Int32)) → Wp d tb_9 42 [.ref 0, .int x1, .int x2, .null] [] σ Q) : Wp d tb_9 28 [.ref 0, .int x1, .int x2, .null] [] σ Q := by
  refine Wp.adv (pc' := 36) (ls' := [.ref 0, .int x1, .int x2, .null]) (st' := [.int x1, .ref 14]) (σ' := σ) 4 rfl ?_
  refine Wp.iald (N := 40) rfl rfl c1 ?_
  refine Wp.adv (pc' := 39) (ls' := [.ref 0, .int x1, .int x2, .null]) (st' := [.int (14 : Int32), .int (σ.1 14 (x1).toNatClampNeg)]) (σ' := σ) 1 rfl ?_
  exact Wp.icmp rfl ht hf
theorem b9_42 {d : Nat} {Q : Option Value → px_S → Prop} {σ : px_S} {x1 x2 : Int32} (h : Q (some (.int (-1004 : Int32))) σ) : Wp d tb_9 42 [.ref 0, .int x1, .int x2, .null] [] σ Q := by
  refine Wp.adv (pc' := 45) (ls' := [.ref 0, .int x1, .int x2, .null]) (st' := [.int (-1004 : Int32)]) (σ' := σ) 1 rfl ?_
  exact Wp.ret rfl rfl h
theorem b9_46 {d : Nat} {Q : Option Value → px_S → Prop} {σ : px_S} {x1 x2 : Int32} (h : Cw d 10 [.ref 1, .int x1, .int x2, .long (σ.2.1 0 8)] σ (fun r τ => Wp d tb_9 59 [.ref 0, .int x1, .int x2, .null] (r.toList ++ []) τ Q)) : Wp d tb_9 46 [.ref 0, .int x1, .int x2, .null] [] σ Q := by
  refine Wp.adv (pc' := 56) (ls' := [.ref 0, .int x1, .int x2, .null]) (st' := [.long (σ.2.1 0 8), .int x2, .int x1, .ref 1]) (σ' := σ) 6 rfl ?_
  exact Wp.call (q := (10, 4, 2, 59)) rfl (Nat.le_of_ble_eq_true rfl) rfl h
theorem b9_59 {d : Nat} {Q : Option Value → px_S → Prop} {σ : px_S} {x1 x2 s0 : Int32} (h : Wp d tb_9 65 [.ref 0, .int x1, .int x2, .int s0] [] (px_uL σ 0 8 (0 : Int64)) Q) : Wp d tb_9 59 [.ref 0, .int x1, .int x2, .null] [.int s0] σ Q := by
  refine Wp.adv (pc' := 62) (ls' := [.ref 0, .int x1, .int x2, .int s0]) (st' := [.long (0 : Int64), .ref 0]) (σ' := σ) 3 rfl ?_
  refine Wp.step (q := (65, [.ref 0, .int x1, .int x2, .int s0], [], (px_uL σ 0 8 (0 : Int64)))) rfl rfl ?_
  exact h
theorem b9_65 {d : Nat} {Q : Option Value → px_S → Prop} {σ : px_S} {x1 x2 x3 : Int32} (h : Wp d tb_9 70 [.ref 0, .int x1, .int x2, .int x3] [] (px_uI σ 0 9 (0 : Int32)) Q) : Wp d tb_9 65 [.ref 0, .int x1, .int x2, .int x3] [] σ Q := by
  refine Wp.adv (pc' := 67) (ls' := [.ref 0, .int x1, .int x2, .int x3]) (st' := [.int (0 : Int32), .ref 0]) (σ' := σ) 2 rfl ?_
  refine Wp.step (q := (70, [.ref 0, .int x1, .int x2, .int x3], [], (px_uI σ 0 9 (0 : Int32)))) rfl rfl ?_
  exact h
theorem b9_70 {d : Nat} {Q : Option Value → px_S → Prop} {σ : px_S} {x1 x2 x3 : Int32} (h : Cw d 12 [.ref 2, .int x1] σ (fun r τ => Wp d tb_9 78 [.ref 0, .int x1, .int x2, .int x3] (r.toList ++ []) τ Q)) : Wp d tb_9 70 [.ref 0, .int x1, .int x2, .int x3] [] σ Q := by
  refine Wp.adv (pc' := 75) (ls' := [.ref 0, .int x1, .int x2, .int x3]) (st' := [.int x1, .ref 2]) (σ' := σ) 3 rfl ?_
  exact Wp.call (q := (12, 2, 1, 78)) rfl (Nat.le_of_ble_eq_true rfl) rfl h
theorem b9_78 {d : Nat} {Q : Option Value → px_S → Prop} {σ : px_S} {x1 x2 x3 : Int32} (h : Cw d 7 [.ref 0] σ (fun r τ => Wp d tb_9 82 [.ref 0, .int x1, .int x2, .int x3] (r.toList ++ []) τ Q)) : Wp d tb_9 78 [.ref 0, .int x1, .int x2, .int x3] [] σ Q := by
  refine Wp.adv (pc' := 79) (ls' := [.ref 0, .int x1, .int x2, .int x3]) (st' := [.ref 0]) (σ' := σ) 1 rfl ?_
  exact Wp.call (q := (7, 1, 8, 82)) rfl (Nat.le_of_ble_eq_true rfl) rfl h
theorem b9_82 {d : Nat} {Q : Option Value → px_S → Prop} {σ : px_S} {x1 x2 x3 : Int32} (h : Q (some (.int x3)) σ) : Wp d tb_9 82 [.ref 0, .int x1, .int x2, .int x3] [] σ Q := by
  refine Wp.adv (pc' := 83) (ls' := [.ref 0, .int x1, .int x2, .int x3]) (st' := [.int x3]) (σ' := σ) 1 rfl ?_
  exact Wp.ret rfl rfl h
theorem e9 {d : Nat} {Q : Option Value → px_S → Prop} {σ : px_S} {x1 x2 : Int32} (h : Wp d tb_9 0 [.ref 0, .int x1, .int x2, .null] [] σ Q) : Cw (d + 1) 9 [.ref 0, .int x1, .int x2] σ Q := Cw.of (nL := 4) (y := yX8_line) (cc := cX8_line) (rt := some .int) rfl (Nat.le_of_ble_eq_true rfl) h
theorem b10_0 {d : Nat} {Q : Option Value → px_S → Prop} {σ : px_S} {x1 x2 : Int32} {y3 : Int64} (c1 : vp_in x1 40) (ht : (14 : Int32) ≤ (σ.1 14 (x1).toNatClampNeg) → Wp d tb_10 63 [.ref 1, .int x1, .int x2, .long y3, .null, .int (σ.1 14 (x1).toNatClampNeg)] [] σ Q) (hf : ¬ ((14 : Int32) ≤ (σ.1 14 (x1).toNatClampNeg)) → Wp d tb_10 15 [.ref 1, .int x1, .int x2, .long y3, .null, .int (σ.1 14 (x1).toNatClampNeg)] [] σ Q) : Wp d tb_10 0 [.ref 1, .int x1, .int x2, .long y3, .null, .null] [] σ Q := by
  refine Wp.adv (pc' := 5) (ls' := [.ref 1, .int x1, .int x2, .long y3, .null, .null]) (st' := [.int x1, .ref 14]) (σ' := σ) 3 rfl ?_
  refine Wp.iald (N := 40) rfl rfl c1 ?_
  refine Wp.adv (pc' := 12) (ls' := [.ref 1, .int x1, .int x2, .long y3, .null, .int (σ.1 14 (x1).toNatClampNeg)]) (st' := [.int (14 : Int32), .int (σ.1 14 (x1).toNatClampNeg)]) (σ' := σ) 3 rfl ?_
  exact Wp.icmp rfl ht hf
theorem b10_15 {d : Nat} {Q : Option Value → px_S → Prop} {σ : px_S} {x1 x2 x5 : Int32} {y3 : Int64} (h : Cw d 11 [.int x1, .int x5] σ (fun r τ => Wp d tb_10 25 [.ref 1, .int x1, .int x2, .long y3, .null, .int x5] (r.toList ++ [.ref 16]) τ Q)) : Wp d tb_10 15 [.ref 1, .int x1, .int x2, .long y3, .null, .int x5] [] σ Q := by
  refine Wp.adv (pc' := 22) (ls' := [.ref 1, .int x1, .int x2, .long y3, .null, .int x5]) (st' := [.int x5, .int x1, .ref 16]) (σ' := σ) 4 rfl ?_
  exact Wp.call (q := (11, 2, 0, 25)) rfl (Nat.le_of_ble_eq_true rfl) rfl h
theorem b10_25 {d : Nat} {Q : Option Value → px_S → Prop} {σ : px_S} {x1 x2 x5 s0 : Int32} {y3 : Int64} (c1 : vp_in s0 560) (h : Wp d tb_10 27 [.ref 1, .int x1, .int x2, .long y3, .null, .int x5] [] (px_uI σ 16 (s0).toNatClampNeg x2) Q) : Wp d tb_10 25 [.ref 1, .int x1, .int x2, .long y3, .null, .int x5] [.int s0, .ref 16] σ Q := by
  refine Wp.adv (pc' := 26) (ls' := [.ref 1, .int x1, .int x2, .long y3, .null, .int x5]) (st' := [.int x2, .int s0, .ref 16]) (σ' := σ) 1 rfl ?_
  refine Wp.iast (N := 560) rfl rfl c1 ?_
  exact h
theorem b10_27 {d : Nat} {Q : Option Value → px_S → Prop} {σ : px_S} {x1 x2 x5 : Int32} {y3 : Int64} (h : Cw d 11 [.int x1, .int x5] σ (fun r τ => Wp d tb_10 37 [.ref 1, .int x1, .int x2, .long y3, .null, .int x5] (r.toList ++ [.ref 17]) τ Q)) : Wp d tb_10 27 [.ref 1, .int x1, .int x2, .long y3, .null, .int x5] [] σ Q := by
  refine Wp.adv (pc' := 34) (ls' := [.ref 1, .int x1, .int x2, .long y3, .null, .int x5]) (st' := [.int x5, .int x1, .ref 17]) (σ' := σ) 4 rfl ?_
  exact Wp.call (q := (11, 2, 0, 37)) rfl (Nat.le_of_ble_eq_true rfl) rfl h
theorem b10_37 {d : Nat} {Q : Option Value → px_S → Prop} {σ : px_S} {x1 x2 x5 s0 : Int32} {y3 : Int64} (c1 : vp_in s0 560) (h : Wp d tb_10 39 [.ref 1, .int x1, .int x2, .long y3, .null, .int x5] [] (px_uL σ 17 (s0).toNatClampNeg y3) Q) : Wp d tb_10 37 [.ref 1, .int x1, .int x2, .long y3, .null, .int x5] [.int s0, .ref 17] σ Q := by
  refine Wp.adv (pc' := 38) (ls' := [.ref 1, .int x1, .int x2, .long y3, .null, .int x5]) (st' := [.long y3, .int s0, .ref 17]) (σ' := σ) 1 rfl ?_
  refine Wp.last (N := 560) rfl rfl c1 ?_
  exact h
theorem b10_39 {d : Nat} {Q : Option Value → px_S → Prop} {σ : px_S} {x1 x2 x5 : Int32} {y3 : Int64} (c1 : vp_in x1 40) (c2 : vp_in x1 40) (h : Wp d tb_10 49 [.ref 1, .int x1, .int x2, .long y3, .null, .int x5] [] (px_uI σ 14 (x1).toNatClampNeg ((σ.1 14 (x1).toNatClampNeg) + (1 : Int32))) Q) : Wp d tb_10 39 [.ref 1, .int x1, .int x2, .long y3, .null, .int x5] [] σ Q := by
  refine Wp.adv (pc' := 45) (ls' := [.ref 1, .int x1, .int x2, .long y3, .null, .int x5]) (st' := [.int x1, .ref 14, .int x1, .ref 14]) (σ' := σ) 4 rfl ?_
  refine Wp.iald (N := 40) rfl rfl c1 ?_
  refine Wp.adv (pc' := 48) (ls' := [.ref 1, .int x1, .int x2, .long y3, .null, .int x5]) (st' := [.int ((σ.1 14 (x1).toNatClampNeg) + (1 : Int32)), .int x1, .ref 14]) (σ' := σ) 2 rfl ?_
  refine Wp.iast (N := 40) rfl rfl c2 ?_
  exact h
theorem b10_49 {d : Nat} {Q : Option Value → px_S → Prop} {σ : px_S} {x1 x2 x5 : Int32} {y3 : Int64} (ht : x2 ≤ 0 → Wp d tb_10 63 [.ref 1, .int x1, .int x2, .long y3, .null, .int x5] [] σ Q) (hf : ¬ (x2 ≤ 0) → Wp d tb_10 53 [.ref 1, .int x1, .int x2, .long y3, .null, .int x5] [] σ Q) : Wp d tb_10 49 [.ref 1, .int x1, .int x2, .long y3, .null, .int x5] [] σ Q := by
  refine Wp.adv (pc' := 50) (ls' := [.ref 1, .int x1, .int x2, .long y3, .null, .int x5]) (st' := [.int x2]) (σ' := σ) 1 rfl ?_
  exact Wp.if_ rfl ht hf
theorem b10_53 {d : Nat} {Q : Option Value → px_S → Prop} {σ : px_S} {x1 x2 x5 : Int32} {y3 : Int64} (c1 : vp_in x1 40) (c2 : vp_in x1 40) (h : Wp d tb_10 63 [.ref 1, .int x1, .int x2, .long y3, .null, .int x5] [] (px_uI σ 15 (x1).toNatClampNeg ((σ.1 15 (x1).toNatClampNeg) + (1 : Int32))) Q) : Wp d tb_10 53 [.ref 1, .int x1, .int x2, .long y3, .null, .int x5] [] σ Q := by
  refine Wp.adv (pc' := 59) (ls' := [.ref 1, .int x1, .int x2, .long y3, .null, .int x5]) (st' := [.int x1, .ref 15, .int x1, .ref 15]) (σ' := σ) 4 rfl ?_
  refine Wp.iald (N := 40) rfl rfl c1 ?_
  refine Wp.adv (pc' := 62) (ls' := [.ref 1, .int x1, .int x2, .long y3, .null, .int x5]) (st' := [.int ((σ.1 15 (x1).toNatClampNeg) + (1 : Int32)), .int x1, .ref 15]) (σ' := σ) 2 rfl ?_
  refine Wp.iast (N := 40) rfl rfl c2 ?_
  exact h
theorem b10_63 {d : Nat} {Q : Option Value → px_S → Prop} {σ : px_S} {x1 x2 x5 : Int32} {y3 : Int64} (h : Q (some (.int x5)) σ) : Wp d tb_10 63 [.ref 1, .int x1, .int x2, .long y3, .null, .int x5] [] σ Q := by
  refine Wp.adv (pc' := 65) (ls' := [.ref 1, .int x1, .int x2, .long y3, .null, .int x5]) (st' := [.int x5]) (σ' := σ) 1 rfl ?_
  exact Wp.ret rfl rfl h
theorem e10 {d : Nat} {Q : Option Value → px_S → Prop} {σ : px_S} {x1 x2 : Int32} {y3 : Int64} (h : Wp d tb_10 0 [.ref 1, .int x1, .int x2, .long y3, .null, .null] [] σ Q) : Cw (d + 1) 10 [.ref 1, .int x1, .int x2, .long y3] σ Q := Cw.of (nL := 6) (y := yX1_addLine) (cc := cX1_addLine) (rt := some .int) rfl (Nat.le_of_ble_eq_true rfl) h
theorem b11_0 {d : Nat} {Q : Option Value → px_S → Prop} {σ : px_S} {x0 x1 : Int32} (h : Q (some (.int (((14 : Int32) * x0) + x1))) σ) : Wp d tb_11 0 [.int x0, .int x1] [] σ Q := by
  refine Wp.adv (pc' := 6) (ls' := [.int x0, .int x1]) (st' := [.int (((14 : Int32) * x0) + x1)]) (σ' := σ) 5 rfl ?_
  exact Wp.ret rfl rfl h
theorem e11 {d : Nat} {Q : Option Value → px_S → Prop} {σ : px_S} {x0 x1 : Int32} (h : Wp d tb_11 0 [.int x0, .int x1] [] σ Q) : Cw (d + 1) 11 [.int x0, .int x1] σ Q := Cw.of (nL := 2) (y := yX8_spotOf) (cc := cX8_spotOf) (rt := some .int) rfl (Nat.le_of_ble_eq_true rfl) h
theorem b12_0 {d : Nat} {Q : Option Value → px_S → Prop} {σ : px_S} {x1 : Int32} (h : Wp d tb_12 2 [.ref 2, .int x1, .int (0 : Int32)] [] σ Q) : Wp d tb_12 0 [.ref 2, .int x1, .null] [] σ Q := by
  refine Wp.adv (pc' := 2) (ls' := [.ref 2, .int x1, .int (0 : Int32)]) (st' := []) (σ' := σ) 2 rfl ?_
  exact h
theorem b12_2 {d : Nat} {Q : Option Value → px_S → Prop} {σ : px_S} {x1 x2 : Int32} (ht : (40 : Int32) ≤ x2 → Wp d tb_12 38 [.ref 2, .int x1, .int x2] [] σ Q) (hf : ¬ ((40 : Int32) ≤ x2) → Wp d tb_12 8 [.ref 2, .int x1, .int x2] [] σ Q) : Wp d tb_12 2 [.ref 2, .int x1, .int x2] [] σ Q := by
  refine Wp.adv (pc' := 5) (ls' := [.ref 2, .int x1, .int x2]) (st' := [.int (40 : Int32), .int x2]) (σ' := σ) 2 rfl ?_
  exact Wp.icmp rfl ht hf
theorem b12_8 {d : Nat} {Q : Option Value → px_S → Prop} {σ : px_S} {x1 x2 : Int32} (c1 : vp_in (((40 : Int32) * x1) + x2) 1600) (h : Wp d tb_12 20 [.ref 2, .int x1, .int x2] [] (px_uI σ 18 ((((40 : Int32) * x1) + x2)).toNatClampNeg (-1 : Int32)) Q) : Wp d tb_12 8 [.ref 2, .int x1, .int x2] [] σ Q := by
  refine Wp.adv (pc' := 19) (ls' := [.ref 2, .int x1, .int x2]) (st' := [.int (-1 : Int32), .int (((40 : Int32) * x1) + x2), .ref 18]) (σ' := σ) 8 rfl ?_
  refine Wp.iast (N := 1600) rfl rfl c1 ?_
  exact h
theorem b12_20 {d : Nat} {Q : Option Value → px_S → Prop} {σ : px_S} {x1 x2 : Int32} (c1 : vp_in (((40 : Int32) * x2) + x1) 1600) (h : Wp d tb_12 32 [.ref 2, .int x1, .int x2] [] (px_uI σ 18 ((((40 : Int32) * x2) + x1)).toNatClampNeg (-1 : Int32)) Q) : Wp d tb_12 20 [.ref 2, .int x1, .int x2] [] σ Q := by
  refine Wp.adv (pc' := 31) (ls' := [.ref 2, .int x1, .int x2]) (st' := [.int (-1 : Int32), .int (((40 : Int32) * x2) + x1), .ref 18]) (σ' := σ) 8 rfl ?_
  refine Wp.iast (N := 1600) rfl rfl c1 ?_
  exact h
theorem b12_32 {d : Nat} {Q : Option Value → px_S → Prop} {σ : px_S} {x1 x2 : Int32} (h : Wp d tb_12 2 [.ref 2, .int x1, .int (x2 + 1)] [] σ Q) : Wp d tb_12 32 [.ref 2, .int x1, .int x2] [] σ Q := by
  refine Wp.adv (pc' := 2) (ls' := [.ref 2, .int x1, .int (x2 + 1)]) (st' := []) (σ' := σ) 2 rfl ?_
  exact h
theorem b12_38 {d : Nat} {Q : Option Value → px_S → Prop} {σ : px_S} {x1 x2 : Int32} (h : Q none σ) : Wp d tb_12 38 [.ref 2, .int x1, .int x2] [] σ Q := by
  exact Wp.ret rfl rfl h
theorem e12 {d : Nat} {Q : Option Value → px_S → Prop} {σ : px_S} {x1 : Int32} (h : Wp d tb_12 0 [.ref 2, .int x1, .null] [] σ Q) : Cw (d + 1) 12 [.ref 2, .int x1] σ Q := Cw.of (nL := 3) (y := yX0_forgetLetter) (cc := cX0_forgetLetter) (rt := none) rfl (Nat.le_of_ble_eq_true rfl) h
theorem b13_0 {d : Nat} {Q : Option Value → px_S → Prop} {σ : px_S} {x1 x2 x3 : Int32} (h : Cw d 4 [.ref 1, .int x1] σ (fun r τ => Wp d tb_13 8 [.ref 0, .int x1, .int x2, .int x3, .null] (r.toList ++ []) τ Q)) : Wp d tb_13 0 [.ref 0, .int x1, .int x2, .int x3, .null] [] σ Q := by
  refine Wp.adv (pc' := 5) (ls' := [.ref 0, .int x1, .int x2, .int x3, .null]) (st' := [.int x1, .ref 1]) (σ' := σ) 3 rfl ?_
  exact Wp.call (q := (4, 2, 2, 8)) rfl (Nat.le_of_ble_eq_true rfl) rfl h
theorem b13_8 {d : Nat} {Q : Option Value → px_S → Prop} {σ : px_S} {x1 x2 x3 s0 : Int32} (ht : ¬ s0 = 0 → Wp d tb_13 15 [.ref 0, .int x1, .int x2, .int x3, .null] [] σ Q) (hf : ¬ (¬ s0 = 0) → Wp d tb_13 11 [.ref 0, .int x1, .int x2, .int x3, .null] [] σ Q) : Wp d tb_13 8 [.ref 0, .int x1, .int x2, .int x3, .null] [.int s0] σ Q := by
  exact Wp.if_ rfl ht hf
theorem b13_11 {d : Nat} {Q : Option Value → px_S → Prop} {σ : px_S} {x1 x2 x3 : Int32} (h : Q (some (.int (-1001 : Int32))) σ) : Wp d tb_13 11 [.ref 0, .int x1, .int x2, .int x3, .null] [] σ Q := by
  refine Wp.adv (pc' := 14) (ls' := [.ref 0, .int x1, .int x2, .int x3, .null]) (st' := [.int (-1001 : Int32)]) (σ' := σ) 1 rfl ?_
  exact Wp.ret rfl rfl h
theorem b13_15 {d : Nat} {Q : Option Value → px_S → Prop} {σ : px_S} {x1 x2 x3 : Int32} (h : Cw d 5 [.int x2] σ (fun r τ => Wp d tb_13 19 [.ref 0, .int x1, .int x2, .int x3, .null] (r.toList ++ []) τ Q)) : Wp d tb_13 15 [.ref 0, .int x1, .int x2, .int x3, .null] [] σ Q := by
  refine Wp.adv (pc' := 16) (ls' := [.ref 0, .int x1, .int x2, .int x3, .null]) (st' := [.int x2]) (σ' := σ) 1 rfl ?_
  exact Wp.call (q := (5, 1, 0, 19)) rfl (Nat.le_of_ble_eq_true rfl) rfl h
theorem b13_19 {d : Nat} {Q : Option Value → px_S → Prop} {σ : px_S} {x1 x2 x3 s0 : Int32} (ht : ¬ s0 = 0 → Wp d tb_13 29 [.ref 0, .int x1, .int x2, .int x3, .null] [] σ Q) (hf : ¬ (¬ s0 = 0) → Wp d tb_13 22 [.ref 0, .int x1, .int x2, .int x3, .null] [] σ Q) : Wp d tb_13 19 [.ref 0, .int x1, .int x2, .int x3, .null] [.int s0] σ Q := by
  exact Wp.if_ rfl ht hf
theorem b13_22 {d : Nat} {Q : Option Value → px_S → Prop} {σ : px_S} {x1 x2 x3 : Int32} (h : Cw d 6 [.int x3] σ (fun r τ => Wp d tb_13 26 [.ref 0, .int x1, .int x2, .int x3, .null] (r.toList ++ []) τ Q)) : Wp d tb_13 22 [.ref 0, .int x1, .int x2, .int x3, .null] [] σ Q := by
  refine Wp.adv (pc' := 23) (ls' := [.ref 0, .int x1, .int x2, .int x3, .null]) (st' := [.int x3]) (σ' := σ) 1 rfl ?_
  exact Wp.call (q := (6, 1, 0, 26)) rfl (Nat.le_of_ble_eq_true rfl) rfl h
theorem b13_26 {d : Nat} {Q : Option Value → px_S → Prop} {σ : px_S} {x1 x2 x3 s0 : Int32} (ht : s0 = 0 → Wp d tb_13 33 [.ref 0, .int x1, .int x2, .int x3, .null] [] σ Q) (hf : ¬ (s0 = 0) → Wp d tb_13 29 [.ref 0, .int x1, .int x2, .int x3, .null] [] σ Q) : Wp d tb_13 26 [.ref 0, .int x1, .int x2, .int x3, .null] [.int s0] σ Q := by
  exact Wp.if_ rfl ht hf
theorem b13_29 {d : Nat} {Q : Option Value → px_S → Prop} {σ : px_S} {x1 x2 x3 : Int32} (h : Q (some (.int (-1002 : Int32))) σ) : Wp d tb_13 29 [.ref 0, .int x1, .int x2, .int x3, .null] [] σ Q := by
  refine Wp.adv (pc' := 32) (ls' := [.ref 0, .int x1, .int x2, .int x3, .null]) (st' := [.int (-1002 : Int32)]) (σ' := σ) 1 rfl ?_
  exact Wp.ret rfl rfl h
theorem b13_33 {d : Nat} {Q : Option Value → px_S → Prop} {σ : px_S} {x1 x2 x3 : Int32} (ht : (σ.1 1 7) < (40 : Int32) → Wp d tb_13 49 [.ref 0, .int x1, .int x2, .int x3, .null] [] σ Q) (hf : ¬ ((σ.1 1 7) < (40 : Int32)) → Wp d tb_13 45 [.ref 0, .int x1, .int x2, .int x3, .null] [] σ Q) : Wp d tb_13 33 [.ref 0, .int x1, .int x2, .int x3, .null] [] σ Q := by
  refine Wp.adv (pc' := 42) (ls' := [.ref 0, .int x1, .int x2, .int x3, .null]) (st' := [.int (40 : Int32), .int (σ.1 1 7)]) (σ' := σ) 4 rfl ?_
  exact Wp.icmp rfl ht hf
theorem b13_45 {d : Nat} {Q : Option Value → px_S → Prop} {σ : px_S} {x1 x2 x3 : Int32} (h : Q (some (.int (-1004 : Int32))) σ) : Wp d tb_13 45 [.ref 0, .int x1, .int x2, .int x3, .null] [] σ Q := by
  refine Wp.adv (pc' := 48) (ls' := [.ref 0, .int x1, .int x2, .int x3, .null]) (st' := [.int (-1004 : Int32)]) (σ' := σ) 1 rfl ?_
  exact Wp.ret rfl rfl h
theorem b13_49 {d : Nat} {Q : Option Value → px_S → Prop} {σ : px_S} {x1 x2 x3 : Int32} (h : Cw d 8 [.ref 1, .int x2, .int x3, .int x1] σ (fun r τ => Wp d tb_13 59 [.ref 0, .int x1, .int x2, .int x3, .null] (r.toList ++ []) τ Q)) : Wp d tb_13 49 [.ref 0, .int x1, .int x2, .int x3, .null] [] σ Q := by
  refine Wp.adv (pc' := 56) (ls' := [.ref 0, .int x1, .int x2, .int x3, .null]) (st' := [.int x1, .int x3, .int x2, .ref 1]) (σ' := σ) 5 rfl ?_
  exact Wp.call (q := (8, 4, 2, 59)) rfl (Nat.le_of_ble_eq_true rfl) rfl h
theorem b13_59 {d : Nat} {Q : Option Value → px_S → Prop} {σ : px_S} {x1 x2 x3 s0 : Int32} (c1 : vp_in (3 : Int32) 5) (c2 : vp_in (4 : Int32) 5) (h : Cw d 14 [.ref 1, .int s0, .int x1, .int (σ.1 10 ((3 : Int32)).toNatClampNeg), .int (σ.1 10 ((4 : Int32)).toNatClampNeg)] σ (fun r τ => Wp d tb_13 83 [.ref 0, .int x1, .int x2, .int x3, .int s0] (r.toList ++ []) τ Q)) : Wp d tb_13 59 [.ref 0, .int x1, .int x2, .int x3, .null] [.int s0] σ Q := by
  refine Wp.adv (pc' := 73) (ls' := [.ref 0, .int x1, .int x2, .int x3, .int s0]) (st' := [.int (3 : Int32), .ref 10, .int x1, .int s0, .ref 1]) (σ' := σ) 8 rfl ?_
  refine Wp.iald (N := 5) rfl rfl c1 ?_
  refine Wp.adv (pc' := 79) (ls' := [.ref 0, .int x1, .int x2, .int x3, .int s0]) (st' := [.int (4 : Int32), .ref 10, .int (σ.1 10 ((3 : Int32)).toNatClampNeg), .int x1, .int s0, .ref 1]) (σ' := σ) 3 rfl ?_
  refine Wp.iald (N := 5) rfl rfl c2 ?_
  exact Wp.call (q := (14, 5, 2, 83)) rfl (Nat.le_of_ble_eq_true rfl) rfl h
theorem b13_83 {d : Nat} {Q : Option Value → px_S → Prop} {σ : px_S} {x1 x2 x3 x4 : Int32} (h : Cw d 7 [.ref 0] σ (fun r τ => Wp d tb_13 87 [.ref 0, .int x1, .int x2, .int x3, .int x4] (r.toList ++ []) τ Q)) : Wp d tb_13 83 [.ref 0, .int x1, .int x2, .int x3, .int x4] [] σ Q := by
  refine Wp.adv (pc' := 84) (ls' := [.ref 0, .int x1, .int x2, .int x3, .int x4]) (st' := [.ref 0]) (σ' := σ) 1 rfl ?_
  exact Wp.call (q := (7, 1, 8, 87)) rfl (Nat.le_of_ble_eq_true rfl) rfl h
theorem b13_87 {d : Nat} {Q : Option Value → px_S → Prop} {σ : px_S} {x1 x2 x3 x4 : Int32} (h : Q (some (.int x4)) σ) : Wp d tb_13 87 [.ref 0, .int x1, .int x2, .int x3, .int x4] [] σ Q := by
  refine Wp.adv (pc' := 89) (ls' := [.ref 0, .int x1, .int x2, .int x3, .int x4]) (st' := [.int x4]) (σ' := σ) 1 rfl ?_
  exact Wp.ret rfl rfl h
theorem e13 {d : Nat} {Q : Option Value → px_S → Prop} {σ : px_S} {x1 x2 x3 : Int32} (h : Wp d tb_13 0 [.ref 0, .int x1, .int x2, .int x3, .null] [] σ Q) : Cw (d + 1) 13 [.ref 0, .int x1, .int x2, .int x3] σ Q := Cw.of (nL := 5) (y := yX8_answer) (cc := cX8_answer) (rt := some .int) rfl (Nat.le_of_ble_eq_true rfl) h
theorem b14_0 {d : Nat} {Q : Option Value → px_S → Prop} {σ : px_S} {x1 x2 x3 x4 : Int32} (h : Wp d tb_14 7 [.ref 1, .int x1, .int x2, .int x3, .int x4, .int (-x3), .int (0 : Int32), .null] [] σ Q) : Wp d tb_14 0 [.ref 1, .int x1, .int x2, .int x3, .int x4, .null, .null, .null] [] σ Q := by
  refine Wp.adv (pc' := 7) (ls' := [.ref 1, .int x1, .int x2, .int x3, .int x4, .int (-x3), .int (0 : Int32), .null]) (st' := []) (σ' := σ) 5 rfl ?_
  exact h
theorem b14_7 {d : Nat} {Q : Option Value → px_S → Prop} {σ : px_S} {x1 x2 x3 x4 x5 x6 : Int32} (c1 : vp_in x2 40) (ht : (σ.1 14 (x2).toNatClampNeg) ≤ x6 → Wp d tb_14 43 [.ref 1, .int x1, .int x2, .int x3, .int x4, .int x5, .int x6, .null] [] σ Q) (hf : ¬ ((σ.1 14 (x2).toNatClampNeg) ≤ x6) → Wp d tb_14 18 [.ref 1, .int x1, .int x2, .int x3, .int x4, .int x5, .int x6, .null] [] σ Q) : Wp d tb_14 7 [.ref 1, .int x1, .int x2, .int x3, .int x4, .int x5, .int x6, .null] [] σ Q := by
  refine Wp.adv (pc' := 14) (ls' := [.ref 1, .int x1, .int x2, .int x3, .int x4, .int x5, .int x6, .null]) (st' := [.int x2, .ref 14, .int x6]) (σ' := σ) 4 rfl ?_
  refine Wp.iald (N := 40) rfl rfl c1 ?_
  exact Wp.icmp rfl ht hf
theorem b14_18 {d : Nat} {Q : Option Value → px_S → Prop} {σ : px_S} {x1 x2 x3 x4 x5 x6 : Int32} (h : Cw d 11 [.int x2, .int x6] σ (fun r τ => Wp d tb_14 28 [.ref 1, .int x1, .int x2, .int x3, .int x4, .int x5, .int x6, .null] (r.toList ++ [.ref 16]) τ Q)) : Wp d tb_14 18 [.ref 1, .int x1, .int x2, .int x3, .int x4, .int x5, .int x6, .null] [] σ Q := by
  refine Wp.adv (pc' := 25) (ls' := [.ref 1, .int x1, .int x2, .int x3, .int x4, .int x5, .int x6, .null]) (st' := [.int x6, .int x2, .ref 16]) (σ' := σ) 4 rfl ?_
  exact Wp.call (q := (11, 2, 0, 28)) rfl (Nat.le_of_ble_eq_true rfl) rfl h
theorem b14_28 {d : Nat} {Q : Option Value → px_S → Prop} {σ : px_S} {x1 x2 x3 x4 x5 x6 s0 : Int32} (c1 : vp_in s0 560) (ht : x4 ≤ (σ.1 16 (s0).toNatClampNeg) → Wp d tb_14 37 [.ref 1, .int x1, .int x2, .int x3, .int x4, .int x5, .int x6, .null] [] σ Q) (hf : ¬ (x4 ≤ (σ.1 16 (s0).toNatClampNeg)) → Wp d tb_14 34 [.ref 1, .int x1, .int x2, .int x3, .int x4, .int x5, .int x6, .null] [] σ Q) : Wp d tb_14 28 [.ref 1, .int x1, .int x2, .int x3, .int x4, .int x5, .int x6, .null] [.int s0, .ref 16] σ Q := by
  refine Wp.iald (N := 560) rfl rfl c1 ?_
  refine Wp.adv (pc' := 31) (ls' := [.ref 1, .int x1, .int x2, .int x3, .int x4, .int x5, .int x6, .null]) (st' := [.int x4, .int (σ.1 16 (s0).toNatClampNeg)]) (σ' := σ) 1 rfl ?_
  exact Wp.icmp rfl ht hf
theorem b14_34 {d : Nat} {Q : Option Value → px_S → Prop} {σ : px_S} {x1 x2 x3 x4 x5 x6 : Int32} (h : Wp d tb_14 37 [.ref 1, .int x1, .int x2, .int x3, .int x4, .int (x5 + 1), .int x6, .null] [] σ Q) : Wp d tb_14 34 [.ref 1, .int x1, .int x2, .int x3, .int x4, .int x5, .int x6, .null] [] σ Q := by
  refine Wp.adv (pc' := 37) (ls' := [.ref 1, .int x1, .int x2, .int x3, .int x4, .int (x5 + 1), .int x6, .null]) (st' := []) (σ' := σ) 1 rfl ?_
  exact h
theorem b14_37 {d : Nat} {Q : Option Value → px_S → Prop} {σ : px_S} {x1 x2 x3 x4 x5 x6 : Int32} (h : Wp d tb_14 7 [.ref 1, .int x1, .int x2, .int x3, .int x4, .int x5, .int (x6 + 1), .null] [] σ Q) : Wp d tb_14 37 [.ref 1, .int x1, .int x2, .int x3, .int x4, .int x5, .int x6, .null] [] σ Q := by
  refine Wp.adv (pc' := 7) (ls' := [.ref 1, .int x1, .int x2, .int x3, .int x4, .int x5, .int (x6 + 1), .null]) (st' := []) (σ' := σ) 2 rfl ?_
  exact h
theorem b14_43 {d : Nat} {Q : Option Value → px_S → Prop} {σ : px_S} {x1 x2 x3 x4 x5 x6 : Int32} (h : Wp d tb_14 46 [.ref 1, .int x1, .int x2, .int x3, .int x4, .int x5, .int (0 : Int32), .null] [] σ Q) : Wp d tb_14 43 [.ref 1, .int x1, .int x2, .int x3, .int x4, .int x5, .int x6, .null] [] σ Q := by
  refine Wp.adv (pc' := 46) (ls' := [.ref 1, .int x1, .int x2, .int x3, .int x4, .int x5, .int (0 : Int32), .null]) (st' := []) (σ' := σ) 2 rfl ?_
  exact h
theorem b14_46 {d : Nat} {Q : Option Value → px_S → Prop} {σ : px_S} {x1 x2 x3 x4 x5 x6 : Int32} {v7 : Value} (c1 : vp_in x2 40) (ht : (σ.1 14 (x2).toNatClampNeg) ≤ x6 → Wp d tb_14 119 [.ref 1, .int x1, .int x2, .int x3, .int x4, .int x5, .int x6, v7] [] σ Q) (hf : ¬ ((σ.1 14 (x2).toNatClampNeg) ≤ x6) → Wp d tb_14 57 [.ref 1, .int x1, .int x2, .int x3, .int x4, .int x5, .int x6, v7] [] σ Q) : Wp d tb_14 46 [.ref 1, .int x1, .int x2, .int x3, .int x4, .int x5, .int x6, v7] [] σ Q := by
  refine Wp.adv (pc' := 53) (ls' := [.ref 1, .int x1, .int x2, .int x3, .int x4, .int x5, .int x6, v7]) (st' := [.int x2, .ref 14, .int x6]) (σ' := σ) 4 rfl ?_
  refine Wp.iald (N := 40) rfl rfl c1 ?_
  exact Wp.icmp rfl ht hf
theorem b14_57 {d : Nat} {Q : Option Value → px_S → Prop} {σ : px_S} {x1 x2 x3 x4 x5 x6 : Int32} {v7 : Value} (nv7 : px_nc v7 = true) (h : Cw d 11 [.int x2, .int x6] σ (fun r τ => Wp d tb_14 63 [.ref 1, .int x1, .int x2, .int x3, .int x4, .int x5, .int x6, v7] (r.toList ++ []) τ Q)) : Wp d tb_14 57 [.ref 1, .int x1, .int x2, .int x3, .int x4, .int x5, .int x6, v7] [] σ Q := by
  refine Wp.adv (pc' := 60) (ls' := [.ref 1, .int x1, .int x2, .int x3, .int x4, .int x5, .int x6, v7]) (st' := [.int x6, .int x2]) (σ' := σ) 2 rfl ?_
  exact Wp.call (q := (11, 2, 0, 63)) rfl (Nat.le_of_ble_eq_true rfl) (px_okc_mk rfl rfl rfl (by simp only [List.all_cons, List.all_nil, nv7]; rfl)) h
theorem b14_63 {d : Nat} {Q : Option Value → px_S → Prop} {σ : px_S} {x1 x2 x3 x4 x5 x6 s0 : Int32} {v7 : Value} (c1 : vp_in s0 560) (ht : (σ.1 16 (s0).toNatClampNeg) < x4 → Wp d tb_14 80 [.ref 1, .int x1, .int x2, .int x3, .int x4, .int x5, .int x6, .int s0] [] σ Q) (hf : ¬ ((σ.1 16 (s0).toNatClampNeg) < x4) → Wp d tb_14 77 [.ref 1, .int x1, .int x2, .int x3, .int x4, .int x5, .int x6, .int s0] [] σ Q) : Wp d tb_14 63 [.ref 1, .int x1, .int x2, .int x3, .int x4, .int x5, .int x6, v7] [.int s0] σ Q := by
  refine Wp.adv (pc' := 71) (ls' := [.ref 1, .int x1, .int x2, .int x3, .int x4, .int x5, .int x6, .int s0]) (st' := [.int s0, .ref 16]) (σ' := σ) 4 rfl ?_
  refine Wp.iald (N := 560) rfl rfl c1 ?_
  refine Wp.adv (pc' := 74) (ls' := [.ref 1, .int x1, .int x2, .int x3, .int x4, .int x5, .int x6, .int s0]) (st' := [.int x4, .int (σ.1 16 (s0).toNatClampNeg)]) (σ' := σ) 1 rfl ?_
  exact Wp.icmp rfl ht hf
theorem b14_77 {d : Nat} {Q : Option Value → px_S → Prop} {σ : px_S} {x1 x2 x3 x4 x5 x6 x7 : Int32} (h : Wp d tb_14 113 [.ref 1, .int x1, .int x2, .int x3, .int x4, .int x5, .int x6, .int x7] [] σ Q) : Wp d tb_14 77 [.ref 1, .int x1, .int x2, .int x3, .int x4, .int x5, .int x6, .int x7] [] σ Q := by
  refine Wp.adv (pc' := 113) (ls' := [.ref 1, .int x1, .int x2, .int x3, .int x4, .int x5, .int x6, .int x7]) (st' := []) (σ' := σ) 1 rfl ?_
  exact h
theorem b14_80 {d : Nat} {Q : Option Value → px_S → Prop} {σ : px_S} {x1 x2 x3 x4 x5 x6 x7 : Int32} (ht : x5 ≤ 0 → Wp d tb_14 91 [.ref 1, .int x1, .int x2, .int x3, .int x4, .int x5, .int x6, .int x7] [] σ Q) (hf : ¬ (x5 ≤ 0) → Wp d tb_14 85 [.ref 1, .int x1, .int x2, .int x3, .int x4, .int x5, .int x6, .int x7] [] σ Q) : Wp d tb_14 80 [.ref 1, .int x1, .int x2, .int x3, .int x4, .int x5, .int x6, .int x7] [] σ Q := by
  refine Wp.adv (pc' := 82) (ls' := [.ref 1, .int x1, .int x2, .int x3, .int x4, .int x5, .int x6, .int x7]) (st' := [.int x5]) (σ' := σ) 1 rfl ?_
  exact Wp.if_ rfl ht hf
theorem b14_85 {d : Nat} {Q : Option Value → px_S → Prop} {σ : px_S} {x1 x2 x3 x4 x5 x6 x7 : Int32} (h : Wp d tb_14 113 [.ref 1, .int x1, .int x2, .int x3, .int x4, .int (x5 + (-1)), .int x6, .int x7] [] σ Q) : Wp d tb_14 85 [.ref 1, .int x1, .int x2, .int x3, .int x4, .int x5, .int x6, .int x7] [] σ Q := by
  refine Wp.adv (pc' := 113) (ls' := [.ref 1, .int x1, .int x2, .int x3, .int x4, .int (x5 + (-1)), .int x6, .int x7]) (st' := []) (σ' := σ) 2 rfl ?_
  exact h
theorem b14_91 {d : Nat} {Q : Option Value → px_S → Prop} {σ : px_S} {x1 x2 x3 x4 x5 x6 x7 : Int32} (c1 : vp_in x7 560) (c2 : vp_in x7 560) (h : Cw d 10 [.ref 1, .int x1, .int ((σ.1 16 (x7).toNatClampNeg) + (1 : Int32)), .long (σ.2.1 17 (x7).toNatClampNeg)] σ (fun r τ => Wp d tb_14 112 [.ref 1, .int x1, .int x2, .int x3, .int x4, .int x5, .int x6, .int x7] (r.toList ++ []) τ Q)) : Wp d tb_14 91 [.ref 1, .int x1, .int x2, .int x3, .int x4, .int x5, .int x6, .int x7] [] σ Q := by
  refine Wp.adv (pc' := 99) (ls' := [.ref 1, .int x1, .int x2, .int x3, .int x4, .int x5, .int x6, .int x7]) (st' := [.int x7, .ref 16, .int x1, .ref 1]) (σ' := σ) 5 rfl ?_
  refine Wp.iald (N := 560) rfl rfl c1 ?_
  refine Wp.adv (pc' := 108) (ls' := [.ref 1, .int x1, .int x2, .int x3, .int x4, .int x5, .int x6, .int x7]) (st' := [.int x7, .ref 17, .int ((σ.1 16 (x7).toNatClampNeg) + (1 : Int32)), .int x1, .ref 1]) (σ' := σ) 5 rfl ?_
  refine Wp.lald (N := 560) rfl rfl c2 ?_
  exact Wp.call (q := (10, 4, 2, 112)) rfl (Nat.le_of_ble_eq_true rfl) rfl h
theorem b14_112 {d : Nat} {Q : Option Value → px_S → Prop} {σ : px_S} {x1 x2 x3 x4 x5 x6 x7 s0 : Int32} (h : Wp d tb_14 113 [.ref 1, .int x1, .int x2, .int x3, .int x4, .int x5, .int x6, .int x7] [] σ Q) : Wp d tb_14 112 [.ref 1, .int x1, .int x2, .int x3, .int x4, .int x5, .int x6, .int x7] [.int s0] σ Q := by
  refine Wp.adv (pc' := 113) (ls' := [.ref 1, .int x1, .int x2, .int x3, .int x4, .int x5, .int x6, .int x7]) (st' := []) (σ' := σ) 1 rfl ?_
  exact h
theorem b14_113 {d : Nat} {Q : Option Value → px_S → Prop} {σ : px_S} {x1 x2 x3 x4 x5 x6 x7 : Int32} (h : Wp d tb_14 46 [.ref 1, .int x1, .int x2, .int x3, .int x4, .int x5, .int (x6 + 1), .int x7] [] σ Q) : Wp d tb_14 113 [.ref 1, .int x1, .int x2, .int x3, .int x4, .int x5, .int x6, .int x7] [] σ Q := by
  refine Wp.adv (pc' := 46) (ls' := [.ref 1, .int x1, .int x2, .int x3, .int x4, .int x5, .int (x6 + 1), .int x7]) (st' := []) (σ' := σ) 2 rfl ?_
  exact h
theorem b14_119 {d : Nat} {Q : Option Value → px_S → Prop} {σ : px_S} {x1 x2 x3 x4 x5 x6 : Int32} {v7 : Value} (h : Q none σ) : Wp d tb_14 119 [.ref 1, .int x1, .int x2, .int x3, .int x4, .int x5, .int x6, v7] [] σ Q := by
  exact Wp.ret rfl rfl h
theorem e14 {d : Nat} {Q : Option Value → px_S → Prop} {σ : px_S} {x1 x2 x3 x4 : Int32} (h : Wp d tb_14 0 [.ref 1, .int x1, .int x2, .int x3, .int x4, .null, .null, .null] [] σ Q) : Cw (d + 1) 14 [.ref 1, .int x1, .int x2, .int x3, .int x4] σ Q := Cw.of (nL := 8) (y := yX1_quoteInto) (cc := cX1_quoteInto) (rt := none) rfl (Nat.le_of_ble_eq_true rfl) h
theorem b15_0 {d : Nat} {Q : Option Value → px_S → Prop} {σ : px_S} {x1 : Int32} (h : Cw d 4 [.ref 1, .int x1] σ (fun r τ => Wp d tb_15 8 [.ref 0, .int x1] (r.toList ++ []) τ Q)) : Wp d tb_15 0 [.ref 0, .int x1] [] σ Q := by
  refine Wp.adv (pc' := 5) (ls' := [.ref 0, .int x1]) (st' := [.int x1, .ref 1]) (σ' := σ) 3 rfl ?_
  exact Wp.call (q := (4, 2, 2, 8)) rfl (Nat.le_of_ble_eq_true rfl) rfl h
theorem b15_8 {d : Nat} {Q : Option Value → px_S → Prop} {σ : px_S} {x1 s0 : Int32} (ht : ¬ s0 = 0 → Wp d tb_15 15 [.ref 0, .int x1] [] σ Q) (hf : ¬ (¬ s0 = 0) → Wp d tb_15 11 [.ref 0, .int x1] [] σ Q) : Wp d tb_15 8 [.ref 0, .int x1] [.int s0] σ Q := by
  exact Wp.if_ rfl ht hf
theorem b15_11 {d : Nat} {Q : Option Value → px_S → Prop} {σ : px_S} {x1 : Int32} (h : Q (some (.int (-1001 : Int32))) σ) : Wp d tb_15 11 [.ref 0, .int x1] [] σ Q := by
  refine Wp.adv (pc' := 14) (ls' := [.ref 0, .int x1]) (st' := [.int (-1001 : Int32)]) (σ' := σ) 1 rfl ?_
  exact Wp.ret rfl rfl h
theorem b15_15 {d : Nat} {Q : Option Value → px_S → Prop} {σ : px_S} {x1 : Int32} (h : Cw d 16 [.ref 1, .int x1] σ (fun r τ => Wp d tb_15 23 [.ref 0, .int x1] (r.toList ++ []) τ Q)) : Wp d tb_15 15 [.ref 0, .int x1] [] σ Q := by
  refine Wp.adv (pc' := 20) (ls' := [.ref 0, .int x1]) (st' := [.int x1, .ref 1]) (σ' := σ) 3 rfl ?_
  exact Wp.call (q := (16, 2, 2, 23)) rfl (Nat.le_of_ble_eq_true rfl) rfl h
theorem b15_23 {d : Nat} {Q : Option Value → px_S → Prop} {σ : px_S} {x1 s0 : Int32} (ht : s0 = 0 → Wp d tb_15 30 [.ref 0, .int x1] [] σ Q) (hf : ¬ (s0 = 0) → Wp d tb_15 26 [.ref 0, .int x1] [] σ Q) : Wp d tb_15 23 [.ref 0, .int x1] [.int s0] σ Q := by
  exact Wp.if_ rfl ht hf
theorem b15_26 {d : Nat} {Q : Option Value → px_S → Prop} {σ : px_S} {x1 : Int32} (h : Q (some (.int (-1003 : Int32))) σ) : Wp d tb_15 26 [.ref 0, .int x1] [] σ Q := by
  refine Wp.adv (pc' := 29) (ls' := [.ref 0, .int x1]) (st' := [.int (-1003 : Int32)]) (σ' := σ) 1 rfl ?_
  exact Wp.ret rfl rfl h
theorem b15_30 {d : Nat} {Q : Option Value → px_S → Prop} {σ : px_S} {x1 : Int32} (h : Cw d 17 [.ref 1, .int x1] σ (fun r τ => Wp d tb_15 38 [.ref 0, .int x1] (r.toList ++ []) τ Q)) : Wp d tb_15 30 [.ref 0, .int x1] [] σ Q := by
  refine Wp.adv (pc' := 35) (ls' := [.ref 0, .int x1]) (st' := [.int x1, .ref 1]) (σ' := σ) 3 rfl ?_
  exact Wp.call (q := (17, 2, 2, 38)) rfl (Nat.le_of_ble_eq_true rfl) rfl h
theorem b15_38 {d : Nat} {Q : Option Value → px_S → Prop} {σ : px_S} {x1 : Int32} (h : Cw d 7 [.ref 0] σ (fun r τ => Wp d tb_15 42 [.ref 0, .int x1] (r.toList ++ []) τ Q)) : Wp d tb_15 38 [.ref 0, .int x1] [] σ Q := by
  refine Wp.adv (pc' := 39) (ls' := [.ref 0, .int x1]) (st' := [.ref 0]) (σ' := σ) 1 rfl ?_
  exact Wp.call (q := (7, 1, 8, 42)) rfl (Nat.le_of_ble_eq_true rfl) rfl h
theorem b15_42 {d : Nat} {Q : Option Value → px_S → Prop} {σ : px_S} {x1 : Int32} (h : Q (some (.int (1 : Int32))) σ) : Wp d tb_15 42 [.ref 0, .int x1] [] σ Q := by
  refine Wp.adv (pc' := 43) (ls' := [.ref 0, .int x1]) (st' := [.int (1 : Int32)]) (σ' := σ) 1 rfl ?_
  exact Wp.ret rfl rfl h
theorem e15 {d : Nat} {Q : Option Value → px_S → Prop} {σ : px_S} {x1 : Int32} (h : Wp d tb_15 0 [.ref 0, .int x1] [] σ Q) : Cw (d + 1) 15 [.ref 0, .int x1] σ Q := Cw.of (nL := 2) (y := yX8_take) (cc := cX8_take) (rt := some .int) rfl (Nat.le_of_ble_eq_true rfl) h
theorem b16_0 {d : Nat} {Q : Option Value → px_S → Prop} {σ : px_S} {x1 : Int32} (ht : (lg_cmp (((((σ.2.1 1 9)).toUInt64 >>> ((x1).toInt64.toUInt64 &&& Int64.toUInt64 63)).toInt64) &&& (1 : Int64)) (0 : Int64)) = 0 → Wp d tb_16 17 [.ref 1, .int x1] [] σ Q) (hf : ¬ ((lg_cmp (((((σ.2.1 1 9)).toUInt64 >>> ((x1).toInt64.toUInt64 &&& Int64.toUInt64 63)).toInt64) &&& (1 : Int64)) (0 : Int64)) = 0) → Wp d tb_16 13 [.ref 1, .int x1] [] σ Q) : Wp d tb_16 0 [.ref 1, .int x1] [] σ Q := by
  refine Wp.adv (pc' := 10) (ls' := [.ref 1, .int x1]) (st' := [.int (lg_cmp (((((σ.2.1 1 9)).toUInt64 >>> ((x1).toInt64.toUInt64 &&& Int64.toUInt64 63)).toInt64) &&& (1 : Int64)) (0 : Int64))]) (σ' := σ) 8 rfl ?_
  exact Wp.if_ rfl ht hf
theorem b16_13 {d : Nat} {Q : Option Value → px_S → Prop} {σ : px_S} {x1 : Int32} (h : Wp d tb_16 18 [.ref 1, .int x1] [.int (1 : Int32)] σ Q) : Wp d tb_16 13 [.ref 1, .int x1] [] σ Q := by
  refine Wp.adv (pc' := 18) (ls' := [.ref 1, .int x1]) (st' := [.int (1 : Int32)]) (σ' := σ) 2 rfl ?_
  exact h
theorem b16_17 {d : Nat} {Q : Option Value → px_S → Prop} {σ : px_S} {x1 : Int32} (h : Wp d tb_16 18 [.ref 1, .int x1] [.int (0 : Int32)] σ Q) : Wp d tb_16 17 [.ref 1, .int x1] [] σ Q := by
  refine Wp.adv (pc' := 18) (ls' := [.ref 1, .int x1]) (st' := [.int (0 : Int32)]) (σ' := σ) 1 rfl ?_
  exact h
theorem b16_18 {d : Nat} {Q : Option Value → px_S → Prop} {σ : px_S} {x1 s0 : Int32} (c1 : s0 = 0 ∨ s0 = 1) (h : Q (some (.int s0)) σ) : Wp d tb_16 18 [.ref 1, .int x1] [.int s0] σ Q := by
  exact Wp.zret rfl c1 h
theorem e16 {d : Nat} {Q : Option Value → px_S → Prop} {σ : px_S} {x1 : Int32} (h : Wp d tb_16 0 [.ref 1, .int x1] [] σ Q) : Cw (d + 1) 16 [.ref 1, .int x1] σ Q := Cw.of (nL := 2) (y := yX1_isTaken) (cc := cX1_isTaken) (rt := some .boolean) rfl (Nat.le_of_ble_eq_true rfl) h
theorem b17_0 {d : Nat} {Q : Option Value → px_S → Prop} {σ : px_S} {x1 : Int32} (h : Wp d tb_17 12 [.ref 1, .int x1] [] (px_uL σ 1 9 ((σ.2.1 1 9) ^^^ ((1 : Int64) <<< ((x1).toInt64 &&& 63)))) Q) : Wp d tb_17 0 [.ref 1, .int x1] [] σ Q := by
  refine Wp.adv (pc' := 9) (ls' := [.ref 1, .int x1]) (st' := [.long ((σ.2.1 1 9) ^^^ ((1 : Int64) <<< ((x1).toInt64 &&& 63))), .ref 1]) (σ' := σ) 7 rfl ?_
  refine Wp.step (q := (12, [.ref 1, .int x1], [], (px_uL σ 1 9 ((σ.2.1 1 9) ^^^ ((1 : Int64) <<< ((x1).toInt64 &&& 63)))))) rfl rfl ?_
  exact h
theorem b17_12 {d : Nat} {Q : Option Value → px_S → Prop} {σ : px_S} {x1 : Int32} (h : Q none σ) : Wp d tb_17 12 [.ref 1, .int x1] [] σ Q := by
  exact Wp.ret rfl rfl h
theorem e17 {d : Nat} {Q : Option Value → px_S → Prop} {σ : px_S} {x1 : Int32} (h : Wp d tb_17 0 [.ref 1, .int x1] [] σ Q) : Cw (d + 1) 17 [.ref 1, .int x1] σ Q := Cw.of (nL := 2) (y := yX1_turnTaken) (cc := cX1_turnTaken) (rt := none) rfl (Nat.le_of_ble_eq_true rfl) h
theorem b18_0 {d : Nat} {Q : Option Value → px_S → Prop} {σ : px_S} {x1 : Int32} (h : Cw d 4 [.ref 1, .int x1] σ (fun r τ => Wp d tb_18 8 [.ref 0, .int x1] (r.toList ++ []) τ Q)) : Wp d tb_18 0 [.ref 0, .int x1] [] σ Q := by
  refine Wp.adv (pc' := 5) (ls' := [.ref 0, .int x1]) (st' := [.int x1, .ref 1]) (σ' := σ) 3 rfl ?_
  exact Wp.call (q := (4, 2, 2, 8)) rfl (Nat.le_of_ble_eq_true rfl) rfl h
theorem b18_8 {d : Nat} {Q : Option Value → px_S → Prop} {σ : px_S} {x1 s0 : Int32} (ht : ¬ s0 = 0 → Wp d tb_18 15 [.ref 0, .int x1] [] σ Q) (hf : ¬ (¬ s0 = 0) → Wp d tb_18 11 [.ref 0, .int x1] [] σ Q) : Wp d tb_18 8 [.ref 0, .int x1] [.int s0] σ Q := by
  exact Wp.if_ rfl ht hf
theorem b18_11 {d : Nat} {Q : Option Value → px_S → Prop} {σ : px_S} {x1 : Int32} (h : Q (some (.int (-1001 : Int32))) σ) : Wp d tb_18 11 [.ref 0, .int x1] [] σ Q := by
  refine Wp.adv (pc' := 14) (ls' := [.ref 0, .int x1]) (st' := [.int (-1001 : Int32)]) (σ' := σ) 1 rfl ?_
  exact Wp.ret rfl rfl h
theorem b18_15 {d : Nat} {Q : Option Value → px_S → Prop} {σ : px_S} {x1 : Int32} (h : Cw d 16 [.ref 1, .int x1] σ (fun r τ => Wp d tb_18 23 [.ref 0, .int x1] (r.toList ++ []) τ Q)) : Wp d tb_18 15 [.ref 0, .int x1] [] σ Q := by
  refine Wp.adv (pc' := 20) (ls' := [.ref 0, .int x1]) (st' := [.int x1, .ref 1]) (σ' := σ) 3 rfl ?_
  exact Wp.call (q := (16, 2, 2, 23)) rfl (Nat.le_of_ble_eq_true rfl) rfl h
theorem b18_23 {d : Nat} {Q : Option Value → px_S → Prop} {σ : px_S} {x1 s0 : Int32} (ht : ¬ s0 = 0 → Wp d tb_18 30 [.ref 0, .int x1] [] σ Q) (hf : ¬ (¬ s0 = 0) → Wp d tb_18 26 [.ref 0, .int x1] [] σ Q) : Wp d tb_18 23 [.ref 0, .int x1] [.int s0] σ Q := by
  exact Wp.if_ rfl ht hf
theorem b18_26 {d : Nat} {Q : Option Value → px_S → Prop} {σ : px_S} {x1 : Int32} (h : Q (some (.int (-1003 : Int32))) σ) : Wp d tb_18 26 [.ref 0, .int x1] [] σ Q := by
  refine Wp.adv (pc' := 29) (ls' := [.ref 0, .int x1]) (st' := [.int (-1003 : Int32)]) (σ' := σ) 1 rfl ?_
  exact Wp.ret rfl rfl h
theorem b18_30 {d : Nat} {Q : Option Value → px_S → Prop} {σ : px_S} {x1 : Int32} (h : Cw d 17 [.ref 1, .int x1] σ (fun r τ => Wp d tb_18 38 [.ref 0, .int x1] (r.toList ++ []) τ Q)) : Wp d tb_18 30 [.ref 0, .int x1] [] σ Q := by
  refine Wp.adv (pc' := 35) (ls' := [.ref 0, .int x1]) (st' := [.int x1, .ref 1]) (σ' := σ) 3 rfl ?_
  exact Wp.call (q := (17, 2, 2, 38)) rfl (Nat.le_of_ble_eq_true rfl) rfl h
theorem b18_38 {d : Nat} {Q : Option Value → px_S → Prop} {σ : px_S} {x1 : Int32} (h : Cw d 7 [.ref 0] σ (fun r τ => Wp d tb_18 42 [.ref 0, .int x1] (r.toList ++ []) τ Q)) : Wp d tb_18 38 [.ref 0, .int x1] [] σ Q := by
  refine Wp.adv (pc' := 39) (ls' := [.ref 0, .int x1]) (st' := [.ref 0]) (σ' := σ) 1 rfl ?_
  exact Wp.call (q := (7, 1, 8, 42)) rfl (Nat.le_of_ble_eq_true rfl) rfl h
theorem b18_42 {d : Nat} {Q : Option Value → px_S → Prop} {σ : px_S} {x1 : Int32} (h : Q (some (.int (1 : Int32))) σ) : Wp d tb_18 42 [.ref 0, .int x1] [] σ Q := by
  refine Wp.adv (pc' := 43) (ls' := [.ref 0, .int x1]) (st' := [.int (1 : Int32)]) (σ' := σ) 1 rfl ?_
  exact Wp.ret rfl rfl h
theorem e18 {d : Nat} {Q : Option Value → px_S → Prop} {σ : px_S} {x1 : Int32} (h : Wp d tb_18 0 [.ref 0, .int x1] [] σ Q) : Cw (d + 1) 18 [.ref 0, .int x1] σ Q := Cw.of (nL := 2) (y := yX8_put) (cc := cX8_put) (rt := some .int) rfl (Nat.le_of_ble_eq_true rfl) h
theorem b19_0 {d : Nat} {Q : Option Value → px_S → Prop} {σ : px_S} {x1 : Int32} (ht : x1 < (-1 : Int32) → Wp d tb_19 16 [.ref 0, .int x1] [] σ Q) (hf : ¬ (x1 < (-1 : Int32)) → Wp d tb_19 5 [.ref 0, .int x1] [] σ Q) : Wp d tb_19 0 [.ref 0, .int x1] [] σ Q := by
  refine Wp.adv (pc' := 2) (ls' := [.ref 0, .int x1]) (st' := [.int (-1 : Int32), .int x1]) (σ' := σ) 2 rfl ?_
  exact Wp.icmp rfl ht hf
theorem b19_5 {d : Nat} {Q : Option Value → px_S → Prop} {σ : px_S} {x1 : Int32} (ht : x1 ≤ (σ.1 1 7) → Wp d tb_19 20 [.ref 0, .int x1] [] σ Q) (hf : ¬ (x1 ≤ (σ.1 1 7)) → Wp d tb_19 16 [.ref 0, .int x1] [] σ Q) : Wp d tb_19 5 [.ref 0, .int x1] [] σ Q := by
  refine Wp.adv (pc' := 13) (ls' := [.ref 0, .int x1]) (st' := [.int (σ.1 1 7), .int x1]) (σ' := σ) 4 rfl ?_
  exact Wp.icmp rfl ht hf
theorem b19_16 {d : Nat} {Q : Option Value → px_S → Prop} {σ : px_S} {x1 : Int32} (h : Q (some (.int (-1002 : Int32))) σ) : Wp d tb_19 16 [.ref 0, .int x1] [] σ Q := by
  refine Wp.adv (pc' := 19) (ls' := [.ref 0, .int x1]) (st' := [.int (-1002 : Int32)]) (σ' := σ) 1 rfl ?_
  exact Wp.ret rfl rfl h
theorem b19_20 {d : Nat} {Q : Option Value → px_S → Prop} {σ : px_S} {x1 : Int32} (h : Wp d tb_19 28 [.ref 0, .int x1] [] (px_uI σ 1 8 x1) Q) : Wp d tb_19 20 [.ref 0, .int x1] [] σ Q := by
  refine Wp.adv (pc' := 25) (ls' := [.ref 0, .int x1]) (st' := [.int x1, .ref 1]) (σ' := σ) 3 rfl ?_
  refine Wp.step (q := (28, [.ref 0, .int x1], [], (px_uI σ 1 8 x1))) rfl rfl ?_
  exact h
theorem b19_28 {d : Nat} {Q : Option Value → px_S → Prop} {σ : px_S} {x1 : Int32} (h : Cw d 7 [.ref 0] σ (fun r τ => Wp d tb_19 32 [.ref 0, .int x1] (r.toList ++ []) τ Q)) : Wp d tb_19 28 [.ref 0, .int x1] [] σ Q := by
  refine Wp.adv (pc' := 29) (ls' := [.ref 0, .int x1]) (st' := [.ref 0]) (σ' := σ) 1 rfl ?_
  exact Wp.call (q := (7, 1, 8, 32)) rfl (Nat.le_of_ble_eq_true rfl) rfl h
theorem b19_32 {d : Nat} {Q : Option Value → px_S → Prop} {σ : px_S} {x1 : Int32} (h : Q (some (.int x1)) σ) : Wp d tb_19 32 [.ref 0, .int x1] [] σ Q := by
  refine Wp.adv (pc' := 33) (ls' := [.ref 0, .int x1]) (st' := [.int x1]) (σ' := σ) 1 rfl ?_
  exact Wp.ret rfl rfl h
theorem e19 {d : Nat} {Q : Option Value → px_S → Prop} {σ : px_S} {x1 : Int32} (h : Wp d tb_19 0 [.ref 0, .int x1] [] σ Q) : Cw (d + 1) 19 [.ref 0, .int x1] σ Q := Cw.of (nL := 2) (y := yX8_known) (cc := cX8_known) (rt := some .int) rfl (Nat.le_of_ble_eq_true rfl) h
theorem b20_0 {d : Nat} {Q : Option Value → px_S → Prop} {σ : px_S} {x1 x2 : Int32} (h : Cw d 4 [.ref 1, .int x1] σ (fun r τ => Wp d tb_20 8 [.ref 0, .int x1, .int x2] (r.toList ++ []) τ Q)) : Wp d tb_20 0 [.ref 0, .int x1, .int x2] [] σ Q := by
  refine Wp.adv (pc' := 5) (ls' := [.ref 0, .int x1, .int x2]) (st' := [.int x1, .ref 1]) (σ' := σ) 3 rfl ?_
  exact Wp.call (q := (4, 2, 2, 8)) rfl (Nat.le_of_ble_eq_true rfl) rfl h
theorem b20_8 {d : Nat} {Q : Option Value → px_S → Prop} {σ : px_S} {x1 x2 s0 : Int32} (ht : ¬ s0 = 0 → Wp d tb_20 15 [.ref 0, .int x1, .int x2] [] σ Q) (hf : ¬ (¬ s0 = 0) → Wp d tb_20 11 [.ref 0, .int x1, .int x2] [] σ Q) : Wp d tb_20 8 [.ref 0, .int x1, .int x2] [.int s0] σ Q := by
  exact Wp.if_ rfl ht hf
theorem b20_11 {d : Nat} {Q : Option Value → px_S → Prop} {σ : px_S} {x1 x2 : Int32} (h : Q (some (.int (-1001 : Int32))) σ) : Wp d tb_20 11 [.ref 0, .int x1, .int x2] [] σ Q := by
  refine Wp.adv (pc' := 14) (ls' := [.ref 0, .int x1, .int x2]) (st' := [.int (-1001 : Int32)]) (σ' := σ) 1 rfl ?_
  exact Wp.ret rfl rfl h
theorem b20_15 {d : Nat} {Q : Option Value → px_S → Prop} {σ : px_S} {x1 x2 : Int32} (ht : x2 < 0 → Wp d tb_20 25 [.ref 0, .int x1, .int x2] [] σ Q) (hf : ¬ (x2 < 0) → Wp d tb_20 19 [.ref 0, .int x1, .int x2] [] σ Q) : Wp d tb_20 15 [.ref 0, .int x1, .int x2] [] σ Q := by
  refine Wp.adv (pc' := 16) (ls' := [.ref 0, .int x1, .int x2]) (st' := [.int x2]) (σ' := σ) 1 rfl ?_
  exact Wp.if_ rfl ht hf
theorem b20_19 {d : Nat} {Q : Option Value → px_S → Prop} {σ : px_S} {x1 x2 : Int32} (ht : x2 ≤ (11 : Int32) → Wp d tb_20 29 [.ref 0, .int x1, .int x2] [] σ Q) (hf : ¬ (x2 ≤ (11 : Int32)) → Wp d tb_20 25 [.ref 0, .int x1, .int x2] [] σ Q) : Wp d tb_20 19 [.ref 0, .int x1, .int x2] [] σ Q := by
  refine Wp.adv (pc' := 22) (ls' := [.ref 0, .int x1, .int x2]) (st' := [.int (11 : Int32), .int x2]) (σ' := σ) 2 rfl ?_
  exact Wp.icmp rfl ht hf
theorem b20_25 {d : Nat} {Q : Option Value → px_S → Prop} {σ : px_S} {x1 x2 : Int32} (h : Q (some (.int (-1002 : Int32))) σ) : Wp d tb_20 25 [.ref 0, .int x1, .int x2] [] σ Q := by
  refine Wp.adv (pc' := 28) (ls' := [.ref 0, .int x1, .int x2]) (st' := [.int (-1002 : Int32)]) (σ' := σ) 1 rfl ?_
  exact Wp.ret rfl rfl h
theorem b20_29 {d : Nat} {Q : Option Value → px_S → Prop} {σ : px_S} {x1 x2 : Int32} (hd : (x2).toInt < 0 ∨ 5 < (x2).toInt → Wp d tb_20 135 [.ref 0, .int x1, .int x2] [] σ Q) (hs : ∀ (j t : Nat), ([68, 78, 88, 98, 108, 118] : List Nat)[j]? = some t → (x2).toInt = 0 + (j : Int) → Wp d tb_20 t [.ref 0, .int x1, .int x2] [] σ Q) : Wp d tb_20 29 [.ref 0, .int x1, .int x2] [] σ Q := by
  refine Wp.adv (pc' := 30) (ls' := [.ref 0, .int x1, .int x2]) (st' := [.int x2]) (σ' := σ) 1 rfl ?_
  exact Wp.tsw rfl rfl hd hs
theorem b20_68 {d : Nat} {Q : Option Value → px_S → Prop} {σ : px_S} {x1 x2 : Int32} (c1 : vp_in x1 40) (h : Q (some (.int (σ.1 11 (x1).toNatClampNeg))) σ) : Wp d tb_20 68 [.ref 0, .int x1, .int x2] [] σ Q := by
  refine Wp.adv (pc' := 76) (ls' := [.ref 0, .int x1, .int x2]) (st' := [.int x1, .ref 11]) (σ' := σ) 4 rfl ?_
  refine Wp.iald (N := 40) rfl rfl c1 ?_
  exact Wp.ret rfl rfl h
theorem b20_78 {d : Nat} {Q : Option Value → px_S → Prop} {σ : px_S} {x1 x2 : Int32} (c1 : vp_in x1 40) (h : Q (some (.int (σ.1 12 (x1).toNatClampNeg))) σ) : Wp d tb_20 78 [.ref 0, .int x1, .int x2] [] σ Q := by
  refine Wp.adv (pc' := 86) (ls' := [.ref 0, .int x1, .int x2]) (st' := [.int x1, .ref 12]) (σ' := σ) 4 rfl ?_
  refine Wp.iald (N := 40) rfl rfl c1 ?_
  exact Wp.ret rfl rfl h
theorem b20_88 {d : Nat} {Q : Option Value → px_S → Prop} {σ : px_S} {x1 x2 : Int32} (c1 : vp_in x1 40) (h : Q (some (.int (σ.1 13 (x1).toNatClampNeg))) σ) : Wp d tb_20 88 [.ref 0, .int x1, .int x2] [] σ Q := by
  refine Wp.adv (pc' := 96) (ls' := [.ref 0, .int x1, .int x2]) (st' := [.int x1, .ref 13]) (σ' := σ) 4 rfl ?_
  refine Wp.iald (N := 40) rfl rfl c1 ?_
  exact Wp.ret rfl rfl h
theorem b20_98 {d : Nat} {Q : Option Value → px_S → Prop} {σ : px_S} {x1 x2 : Int32} (c1 : vp_in x1 40) (h : Q (some (.int (σ.1 14 (x1).toNatClampNeg))) σ) : Wp d tb_20 98 [.ref 0, .int x1, .int x2] [] σ Q := by
  refine Wp.adv (pc' := 106) (ls' := [.ref 0, .int x1, .int x2]) (st' := [.int x1, .ref 14]) (σ' := σ) 4 rfl ?_
  refine Wp.iald (N := 40) rfl rfl c1 ?_
  exact Wp.ret rfl rfl h
theorem b20_108 {d : Nat} {Q : Option Value → px_S → Prop} {σ : px_S} {x1 x2 : Int32} (c1 : vp_in x1 40) (h : Q (some (.int (σ.1 15 (x1).toNatClampNeg))) σ) : Wp d tb_20 108 [.ref 0, .int x1, .int x2] [] σ Q := by
  refine Wp.adv (pc' := 116) (ls' := [.ref 0, .int x1, .int x2]) (st' := [.int x1, .ref 15]) (σ' := σ) 4 rfl ?_
  refine Wp.iald (N := 40) rfl rfl c1 ?_
  exact Wp.ret rfl rfl h
theorem b20_118 {d : Nat} {Q : Option Value → px_S → Prop} {σ : px_S} {x1 x2 : Int32} (h : Cw d 21 [.ref 1, .int x1] σ (fun r τ => Wp d tb_20 126 [.ref 0, .int x1, .int x2] (r.toList ++ []) τ Q)) : Wp d tb_20 118 [.ref 0, .int x1, .int x2] [] σ Q := by
  refine Wp.adv (pc' := 123) (ls' := [.ref 0, .int x1, .int x2]) (st' := [.int x1, .ref 1]) (σ' := σ) 3 rfl ?_
  exact Wp.call (q := (21, 2, 2, 126)) rfl (Nat.le_of_ble_eq_true rfl) rfl h
theorem b20_126 {d : Nat} {Q : Option Value → px_S → Prop} {σ : px_S} {x1 x2 s0 : Int32} (ht : s0 = 0 → Wp d tb_20 133 [.ref 0, .int x1, .int x2] [] σ Q) (hf : ¬ (s0 = 0) → Wp d tb_20 129 [.ref 0, .int x1, .int x2] [] σ Q) : Wp d tb_20 126 [.ref 0, .int x1, .int x2] [.int s0] σ Q := by
  exact Wp.if_ rfl ht hf
theorem b20_129 {d : Nat} {Q : Option Value → px_S → Prop} {σ : px_S} {x1 x2 : Int32} (h : Wp d tb_20 134 [.ref 0, .int x1, .int x2] [.int (1 : Int32)] σ Q) : Wp d tb_20 129 [.ref 0, .int x1, .int x2] [] σ Q := by
  refine Wp.adv (pc' := 134) (ls' := [.ref 0, .int x1, .int x2]) (st' := [.int (1 : Int32)]) (σ' := σ) 2 rfl ?_
  exact h
theorem b20_133 {d : Nat} {Q : Option Value → px_S → Prop} {σ : px_S} {x1 x2 : Int32} (h : Wp d tb_20 134 [.ref 0, .int x1, .int x2] [.int (0 : Int32)] σ Q) : Wp d tb_20 133 [.ref 0, .int x1, .int x2] [] σ Q := by
  refine Wp.adv (pc' := 134) (ls' := [.ref 0, .int x1, .int x2]) (st' := [.int (0 : Int32)]) (σ' := σ) 1 rfl ?_
  exact h
theorem b20_134 {d : Nat} {Q : Option Value → px_S → Prop} {σ : px_S} {x1 x2 s0 : Int32} (h : Q (some (.int s0)) σ) : Wp d tb_20 134 [.ref 0, .int x1, .int x2] [.int s0] σ Q := by
  exact Wp.ret rfl rfl h
theorem b20_135 {d : Nat} {Q : Option Value → px_S → Prop} {σ : px_S} {x1 x2 : Int32} (h : Cw d 21 [.ref 1, .int x1] σ (fun r τ => Wp d tb_20 143 [.ref 0, .int x1, .int x2] (r.toList ++ []) τ Q)) : Wp d tb_20 135 [.ref 0, .int x1, .int x2] [] σ Q := by
  refine Wp.adv (pc' := 140) (ls' := [.ref 0, .int x1, .int x2]) (st' := [.int x1, .ref 1]) (σ' := σ) 3 rfl ?_
  exact Wp.call (q := (21, 2, 2, 143)) rfl (Nat.le_of_ble_eq_true rfl) rfl h
theorem b20_143 {d : Nat} {Q : Option Value → px_S → Prop} {σ : px_S} {x1 x2 s0 : Int32} (ht : ¬ s0 = 0 → Wp d tb_20 148 [.ref 0, .int x1, .int x2] [] σ Q) (hf : ¬ (¬ s0 = 0) → Wp d tb_20 146 [.ref 0, .int x1, .int x2] [] σ Q) : Wp d tb_20 143 [.ref 0, .int x1, .int x2] [.int s0] σ Q := by
  exact Wp.if_ rfl ht hf
theorem b20_146 {d : Nat} {Q : Option Value → px_S → Prop} {σ : px_S} {x1 x2 : Int32} (h : Q (some (.int (-1 : Int32))) σ) : Wp d tb_20 146 [.ref 0, .int x1, .int x2] [] σ Q := by
  refine Wp.adv (pc' := 147) (ls' := [.ref 0, .int x1, .int x2]) (st' := [.int (-1 : Int32)]) (σ' := σ) 1 rfl ?_
  exact Wp.ret rfl rfl h
theorem b20_148 {d : Nat} {Q : Option Value → px_S → Prop} {σ : px_S} {x1 x2 : Int32} (h : Cw d 23 [.ref 3, .int (-1 : Int32)] σ (fun r τ => Wp d tb_20 156 [.ref 0, .int x1, .int x2] (r.toList ++ []) τ Q)) : Wp d tb_20 148 [.ref 0, .int x1, .int x2] [] σ Q := by
  refine Wp.adv (pc' := 153) (ls' := [.ref 0, .int x1, .int x2]) (st' := [.int (-1 : Int32), .ref 3]) (σ' := σ) 3 rfl ?_
  exact Wp.call (q := (23, 2, 3, 156)) rfl (Nat.le_of_ble_eq_true rfl) rfl h
theorem b20_156 {d : Nat} {Q : Option Value → px_S → Prop} {σ : px_S} {x1 x2 : Int32} (h : Cw d 37 [.ref 0, .int x1, .int x2] σ (fun r τ => Wp d tb_20 162 [.ref 0, .int x1, .int x2] (r.toList ++ []) τ Q)) : Wp d tb_20 156 [.ref 0, .int x1, .int x2] [] σ Q := by
  refine Wp.adv (pc' := 159) (ls' := [.ref 0, .int x1, .int x2]) (st' := [.int x2, .int x1, .ref 0]) (σ' := σ) 3 rfl ?_
  exact Wp.call (q := (37, 3, 8, 162)) rfl (Nat.le_of_ble_eq_true rfl) rfl h
theorem b20_162 {d : Nat} {Q : Option Value → px_S → Prop} {σ : px_S} {x1 x2 s0 : Int32} (h : Q (some (.int s0)) σ) : Wp d tb_20 162 [.ref 0, .int x1, .int x2] [.int s0] σ Q := by
  exact Wp.ret rfl rfl h
theorem e20 {d : Nat} {Q : Option Value → px_S → Prop} {σ : px_S} {x1 x2 : Int32} (h : Wp d tb_20 0 [.ref 0, .int x1, .int x2] [] σ Q) : Cw (d + 1) 20 [.ref 0, .int x1, .int x2] σ Q := Cw.of (nL := 3) (y := yX8_about) (cc := cX8_about) (rt := some .int) rfl (Nat.le_of_ble_eq_true rfl) h
theorem b21_0 {d : Nat} {Q : Option Value → px_S → Prop} {σ : px_S} {x1 : Int32} (h : Cw d 22 [.ref 1, .int x1, .int (-1 : Int32)] σ (fun r τ => Wp d tb_21 6 [.ref 1, .int x1] (r.toList ++ []) τ Q)) : Wp d tb_21 0 [.ref 1, .int x1] [] σ Q := by
  refine Wp.adv (pc' := 3) (ls' := [.ref 1, .int x1]) (st' := [.int (-1 : Int32), .int x1, .ref 1]) (σ' := σ) 3 rfl ?_
  exact Wp.call (q := (22, 3, 2, 6)) rfl (Nat.le_of_ble_eq_true rfl) rfl h
theorem b21_6 {d : Nat} {Q : Option Value → px_S → Prop} {σ : px_S} {x1 s0 : Int32} (c1 : s0 = 0 ∨ s0 = 1) (h : Q (some (.int s0)) σ) : Wp d tb_21 6 [.ref 1, .int x1] [.int s0] σ Q := by
  exact Wp.zret rfl c1 h
theorem e21 {d : Nat} {Q : Option Value → px_S → Prop} {σ : px_S} {x1 : Int32} (h : Wp d tb_21 0 [.ref 1, .int x1] [] σ Q) : Cw (d + 1) 21 [.ref 1, .int x1] σ Q := Cw.of (nL := 2) (y := yX1_isSeen) (cc := cX1_isSeen) (rt := some .boolean) rfl (Nat.le_of_ble_eq_true rfl) h
theorem b22_0 {d : Nat} {Q : Option Value → px_S → Prop} {σ : px_S} {x1 x2 : Int32} (ht : (σ.1 1 8) = (-1 : Int32) → Wp d tb_22 16 [.ref 1, .int x1, .int x2] [] σ Q) (hf : ¬ ((σ.1 1 8) = (-1 : Int32)) → Wp d tb_22 8 [.ref 1, .int x1, .int x2] [] σ Q) : Wp d tb_22 0 [.ref 1, .int x1, .int x2] [] σ Q := by
  refine Wp.adv (pc' := 5) (ls' := [.ref 1, .int x1, .int x2]) (st' := [.int (-1 : Int32), .int (σ.1 1 8)]) (σ' := σ) 3 rfl ?_
  exact Wp.icmp rfl ht hf
theorem b22_8 {d : Nat} {Q : Option Value → px_S → Prop} {σ : px_S} {x1 x2 : Int32} (ht : (σ.1 1 8) ≤ x1 → Wp d tb_22 33 [.ref 1, .int x1, .int x2] [] σ Q) (hf : ¬ ((σ.1 1 8) ≤ x1) → Wp d tb_22 16 [.ref 1, .int x1, .int x2] [] σ Q) : Wp d tb_22 8 [.ref 1, .int x1, .int x2] [] σ Q := by
  refine Wp.adv (pc' := 13) (ls' := [.ref 1, .int x1, .int x2]) (st' := [.int (σ.1 1 8), .int x1]) (σ' := σ) 3 rfl ?_
  exact Wp.icmp rfl ht hf
theorem b22_16 {d : Nat} {Q : Option Value → px_S → Prop} {σ : px_S} {x1 x2 : Int32} (ht : x1 = x2 → Wp d tb_22 29 [.ref 1, .int x1, .int x2] [] σ Q) (hf : ¬ (x1 = x2) → Wp d tb_22 21 [.ref 1, .int x1, .int x2] [] σ Q) : Wp d tb_22 16 [.ref 1, .int x1, .int x2] [] σ Q := by
  refine Wp.adv (pc' := 18) (ls' := [.ref 1, .int x1, .int x2]) (st' := [.int x2, .int x1]) (σ' := σ) 2 rfl ?_
  exact Wp.icmp rfl ht hf
theorem b22_21 {d : Nat} {Q : Option Value → px_S → Prop} {σ : px_S} {x1 x2 : Int32} (h : Cw d 16 [.ref 1, .int x1] σ (fun r τ => Wp d tb_22 26 [.ref 1, .int x1, .int x2] (r.toList ++ []) τ Q)) : Wp d tb_22 21 [.ref 1, .int x1, .int x2] [] σ Q := by
  refine Wp.adv (pc' := 23) (ls' := [.ref 1, .int x1, .int x2]) (st' := [.int x1, .ref 1]) (σ' := σ) 2 rfl ?_
  exact Wp.call (q := (16, 2, 2, 26)) rfl (Nat.le_of_ble_eq_true rfl) rfl h
theorem b22_26 {d : Nat} {Q : Option Value → px_S → Prop} {σ : px_S} {x1 x2 s0 : Int32} (ht : ¬ s0 = 0 → Wp d tb_22 33 [.ref 1, .int x1, .int x2] [] σ Q) (hf : ¬ (¬ s0 = 0) → Wp d tb_22 29 [.ref 1, .int x1, .int x2] [] σ Q) : Wp d tb_22 26 [.ref 1, .int x1, .int x2] [.int s0] σ Q := by
  exact Wp.if_ rfl ht hf
theorem b22_29 {d : Nat} {Q : Option Value → px_S → Prop} {σ : px_S} {x1 x2 : Int32} (h : Wp d tb_22 34 [.ref 1, .int x1, .int x2] [.int (1 : Int32)] σ Q) : Wp d tb_22 29 [.ref 1, .int x1, .int x2] [] σ Q := by
  refine Wp.adv (pc' := 34) (ls' := [.ref 1, .int x1, .int x2]) (st' := [.int (1 : Int32)]) (σ' := σ) 2 rfl ?_
  exact h
theorem b22_33 {d : Nat} {Q : Option Value → px_S → Prop} {σ : px_S} {x1 x2 : Int32} (h : Wp d tb_22 34 [.ref 1, .int x1, .int x2] [.int (0 : Int32)] σ Q) : Wp d tb_22 33 [.ref 1, .int x1, .int x2] [] σ Q := by
  refine Wp.adv (pc' := 34) (ls' := [.ref 1, .int x1, .int x2]) (st' := [.int (0 : Int32)]) (σ' := σ) 1 rfl ?_
  exact h
theorem b22_34 {d : Nat} {Q : Option Value → px_S → Prop} {σ : px_S} {x1 x2 s0 : Int32} (c1 : s0 = 0 ∨ s0 = 1) (h : Q (some (.int s0)) σ) : Wp d tb_22 34 [.ref 1, .int x1, .int x2] [.int s0] σ Q := by
  exact Wp.zret rfl c1 h
theorem e22 {d : Nat} {Q : Option Value → px_S → Prop} {σ : px_S} {x1 x2 : Int32} (h : Wp d tb_22 0 [.ref 1, .int x1, .int x2] [] σ Q) : Cw (d + 1) 22 [.ref 1, .int x1, .int x2] σ Q := Cw.of (nL := 3) (y := yX1_isSeenWith) (cc := cX1_isSeenWith) (rt := some .boolean) rfl (Nat.le_of_ble_eq_true rfl) h
theorem b23_0 {d : Nat} {Q : Option Value → px_S → Prop} {σ : px_S} {x1 : Int32} {k : Nat} (hk : k = 3 ∨ k = 4) (ht : (σ.1 k 5) = 0 → Wp d tb_23 16 [.ref k, .int x1, .null] [] σ Q) (hf : ¬ ((σ.1 k 5) = 0) → Wp d tb_23 7 [.ref k, .int x1, .null] [] σ Q) : Wp d tb_23 0 [.ref k, .int x1, .null] [] σ Q := by
  rcases hk with rfl | rfl
  · refine Wp.adv (pc' := 4) (ls' := [.ref 3, .int x1, .null]) (st' := [.int (σ.1 3 5)]) (σ' := σ) 2 rfl ?_
    exact Wp.if_ rfl ht hf
  · refine Wp.adv (pc' := 4) (ls' := [.ref 4, .int x1, .null]) (st' := [.int (σ.1 4 5)]) (σ' := σ) 2 rfl ?_
    exact Wp.if_ rfl ht hf
theorem b23_7 {d : Nat} {Q : Option Value → px_S → Prop} {σ : px_S} {x1 : Int32} {k : Nat} (hk : k = 3 ∨ k = 4) (ht : ¬ (σ.1 k 6) = x1 → Wp d tb_23 16 [.ref k, .int x1, .null] [] σ Q) (hf : ¬ (¬ (σ.1 k 6) = x1) → Wp d tb_23 15 [.ref k, .int x1, .null] [] σ Q) : Wp d tb_23 7 [.ref k, .int x1, .null] [] σ Q := by
  rcases hk with rfl | rfl
  · refine Wp.adv (pc' := 12) (ls' := [.ref 3, .int x1, .null]) (st' := [.int x1, .int (σ.1 3 6)]) (σ' := σ) 3 rfl ?_
    exact Wp.icmp rfl ht hf
  · refine Wp.adv (pc' := 12) (ls' := [.ref 4, .int x1, .null]) (st' := [.int x1, .int (σ.1 4 6)]) (σ' := σ) 3 rfl ?_
    exact Wp.icmp rfl ht hf
theorem b23_15 {d : Nat} {Q : Option Value → px_S → Prop} {σ : px_S} {x1 : Int32} {k : Nat} (hk : k = 3 ∨ k = 4) (h : Q none σ) : Wp d tb_23 15 [.ref k, .int x1, .null] [] σ Q := by
  rcases hk with rfl | rfl
  · exact Wp.ret rfl rfl h
  · exact Wp.ret rfl rfl h
theorem b23_16 {d : Nat} {Q : Option Value → px_S → Prop} {σ : px_S} {x1 : Int32} {k : Nat} (hk : k = 3 ∨ k = 4) (h : Wp d tb_23 21 [.ref k, .int x1, .null] [] (px_uL σ k 7 (0 : Int64)) Q) : Wp d tb_23 16 [.ref k, .int x1, .null] [] σ Q := by
  rcases hk with rfl | rfl
  · refine Wp.adv (pc' := 18) (ls' := [.ref 3, .int x1, .null]) (st' := [.long (0 : Int64), .ref 3]) (σ' := σ) 2 rfl ?_
    refine Wp.step (q := (21, [.ref 3, .int x1, .null], [], (px_uL σ 3 7 (0 : Int64)))) rfl rfl ?_
    exact h
  · refine Wp.adv (pc' := 18) (ls' := [.ref 4, .int x1, .null]) (st' := [.long (0 : Int64), .ref 4]) (σ' := σ) 2 rfl ?_
    refine Wp.step (q := (21, [.ref 4, .int x1, .null], [], (px_uL σ 4 7 (0 : Int64)))) rfl rfl ?_
    exact h
theorem b23_21 {d : Nat} {Q : Option Value → px_S → Prop} {σ : px_S} {x1 : Int32} {k : Nat} (hk : k = 3 ∨ k = 4) (h : Wp d tb_23 23 [.ref k, .int x1, .int (0 : Int32)] [] σ Q) : Wp d tb_23 21 [.ref k, .int x1, .null] [] σ Q := by
  rcases hk with rfl | rfl
  · refine Wp.adv (pc' := 23) (ls' := [.ref 3, .int x1, .int (0 : Int32)]) (st' := []) (σ' := σ) 2 rfl ?_
    exact h
  · refine Wp.adv (pc' := 23) (ls' := [.ref 4, .int x1, .int (0 : Int32)]) (st' := []) (σ' := σ) 2 rfl ?_
    exact h
theorem b23_23 {d : Nat} {Q : Option Value → px_S → Prop} {σ : px_S} {x1 x2 : Int32} {k : Nat} (hk : k = 3 ∨ k = 4) (ht : (σ.1 1 7) ≤ x2 → Wp d tb_23 71 [.ref k, .int x1, .int x2] [] σ Q) (hf : ¬ ((σ.1 1 7) ≤ x2) → Wp d tb_23 34 [.ref k, .int x1, .int x2] [] σ Q) : Wp d tb_23 23 [.ref k, .int x1, .int x2] [] σ Q := by
  rcases hk with rfl | rfl
  · refine Wp.adv (pc' := 31) (ls' := [.ref 3, .int x1, .int x2]) (st' := [.int (σ.1 1 7), .int x2]) (σ' := σ) 4 rfl ?_
    exact Wp.icmp rfl ht hf
  · refine Wp.adv (pc' := 31) (ls' := [.ref 4, .int x1, .int x2]) (st' := [.int (σ.1 1 7), .int x2]) (σ' := σ) 4 rfl ?_
    exact Wp.icmp rfl ht hf
theorem b23_34 {d : Nat} {Q : Option Value → px_S → Prop} {σ : px_S} {x1 x2 : Int32} {k : Nat} (hk : k = 3 ∨ k = 4) (c1 : vp_in x2 40) (h : Wp d tb_23 41 [.ref k, .int x1, .int x2] [] (px_uI σ (2 * k + 15) (x2).toNatClampNeg (-1 : Int32)) Q) : Wp d tb_23 34 [.ref k, .int x1, .int x2] [] σ Q := by
  rcases hk with rfl | rfl
  · refine Wp.adv (pc' := 40) (ls' := [.ref 3, .int x1, .int x2]) (st' := [.int (-1 : Int32), .int x2, .ref (2 * 3 + 15)]) (σ' := σ) 4 rfl ?_
    refine Wp.iast (N := 40) rfl rfl c1 ?_
    exact h
  · refine Wp.adv (pc' := 40) (ls' := [.ref 4, .int x1, .int x2]) (st' := [.int (-1 : Int32), .int x2, .ref (2 * 4 + 15)]) (σ' := σ) 4 rfl ?_
    refine Wp.iast (N := 40) rfl rfl c1 ?_
    exact h
theorem b23_41 {d : Nat} {Q : Option Value → px_S → Prop} {σ : px_S} {x1 x2 : Int32} {k : Nat} (hk : k = 3 ∨ k = 4) (h : Cw d 22 [.ref 1, .int x2, .int x1] σ (fun r τ => Wp d tb_23 50 [.ref k, .int x1, .int x2] (r.toList ++ []) τ Q)) : Wp d tb_23 41 [.ref k, .int x1, .int x2] [] σ Q := by
  rcases hk with rfl | rfl
  · refine Wp.adv (pc' := 47) (ls' := [.ref 3, .int x1, .int x2]) (st' := [.int x1, .int x2, .ref 1]) (σ' := σ) 4 rfl ?_
    exact Wp.call (q := (22, 3, 2, 50)) rfl (Nat.le_of_ble_eq_true rfl) rfl h
  · refine Wp.adv (pc' := 47) (ls' := [.ref 4, .int x1, .int x2]) (st' := [.int x1, .int x2, .ref 1]) (σ' := σ) 4 rfl ?_
    exact Wp.call (q := (22, 3, 2, 50)) rfl (Nat.le_of_ble_eq_true rfl) rfl h
theorem b23_50 {d : Nat} {Q : Option Value → px_S → Prop} {σ : px_S} {x1 x2 s0 : Int32} {k : Nat} (hk : k = 3 ∨ k = 4) (ht : s0 = 0 → Wp d tb_23 65 [.ref k, .int x1, .int x2] [] σ Q) (hf : ¬ (s0 = 0) → Wp d tb_23 53 [.ref k, .int x1, .int x2] [] σ Q) : Wp d tb_23 50 [.ref k, .int x1, .int x2] [.int s0] σ Q := by
  rcases hk with rfl | rfl
  · exact Wp.if_ rfl ht hf
  · exact Wp.if_ rfl ht hf
theorem b23_53 {d : Nat} {Q : Option Value → px_S → Prop} {σ : px_S} {x1 x2 : Int32} {k : Nat} (hk : k = 3 ∨ k = 4) (h : Wp d tb_23 65 [.ref k, .int x1, .int x2] [] (px_uL σ k 7 ((σ.2.1 k 7) ||| ((1 : Int64) <<< ((x2).toInt64 &&& 63)))) Q) : Wp d tb_23 53 [.ref k, .int x1, .int x2] [] σ Q := by
  rcases hk with rfl | rfl
  · refine Wp.adv (pc' := 62) (ls' := [.ref 3, .int x1, .int x2]) (st' := [.long ((σ.2.1 3 7) ||| ((1 : Int64) <<< ((x2).toInt64 &&& 63))), .ref 3]) (σ' := σ) 7 rfl ?_
    refine Wp.step (q := (65, [.ref 3, .int x1, .int x2], [], (px_uL σ 3 7 ((σ.2.1 3 7) ||| ((1 : Int64) <<< ((x2).toInt64 &&& 63)))))) rfl rfl ?_
    exact h
  · refine Wp.adv (pc' := 62) (ls' := [.ref 4, .int x1, .int x2]) (st' := [.long ((σ.2.1 4 7) ||| ((1 : Int64) <<< ((x2).toInt64 &&& 63))), .ref 4]) (σ' := σ) 7 rfl ?_
    refine Wp.step (q := (65, [.ref 4, .int x1, .int x2], [], (px_uL σ 4 7 ((σ.2.1 4 7) ||| ((1 : Int64) <<< ((x2).toInt64 &&& 63)))))) rfl rfl ?_
    exact h
theorem b23_65 {d : Nat} {Q : Option Value → px_S → Prop} {σ : px_S} {x1 x2 : Int32} {k : Nat} (hk : k = 3 ∨ k = 4) (h : Wp d tb_23 23 [.ref k, .int x1, .int (x2 + 1)] [] σ Q) : Wp d tb_23 65 [.ref k, .int x1, .int x2] [] σ Q := by
  rcases hk with rfl | rfl
  · refine Wp.adv (pc' := 23) (ls' := [.ref 3, .int x1, .int (x2 + 1)]) (st' := []) (σ' := σ) 2 rfl ?_
    exact h
  · refine Wp.adv (pc' := 23) (ls' := [.ref 4, .int x1, .int (x2 + 1)]) (st' := []) (σ' := σ) 2 rfl ?_
    exact h
theorem b23_71 {d : Nat} {Q : Option Value → px_S → Prop} {σ : px_S} {x1 x2 : Int32} {k : Nat} (hk : k = 3 ∨ k = 4) (h : Wp d tb_23 73 [.ref k, .int x1, .int (0 : Int32)] [] σ Q) : Wp d tb_23 71 [.ref k, .int x1, .int x2] [] σ Q := by
  rcases hk with rfl | rfl
  · refine Wp.adv (pc' := 73) (ls' := [.ref 3, .int x1, .int (0 : Int32)]) (st' := []) (σ' := σ) 2 rfl ?_
    exact h
  · refine Wp.adv (pc' := 73) (ls' := [.ref 4, .int x1, .int (0 : Int32)]) (st' := []) (σ' := σ) 2 rfl ?_
    exact h
theorem b23_73 {d : Nat} {Q : Option Value → px_S → Prop} {σ : px_S} {x1 x2 : Int32} {k : Nat} (hk : k = 3 ∨ k = 4) (ht : (σ.1 1 7) ≤ x2 → Wp d tb_23 113 [.ref k, .int x1, .int x2] [] σ Q) (hf : ¬ ((σ.1 1 7) ≤ x2) → Wp d tb_23 84 [.ref k, .int x1, .int x2] [] σ Q) : Wp d tb_23 73 [.ref k, .int x1, .int x2] [] σ Q := by
  rcases hk with rfl | rfl
  · refine Wp.adv (pc' := 81) (ls' := [.ref 3, .int x1, .int x2]) (st' := [.int (σ.1 1 7), .int x2]) (σ' := σ) 4 rfl ?_
    exact Wp.icmp rfl ht hf
  · refine Wp.adv (pc' := 81) (ls' := [.ref 4, .int x1, .int x2]) (st' := [.int (σ.1 1 7), .int x2]) (σ' := σ) 4 rfl ?_
    exact Wp.icmp rfl ht hf
theorem b23_84 {d : Nat} {Q : Option Value → px_S → Prop} {σ : px_S} {x1 x2 : Int32} {k : Nat} (hk : k = 3 ∨ k = 4) (h : Cw d 24 [.ref k, .int x2] σ (fun r τ => Wp d tb_23 94 [.ref k, .int x1, .int x2] (r.toList ++ [.int x2, .ref (2 * k + 15)]) τ Q)) : Wp d tb_23 84 [.ref k, .int x1, .int x2] [] σ Q := by
  rcases hk with rfl | rfl
  · refine Wp.adv (pc' := 91) (ls' := [.ref 3, .int x1, .int x2]) (st' := [.int x2, .ref 3, .int x2, .ref (2 * 3 + 15)]) (σ' := σ) 5 rfl ?_
    exact Wp.call (q := (24, 2, 3, 94)) rfl (Nat.le_of_ble_eq_true rfl) rfl h
  · refine Wp.adv (pc' := 91) (ls' := [.ref 4, .int x1, .int x2]) (st' := [.int x2, .ref 4, .int x2, .ref (2 * 4 + 15)]) (σ' := σ) 5 rfl ?_
    exact Wp.call (q := (24, 2, 3, 94)) rfl (Nat.le_of_ble_eq_true rfl) rfl h
theorem b23_94 {d : Nat} {Q : Option Value → px_S → Prop} {σ : px_S} {x1 x2 s0 s1 : Int32} {k : Nat} (hk : k = 3 ∨ k = 4) (ht : s0 = 0 → Wp d tb_23 105 [.ref k, .int x1, .int x2] [.int s1, .ref (2 * k + 15)] σ Q) (hf : ¬ (s0 = 0) → Wp d tb_23 97 [.ref k, .int x1, .int x2] [.int s1, .ref (2 * k + 15)] σ Q) : Wp d tb_23 94 [.ref k, .int x1, .int x2] [.int s0, .int s1, .ref (2 * k + 15)] σ Q := by
  rcases hk with rfl | rfl
  · exact Wp.if_ rfl ht hf
  · exact Wp.if_ rfl ht hf
theorem b23_97 {d : Nat} {Q : Option Value → px_S → Prop} {σ : px_S} {x1 x2 s0 : Int32} {k : Nat} (hk : k = 3 ∨ k = 4) (h : Cw d 25 [.ref k, .int x2] σ (fun r τ => Wp d tb_23 102 [.ref k, .int x1, .int x2] (r.toList ++ [.int s0, .ref (2 * k + 15)]) τ Q)) : Wp d tb_23 97 [.ref k, .int x1, .int x2] [.int s0, .ref (2 * k + 15)] σ Q := by
  rcases hk with rfl | rfl
  · refine Wp.adv (pc' := 99) (ls' := [.ref 3, .int x1, .int x2]) (st' := [.int x2, .ref 3, .int s0, .ref (2 * 3 + 15)]) (σ' := σ) 2 rfl ?_
    exact Wp.call (q := (25, 2, 3, 102)) rfl (Nat.le_of_ble_eq_true rfl) rfl h
  · refine Wp.adv (pc' := 99) (ls' := [.ref 4, .int x1, .int x2]) (st' := [.int x2, .ref 4, .int s0, .ref (2 * 4 + 15)]) (σ' := σ) 2 rfl ?_
    exact Wp.call (q := (25, 2, 3, 102)) rfl (Nat.le_of_ble_eq_true rfl) rfl h
theorem b23_102 {d : Nat} {Q : Option Value → px_S → Prop} {σ : px_S} {x1 x2 s0 s1 : Int32} {k : Nat} (hk : k = 3 ∨ k = 4) (h : Wp d tb_23 106 [.ref k, .int x1, .int x2] [.int s0, .int s1, .ref (2 * k + 15)] σ Q) : Wp d tb_23 102 [.ref k, .int x1, .int x2] [.int s0, .int s1, .ref (2 * k + 15)] σ Q := by
  rcases hk with rfl | rfl
  · refine Wp.adv (pc' := 106) (ls' := [.ref 3, .int x1, .int x2]) (st' := [.int s0, .int s1, .ref (2 * 3 + 15)]) (σ' := σ) 1 rfl ?_
    exact h
  · refine Wp.adv (pc' := 106) (ls' := [.ref 4, .int x1, .int x2]) (st' := [.int s0, .int s1, .ref (2 * 4 + 15)]) (σ' := σ) 1 rfl ?_
    exact h
theorem b23_105 {d : Nat} {Q : Option Value → px_S → Prop} {σ : px_S} {x1 x2 s0 : Int32} {k : Nat} (hk : k = 3 ∨ k = 4) (h : Wp d tb_23 106 [.ref k, .int x1, .int x2] [.int (-1 : Int32), .int s0, .ref (2 * k + 15)] σ Q) : Wp d tb_23 105 [.ref k, .int x1, .int x2] [.int s0, .ref (2 * k + 15)] σ Q := by
  rcases hk with rfl | rfl
  · refine Wp.adv (pc' := 106) (ls' := [.ref 3, .int x1, .int x2]) (st' := [.int (-1 : Int32), .int s0, .ref (2 * 3 + 15)]) (σ' := σ) 1 rfl ?_
    exact h
  · refine Wp.adv (pc' := 106) (ls' := [.ref 4, .int x1, .int x2]) (st' := [.int (-1 : Int32), .int s0, .ref (2 * 4 + 15)]) (σ' := σ) 1 rfl ?_
    exact h
theorem b23_106 {d : Nat} {Q : Option Value → px_S → Prop} {σ : px_S} {x1 x2 s0 s1 : Int32} {k : Nat} (hk : k = 3 ∨ k = 4) (c1 : vp_in s1 40) (h : Wp d tb_23 107 [.ref k, .int x1, .int x2] [] (px_uI σ (2 * k + 15) (s1).toNatClampNeg s0) Q) : Wp d tb_23 106 [.ref k, .int x1, .int x2] [.int s0, .int s1, .ref (2 * k + 15)] σ Q := by
  rcases hk with rfl | rfl
  · refine Wp.iast (N := 40) rfl rfl c1 ?_
    exact h
  · refine Wp.iast (N := 40) rfl rfl c1 ?_
    exact h
theorem b23_107 {d : Nat} {Q : Option Value → px_S → Prop} {σ : px_S} {x1 x2 : Int32} {k : Nat} (hk : k = 3 ∨ k = 4) (h : Wp d tb_23 73 [.ref k, .int x1, .int (x2 + 1)] [] σ Q) : Wp d tb_23 107 [.ref k, .int x1, .int x2] [] σ Q := by
  rcases hk with rfl | rfl
  · refine Wp.adv (pc' := 73) (ls' := [.ref 3, .int x1, .int (x2 + 1)]) (st' := []) (σ' := σ) 2 rfl ?_
    exact h
  · refine Wp.adv (pc' := 73) (ls' := [.ref 4, .int x1, .int (x2 + 1)]) (st' := []) (σ' := σ) 2 rfl ?_
    exact h
theorem b23_113 {d : Nat} {Q : Option Value → px_S → Prop} {σ : px_S} {x1 x2 : Int32} {k : Nat} (hk : k = 3 ∨ k = 4) (h : Wp d tb_23 115 [.ref k, .int x1, .int (0 : Int32)] [] σ Q) : Wp d tb_23 113 [.ref k, .int x1, .int x2] [] σ Q := by
  rcases hk with rfl | rfl
  · refine Wp.adv (pc' := 115) (ls' := [.ref 3, .int x1, .int (0 : Int32)]) (st' := []) (σ' := σ) 2 rfl ?_
    exact h
  · refine Wp.adv (pc' := 115) (ls' := [.ref 4, .int x1, .int (0 : Int32)]) (st' := []) (σ' := σ) 2 rfl ?_
    exact h
theorem b23_115 {d : Nat} {Q : Option Value → px_S → Prop} {σ : px_S} {x1 x2 : Int32} {k : Nat} (hk : k = 3 ∨ k = 4) (ht : (σ.1 1 7) ≤ x2 → Wp d tb_23 137 [.ref k, .int x1, .int x2] [] σ Q) (hf : ¬ ((σ.1 1 7) ≤ x2) → Wp d tb_23 126 [.ref k, .int x1, .int x2] [] σ Q) : Wp d tb_23 115 [.ref k, .int x1, .int x2] [] σ Q := by
  rcases hk with rfl | rfl
  · refine Wp.adv (pc' := 123) (ls' := [.ref 3, .int x1, .int x2]) (st' := [.int (σ.1 1 7), .int x2]) (σ' := σ) 4 rfl ?_
    exact Wp.icmp rfl ht hf
  · refine Wp.adv (pc' := 123) (ls' := [.ref 4, .int x1, .int x2]) (st' := [.int (σ.1 1 7), .int x2]) (σ' := σ) 4 rfl ?_
    exact Wp.icmp rfl ht hf
theorem b23_126 {d : Nat} {Q : Option Value → px_S → Prop} {σ : px_S} {x1 x2 : Int32} {k : Nat} (hk : k = 3 ∨ k = 4) (h : Cw d 35 [.ref k, .int x2] σ (fun r τ => Wp d tb_23 131 [.ref k, .int x1, .int x2] (r.toList ++ []) τ Q)) : Wp d tb_23 126 [.ref k, .int x1, .int x2] [] σ Q := by
  rcases hk with rfl | rfl
  · refine Wp.adv (pc' := 128) (ls' := [.ref 3, .int x1, .int x2]) (st' := [.int x2, .ref 3]) (σ' := σ) 2 rfl ?_
    exact Wp.call (q := (35, 2, 3, 131)) rfl (Nat.le_of_ble_eq_true rfl) rfl h
  · refine Wp.adv (pc' := 128) (ls' := [.ref 4, .int x1, .int x2]) (st' := [.int x2, .ref 4]) (σ' := σ) 2 rfl ?_
    exact Wp.call (q := (35, 2, 3, 131)) rfl (Nat.le_of_ble_eq_true rfl) rfl h
theorem b23_131 {d : Nat} {Q : Option Value → px_S → Prop} {σ : px_S} {x1 x2 : Int32} {k : Nat} (hk : k = 3 ∨ k = 4) (h : Wp d tb_23 115 [.ref k, .int x1, .int (x2 + 1)] [] σ Q) : Wp d tb_23 131 [.ref k, .int x1, .int x2] [] σ Q := by
  rcases hk with rfl | rfl
  · refine Wp.adv (pc' := 115) (ls' := [.ref 3, .int x1, .int (x2 + 1)]) (st' := []) (σ' := σ) 2 rfl ?_
    exact h
  · refine Wp.adv (pc' := 115) (ls' := [.ref 4, .int x1, .int (x2 + 1)]) (st' := []) (σ' := σ) 2 rfl ?_
    exact h
theorem b23_137 {d : Nat} {Q : Option Value → px_S → Prop} {σ : px_S} {x1 x2 : Int32} {k : Nat} (hk : k = 3 ∨ k = 4) (h : Wp d tb_23 142 [.ref k, .int x1, .int x2] [] (px_uI σ k 6 x1) Q) : Wp d tb_23 137 [.ref k, .int x1, .int x2] [] σ Q := by
  rcases hk with rfl | rfl
  · refine Wp.adv (pc' := 139) (ls' := [.ref 3, .int x1, .int x2]) (st' := [.int x1, .ref 3]) (σ' := σ) 2 rfl ?_
    refine Wp.step (q := (142, [.ref 3, .int x1, .int x2], [], (px_uI σ 3 6 x1))) rfl rfl ?_
    exact h
  · refine Wp.adv (pc' := 139) (ls' := [.ref 4, .int x1, .int x2]) (st' := [.int x1, .ref 4]) (σ' := σ) 2 rfl ?_
    refine Wp.step (q := (142, [.ref 4, .int x1, .int x2], [], (px_uI σ 4 6 x1))) rfl rfl ?_
    exact h
theorem b23_142 {d : Nat} {Q : Option Value → px_S → Prop} {σ : px_S} {x1 x2 : Int32} {k : Nat} (hk : k = 3 ∨ k = 4) (h : Wp d tb_23 147 [.ref k, .int x1, .int x2] [] (px_uI σ k 5 (1 : Int32)) Q) : Wp d tb_23 142 [.ref k, .int x1, .int x2] [] σ Q := by
  rcases hk with rfl | rfl
  · refine Wp.adv (pc' := 144) (ls' := [.ref 3, .int x1, .int x2]) (st' := [.int (1 : Int32), .ref 3]) (σ' := σ) 2 rfl ?_
    refine Wp.step (q := (147, [.ref 3, .int x1, .int x2], [], (px_uI σ 3 5 (1 : Int32)))) rfl rfl ?_
    exact h
  · refine Wp.adv (pc' := 144) (ls' := [.ref 4, .int x1, .int x2]) (st' := [.int (1 : Int32), .ref 4]) (σ' := σ) 2 rfl ?_
    refine Wp.step (q := (147, [.ref 4, .int x1, .int x2], [], (px_uI σ 4 5 (1 : Int32)))) rfl rfl ?_
    exact h
theorem b23_147 {d : Nat} {Q : Option Value → px_S → Prop} {σ : px_S} {x1 x2 : Int32} {k : Nat} (hk : k = 3 ∨ k = 4) (h : Q none σ) : Wp d tb_23 147 [.ref k, .int x1, .int x2] [] σ Q := by
  rcases hk with rfl | rfl
  · exact Wp.ret rfl rfl h
  · exact Wp.ret rfl rfl h
theorem e23 {d : Nat} {Q : Option Value → px_S → Prop} {σ : px_S} {x1 : Int32} {k : Nat} (h : Wp d tb_23 0 [.ref k, .int x1, .null] [] σ Q) : Cw (d + 1) 23 [.ref k, .int x1] σ Q := Cw.of (nL := 3) (y := yX2_refresh) (cc := cX2_refresh) (rt := none) rfl (Nat.le_of_ble_eq_true rfl) h
theorem b24_0 {d : Nat} {Q : Option Value → px_S → Prop} {σ : px_S} {x1 : Int32} {k : Nat} (hk : k = 3 ∨ k = 4) (ht : (lg_cmp (((((σ.2.1 k 7)).toUInt64 >>> ((x1).toInt64.toUInt64 &&& Int64.toUInt64 63)).toInt64) &&& (1 : Int64)) (0 : Int64)) = 0 → Wp d tb_24 17 [.ref k, .int x1] [] σ Q) (hf : ¬ ((lg_cmp (((((σ.2.1 k 7)).toUInt64 >>> ((x1).toInt64.toUInt64 &&& Int64.toUInt64 63)).toInt64) &&& (1 : Int64)) (0 : Int64)) = 0) → Wp d tb_24 13 [.ref k, .int x1] [] σ Q) : Wp d tb_24 0 [.ref k, .int x1] [] σ Q := by
  rcases hk with rfl | rfl
  · refine Wp.adv (pc' := 10) (ls' := [.ref 3, .int x1]) (st' := [.int (lg_cmp (((((σ.2.1 3 7)).toUInt64 >>> ((x1).toInt64.toUInt64 &&& Int64.toUInt64 63)).toInt64) &&& (1 : Int64)) (0 : Int64))]) (σ' := σ) 8 rfl ?_
    exact Wp.if_ rfl ht hf
  · refine Wp.adv (pc' := 10) (ls' := [.ref 4, .int x1]) (st' := [.int (lg_cmp (((((σ.2.1 4 7)).toUInt64 >>> ((x1).toInt64.toUInt64 &&& Int64.toUInt64 63)).toInt64) &&& (1 : Int64)) (0 : Int64))]) (σ' := σ) 8 rfl ?_
    exact Wp.if_ rfl ht hf
theorem b24_13 {d : Nat} {Q : Option Value → px_S → Prop} {σ : px_S} {x1 : Int32} {k : Nat} (hk : k = 3 ∨ k = 4) (h : Wp d tb_24 18 [.ref k, .int x1] [.int (1 : Int32)] σ Q) : Wp d tb_24 13 [.ref k, .int x1] [] σ Q := by
  rcases hk with rfl | rfl
  · refine Wp.adv (pc' := 18) (ls' := [.ref 3, .int x1]) (st' := [.int (1 : Int32)]) (σ' := σ) 2 rfl ?_
    exact h
  · refine Wp.adv (pc' := 18) (ls' := [.ref 4, .int x1]) (st' := [.int (1 : Int32)]) (σ' := σ) 2 rfl ?_
    exact h
theorem b24_17 {d : Nat} {Q : Option Value → px_S → Prop} {σ : px_S} {x1 : Int32} {k : Nat} (hk : k = 3 ∨ k = 4) (h : Wp d tb_24 18 [.ref k, .int x1] [.int (0 : Int32)] σ Q) : Wp d tb_24 17 [.ref k, .int x1] [] σ Q := by
  rcases hk with rfl | rfl
  · refine Wp.adv (pc' := 18) (ls' := [.ref 3, .int x1]) (st' := [.int (0 : Int32)]) (σ' := σ) 1 rfl ?_
    exact h
  · refine Wp.adv (pc' := 18) (ls' := [.ref 4, .int x1]) (st' := [.int (0 : Int32)]) (σ' := σ) 1 rfl ?_
    exact h
theorem b24_18 {d : Nat} {Q : Option Value → px_S → Prop} {σ : px_S} {x1 s0 : Int32} {k : Nat} (hk : k = 3 ∨ k = 4) (c1 : s0 = 0 ∨ s0 = 1) (h : Q (some (.int s0)) σ) : Wp d tb_24 18 [.ref k, .int x1] [.int s0] σ Q := by
  rcases hk with rfl | rfl
  · exact Wp.zret rfl c1 h
  · exact Wp.zret rfl c1 h
theorem e24 {d : Nat} {Q : Option Value → px_S → Prop} {σ : px_S} {x1 : Int32} {k : Nat} (h : Wp d tb_24 0 [.ref k, .int x1] [] σ Q) : Cw (d + 1) 24 [.ref k, .int x1] σ Q := Cw.of (nL := 2) (y := yX2_isSeen) (cc := cX2_isSeen) (rt := some .boolean) rfl (Nat.le_of_ble_eq_true rfl) h
theorem b25_0 {d : Nat} {Q : Option Value → px_S → Prop} {σ : px_S} {x1 : Int32} {k : Nat} (hk : k = 3 ∨ k = 4) (c1 : vp_in x1 40) (c2 : vp_in (2 : Int32) 5) (ht : ¬ (σ.1 10 ((2 : Int32)).toNatClampNeg) = (1 : Int32) → Wp d tb_25 42 [.ref k, .int x1, .int (σ.1 13 (x1).toNatClampNeg), .null, .null, .null, .null] [] σ Q) (hf : ¬ (¬ (σ.1 10 ((2 : Int32)).toNatClampNeg) = (1 : Int32)) → Wp d tb_25 20 [.ref k, .int x1, .int (σ.1 13 (x1).toNatClampNeg), .null, .null, .null, .null] [] σ Q) : Wp d tb_25 0 [.ref k, .int x1, .null, .null, .null, .null, .null] [] σ Q := by
  rcases hk with rfl | rfl
  · refine Wp.adv (pc' := 8) (ls' := [.ref 3, .int x1, .null, .null, .null, .null, .null]) (st' := [.int x1, .ref 13]) (σ' := σ) 4 rfl ?_
    refine Wp.iald (N := 40) rfl rfl c1 ?_
    refine Wp.adv (pc' := 15) (ls' := [.ref 3, .int x1, .int (σ.1 13 (x1).toNatClampNeg), .null, .null, .null, .null]) (st' := [.int (2 : Int32), .ref 10]) (σ' := σ) 4 rfl ?_
    refine Wp.iald (N := 5) rfl rfl c2 ?_
    refine Wp.adv (pc' := 17) (ls' := [.ref 3, .int x1, .int (σ.1 13 (x1).toNatClampNeg), .null, .null, .null, .null]) (st' := [.int (1 : Int32), .int (σ.1 10 ((2 : Int32)).toNatClampNeg)]) (σ' := σ) 1 rfl ?_
    exact Wp.icmp rfl ht hf
  · refine Wp.adv (pc' := 8) (ls' := [.ref 4, .int x1, .null, .null, .null, .null, .null]) (st' := [.int x1, .ref 13]) (σ' := σ) 4 rfl ?_
    refine Wp.iald (N := 40) rfl rfl c1 ?_
    refine Wp.adv (pc' := 15) (ls' := [.ref 4, .int x1, .int (σ.1 13 (x1).toNatClampNeg), .null, .null, .null, .null]) (st' := [.int (2 : Int32), .ref 10]) (σ' := σ) 4 rfl ?_
    refine Wp.iald (N := 5) rfl rfl c2 ?_
    refine Wp.adv (pc' := 17) (ls' := [.ref 4, .int x1, .int (σ.1 13 (x1).toNatClampNeg), .null, .null, .null, .null]) (st' := [.int (1 : Int32), .int (σ.1 10 ((2 : Int32)).toNatClampNeg)]) (σ' := σ) 1 rfl ?_
    exact Wp.icmp rfl ht hf
theorem b25_20 {d : Nat} {Q : Option Value → px_S → Prop} {σ : px_S} {x1 x2 : Int32} {k : Nat} (hk : k = 3 ∨ k = 4) (h : Cw d 4 [.ref 1, .int x2] σ (fun r τ => Wp d tb_25 28 [.ref k, .int x1, .int x2, .null, .null, .null, .null] (r.toList ++ []) τ Q)) : Wp d tb_25 20 [.ref k, .int x1, .int x2, .null, .null, .null, .null] [] σ Q := by
  rcases hk with rfl | rfl
  · refine Wp.adv (pc' := 25) (ls' := [.ref 3, .int x1, .int x2, .null, .null, .null, .null]) (st' := [.int x2, .ref 1]) (σ' := σ) 3 rfl ?_
    exact Wp.call (q := (4, 2, 2, 28)) rfl (Nat.le_of_ble_eq_true rfl) rfl h
  · refine Wp.adv (pc' := 25) (ls' := [.ref 4, .int x1, .int x2, .null, .null, .null, .null]) (st' := [.int x2, .ref 1]) (σ' := σ) 3 rfl ?_
    exact Wp.call (q := (4, 2, 2, 28)) rfl (Nat.le_of_ble_eq_true rfl) rfl h
theorem b25_28 {d : Nat} {Q : Option Value → px_S → Prop} {σ : px_S} {x1 x2 s0 : Int32} {k : Nat} (hk : k = 3 ∨ k = 4) (ht : s0 = 0 → Wp d tb_25 42 [.ref k, .int x1, .int x2, .null, .null, .null, .null] [] σ Q) (hf : ¬ (s0 = 0) → Wp d tb_25 31 [.ref k, .int x1, .int x2, .null, .null, .null, .null] [] σ Q) : Wp d tb_25 28 [.ref k, .int x1, .int x2, .null, .null, .null, .null] [.int s0] σ Q := by
  rcases hk with rfl | rfl
  · exact Wp.if_ rfl ht hf
  · exact Wp.if_ rfl ht hf
theorem b25_31 {d : Nat} {Q : Option Value → px_S → Prop} {σ : px_S} {x1 x2 : Int32} {k : Nat} (hk : k = 3 ∨ k = 4) (h : Cw d 26 [.ref k, .int x2, .int x1] σ (fun r τ => Wp d tb_25 37 [.ref k, .int x1, .int x2, .null, .null, .null, .null] (r.toList ++ []) τ Q)) : Wp d tb_25 31 [.ref k, .int x1, .int x2, .null, .null, .null, .null] [] σ Q := by
  rcases hk with rfl | rfl
  · refine Wp.adv (pc' := 34) (ls' := [.ref 3, .int x1, .int x2, .null, .null, .null, .null]) (st' := [.int x1, .int x2, .ref 3]) (σ' := σ) 3 rfl ?_
    exact Wp.call (q := (26, 3, 3, 37)) rfl (Nat.le_of_ble_eq_true rfl) rfl h
  · refine Wp.adv (pc' := 34) (ls' := [.ref 4, .int x1, .int x2, .null, .null, .null, .null]) (st' := [.int x1, .int x2, .ref 4]) (σ' := σ) 3 rfl ?_
    exact Wp.call (q := (26, 3, 3, 37)) rfl (Nat.le_of_ble_eq_true rfl) rfl h
theorem b25_37 {d : Nat} {Q : Option Value → px_S → Prop} {σ : px_S} {x1 x2 s0 : Int32} {k : Nat} (hk : k = 3 ∨ k = 4) (ht : s0 = 0 → Wp d tb_25 42 [.ref k, .int x1, .int x2, .null, .null, .null, .null] [] σ Q) (hf : ¬ (s0 = 0) → Wp d tb_25 40 [.ref k, .int x1, .int x2, .null, .null, .null, .null] [] σ Q) : Wp d tb_25 37 [.ref k, .int x1, .int x2, .null, .null, .null, .null] [.int s0] σ Q := by
  rcases hk with rfl | rfl
  · exact Wp.if_ rfl ht hf
  · exact Wp.if_ rfl ht hf
theorem b25_40 {d : Nat} {Q : Option Value → px_S → Prop} {σ : px_S} {x1 x2 : Int32} {k : Nat} (hk : k = 3 ∨ k = 4) (h : Q (some (.int x2)) σ) : Wp d tb_25 40 [.ref k, .int x1, .int x2, .null, .null, .null, .null] [] σ Q := by
  rcases hk with rfl | rfl
  · refine Wp.adv (pc' := 41) (ls' := [.ref 3, .int x1, .int x2, .null, .null, .null, .null]) (st' := [.int x2]) (σ' := σ) 1 rfl ?_
    exact Wp.ret rfl rfl h
  · refine Wp.adv (pc' := 41) (ls' := [.ref 4, .int x1, .int x2, .null, .null, .null, .null]) (st' := [.int x2]) (σ' := σ) 1 rfl ?_
    exact Wp.ret rfl rfl h
theorem b25_42 {d : Nat} {Q : Option Value → px_S → Prop} {σ : px_S} {x1 x2 : Int32} {k : Nat} (hk : k = 3 ∨ k = 4) (h : Wp d tb_25 50 [.ref k, .int x1, .int x2, .int (-1 : Int32), .int (0 : Int32), .int (0 : Int32), .null] [] σ Q) : Wp d tb_25 42 [.ref k, .int x1, .int x2, .null, .null, .null, .null] [] σ Q := by
  rcases hk with rfl | rfl
  · refine Wp.adv (pc' := 50) (ls' := [.ref 3, .int x1, .int x2, .int (-1 : Int32), .int (0 : Int32), .int (0 : Int32), .null]) (st' := []) (σ' := σ) 6 rfl ?_
    exact h
  · refine Wp.adv (pc' := 50) (ls' := [.ref 4, .int x1, .int x2, .int (-1 : Int32), .int (0 : Int32), .int (0 : Int32), .null]) (st' := []) (σ' := σ) 6 rfl ?_
    exact h
theorem b25_50 {d : Nat} {Q : Option Value → px_S → Prop} {σ : px_S} {x1 x2 x3 x4 x5 : Int32} {v6 : Value} {k : Nat} (hk : k = 3 ∨ k = 4) (ht : (σ.1 1 7) ≤ x5 → Wp d tb_25 129 [.ref k, .int x1, .int x2, .int x3, .int x4, .int x5, v6] [] σ Q) (hf : ¬ ((σ.1 1 7) ≤ x5) → Wp d tb_25 62 [.ref k, .int x1, .int x2, .int x3, .int x4, .int x5, v6] [] σ Q) : Wp d tb_25 50 [.ref k, .int x1, .int x2, .int x3, .int x4, .int x5, v6] [] σ Q := by
  rcases hk with rfl | rfl
  · refine Wp.adv (pc' := 59) (ls' := [.ref 3, .int x1, .int x2, .int x3, .int x4, .int x5, v6]) (st' := [.int (σ.1 1 7), .int x5]) (σ' := σ) 4 rfl ?_
    exact Wp.icmp rfl ht hf
  · refine Wp.adv (pc' := 59) (ls' := [.ref 4, .int x1, .int x2, .int x3, .int x4, .int x5, v6]) (st' := [.int (σ.1 1 7), .int x5]) (σ' := σ) 4 rfl ?_
    exact Wp.icmp rfl ht hf
theorem b25_62 {d : Nat} {Q : Option Value → px_S → Prop} {σ : px_S} {x1 x2 x3 x4 x5 : Int32} {v6 : Value} {k : Nat} (hk : k = 3 ∨ k = 4) (c1 : vp_in x1 40) (ht : (σ.1 15 (x1).toNatClampNeg) ≤ 0 → Wp d tb_25 129 [.ref k, .int x1, .int x2, .int x3, .int x4, .int x5, v6] [] σ Q) (hf : ¬ ((σ.1 15 (x1).toNatClampNeg) ≤ 0) → Wp d tb_25 74 [.ref k, .int x1, .int x2, .int x3, .int x4, .int x5, v6] [] σ Q) : Wp d tb_25 62 [.ref k, .int x1, .int x2, .int x3, .int x4, .int x5, v6] [] σ Q := by
  rcases hk with rfl | rfl
  · refine Wp.adv (pc' := 70) (ls' := [.ref 3, .int x1, .int x2, .int x3, .int x4, .int x5, v6]) (st' := [.int x1, .ref 15]) (σ' := σ) 4 rfl ?_
    refine Wp.iald (N := 40) rfl rfl c1 ?_
    exact Wp.if_ rfl ht hf
  · refine Wp.adv (pc' := 70) (ls' := [.ref 4, .int x1, .int x2, .int x3, .int x4, .int x5, v6]) (st' := [.int x1, .ref 15]) (σ' := σ) 4 rfl ?_
    refine Wp.iald (N := 40) rfl rfl c1 ?_
    exact Wp.if_ rfl ht hf
theorem b25_74 {d : Nat} {Q : Option Value → px_S → Prop} {σ : px_S} {x1 x2 x3 x4 x5 : Int32} {v6 : Value} {k : Nat} (hk : k = 3 ∨ k = 4) (nv6 : px_nc v6 = true) (h : Cw d 28 [.ref k, .int x5, .int x1] σ (fun r τ => Wp d tb_25 81 [.ref k, .int x1, .int x2, .int x3, .int x4, .int x5, v6] (r.toList ++ []) τ Q)) : Wp d tb_25 74 [.ref k, .int x1, .int x2, .int x3, .int x4, .int x5, v6] [] σ Q := by
  rcases hk with rfl | rfl
  · refine Wp.adv (pc' := 78) (ls' := [.ref 3, .int x1, .int x2, .int x3, .int x4, .int x5, v6]) (st' := [.int x1, .int x5, .ref 3]) (σ' := σ) 3 rfl ?_
    exact Wp.call (q := (28, 3, 3, 81)) rfl (Nat.le_of_ble_eq_true rfl) (px_okc_mk rfl rfl rfl (by simp only [List.all_cons, List.all_nil, nv6]; rfl)) h
  · refine Wp.adv (pc' := 78) (ls' := [.ref 4, .int x1, .int x2, .int x3, .int x4, .int x5, v6]) (st' := [.int x1, .int x5, .ref 4]) (σ' := σ) 3 rfl ?_
    exact Wp.call (q := (28, 3, 3, 81)) rfl (Nat.le_of_ble_eq_true rfl) (px_okc_mk rfl rfl rfl (by simp only [List.all_cons, List.all_nil, nv6]; rfl)) h
theorem b25_81 {d : Nat} {Q : Option Value → px_S → Prop} {σ : px_S} {x1 x2 x3 x4 x5 s0 : Int32} {v6 : Value} {k : Nat} (hk : k = 3 ∨ k = 4) (ht : ¬ s0 = 0 → Wp d tb_25 123 [.ref k, .int x1, .int x2, .int x3, .int x4, .int x5, v6] [] σ Q) (hf : ¬ (¬ s0 = 0) → Wp d tb_25 84 [.ref k, .int x1, .int x2, .int x3, .int x4, .int x5, v6] [] σ Q) : Wp d tb_25 81 [.ref k, .int x1, .int x2, .int x3, .int x4, .int x5, v6] [.int s0] σ Q := by
  rcases hk with rfl | rfl
  · exact Wp.if_ rfl ht hf
  · exact Wp.if_ rfl ht hf
theorem b25_84 {d : Nat} {Q : Option Value → px_S → Prop} {σ : px_S} {x1 x2 x3 x4 x5 : Int32} {v6 : Value} {k : Nat} (hk : k = 3 ∨ k = 4) (nv6 : px_nc v6 = true) (h : Cw d 26 [.ref k, .int x5, .int x1] σ (fun r τ => Wp d tb_25 91 [.ref k, .int x1, .int x2, .int x3, .int x4, .int x5, v6] (r.toList ++ []) τ Q)) : Wp d tb_25 84 [.ref k, .int x1, .int x2, .int x3, .int x4, .int x5, v6] [] σ Q := by
  rcases hk with rfl | rfl
  · refine Wp.adv (pc' := 88) (ls' := [.ref 3, .int x1, .int x2, .int x3, .int x4, .int x5, v6]) (st' := [.int x1, .int x5, .ref 3]) (σ' := σ) 3 rfl ?_
    exact Wp.call (q := (26, 3, 3, 91)) rfl (Nat.le_of_ble_eq_true rfl) (px_okc_mk rfl rfl rfl (by simp only [List.all_cons, List.all_nil, nv6]; rfl)) h
  · refine Wp.adv (pc' := 88) (ls' := [.ref 4, .int x1, .int x2, .int x3, .int x4, .int x5, v6]) (st' := [.int x1, .int x5, .ref 4]) (σ' := σ) 3 rfl ?_
    exact Wp.call (q := (26, 3, 3, 91)) rfl (Nat.le_of_ble_eq_true rfl) (px_okc_mk rfl rfl rfl (by simp only [List.all_cons, List.all_nil, nv6]; rfl)) h
theorem b25_91 {d : Nat} {Q : Option Value → px_S → Prop} {σ : px_S} {x1 x2 x3 x4 x5 s0 : Int32} {v6 : Value} {k : Nat} (hk : k = 3 ∨ k = 4) (ht : ¬ s0 = 0 → Wp d tb_25 97 [.ref k, .int x1, .int x2, .int x3, .int x4, .int x5, v6] [] σ Q) (hf : ¬ (¬ s0 = 0) → Wp d tb_25 94 [.ref k, .int x1, .int x2, .int x3, .int x4, .int x5, v6] [] σ Q) : Wp d tb_25 91 [.ref k, .int x1, .int x2, .int x3, .int x4, .int x5, v6] [.int s0] σ Q := by
  rcases hk with rfl | rfl
  · exact Wp.if_ rfl ht hf
  · exact Wp.if_ rfl ht hf
theorem b25_94 {d : Nat} {Q : Option Value → px_S → Prop} {σ : px_S} {x1 x2 x3 x4 x5 : Int32} {v6 : Value} {k : Nat} (hk : k = 3 ∨ k = 4) (h : Wp d tb_25 123 [.ref k, .int x1, .int x2, .int x3, .int x4, .int x5, v6] [] σ Q) : Wp d tb_25 94 [.ref k, .int x1, .int x2, .int x3, .int x4, .int x5, v6] [] σ Q := by
  rcases hk with rfl | rfl
  · refine Wp.adv (pc' := 123) (ls' := [.ref 3, .int x1, .int x2, .int x3, .int x4, .int x5, v6]) (st' := []) (σ' := σ) 1 rfl ?_
    exact h
  · refine Wp.adv (pc' := 123) (ls' := [.ref 4, .int x1, .int x2, .int x3, .int x4, .int x5, v6]) (st' := []) (σ' := σ) 1 rfl ?_
    exact h
theorem b25_97 {d : Nat} {Q : Option Value → px_S → Prop} {σ : px_S} {x1 x2 x3 x4 x5 : Int32} {v6 : Value} {k : Nat} (hk : k = 3 ∨ k = 4) (nv6 : px_nc v6 = true) (h : Cw d 29 [.ref 2, .int x1, .int x5] σ (fun r τ => Wp d tb_25 107 [.ref k, .int x1, .int x2, .int x3, .int x4, .int x5, v6] (r.toList ++ []) τ Q)) : Wp d tb_25 97 [.ref k, .int x1, .int x2, .int x3, .int x4, .int x5, v6] [] σ Q := by
  rcases hk with rfl | rfl
  · refine Wp.adv (pc' := 104) (ls' := [.ref 3, .int x1, .int x2, .int x3, .int x4, .int x5, v6]) (st' := [.int x5, .int x1, .ref 2]) (σ' := σ) 4 rfl ?_
    exact Wp.call (q := (29, 3, 1, 107)) rfl (Nat.le_of_ble_eq_true rfl) (px_okc_mk rfl rfl rfl (by simp only [List.all_cons, List.all_nil, nv6]; rfl)) h
  · refine Wp.adv (pc' := 104) (ls' := [.ref 4, .int x1, .int x2, .int x3, .int x4, .int x5, v6]) (st' := [.int x5, .int x1, .ref 2]) (σ' := σ) 4 rfl ?_
    exact Wp.call (q := (29, 3, 1, 107)) rfl (Nat.le_of_ble_eq_true rfl) (px_okc_mk rfl rfl rfl (by simp only [List.all_cons, List.all_nil, nv6]; rfl)) h
theorem b25_107 {d : Nat} {Q : Option Value → px_S → Prop} {σ : px_S} {x1 x2 x3 x4 x5 s0 : Int32} {v6 : Value} {k : Nat} (hk : k = 3 ∨ k = 4) (ht : s0 ≤ x4 → Wp d tb_25 123 [.ref k, .int x1, .int x2, .int x3, .int x4, .int x5, .int s0] [] σ Q) (hf : ¬ (s0 ≤ x4) → Wp d tb_25 116 [.ref k, .int x1, .int x2, .int x3, .int x4, .int x5, .int s0] [] σ Q) : Wp d tb_25 107 [.ref k, .int x1, .int x2, .int x3, .int x4, .int x5, v6] [.int s0] σ Q := by
  rcases hk with rfl | rfl
  · refine Wp.adv (pc' := 113) (ls' := [.ref 3, .int x1, .int x2, .int x3, .int x4, .int x5, .int s0]) (st' := [.int x4, .int s0]) (σ' := σ) 3 rfl ?_
    exact Wp.icmp rfl ht hf
  · refine Wp.adv (pc' := 113) (ls' := [.ref 4, .int x1, .int x2, .int x3, .int x4, .int x5, .int s0]) (st' := [.int x4, .int s0]) (σ' := σ) 3 rfl ?_
    exact Wp.icmp rfl ht hf
theorem b25_116 {d : Nat} {Q : Option Value → px_S → Prop} {σ : px_S} {x1 x2 x3 x4 x5 x6 : Int32} {k : Nat} (hk : k = 3 ∨ k = 4) (h : Wp d tb_25 123 [.ref k, .int x1, .int x2, .int x5, .int x6, .int x5, .int x6] [] σ Q) : Wp d tb_25 116 [.ref k, .int x1, .int x2, .int x3, .int x4, .int x5, .int x6] [] σ Q := by
  rcases hk with rfl | rfl
  · refine Wp.adv (pc' := 123) (ls' := [.ref 3, .int x1, .int x2, .int x5, .int x6, .int x5, .int x6]) (st' := []) (σ' := σ) 4 rfl ?_
    exact h
  · refine Wp.adv (pc' := 123) (ls' := [.ref 4, .int x1, .int x2, .int x5, .int x6, .int x5, .int x6]) (st' := []) (σ' := σ) 4 rfl ?_
    exact h
theorem b25_123 {d : Nat} {Q : Option Value → px_S → Prop} {σ : px_S} {x1 x2 x3 x4 x5 : Int32} {v6 : Value} {k : Nat} (hk : k = 3 ∨ k = 4) (h : Wp d tb_25 50 [.ref k, .int x1, .int x2, .int x3, .int x4, .int (x5 + 1), v6] [] σ Q) : Wp d tb_25 123 [.ref k, .int x1, .int x2, .int x3, .int x4, .int x5, v6] [] σ Q := by
  rcases hk with rfl | rfl
  · refine Wp.adv (pc' := 50) (ls' := [.ref 3, .int x1, .int x2, .int x3, .int x4, .int (x5 + 1), v6]) (st' := []) (σ' := σ) 2 rfl ?_
    exact h
  · refine Wp.adv (pc' := 50) (ls' := [.ref 4, .int x1, .int x2, .int x3, .int x4, .int (x5 + 1), v6]) (st' := []) (σ' := σ) 2 rfl ?_
    exact h
theorem b25_129 {d : Nat} {Q : Option Value → px_S → Prop} {σ : px_S} {x1 x2 x3 x4 x5 : Int32} {v6 : Value} {k : Nat} (hk : k = 3 ∨ k = 4) (c1 : vp_in (1 : Int32) 5) (c2 : vp_in x1 40) (ht : ((100 : Int32) * x4) < ((σ.1 10 ((1 : Int32)).toNatClampNeg) * (σ.1 15 (x1).toNatClampNeg)) → Wp d tb_25 157 [.ref k, .int x1, .int x2, .int x3, .int x4, .int x5, v6] [] σ Q) (hf : ¬ (((100 : Int32) * x4) < ((σ.1 10 ((1 : Int32)).toNatClampNeg) * (σ.1 15 (x1).toNatClampNeg))) → Wp d tb_25 153 [.ref k, .int x1, .int x2, .int x3, .int x4, .int x5, v6] [] σ Q) : Wp d tb_25 129 [.ref k, .int x1, .int x2, .int x3, .int x4, .int x5, v6] [] σ Q := by
  rcases hk with rfl | rfl
  · refine Wp.adv (pc' := 139) (ls' := [.ref 3, .int x1, .int x2, .int x3, .int x4, .int x5, v6]) (st' := [.int (1 : Int32), .ref 10, .int ((100 : Int32) * x4)]) (σ' := σ) 6 rfl ?_
    refine Wp.iald (N := 5) rfl rfl c1 ?_
    refine Wp.adv (pc' := 148) (ls' := [.ref 3, .int x1, .int x2, .int x3, .int x4, .int x5, v6]) (st' := [.int x1, .ref 15, .int (σ.1 10 ((1 : Int32)).toNatClampNeg), .int ((100 : Int32) * x4)]) (σ' := σ) 4 rfl ?_
    refine Wp.iald (N := 40) rfl rfl c2 ?_
    refine Wp.adv (pc' := 150) (ls' := [.ref 3, .int x1, .int x2, .int x3, .int x4, .int x5, v6]) (st' := [.int ((σ.1 10 ((1 : Int32)).toNatClampNeg) * (σ.1 15 (x1).toNatClampNeg)), .int ((100 : Int32) * x4)]) (σ' := σ) 1 rfl ?_
    exact Wp.icmp rfl ht hf
  · refine Wp.adv (pc' := 139) (ls' := [.ref 4, .int x1, .int x2, .int x3, .int x4, .int x5, v6]) (st' := [.int (1 : Int32), .ref 10, .int ((100 : Int32) * x4)]) (σ' := σ) 6 rfl ?_
    refine Wp.iald (N := 5) rfl rfl c1 ?_
    refine Wp.adv (pc' := 148) (ls' := [.ref 4, .int x1, .int x2, .int x3, .int x4, .int x5, v6]) (st' := [.int x1, .ref 15, .int (σ.1 10 ((1 : Int32)).toNatClampNeg), .int ((100 : Int32) * x4)]) (σ' := σ) 4 rfl ?_
    refine Wp.iald (N := 40) rfl rfl c2 ?_
    refine Wp.adv (pc' := 150) (ls' := [.ref 4, .int x1, .int x2, .int x3, .int x4, .int x5, v6]) (st' := [.int ((σ.1 10 ((1 : Int32)).toNatClampNeg) * (σ.1 15 (x1).toNatClampNeg)), .int ((100 : Int32) * x4)]) (σ' := σ) 1 rfl ?_
    exact Wp.icmp rfl ht hf
theorem b25_153 {d : Nat} {Q : Option Value → px_S → Prop} {σ : px_S} {x1 x2 x3 x4 x5 : Int32} {v6 : Value} {k : Nat} (hk : k = 3 ∨ k = 4) (h : Wp d tb_25 158 [.ref k, .int x1, .int x2, .int x3, .int x4, .int x5, v6] [.int x3] σ Q) : Wp d tb_25 153 [.ref k, .int x1, .int x2, .int x3, .int x4, .int x5, v6] [] σ Q := by
  rcases hk with rfl | rfl
  · refine Wp.adv (pc' := 158) (ls' := [.ref 3, .int x1, .int x2, .int x3, .int x4, .int x5, v6]) (st' := [.int x3]) (σ' := σ) 2 rfl ?_
    exact h
  · refine Wp.adv (pc' := 158) (ls' := [.ref 4, .int x1, .int x2, .int x3, .int x4, .int x5, v6]) (st' := [.int x3]) (σ' := σ) 2 rfl ?_
    exact h
theorem b25_157 {d : Nat} {Q : Option Value → px_S → Prop} {σ : px_S} {x1 x2 x3 x4 x5 : Int32} {v6 : Value} {k : Nat} (hk : k = 3 ∨ k = 4) (h : Wp d tb_25 158 [.ref k, .int x1, .int x2, .int x3, .int x4, .int x5, v6] [.int (-1 : Int32)] σ Q) : Wp d tb_25 157 [.ref k, .int x1, .int x2, .int x3, .int x4, .int x5, v6] [] σ Q := by
  rcases hk with rfl | rfl
  · refine Wp.adv (pc' := 158) (ls' := [.ref 3, .int x1, .int x2, .int x3, .int x4, .int x5, v6]) (st' := [.int (-1 : Int32)]) (σ' := σ) 1 rfl ?_
    exact h
  · refine Wp.adv (pc' := 158) (ls' := [.ref 4, .int x1, .int x2, .int x3, .int x4, .int x5, v6]) (st' := [.int (-1 : Int32)]) (σ' := σ) 1 rfl ?_
    exact h
theorem b25_158 {d : Nat} {Q : Option Value → px_S → Prop} {σ : px_S} {x1 x2 x3 x4 x5 s0 : Int32} {v6 : Value} {k : Nat} (hk : k = 3 ∨ k = 4) (h : Q (some (.int s0)) σ) : Wp d tb_25 158 [.ref k, .int x1, .int x2, .int x3, .int x4, .int x5, v6] [.int s0] σ Q := by
  rcases hk with rfl | rfl
  · exact Wp.ret rfl rfl h
  · exact Wp.ret rfl rfl h
theorem e25 {d : Nat} {Q : Option Value → px_S → Prop} {σ : px_S} {x1 : Int32} {k : Nat} (h : Wp d tb_25 0 [.ref k, .int x1, .null, .null, .null, .null, .null] [] σ Q) : Cw (d + 1) 25 [.ref k, .int x1] σ Q := Cw.of (nL := 7) (y := yX2_findParent) (cc := cX2_findParent) (rt := some .int) rfl (Nat.le_of_ble_eq_true rfl) h
theorem b26_0 {d : Nat} {Q : Option Value → px_S → Prop} {σ : px_S} {x1 x2 : Int32} {k : Nat} (hk : k = 3 ∨ k = 4) (h : Cw d 24 [.ref k, .int x1] σ (fun r τ => Wp d tb_26 5 [.ref k, .int x1, .int x2] (r.toList ++ []) τ Q)) : Wp d tb_26 0 [.ref k, .int x1, .int x2] [] σ Q := by
  rcases hk with rfl | rfl
  · refine Wp.adv (pc' := 2) (ls' := [.ref 3, .int x1, .int x2]) (st' := [.int x1, .ref 3]) (σ' := σ) 2 rfl ?_
    exact Wp.call (q := (24, 2, 3, 5)) rfl (Nat.le_of_ble_eq_true rfl) rfl h
  · refine Wp.adv (pc' := 2) (ls' := [.ref 4, .int x1, .int x2]) (st' := [.int x1, .ref 4]) (σ' := σ) 2 rfl ?_
    exact Wp.call (q := (24, 2, 3, 5)) rfl (Nat.le_of_ble_eq_true rfl) rfl h
theorem b26_5 {d : Nat} {Q : Option Value → px_S → Prop} {σ : px_S} {x1 x2 s0 : Int32} {k : Nat} (hk : k = 3 ∨ k = 4) (ht : s0 = 0 → Wp d tb_26 26 [.ref k, .int x1, .int x2] [] σ Q) (hf : ¬ (s0 = 0) → Wp d tb_26 8 [.ref k, .int x1, .int x2] [] σ Q) : Wp d tb_26 5 [.ref k, .int x1, .int x2] [.int s0] σ Q := by
  rcases hk with rfl | rfl
  · exact Wp.if_ rfl ht hf
  · exact Wp.if_ rfl ht hf
theorem b26_8 {d : Nat} {Q : Option Value → px_S → Prop} {σ : px_S} {x1 x2 : Int32} {k : Nat} (hk : k = 3 ∨ k = 4) (ht : x1 = x2 → Wp d tb_26 26 [.ref k, .int x1, .int x2] [] σ Q) (hf : ¬ (x1 = x2) → Wp d tb_26 13 [.ref k, .int x1, .int x2] [] σ Q) : Wp d tb_26 8 [.ref k, .int x1, .int x2] [] σ Q := by
  rcases hk with rfl | rfl
  · refine Wp.adv (pc' := 10) (ls' := [.ref 3, .int x1, .int x2]) (st' := [.int x2, .int x1]) (σ' := σ) 2 rfl ?_
    exact Wp.icmp rfl ht hf
  · refine Wp.adv (pc' := 10) (ls' := [.ref 4, .int x1, .int x2]) (st' := [.int x2, .int x1]) (σ' := σ) 2 rfl ?_
    exact Wp.icmp rfl ht hf
theorem b26_13 {d : Nat} {Q : Option Value → px_S → Prop} {σ : px_S} {x1 x2 : Int32} {k : Nat} (hk : k = 3 ∨ k = 4) (h : Cw d 27 [.ref k, .int x1, .int x2] σ (fun r τ => Wp d tb_26 19 [.ref k, .int x1, .int x2] (r.toList ++ []) τ Q)) : Wp d tb_26 13 [.ref k, .int x1, .int x2] [] σ Q := by
  rcases hk with rfl | rfl
  · refine Wp.adv (pc' := 16) (ls' := [.ref 3, .int x1, .int x2]) (st' := [.int x2, .int x1, .ref 3]) (σ' := σ) 3 rfl ?_
    exact Wp.call (q := (27, 3, 3, 19)) rfl (Nat.le_of_ble_eq_true rfl) rfl h
  · refine Wp.adv (pc' := 16) (ls' := [.ref 4, .int x1, .int x2]) (st' := [.int x2, .int x1, .ref 4]) (σ' := σ) 3 rfl ?_
    exact Wp.call (q := (27, 3, 3, 19)) rfl (Nat.le_of_ble_eq_true rfl) rfl h
theorem b26_19 {d : Nat} {Q : Option Value → px_S → Prop} {σ : px_S} {x1 x2 s0 : Int32} {k : Nat} (hk : k = 3 ∨ k = 4) (ht : ¬ s0 = 0 → Wp d tb_26 26 [.ref k, .int x1, .int x2] [] σ Q) (hf : ¬ (¬ s0 = 0) → Wp d tb_26 22 [.ref k, .int x1, .int x2] [] σ Q) : Wp d tb_26 19 [.ref k, .int x1, .int x2] [.int s0] σ Q := by
  rcases hk with rfl | rfl
  · exact Wp.if_ rfl ht hf
  · exact Wp.if_ rfl ht hf
theorem b26_22 {d : Nat} {Q : Option Value → px_S → Prop} {σ : px_S} {x1 x2 : Int32} {k : Nat} (hk : k = 3 ∨ k = 4) (h : Wp d tb_26 27 [.ref k, .int x1, .int x2] [.int (1 : Int32)] σ Q) : Wp d tb_26 22 [.ref k, .int x1, .int x2] [] σ Q := by
  rcases hk with rfl | rfl
  · refine Wp.adv (pc' := 27) (ls' := [.ref 3, .int x1, .int x2]) (st' := [.int (1 : Int32)]) (σ' := σ) 2 rfl ?_
    exact h
  · refine Wp.adv (pc' := 27) (ls' := [.ref 4, .int x1, .int x2]) (st' := [.int (1 : Int32)]) (σ' := σ) 2 rfl ?_
    exact h
theorem b26_26 {d : Nat} {Q : Option Value → px_S → Prop} {σ : px_S} {x1 x2 : Int32} {k : Nat} (hk : k = 3 ∨ k = 4) (h : Wp d tb_26 27 [.ref k, .int x1, .int x2] [.int (0 : Int32)] σ Q) : Wp d tb_26 26 [.ref k, .int x1, .int x2] [] σ Q := by
  rcases hk with rfl | rfl
  · refine Wp.adv (pc' := 27) (ls' := [.ref 3, .int x1, .int x2]) (st' := [.int (0 : Int32)]) (σ' := σ) 1 rfl ?_
    exact h
  · refine Wp.adv (pc' := 27) (ls' := [.ref 4, .int x1, .int x2]) (st' := [.int (0 : Int32)]) (σ' := σ) 1 rfl ?_
    exact h
theorem b26_27 {d : Nat} {Q : Option Value → px_S → Prop} {σ : px_S} {x1 x2 s0 : Int32} {k : Nat} (hk : k = 3 ∨ k = 4) (c1 : s0 = 0 ∨ s0 = 1) (h : Q (some (.int s0)) σ) : Wp d tb_26 27 [.ref k, .int x1, .int x2] [.int s0] σ Q := by
  rcases hk with rfl | rfl
  · exact Wp.zret rfl c1 h
  · exact Wp.zret rfl c1 h
theorem e26 {d : Nat} {Q : Option Value → px_S → Prop} {σ : px_S} {x1 x2 : Int32} {k : Nat} (h : Wp d tb_26 0 [.ref k, .int x1, .int x2] [] σ Q) : Cw (d + 1) 26 [.ref k, .int x1, .int x2] σ Q := Cw.of (nL := 3) (y := yX2_isFree) (cc := cX2_isFree) (rt := some .boolean) rfl (Nat.le_of_ble_eq_true rfl) h
theorem b27_0 {d : Nat} {Q : Option Value → px_S → Prop} {σ : px_S} {x1 x2 : Int32} {k : Nat} (hk : k = 3 ∨ k = 4) (h : Wp d tb_27 5 [.ref k, .int x1, .int x2, .int x1, .int (0 : Int32)] [] σ Q) : Wp d tb_27 0 [.ref k, .int x1, .int x2, .null, .null] [] σ Q := by
  rcases hk with rfl | rfl
  · refine Wp.adv (pc' := 5) (ls' := [.ref 3, .int x1, .int x2, .int x1, .int (0 : Int32)]) (st' := []) (σ' := σ) 4 rfl ?_
    exact h
  · refine Wp.adv (pc' := 5) (ls' := [.ref 4, .int x1, .int x2, .int x1, .int (0 : Int32)]) (st' := []) (σ' := σ) 4 rfl ?_
    exact h
theorem b27_5 {d : Nat} {Q : Option Value → px_S → Prop} {σ : px_S} {x1 x2 x3 x4 : Int32} {k : Nat} (hk : k = 3 ∨ k = 4) (ht : (40 : Int32) ≤ x4 → Wp d tb_27 37 [.ref k, .int x1, .int x2, .int x3, .int x4] [] σ Q) (hf : ¬ ((40 : Int32) ≤ x4) → Wp d tb_27 12 [.ref k, .int x1, .int x2, .int x3, .int x4] [] σ Q) : Wp d tb_27 5 [.ref k, .int x1, .int x2, .int x3, .int x4] [] σ Q := by
  rcases hk with rfl | rfl
  · refine Wp.adv (pc' := 9) (ls' := [.ref 3, .int x1, .int x2, .int x3, .int x4]) (st' := [.int (40 : Int32), .int x4]) (σ' := σ) 2 rfl ?_
    exact Wp.icmp rfl ht hf
  · refine Wp.adv (pc' := 9) (ls' := [.ref 4, .int x1, .int x2, .int x3, .int x4]) (st' := [.int (40 : Int32), .int x4]) (σ' := σ) 2 rfl ?_
    exact Wp.icmp rfl ht hf
theorem b27_12 {d : Nat} {Q : Option Value → px_S → Prop} {σ : px_S} {x1 x2 x3 x4 : Int32} {k : Nat} (hk : k = 3 ∨ k = 4) (ht : x3 = (-1 : Int32) → Wp d tb_27 37 [.ref k, .int x1, .int x2, .int x3, .int x4] [] σ Q) (hf : ¬ (x3 = (-1 : Int32)) → Wp d tb_27 17 [.ref k, .int x1, .int x2, .int x3, .int x4] [] σ Q) : Wp d tb_27 12 [.ref k, .int x1, .int x2, .int x3, .int x4] [] σ Q := by
  rcases hk with rfl | rfl
  · refine Wp.adv (pc' := 14) (ls' := [.ref 3, .int x1, .int x2, .int x3, .int x4]) (st' := [.int (-1 : Int32), .int x3]) (σ' := σ) 2 rfl ?_
    exact Wp.icmp rfl ht hf
  · refine Wp.adv (pc' := 14) (ls' := [.ref 4, .int x1, .int x2, .int x3, .int x4]) (st' := [.int (-1 : Int32), .int x3]) (σ' := σ) 2 rfl ?_
    exact Wp.icmp rfl ht hf
theorem b27_17 {d : Nat} {Q : Option Value → px_S → Prop} {σ : px_S} {x1 x2 x3 x4 : Int32} {k : Nat} (hk : k = 3 ∨ k = 4) (ht : ¬ x3 = x2 → Wp d tb_27 24 [.ref k, .int x1, .int x2, .int x3, .int x4] [] σ Q) (hf : ¬ (¬ x3 = x2) → Wp d tb_27 22 [.ref k, .int x1, .int x2, .int x3, .int x4] [] σ Q) : Wp d tb_27 17 [.ref k, .int x1, .int x2, .int x3, .int x4] [] σ Q := by
  rcases hk with rfl | rfl
  · refine Wp.adv (pc' := 19) (ls' := [.ref 3, .int x1, .int x2, .int x3, .int x4]) (st' := [.int x2, .int x3]) (σ' := σ) 2 rfl ?_
    exact Wp.icmp rfl ht hf
  · refine Wp.adv (pc' := 19) (ls' := [.ref 4, .int x1, .int x2, .int x3, .int x4]) (st' := [.int x2, .int x3]) (σ' := σ) 2 rfl ?_
    exact Wp.icmp rfl ht hf
theorem b27_22 {d : Nat} {Q : Option Value → px_S → Prop} {σ : px_S} {x1 x2 x3 x4 : Int32} {k : Nat} (hk : k = 3 ∨ k = 4) (h : Q (some (.int (1 : Int32))) σ) : Wp d tb_27 22 [.ref k, .int x1, .int x2, .int x3, .int x4] [] σ Q := by
  rcases hk with rfl | rfl
  · refine Wp.adv (pc' := 23) (ls' := [.ref 3, .int x1, .int x2, .int x3, .int x4]) (st' := [.int (1 : Int32)]) (σ' := σ) 1 rfl ?_
    exact Wp.zret rfl (by decide) h
  · refine Wp.adv (pc' := 23) (ls' := [.ref 4, .int x1, .int x2, .int x3, .int x4]) (st' := [.int (1 : Int32)]) (σ' := σ) 1 rfl ?_
    exact Wp.zret rfl (by decide) h
theorem b27_24 {d : Nat} {Q : Option Value → px_S → Prop} {σ : px_S} {x1 x2 x3 x4 : Int32} {k : Nat} (hk : k = 3 ∨ k = 4) (c1 : vp_in x3 40) (h : Wp d tb_27 5 [.ref k, .int x1, .int x2, .int (σ.1 (2 * k + 15) (x3).toNatClampNeg), .int (x4 + 1)] [] σ Q) : Wp d tb_27 24 [.ref k, .int x1, .int x2, .int x3, .int x4] [] σ Q := by
  rcases hk with rfl | rfl
  · refine Wp.adv (pc' := 29) (ls' := [.ref 3, .int x1, .int x2, .int x3, .int x4]) (st' := [.int x3, .ref (2 * 3 + 15)]) (σ' := σ) 3 rfl ?_
    refine Wp.iald (N := 40) rfl rfl c1 ?_
    refine Wp.adv (pc' := 5) (ls' := [.ref 3, .int x1, .int x2, .int (σ.1 (2 * 3 + 15) (x3).toNatClampNeg), .int (x4 + 1)]) (st' := []) (σ' := σ) 3 rfl ?_
    exact h
  · refine Wp.adv (pc' := 29) (ls' := [.ref 4, .int x1, .int x2, .int x3, .int x4]) (st' := [.int x3, .ref (2 * 4 + 15)]) (σ' := σ) 3 rfl ?_
    refine Wp.iald (N := 40) rfl rfl c1 ?_
    refine Wp.adv (pc' := 5) (ls' := [.ref 4, .int x1, .int x2, .int (σ.1 (2 * 4 + 15) (x3).toNatClampNeg), .int (x4 + 1)]) (st' := []) (σ' := σ) 3 rfl ?_
    exact h
theorem b27_37 {d : Nat} {Q : Option Value → px_S → Prop} {σ : px_S} {x1 x2 x3 x4 : Int32} {k : Nat} (hk : k = 3 ∨ k = 4) (h : Q (some (.int (0 : Int32))) σ) : Wp d tb_27 37 [.ref k, .int x1, .int x2, .int x3, .int x4] [] σ Q := by
  rcases hk with rfl | rfl
  · refine Wp.adv (pc' := 38) (ls' := [.ref 3, .int x1, .int x2, .int x3, .int x4]) (st' := [.int (0 : Int32)]) (σ' := σ) 1 rfl ?_
    exact Wp.zret rfl (by decide) h
  · refine Wp.adv (pc' := 38) (ls' := [.ref 4, .int x1, .int x2, .int x3, .int x4]) (st' := [.int (0 : Int32)]) (σ' := σ) 1 rfl ?_
    exact Wp.zret rfl (by decide) h
theorem e27 {d : Nat} {Q : Option Value → px_S → Prop} {σ : px_S} {x1 x2 : Int32} {k : Nat} (h : Wp d tb_27 0 [.ref k, .int x1, .int x2, .null, .null] [] σ Q) : Cw (d + 1) 27 [.ref k, .int x1, .int x2] σ Q := Cw.of (nL := 5) (y := yX2_leadsTo) (cc := cX2_leadsTo) (rt := some .boolean) rfl (Nat.le_of_ble_eq_true rfl) h
theorem b28_0 {d : Nat} {Q : Option Value → px_S → Prop} {σ : px_S} {x1 x2 : Int32} {k : Nat} (hk : k = 3 ∨ k = 4) (c1 : vp_in x2 40) (ht : (σ.1 12 (x2).toNatClampNeg) = (-1 : Int32) → Wp d tb_28 51 [.ref k, .int x1, .int x2] [] σ Q) (hf : ¬ ((σ.1 12 (x2).toNatClampNeg) = (-1 : Int32)) → Wp d tb_28 13 [.ref k, .int x1, .int x2] [] σ Q) : Wp d tb_28 0 [.ref k, .int x1, .int x2] [] σ Q := by
  rcases hk with rfl | rfl
  · refine Wp.adv (pc' := 8) (ls' := [.ref 3, .int x1, .int x2]) (st' := [.int x2, .ref 12]) (σ' := σ) 4 rfl ?_
    refine Wp.iald (N := 40) rfl rfl c1 ?_
    refine Wp.adv (pc' := 10) (ls' := [.ref 3, .int x1, .int x2]) (st' := [.int (-1 : Int32), .int (σ.1 12 (x2).toNatClampNeg)]) (σ' := σ) 1 rfl ?_
    exact Wp.icmp rfl ht hf
  · refine Wp.adv (pc' := 8) (ls' := [.ref 4, .int x1, .int x2]) (st' := [.int x2, .ref 12]) (σ' := σ) 4 rfl ?_
    refine Wp.iald (N := 40) rfl rfl c1 ?_
    refine Wp.adv (pc' := 10) (ls' := [.ref 4, .int x1, .int x2]) (st' := [.int (-1 : Int32), .int (σ.1 12 (x2).toNatClampNeg)]) (σ' := σ) 1 rfl ?_
    exact Wp.icmp rfl ht hf
theorem b28_13 {d : Nat} {Q : Option Value → px_S → Prop} {σ : px_S} {x1 x2 : Int32} {k : Nat} (hk : k = 3 ∨ k = 4) (c1 : vp_in x1 40) (ht : (σ.1 12 (x1).toNatClampNeg) = (-1 : Int32) → Wp d tb_28 51 [.ref k, .int x1, .int x2] [] σ Q) (hf : ¬ ((σ.1 12 (x1).toNatClampNeg) = (-1 : Int32)) → Wp d tb_28 26 [.ref k, .int x1, .int x2] [] σ Q) : Wp d tb_28 13 [.ref k, .int x1, .int x2] [] σ Q := by
  rcases hk with rfl | rfl
  · refine Wp.adv (pc' := 21) (ls' := [.ref 3, .int x1, .int x2]) (st' := [.int x1, .ref 12]) (σ' := σ) 4 rfl ?_
    refine Wp.iald (N := 40) rfl rfl c1 ?_
    refine Wp.adv (pc' := 23) (ls' := [.ref 3, .int x1, .int x2]) (st' := [.int (-1 : Int32), .int (σ.1 12 (x1).toNatClampNeg)]) (σ' := σ) 1 rfl ?_
    exact Wp.icmp rfl ht hf
  · refine Wp.adv (pc' := 21) (ls' := [.ref 4, .int x1, .int x2]) (st' := [.int x1, .ref 12]) (σ' := σ) 4 rfl ?_
    refine Wp.iald (N := 40) rfl rfl c1 ?_
    refine Wp.adv (pc' := 23) (ls' := [.ref 4, .int x1, .int x2]) (st' := [.int (-1 : Int32), .int (σ.1 12 (x1).toNatClampNeg)]) (σ' := σ) 1 rfl ?_
    exact Wp.icmp rfl ht hf
theorem b28_26 {d : Nat} {Q : Option Value → px_S → Prop} {σ : px_S} {x1 x2 : Int32} {k : Nat} (hk : k = 3 ∨ k = 4) (c1 : vp_in x1 40) (c2 : vp_in x2 40) (ht : (σ.1 12 (x1).toNatClampNeg) ≤ (σ.1 12 (x2).toNatClampNeg) → Wp d tb_28 51 [.ref k, .int x1, .int x2] [] σ Q) (hf : ¬ ((σ.1 12 (x1).toNatClampNeg) ≤ (σ.1 12 (x2).toNatClampNeg)) → Wp d tb_28 47 [.ref k, .int x1, .int x2] [] σ Q) : Wp d tb_28 26 [.ref k, .int x1, .int x2] [] σ Q := by
  rcases hk with rfl | rfl
  · refine Wp.adv (pc' := 34) (ls' := [.ref 3, .int x1, .int x2]) (st' := [.int x1, .ref 12]) (σ' := σ) 4 rfl ?_
    refine Wp.iald (N := 40) rfl rfl c1 ?_
    refine Wp.adv (pc' := 43) (ls' := [.ref 3, .int x1, .int x2]) (st' := [.int x2, .ref 12, .int (σ.1 12 (x1).toNatClampNeg)]) (σ' := σ) 4 rfl ?_
    refine Wp.iald (N := 40) rfl rfl c2 ?_
    exact Wp.icmp rfl ht hf
  · refine Wp.adv (pc' := 34) (ls' := [.ref 4, .int x1, .int x2]) (st' := [.int x1, .ref 12]) (σ' := σ) 4 rfl ?_
    refine Wp.iald (N := 40) rfl rfl c1 ?_
    refine Wp.adv (pc' := 43) (ls' := [.ref 4, .int x1, .int x2]) (st' := [.int x2, .ref 12, .int (σ.1 12 (x1).toNatClampNeg)]) (σ' := σ) 4 rfl ?_
    refine Wp.iald (N := 40) rfl rfl c2 ?_
    exact Wp.icmp rfl ht hf
theorem b28_47 {d : Nat} {Q : Option Value → px_S → Prop} {σ : px_S} {x1 x2 : Int32} {k : Nat} (hk : k = 3 ∨ k = 4) (h : Wp d tb_28 52 [.ref k, .int x1, .int x2] [.int (1 : Int32)] σ Q) : Wp d tb_28 47 [.ref k, .int x1, .int x2] [] σ Q := by
  rcases hk with rfl | rfl
  · refine Wp.adv (pc' := 52) (ls' := [.ref 3, .int x1, .int x2]) (st' := [.int (1 : Int32)]) (σ' := σ) 2 rfl ?_
    exact h
  · refine Wp.adv (pc' := 52) (ls' := [.ref 4, .int x1, .int x2]) (st' := [.int (1 : Int32)]) (σ' := σ) 2 rfl ?_
    exact h
theorem b28_51 {d : Nat} {Q : Option Value → px_S → Prop} {σ : px_S} {x1 x2 : Int32} {k : Nat} (hk : k = 3 ∨ k = 4) (h : Wp d tb_28 52 [.ref k, .int x1, .int x2] [.int (0 : Int32)] σ Q) : Wp d tb_28 51 [.ref k, .int x1, .int x2] [] σ Q := by
  rcases hk with rfl | rfl
  · refine Wp.adv (pc' := 52) (ls' := [.ref 3, .int x1, .int x2]) (st' := [.int (0 : Int32)]) (σ' := σ) 1 rfl ?_
    exact h
  · refine Wp.adv (pc' := 52) (ls' := [.ref 4, .int x1, .int x2]) (st' := [.int (0 : Int32)]) (σ' := σ) 1 rfl ?_
    exact h
theorem b28_52 {d : Nat} {Q : Option Value → px_S → Prop} {σ : px_S} {x1 x2 s0 : Int32} {k : Nat} (hk : k = 3 ∨ k = 4) (c1 : s0 = 0 ∨ s0 = 1) (h : Q (some (.int s0)) σ) : Wp d tb_28 52 [.ref k, .int x1, .int x2] [.int s0] σ Q := by
  rcases hk with rfl | rfl
  · exact Wp.zret rfl c1 h
  · exact Wp.zret rfl c1 h
theorem e28 {d : Nat} {Q : Option Value → px_S → Prop} {σ : px_S} {x1 x2 : Int32} {k : Nat} (h : Wp d tb_28 0 [.ref k, .int x1, .int x2] [] σ Q) : Cw (d + 1) 28 [.ref k, .int x1, .int x2] σ Q := Cw.of (nL := 3) (y := yX2_isAfter) (cc := cX2_isAfter) (rt := some .boolean) rfl (Nat.le_of_ble_eq_true rfl) h
theorem b29_0 {d : Nat} {Q : Option Value → px_S → Prop} {σ : px_S} {x1 x2 : Int32} (c1 : vp_in (((40 : Int32) * x1) + x2) 1600) (ht : ¬ (σ.1 18 ((((40 : Int32) * x1) + x2)).toNatClampNeg) = (-1 : Int32) → Wp d tb_29 29 [.ref 2, .int x1, .int x2, .int (((40 : Int32) * x1) + x2)] [] σ Q) (hf : ¬ (¬ (σ.1 18 ((((40 : Int32) * x1) + x2)).toNatClampNeg) = (-1 : Int32)) → Wp d tb_29 17 [.ref 2, .int x1, .int x2, .int (((40 : Int32) * x1) + x2)] [] σ Q) : Wp d tb_29 0 [.ref 2, .int x1, .int x2, .null] [] σ Q := by
  refine Wp.adv (pc' := 12) (ls' := [.ref 2, .int x1, .int x2, .int (((40 : Int32) * x1) + x2)]) (st' := [.int (((40 : Int32) * x1) + x2), .ref 18]) (σ' := σ) 9 rfl ?_
  refine Wp.iald (N := 1600) rfl rfl c1 ?_
  refine Wp.adv (pc' := 14) (ls' := [.ref 2, .int x1, .int x2, .int (((40 : Int32) * x1) + x2)]) (st' := [.int (-1 : Int32), .int (σ.1 18 ((((40 : Int32) * x1) + x2)).toNatClampNeg)]) (σ' := σ) 1 rfl ?_
  exact Wp.icmp rfl ht hf
theorem b29_17 {d : Nat} {Q : Option Value → px_S → Prop} {σ : px_S} {x1 x2 x3 : Int32} (h : Cw d 30 [.ref 2, .int x1, .int x2] σ (fun r τ => Wp d tb_29 28 [.ref 2, .int x1, .int x2, .int x3] (r.toList ++ [.int x3, .ref 18]) τ Q)) : Wp d tb_29 17 [.ref 2, .int x1, .int x2, .int x3] [] σ Q := by
  refine Wp.adv (pc' := 25) (ls' := [.ref 2, .int x1, .int x2, .int x3]) (st' := [.int x2, .int x1, .ref 2, .int x3, .ref 18]) (σ' := σ) 6 rfl ?_
  exact Wp.call (q := (30, 3, 1, 28)) rfl (Nat.le_of_ble_eq_true rfl) rfl h
theorem b29_28 {d : Nat} {Q : Option Value → px_S → Prop} {σ : px_S} {x1 x2 x3 s0 s1 : Int32} (c1 : vp_in s1 1600) (h : Wp d tb_29 29 [.ref 2, .int x1, .int x2, .int x3] [] (px_uI σ 18 (s1).toNatClampNeg s0) Q) : Wp d tb_29 28 [.ref 2, .int x1, .int x2, .int x3] [.int s0, .int s1, .ref 18] σ Q := by
  refine Wp.iast (N := 1600) rfl rfl c1 ?_
  exact h
theorem b29_29 {d : Nat} {Q : Option Value → px_S → Prop} {σ : px_S} {x1 x2 x3 : Int32} (c1 : vp_in x3 1600) (h : Q (some (.int (σ.1 18 (x3).toNatClampNeg))) σ) : Wp d tb_29 29 [.ref 2, .int x1, .int x2, .int x3] [] σ Q := by
  refine Wp.adv (pc' := 34) (ls' := [.ref 2, .int x1, .int x2, .int x3]) (st' := [.int x3, .ref 18]) (σ' := σ) 3 rfl ?_
  refine Wp.iald (N := 1600) rfl rfl c1 ?_
  exact Wp.ret rfl rfl h
theorem e29 {d : Nat} {Q : Option Value → px_S → Prop} {σ : px_S} {x1 x2 : Int32} (h : Wp d tb_29 0 [.ref 2, .int x1, .int x2, .null] [] σ Q) : Cw (d + 1) 29 [.ref 2, .int x1, .int x2] σ Q := Cw.of (nL := 4) (y := yX0_of) (cc := cX0_of) (rt := some .int) rfl (Nat.le_of_ble_eq_true rfl) h
theorem b30_0 {d : Nat} {Q : Option Value → px_S → Prop} {σ : px_S} {x1 x2 : Int32} (h : Cw d 0 [.ref 19, .int (0 : Int32)] σ (fun r τ => Wp d tb_30 8 [.ref 2, .int x1, .int x2, .null, .null, .null, .null, .null] (r.toList ++ []) τ Q)) : Wp d tb_30 0 [.ref 2, .int x1, .int x2, .null, .null, .null, .null, .null] [] σ Q := by
  refine Wp.adv (pc' := 5) (ls' := [.ref 2, .int x1, .int x2, .null, .null, .null, .null, .null]) (st' := [.int (0 : Int32), .ref 19]) (σ' := σ) 3 rfl ?_
  exact Wp.call (q := (0, 2, 0, 8)) rfl (Nat.le_of_ble_eq_true rfl) rfl h
theorem b30_8 {d : Nat} {Q : Option Value → px_S → Prop} {σ : px_S} {x1 x2 : Int32} (h : Wp d tb_30 10 [.ref 2, .int x1, .int x2, .int (0 : Int32), .null, .null, .null, .null] [] σ Q) : Wp d tb_30 8 [.ref 2, .int x1, .int x2, .null, .null, .null, .null, .null] [] σ Q := by
  refine Wp.adv (pc' := 10) (ls' := [.ref 2, .int x1, .int x2, .int (0 : Int32), .null, .null, .null, .null]) (st' := []) (σ' := σ) 2 rfl ?_
  exact h
theorem b30_10 {d : Nat} {Q : Option Value → px_S → Prop} {σ : px_S} {x1 x2 x3 : Int32} {v4 v5 v6 v7 : Value} (c1 : vp_in x1 40) (ht : (σ.1 14 (x1).toNatClampNeg) ≤ x3 → Wp d tb_30 126 [.ref 2, .int x1, .int x2, .int x3, v4, v5, v6, v7] [] σ Q) (hf : ¬ ((σ.1 14 (x1).toNatClampNeg) ≤ x3) → Wp d tb_30 23 [.ref 2, .int x1, .int x2, .int x3, v4, v5, v6, v7] [] σ Q) : Wp d tb_30 10 [.ref 2, .int x1, .int x2, .int x3, v4, v5, v6, v7] [] σ Q := by
  refine Wp.adv (pc' := 19) (ls' := [.ref 2, .int x1, .int x2, .int x3, v4, v5, v6, v7]) (st' := [.int x1, .ref 14, .int x3]) (σ' := σ) 5 rfl ?_
  refine Wp.iald (N := 40) rfl rfl c1 ?_
  exact Wp.icmp rfl ht hf
theorem b30_23 {d : Nat} {Q : Option Value → px_S → Prop} {σ : px_S} {x1 x2 x3 : Int32} {v4 v5 v6 v7 : Value} (h : Wp d tb_30 29 [.ref 2, .int x1, .int x2, .int x3, .int (0 : Int32), .int (0 : Int32), v6, v7] [] σ Q) : Wp d tb_30 23 [.ref 2, .int x1, .int x2, .int x3, v4, v5, v6, v7] [] σ Q := by
  refine Wp.adv (pc' := 29) (ls' := [.ref 2, .int x1, .int x2, .int x3, .int (0 : Int32), .int (0 : Int32), v6, v7]) (st' := []) (σ' := σ) 4 rfl ?_
  exact h
theorem b30_29 {d : Nat} {Q : Option Value → px_S → Prop} {σ : px_S} {x1 x2 x3 x4 x5 : Int32} {v6 v7 : Value} (c1 : vp_in x2 40) (ht : (σ.1 14 (x2).toNatClampNeg) ≤ x5 → Wp d tb_30 120 [.ref 2, .int x1, .int x2, .int x3, .int x4, .int x5, v6, v7] [] σ Q) (hf : ¬ ((σ.1 14 (x2).toNatClampNeg) ≤ x5) → Wp d tb_30 43 [.ref 2, .int x1, .int x2, .int x3, .int x4, .int x5, v6, v7] [] σ Q) : Wp d tb_30 29 [.ref 2, .int x1, .int x2, .int x3, .int x4, .int x5, v6, v7] [] σ Q := by
  refine Wp.adv (pc' := 39) (ls' := [.ref 2, .int x1, .int x2, .int x3, .int x4, .int x5, v6, v7]) (st' := [.int x2, .ref 14, .int x5]) (σ' := σ) 5 rfl ?_
  refine Wp.iald (N := 40) rfl rfl c1 ?_
  exact Wp.icmp rfl ht hf
theorem b30_43 {d : Nat} {Q : Option Value → px_S → Prop} {σ : px_S} {x1 x2 x3 x4 x5 : Int32} {v6 v7 : Value} (c1 : vp_in (x5 + (1 : Int32)) 15) (c2 : vp_in x5 15) (ht : ¬ x4 = (if (σ.1 19 ((x5 + (1 : Int32))).toNatClampNeg) < (σ.1 19 (x5).toNatClampNeg) then (σ.1 19 (x5).toNatClampNeg) else (σ.1 19 ((x5 + (1 : Int32))).toNatClampNeg)) → Wp d tb_30 99 [.ref 2, .int x1, .int x2, .int x3, .int x4, .int x5, .int (σ.1 19 ((x5 + (1 : Int32))).toNatClampNeg), .int (if (σ.1 19 ((x5 + (1 : Int32))).toNatClampNeg) < (σ.1 19 (x5).toNatClampNeg) then (σ.1 19 (x5).toNatClampNeg) else (σ.1 19 ((x5 + (1 : Int32))).toNatClampNeg))] [] σ Q) (hf : ¬ (¬ x4 = (if (σ.1 19 ((x5 + (1 : Int32))).toNatClampNeg) < (σ.1 19 (x5).toNatClampNeg) then (σ.1 19 (x5).toNatClampNeg) else (σ.1 19 ((x5 + (1 : Int32))).toNatClampNeg))) → Wp d tb_30 75 [.ref 2, .int x1, .int x2, .int x3, .int x4, .int x5, .int (σ.1 19 ((x5 + (1 : Int32))).toNatClampNeg), .int (if (σ.1 19 ((x5 + (1 : Int32))).toNatClampNeg) < (σ.1 19 (x5).toNatClampNeg) then (σ.1 19 (x5).toNatClampNeg) else (σ.1 19 ((x5 + (1 : Int32))).toNatClampNeg))] [] σ Q) : Wp d tb_30 43 [.ref 2, .int x1, .int x2, .int x3, .int x4, .int x5, v6, v7] [] σ Q := by
  refine Wp.adv (pc' := 51) (ls' := [.ref 2, .int x1, .int x2, .int x3, .int x4, .int x5, v6, v7]) (st' := [.int (x5 + (1 : Int32)), .ref 19]) (σ' := σ) 5 rfl ?_
  refine Wp.iald (N := 15) rfl rfl c1 ?_
  refine Wp.adv (pc' := 62) (ls' := [.ref 2, .int x1, .int x2, .int x3, .int x4, .int x5, .int (σ.1 19 ((x5 + (1 : Int32))).toNatClampNeg), v7]) (st' := [.int x5, .ref 19, .int (σ.1 19 ((x5 + (1 : Int32))).toNatClampNeg)]) (σ' := σ) 5 rfl ?_
  refine Wp.iald (N := 15) rfl rfl c2 ?_
  refine Wp.adv (pc' := 72) (ls' := [.ref 2, .int x1, .int x2, .int x3, .int x4, .int x5, .int (σ.1 19 ((x5 + (1 : Int32))).toNatClampNeg), .int (if (σ.1 19 ((x5 + (1 : Int32))).toNatClampNeg) < (σ.1 19 (x5).toNatClampNeg) then (σ.1 19 (x5).toNatClampNeg) else (σ.1 19 ((x5 + (1 : Int32))).toNatClampNeg))]) (st' := [.int (if (σ.1 19 ((x5 + (1 : Int32))).toNatClampNeg) < (σ.1 19 (x5).toNatClampNeg) then (σ.1 19 (x5).toNatClampNeg) else (σ.1 19 ((x5 + (1 : Int32))).toNatClampNeg)), .int x4]) (σ' := σ) 4 rfl ?_
  exact Wp.icmp rfl ht hf
theorem b30_75 {d : Nat} {Q : Option Value → px_S → Prop} {σ : px_S} {x1 x2 x3 x4 x5 x6 x7 : Int32} (h : Cw d 11 [.int x1, .int x3] σ (fun r τ => Wp d tb_30 81 [.ref 2, .int x1, .int x2, .int x3, .int x4, .int x5, .int x6, .int x7] (r.toList ++ [.ref 2]) τ Q)) : Wp d tb_30 75 [.ref 2, .int x1, .int x2, .int x3, .int x4, .int x5, .int x6, .int x7] [] σ Q := by
  refine Wp.adv (pc' := 78) (ls' := [.ref 2, .int x1, .int x2, .int x3, .int x4, .int x5, .int x6, .int x7]) (st' := [.int x3, .int x1, .ref 2]) (σ' := σ) 3 rfl ?_
  exact Wp.call (q := (11, 2, 0, 81)) rfl (Nat.le_of_ble_eq_true rfl) rfl h
theorem b30_81 {d : Nat} {Q : Option Value → px_S → Prop} {σ : px_S} {x1 x2 x3 x4 x5 x6 x7 s0 : Int32} (h : Cw d 11 [.int x2, .int x5] σ (fun r τ => Wp d tb_30 87 [.ref 2, .int x1, .int x2, .int x3, .int x4, .int x5, .int x6, .int x7] (r.toList ++ [.int s0, .ref 2]) τ Q)) : Wp d tb_30 81 [.ref 2, .int x1, .int x2, .int x3, .int x4, .int x5, .int x6, .int x7] [.int s0, .ref 2] σ Q := by
  refine Wp.adv (pc' := 84) (ls' := [.ref 2, .int x1, .int x2, .int x3, .int x4, .int x5, .int x6, .int x7]) (st' := [.int x5, .int x2, .int s0, .ref 2]) (σ' := σ) 2 rfl ?_
  exact Wp.call (q := (11, 2, 0, 87)) rfl (Nat.le_of_ble_eq_true rfl) rfl h
theorem b30_87 {d : Nat} {Q : Option Value → px_S → Prop} {σ : px_S} {x1 x2 x3 x4 x5 x6 x7 s0 s1 : Int32} (h : Cw d 31 [.ref 2, .int s1, .int s0] σ (fun r τ => Wp d tb_30 90 [.ref 2, .int x1, .int x2, .int x3, .int x4, .int x5, .int x6, .int x7] (r.toList ++ []) τ Q)) : Wp d tb_30 87 [.ref 2, .int x1, .int x2, .int x3, .int x4, .int x5, .int x6, .int x7] [.int s0, .int s1, .ref 2] σ Q := by
  exact Wp.call (q := (31, 3, 1, 90)) rfl (Nat.le_of_ble_eq_true rfl) rfl h
theorem b30_90 {d : Nat} {Q : Option Value → px_S → Prop} {σ : px_S} {x1 x2 x3 x4 x5 x6 x7 s0 : Int32} (ht : s0 = 0 → Wp d tb_30 99 [.ref 2, .int x1, .int x2, .int x3, .int x4, .int x5, .int x6, .int x7] [] σ Q) (hf : ¬ (s0 = 0) → Wp d tb_30 93 [.ref 2, .int x1, .int x2, .int x3, .int x4, .int x5, .int x6, .int x7] [] σ Q) : Wp d tb_30 90 [.ref 2, .int x1, .int x2, .int x3, .int x4, .int x5, .int x6, .int x7] [.int s0] σ Q := by
  exact Wp.if_ rfl ht hf
theorem b30_93 {d : Nat} {Q : Option Value → px_S → Prop} {σ : px_S} {x1 x2 x3 x4 x5 x6 x7 : Int32} (h : Wp d tb_30 99 [.ref 2, .int x1, .int x2, .int x3, .int x4, .int x5, .int x6, .int (x4 + (1 : Int32))] [] σ Q) : Wp d tb_30 93 [.ref 2, .int x1, .int x2, .int x3, .int x4, .int x5, .int x6, .int x7] [] σ Q := by
  refine Wp.adv (pc' := 99) (ls' := [.ref 2, .int x1, .int x2, .int x3, .int x4, .int x5, .int x6, .int (x4 + (1 : Int32))]) (st' := []) (σ' := σ) 4 rfl ?_
  exact h
theorem b30_99 {d : Nat} {Q : Option Value → px_S → Prop} {σ : px_S} {x1 x2 x3 x4 x5 x6 x7 : Int32} (c1 : vp_in (x5 + (1 : Int32)) 15) (h : Wp d tb_30 110 [.ref 2, .int x1, .int x2, .int x3, .int x4, .int x5, .int x6, .int x7] [] (px_uI σ 19 ((x5 + (1 : Int32))).toNatClampNeg x7) Q) : Wp d tb_30 99 [.ref 2, .int x1, .int x2, .int x3, .int x4, .int x5, .int x6, .int x7] [] σ Q := by
  refine Wp.adv (pc' := 109) (ls' := [.ref 2, .int x1, .int x2, .int x3, .int x4, .int x5, .int x6, .int x7]) (st' := [.int x7, .int (x5 + (1 : Int32)), .ref 19]) (σ' := σ) 6 rfl ?_
  refine Wp.iast (N := 15) rfl rfl c1 ?_
  exact h
theorem b30_110 {d : Nat} {Q : Option Value → px_S → Prop} {σ : px_S} {x1 x2 x3 x4 x5 x6 x7 : Int32} (h : Wp d tb_30 29 [.ref 2, .int x1, .int x2, .int x3, .int x6, .int (x5 + 1), .int x6, .int x7] [] σ Q) : Wp d tb_30 110 [.ref 2, .int x1, .int x2, .int x3, .int x4, .int x5, .int x6, .int x7] [] σ Q := by
  refine Wp.adv (pc' := 29) (ls' := [.ref 2, .int x1, .int x2, .int x3, .int x6, .int (x5 + 1), .int x6, .int x7]) (st' := []) (σ' := σ) 4 rfl ?_
  exact h
theorem b30_120 {d : Nat} {Q : Option Value → px_S → Prop} {σ : px_S} {x1 x2 x3 x4 x5 : Int32} {v6 v7 : Value} (h : Wp d tb_30 10 [.ref 2, .int x1, .int x2, .int (x3 + 1), .int x4, .int x5, v6, v7] [] σ Q) : Wp d tb_30 120 [.ref 2, .int x1, .int x2, .int x3, .int x4, .int x5, v6, v7] [] σ Q := by
  refine Wp.adv (pc' := 10) (ls' := [.ref 2, .int x1, .int x2, .int (x3 + 1), .int x4, .int x5, v6, v7]) (st' := []) (σ' := σ) 2 rfl ?_
  exact h
theorem b30_126 {d : Nat} {Q : Option Value → px_S → Prop} {σ : px_S} {x1 x2 x3 : Int32} {v4 v5 v6 v7 : Value} (c1 : vp_in x2 40) (c2 : vp_in (σ.1 14 (x2).toNatClampNeg) 15) (h : Q (some (.int (σ.1 19 ((σ.1 14 (x2).toNatClampNeg)).toNatClampNeg))) σ) : Wp d tb_30 126 [.ref 2, .int x1, .int x2, .int x3, v4, v5, v6, v7] [] σ Q := by
  refine Wp.adv (pc' := 138) (ls' := [.ref 2, .int x1, .int x2, .int x3, v4, v5, v6, v7]) (st' := [.int x2, .ref 14, .ref 19]) (σ' := σ) 6 rfl ?_
  refine Wp.iald (N := 40) rfl rfl c1 ?_
  refine Wp.iald (N := 15) rfl rfl c2 ?_
  exact Wp.ret rfl rfl h
theorem e30 {d : Nat} {Q : Option Value → px_S → Prop} {σ : px_S} {x1 x2 : Int32} (h : Wp d tb_30 0 [.ref 2, .int x1, .int x2, .null, .null, .null, .null, .null] [] σ Q) : Cw (d + 1) 30 [.ref 2, .int x1, .int x2] σ Q := Cw.of (nL := 8) (y := yX0_mostPairs) (cc := cX0_mostPairs) (rt := some .int) rfl (Nat.le_of_ble_eq_true rfl) h
theorem b31_0 {d : Nat} {Q : Option Value → px_S → Prop} {σ : px_S} {x1 x2 : Int32} (c1 : vp_in x1 560) (ht : (σ.1 16 (x1).toNatClampNeg) = 0 → Wp d tb_31 35 [.ref 2, .int x1, .int x2] [] σ Q) (hf : ¬ ((σ.1 16 (x1).toNatClampNeg) = 0) → Wp d tb_31 12 [.ref 2, .int x1, .int x2] [] σ Q) : Wp d tb_31 0 [.ref 2, .int x1, .int x2] [] σ Q := by
  refine Wp.adv (pc' := 8) (ls' := [.ref 2, .int x1, .int x2]) (st' := [.int x1, .ref 16]) (σ' := σ) 4 rfl ?_
  refine Wp.iald (N := 560) rfl rfl c1 ?_
  exact Wp.if_ rfl ht hf
theorem b31_12 {d : Nat} {Q : Option Value → px_S → Prop} {σ : px_S} {x1 x2 : Int32} (c1 : vp_in x2 560) (c2 : vp_in x1 560) (ht : (σ.1 16 (x2).toNatClampNeg) = ((σ.1 16 (x1).toNatClampNeg) - (1 : Int32)) → Wp d tb_31 37 [.ref 2, .int x1, .int x2] [] σ Q) (hf : ¬ ((σ.1 16 (x2).toNatClampNeg) = ((σ.1 16 (x1).toNatClampNeg) - (1 : Int32))) → Wp d tb_31 35 [.ref 2, .int x1, .int x2] [] σ Q) : Wp d tb_31 12 [.ref 2, .int x1, .int x2] [] σ Q := by
  refine Wp.adv (pc' := 20) (ls' := [.ref 2, .int x1, .int x2]) (st' := [.int x2, .ref 16]) (σ' := σ) 4 rfl ?_
  refine Wp.iald (N := 560) rfl rfl c1 ?_
  refine Wp.adv (pc' := 29) (ls' := [.ref 2, .int x1, .int x2]) (st' := [.int x1, .ref 16, .int (σ.1 16 (x2).toNatClampNeg)]) (σ' := σ) 4 rfl ?_
  refine Wp.iald (N := 560) rfl rfl c2 ?_
  refine Wp.adv (pc' := 32) (ls' := [.ref 2, .int x1, .int x2]) (st' := [.int ((σ.1 16 (x1).toNatClampNeg) - (1 : Int32)), .int (σ.1 16 (x2).toNatClampNeg)]) (σ' := σ) 2 rfl ?_
  exact Wp.icmp rfl ht hf
theorem b31_35 {d : Nat} {Q : Option Value → px_S → Prop} {σ : px_S} {x1 x2 : Int32} (h : Q (some (.int (0 : Int32))) σ) : Wp d tb_31 35 [.ref 2, .int x1, .int x2] [] σ Q := by
  refine Wp.adv (pc' := 36) (ls' := [.ref 2, .int x1, .int x2]) (st' := [.int (0 : Int32)]) (σ' := σ) 1 rfl ?_
  exact Wp.zret rfl (by decide) h
theorem b31_37 {d : Nat} {Q : Option Value → px_S → Prop} {σ : px_S} {x1 x2 : Int32} (c1 : vp_in x1 560) (c2 : vp_in x2 560) (ht : ¬ (lg_cmp (σ.2.1 17 (x1).toNatClampNeg) (σ.2.1 17 (x2).toNatClampNeg)) = 0 → Wp d tb_31 61 [.ref 2, .int x1, .int x2] [] σ Q) (hf : ¬ (¬ (lg_cmp (σ.2.1 17 (x1).toNatClampNeg) (σ.2.1 17 (x2).toNatClampNeg)) = 0) → Wp d tb_31 59 [.ref 2, .int x1, .int x2] [] σ Q) : Wp d tb_31 37 [.ref 2, .int x1, .int x2] [] σ Q := by
  refine Wp.adv (pc' := 45) (ls' := [.ref 2, .int x1, .int x2]) (st' := [.int x1, .ref 17]) (σ' := σ) 4 rfl ?_
  refine Wp.lald (N := 560) rfl rfl c1 ?_
  refine Wp.adv (pc' := 54) (ls' := [.ref 2, .int x1, .int x2]) (st' := [.int x2, .ref 17, .long (σ.2.1 17 (x1).toNatClampNeg)]) (σ' := σ) 4 rfl ?_
  refine Wp.lald (N := 560) rfl rfl c2 ?_
  refine Wp.adv (pc' := 56) (ls' := [.ref 2, .int x1, .int x2]) (st' := [.int (lg_cmp (σ.2.1 17 (x1).toNatClampNeg) (σ.2.1 17 (x2).toNatClampNeg))]) (σ' := σ) 1 rfl ?_
  exact Wp.if_ rfl ht hf
theorem b31_59 {d : Nat} {Q : Option Value → px_S → Prop} {σ : px_S} {x1 x2 : Int32} (h : Q (some (.int (1 : Int32))) σ) : Wp d tb_31 59 [.ref 2, .int x1, .int x2] [] σ Q := by
  refine Wp.adv (pc' := 60) (ls' := [.ref 2, .int x1, .int x2]) (st' := [.int (1 : Int32)]) (σ' := σ) 1 rfl ?_
  exact Wp.zret rfl (by decide) h
theorem b31_61 {d : Nat} {Q : Option Value → px_S → Prop} {σ : px_S} {x1 x2 : Int32} (c1 : vp_in (0 : Int32) 5) (ht : (σ.1 10 ((0 : Int32)).toNatClampNeg) ≤ 0 → Wp d tb_31 105 [.ref 2, .int x1, .int x2] [] σ Q) (hf : ¬ ((σ.1 10 ((0 : Int32)).toNatClampNeg) ≤ 0) → Wp d tb_31 70 [.ref 2, .int x1, .int x2] [] σ Q) : Wp d tb_31 61 [.ref 2, .int x1, .int x2] [] σ Q := by
  refine Wp.adv (pc' := 66) (ls' := [.ref 2, .int x1, .int x2]) (st' := [.int (0 : Int32), .ref 10]) (σ' := σ) 3 rfl ?_
  refine Wp.iald (N := 5) rfl rfl c1 ?_
  exact Wp.if_ rfl ht hf
theorem b31_70 {d : Nat} {Q : Option Value → px_S → Prop} {σ : px_S} {x1 x2 : Int32} (c1 : vp_in x1 560) (c2 : vp_in x2 560) (h : Cw d 32 [.ref 2, .long (σ.2.1 17 (x1).toNatClampNeg), .long (σ.2.1 17 (x2).toNatClampNeg)] σ (fun r τ => Wp d tb_31 92 [.ref 2, .int x1, .int x2] (r.toList ++ []) τ Q)) : Wp d tb_31 70 [.ref 2, .int x1, .int x2] [] σ Q := by
  refine Wp.adv (pc' := 79) (ls' := [.ref 2, .int x1, .int x2]) (st' := [.int x1, .ref 17, .ref 2]) (σ' := σ) 5 rfl ?_
  refine Wp.lald (N := 560) rfl rfl c1 ?_
  refine Wp.adv (pc' := 88) (ls' := [.ref 2, .int x1, .int x2]) (st' := [.int x2, .ref 17, .long (σ.2.1 17 (x1).toNatClampNeg), .ref 2]) (σ' := σ) 4 rfl ?_
  refine Wp.lald (N := 560) rfl rfl c2 ?_
  exact Wp.call (q := (32, 3, 1, 92)) rfl (Nat.le_of_ble_eq_true rfl) rfl h
theorem b31_92 {d : Nat} {Q : Option Value → px_S → Prop} {σ : px_S} {x1 x2 s0 : Int32} (c1 : vp_in (0 : Int32) 5) (ht : (σ.1 10 ((0 : Int32)).toNatClampNeg) < s0 → Wp d tb_31 105 [.ref 2, .int x1, .int x2] [] σ Q) (hf : ¬ ((σ.1 10 ((0 : Int32)).toNatClampNeg) < s0) → Wp d tb_31 101 [.ref 2, .int x1, .int x2] [] σ Q) : Wp d tb_31 92 [.ref 2, .int x1, .int x2] [.int s0] σ Q := by
  refine Wp.adv (pc' := 97) (ls' := [.ref 2, .int x1, .int x2]) (st' := [.int (0 : Int32), .ref 10, .int s0]) (σ' := σ) 3 rfl ?_
  refine Wp.iald (N := 5) rfl rfl c1 ?_
  exact Wp.icmp rfl ht hf
theorem b31_101 {d : Nat} {Q : Option Value → px_S → Prop} {σ : px_S} {x1 x2 : Int32} (h : Wp d tb_31 106 [.ref 2, .int x1, .int x2] [.int (1 : Int32)] σ Q) : Wp d tb_31 101 [.ref 2, .int x1, .int x2] [] σ Q := by
  refine Wp.adv (pc' := 106) (ls' := [.ref 2, .int x1, .int x2]) (st' := [.int (1 : Int32)]) (σ' := σ) 2 rfl ?_
  exact h
theorem b31_105 {d : Nat} {Q : Option Value → px_S → Prop} {σ : px_S} {x1 x2 : Int32} (h : Wp d tb_31 106 [.ref 2, .int x1, .int x2] [.int (0 : Int32)] σ Q) : Wp d tb_31 105 [.ref 2, .int x1, .int x2] [] σ Q := by
  refine Wp.adv (pc' := 106) (ls' := [.ref 2, .int x1, .int x2]) (st' := [.int (0 : Int32)]) (σ' := σ) 1 rfl ?_
  exact h
theorem b31_106 {d : Nat} {Q : Option Value → px_S → Prop} {σ : px_S} {x1 x2 s0 : Int32} (c1 : s0 = 0 ∨ s0 = 1) (h : Q (some (.int s0)) σ) : Wp d tb_31 106 [.ref 2, .int x1, .int x2] [.int s0] σ Q := by
  exact Wp.zret rfl c1 h
theorem e31 {d : Nat} {Q : Option Value → px_S → Prop} {σ : px_S} {x1 x2 : Int32} (h : Wp d tb_31 0 [.ref 2, .int x1, .int x2] [] σ Q) : Cw (d + 1) 31 [.ref 2, .int x1, .int x2] σ Q := Cw.of (nL := 3) (y := yX0_isLike) (cc := cX0_isLike) (rt := some .boolean) rfl (Nat.le_of_ble_eq_true rfl) h
theorem b32_0 {d : Nat} {Q : Option Value → px_S → Prop} {σ : px_S} {y1 y3 : Int64} (h : Cw d 33 [.long y1] σ (fun r τ => Wp d tb_32 4 [.ref 2, .long y1, .null, .long y3, .null, .null, .null, .null, .null, .null, .null, .null] (r.toList ++ []) τ Q)) : Wp d tb_32 0 [.ref 2, .long y1, .null, .long y3, .null, .null, .null, .null, .null, .null, .null, .null] [] σ Q := by
  refine Wp.adv (pc' := 1) (ls' := [.ref 2, .long y1, .null, .long y3, .null, .null, .null, .null, .null, .null, .null, .null]) (st' := [.long y1]) (σ' := σ) 1 rfl ?_
  exact Wp.call (q := (33, 1, 0, 4)) rfl (Nat.le_of_ble_eq_true rfl) rfl h
theorem b32_4 {d : Nat} {Q : Option Value → px_S → Prop} {σ : px_S} {s0 : Int32} {y1 y3 : Int64} (h : Cw d 33 [.long y3] σ (fun r τ => Wp d tb_32 10 [.ref 2, .long y1, .null, .long y3, .null, .int s0, .null, .null, .null, .null, .null, .null] (r.toList ++ []) τ Q)) : Wp d tb_32 4 [.ref 2, .long y1, .null, .long y3, .null, .null, .null, .null, .null, .null, .null, .null] [.int s0] σ Q := by
  refine Wp.adv (pc' := 7) (ls' := [.ref 2, .long y1, .null, .long y3, .null, .int s0, .null, .null, .null, .null, .null, .null]) (st' := [.long y3]) (σ' := σ) 2 rfl ?_
  exact Wp.call (q := (33, 1, 0, 10)) rfl (Nat.le_of_ble_eq_true rfl) rfl h
theorem b32_10 {d : Nat} {Q : Option Value → px_S → Prop} {σ : px_S} {x5 s0 : Int32} {y1 y3 : Int64} (h : Wp d tb_32 15 [.ref 2, .long y1, .null, .long y3, .null, .int x5, .int s0, .int (0 : Int32), .null, .null, .null, .null] [] σ Q) : Wp d tb_32 10 [.ref 2, .long y1, .null, .long y3, .null, .int x5, .null, .null, .null, .null, .null, .null] [.int s0] σ Q := by
  refine Wp.adv (pc' := 15) (ls' := [.ref 2, .long y1, .null, .long y3, .null, .int x5, .int s0, .int (0 : Int32), .null, .null, .null, .null]) (st' := []) (σ' := σ) 3 rfl ?_
  exact h
