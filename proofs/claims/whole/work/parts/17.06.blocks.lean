/-! ===== basic blocks, 6 ===== -/
theorem b173_0 {d : Nat} {Q : Option Value → px_S → Prop} {σ : px_S} {x1 x2 : Int32} (h : Wp d tb_173 2 [.ref 9, .int x1, .int x2, .int (0 : Int32), .null, .null] [] σ Q) : Wp d tb_173 0 [.ref 9, .int x1, .int x2, .null, .null, .null] [] σ Q := by
  refine Wp.adv (pc' := 2) (ls' := [.ref 9, .int x1, .int x2, .int (0 : Int32), .null, .null]) (st' := []) (σ' := σ) 2 rfl ?_
  exact h
theorem b173_2 {d : Nat} {Q : Option Value → px_S → Prop} {σ : px_S} {x1 x2 x3 : Int32} {v4 v5 : Value} (ht : (8 : Int32) ≤ x3 → Wp d tb_173 88 [.ref 9, .int x1, .int x2, .int x3, v4, v5] [] σ Q) (hf : ¬ ((8 : Int32) ≤ x3) → Wp d tb_173 8 [.ref 9, .int x1, .int x2, .int x3, v4, v5] [] σ Q) : Wp d tb_173 2 [.ref 9, .int x1, .int x2, .int x3, v4, v5] [] σ Q := by
  refine Wp.adv (pc' := 5) (ls' := [.ref 9, .int x1, .int x2, .int x3, v4, v5]) (st' := [.int (8 : Int32), .int x3]) (σ' := σ) 2 rfl ?_
  exact Wp.icmp rfl ht hf
theorem b173_8 {d : Nat} {Q : Option Value → px_S → Prop} {σ : px_S} {x1 x2 x3 : Int32} {v4 v5 : Value} (c1 : vp_in x1 560) (ht : (σ.1 44 (x1).toNatClampNeg) ≤ x3 → Wp d tb_173 32 [.ref 9, .int x1, .int x2, .int x3, v4, v5] [] σ Q) (hf : ¬ ((σ.1 44 (x1).toNatClampNeg) ≤ x3) → Wp d tb_173 18 [.ref 9, .int x1, .int x2, .int x3, v4, v5] [] σ Q) : Wp d tb_173 8 [.ref 9, .int x1, .int x2, .int x3, v4, v5] [] σ Q := by
  refine Wp.adv (pc' := 14) (ls' := [.ref 9, .int x1, .int x2, .int x3, v4, v5]) (st' := [.int x1, .ref 44, .int x3]) (σ' := σ) 4 rfl ?_
  refine Wp.iald (N := 560) rfl rfl c1 ?_
  exact Wp.icmp rfl ht hf
theorem b173_18 {d : Nat} {Q : Option Value → px_S → Prop} {σ : px_S} {x1 x2 x3 : Int32} {v4 v5 : Value} (c1 : vp_in (((8 : Int32) * x1) + x3) 4480) (h : Wp d tb_173 33 [.ref 9, .int x1, .int x2, .int x3, v4, v5] [.int (σ.1 45 ((((8 : Int32) * x1) + x3)).toNatClampNeg)] σ Q) : Wp d tb_173 18 [.ref 9, .int x1, .int x2, .int x3, v4, v5] [] σ Q := by
  refine Wp.adv (pc' := 28) (ls' := [.ref 9, .int x1, .int x2, .int x3, v4, v5]) (st' := [.int (((8 : Int32) * x1) + x3), .ref 45]) (σ' := σ) 7 rfl ?_
  refine Wp.iald (N := 4480) rfl rfl c1 ?_
  refine Wp.adv (pc' := 33) (ls' := [.ref 9, .int x1, .int x2, .int x3, v4, v5]) (st' := [.int (σ.1 45 ((((8 : Int32) * x1) + x3)).toNatClampNeg)]) (σ' := σ) 1 rfl ?_
  exact h
theorem b173_32 {d : Nat} {Q : Option Value → px_S → Prop} {σ : px_S} {x1 x2 x3 : Int32} {v4 v5 : Value} (h : Wp d tb_173 33 [.ref 9, .int x1, .int x2, .int x3, v4, v5] [.int (0 : Int32)] σ Q) : Wp d tb_173 32 [.ref 9, .int x1, .int x2, .int x3, v4, v5] [] σ Q := by
  refine Wp.adv (pc' := 33) (ls' := [.ref 9, .int x1, .int x2, .int x3, v4, v5]) (st' := [.int (0 : Int32)]) (σ' := σ) 1 rfl ?_
  exact h
theorem b173_33 {d : Nat} {Q : Option Value → px_S → Prop} {σ : px_S} {x1 x2 x3 s0 : Int32} {v4 v5 : Value} (c1 : vp_in x2 560) (ht : (σ.1 44 (x2).toNatClampNeg) ≤ x3 → Wp d tb_173 59 [.ref 9, .int x1, .int x2, .int x3, .int s0, v5] [] σ Q) (hf : ¬ ((σ.1 44 (x2).toNatClampNeg) ≤ x3) → Wp d tb_173 45 [.ref 9, .int x1, .int x2, .int x3, .int s0, v5] [] σ Q) : Wp d tb_173 33 [.ref 9, .int x1, .int x2, .int x3, v4, v5] [.int s0] σ Q := by
  refine Wp.adv (pc' := 41) (ls' := [.ref 9, .int x1, .int x2, .int x3, .int s0, v5]) (st' := [.int x2, .ref 44, .int x3]) (σ' := σ) 5 rfl ?_
  refine Wp.iald (N := 560) rfl rfl c1 ?_
  exact Wp.icmp rfl ht hf
theorem b173_45 {d : Nat} {Q : Option Value → px_S → Prop} {σ : px_S} {x1 x2 x3 x4 : Int32} {v5 : Value} (c1 : vp_in (((8 : Int32) * x2) + x3) 4480) (h : Wp d tb_173 60 [.ref 9, .int x1, .int x2, .int x3, .int x4, v5] [.int (σ.1 45 ((((8 : Int32) * x2) + x3)).toNatClampNeg)] σ Q) : Wp d tb_173 45 [.ref 9, .int x1, .int x2, .int x3, .int x4, v5] [] σ Q := by
  refine Wp.adv (pc' := 55) (ls' := [.ref 9, .int x1, .int x2, .int x3, .int x4, v5]) (st' := [.int (((8 : Int32) * x2) + x3), .ref 45]) (σ' := σ) 7 rfl ?_
  refine Wp.iald (N := 4480) rfl rfl c1 ?_
  refine Wp.adv (pc' := 60) (ls' := [.ref 9, .int x1, .int x2, .int x3, .int x4, v5]) (st' := [.int (σ.1 45 ((((8 : Int32) * x2) + x3)).toNatClampNeg)]) (σ' := σ) 1 rfl ?_
  exact h
theorem b173_59 {d : Nat} {Q : Option Value → px_S → Prop} {σ : px_S} {x1 x2 x3 x4 : Int32} {v5 : Value} (h : Wp d tb_173 60 [.ref 9, .int x1, .int x2, .int x3, .int x4, v5] [.int (0 : Int32)] σ Q) : Wp d tb_173 59 [.ref 9, .int x1, .int x2, .int x3, .int x4, v5] [] σ Q := by
  refine Wp.adv (pc' := 60) (ls' := [.ref 9, .int x1, .int x2, .int x3, .int x4, v5]) (st' := [.int (0 : Int32)]) (σ' := σ) 1 rfl ?_
  exact h
theorem b173_60 {d : Nat} {Q : Option Value → px_S → Prop} {σ : px_S} {x1 x2 x3 x4 s0 : Int32} {v5 : Value} (ht : x4 = s0 → Wp d tb_173 82 [.ref 9, .int x1, .int x2, .int x3, .int x4, .int s0] [] σ Q) (hf : ¬ (x4 = s0) → Wp d tb_173 69 [.ref 9, .int x1, .int x2, .int x3, .int x4, .int s0] [] σ Q) : Wp d tb_173 60 [.ref 9, .int x1, .int x2, .int x3, .int x4, v5] [.int s0] σ Q := by
  refine Wp.adv (pc' := 66) (ls' := [.ref 9, .int x1, .int x2, .int x3, .int x4, .int s0]) (st' := [.int s0, .int x4]) (σ' := σ) 3 rfl ?_
  exact Wp.icmp rfl ht hf
theorem b173_69 {d : Nat} {Q : Option Value → px_S → Prop} {σ : px_S} {x1 x2 x3 x4 x5 : Int32} (ht : x5 ≤ x4 → Wp d tb_173 80 [.ref 9, .int x1, .int x2, .int x3, .int x4, .int x5] [] σ Q) (hf : ¬ (x5 ≤ x4) → Wp d tb_173 76 [.ref 9, .int x1, .int x2, .int x3, .int x4, .int x5] [] σ Q) : Wp d tb_173 69 [.ref 9, .int x1, .int x2, .int x3, .int x4, .int x5] [] σ Q := by
  refine Wp.adv (pc' := 73) (ls' := [.ref 9, .int x1, .int x2, .int x3, .int x4, .int x5]) (st' := [.int x5, .int x4]) (σ' := σ) 2 rfl ?_
  exact Wp.icmp rfl ht hf
theorem b173_76 {d : Nat} {Q : Option Value → px_S → Prop} {σ : px_S} {x1 x2 x3 x4 x5 : Int32} (h : Wp d tb_173 81 [.ref 9, .int x1, .int x2, .int x3, .int x4, .int x5] [.int (1 : Int32)] σ Q) : Wp d tb_173 76 [.ref 9, .int x1, .int x2, .int x3, .int x4, .int x5] [] σ Q := by
  refine Wp.adv (pc' := 81) (ls' := [.ref 9, .int x1, .int x2, .int x3, .int x4, .int x5]) (st' := [.int (1 : Int32)]) (σ' := σ) 2 rfl ?_
  exact h
theorem b173_80 {d : Nat} {Q : Option Value → px_S → Prop} {σ : px_S} {x1 x2 x3 x4 x5 : Int32} (h : Wp d tb_173 81 [.ref 9, .int x1, .int x2, .int x3, .int x4, .int x5] [.int (0 : Int32)] σ Q) : Wp d tb_173 80 [.ref 9, .int x1, .int x2, .int x3, .int x4, .int x5] [] σ Q := by
  refine Wp.adv (pc' := 81) (ls' := [.ref 9, .int x1, .int x2, .int x3, .int x4, .int x5]) (st' := [.int (0 : Int32)]) (σ' := σ) 1 rfl ?_
  exact h
theorem b173_81 {d : Nat} {Q : Option Value → px_S → Prop} {σ : px_S} {x1 x2 x3 x4 x5 s0 : Int32} (c1 : s0 = 0 ∨ s0 = 1) (h : Q (some (.int s0)) σ) : Wp d tb_173 81 [.ref 9, .int x1, .int x2, .int x3, .int x4, .int x5] [.int s0] σ Q := by
  exact Wp.zret rfl c1 h
theorem b173_82 {d : Nat} {Q : Option Value → px_S → Prop} {σ : px_S} {x1 x2 x3 x4 x5 : Int32} (h : Wp d tb_173 2 [.ref 9, .int x1, .int x2, .int (x3 + 1), .int x4, .int x5] [] σ Q) : Wp d tb_173 82 [.ref 9, .int x1, .int x2, .int x3, .int x4, .int x5] [] σ Q := by
  refine Wp.adv (pc' := 2) (ls' := [.ref 9, .int x1, .int x2, .int (x3 + 1), .int x4, .int x5]) (st' := []) (σ' := σ) 2 rfl ?_
  exact h
theorem b173_88 {d : Nat} {Q : Option Value → px_S → Prop} {σ : px_S} {x1 x2 x3 : Int32} {v4 v5 : Value} (h : Q (some (.int (0 : Int32))) σ) : Wp d tb_173 88 [.ref 9, .int x1, .int x2, .int x3, v4, v5] [] σ Q := by
  refine Wp.adv (pc' := 89) (ls' := [.ref 9, .int x1, .int x2, .int x3, v4, v5]) (st' := [.int (0 : Int32)]) (σ' := σ) 1 rfl ?_
  exact Wp.zret rfl (by decide) h
theorem e173 {d : Nat} {Q : Option Value → px_S → Prop} {σ : px_S} {x1 x2 : Int32} (h : Wp d tb_173 0 [.ref 9, .int x1, .int x2, .null, .null, .null] [] σ Q) : Cw (d + 1) 173 [.ref 9, .int x1, .int x2] σ Q := Cw.of (nL := 6) (y := yX9_isLess) (cc := cX9_isLess) (rt := some .boolean) rfl (Nat.le_of_ble_eq_true rfl) h
theorem b174_0 {d : Nat} {Q : Option Value → px_S → Prop} {σ : px_S} {x1 x2 x3 : Int32} (h : Cw d 162 [.ref 9] σ (fun r τ => Wp d tb_174 4 [.ref 9, .int x1, .int x2, .int x3, .null] (r.toList ++ []) τ Q)) : Wp d tb_174 0 [.ref 9, .int x1, .int x2, .int x3, .null] [] σ Q := by
  refine Wp.adv (pc' := 1) (ls' := [.ref 9, .int x1, .int x2, .int x3, .null]) (st' := [.ref 9]) (σ' := σ) 1 rfl ?_
  exact Wp.call (q := (162, 1, 9, 4)) rfl (Nat.le_of_ble_eq_true rfl) rfl h
theorem b174_4 {d : Nat} {Q : Option Value → px_S → Prop} {σ : px_S} {x1 x2 x3 : Int32} (h : Cw d 130 [.long (x1).toInt64, .long (0 : Int64), .long (((σ.1 9 18) - (1 : Int32))).toInt64] σ (fun r τ => Wp d tb_174 17 [.ref 9, .int x1, .int x2, .int x3, .null] (r.toList ++ []) τ Q)) : Wp d tb_174 4 [.ref 9, .int x1, .int x2, .int x3, .null] [] σ Q := by
  refine Wp.adv (pc' := 14) (ls' := [.ref 9, .int x1, .int x2, .int x3, .null]) (st' := [.long (((σ.1 9 18) - (1 : Int32))).toInt64, .long (0 : Int64), .long (x1).toInt64]) (σ' := σ) 8 rfl ?_
  exact Wp.call (q := (130, 3, 0, 17)) rfl (Nat.le_of_ble_eq_true rfl) rfl h
theorem b174_17 {d : Nat} {Q : Option Value → px_S → Prop} {σ : px_S} {x1 x2 x3 s0 : Int32} (ht : ¬ s0 = 0 → Wp d tb_174 24 [.ref 9, .int x1, .int x2, .int x3, .null] [] σ Q) (hf : ¬ (¬ s0 = 0) → Wp d tb_174 20 [.ref 9, .int x1, .int x2, .int x3, .null] [] σ Q) : Wp d tb_174 17 [.ref 9, .int x1, .int x2, .int x3, .null] [.int s0] σ Q := by
  exact Wp.if_ rfl ht hf
theorem b174_20 {d : Nat} {Q : Option Value → px_S → Prop} {σ : px_S} {x1 x2 x3 : Int32} (h : Q (some (.int (-1001 : Int32))) σ) : Wp d tb_174 20 [.ref 9, .int x1, .int x2, .int x3, .null] [] σ Q := by
  refine Wp.adv (pc' := 23) (ls' := [.ref 9, .int x1, .int x2, .int x3, .null]) (st' := [.int (-1001 : Int32)]) (σ' := σ) 1 rfl ?_
  exact Wp.ret rfl rfl h
theorem b174_24 {d : Nat} {Q : Option Value → px_S → Prop} {σ : px_S} {x1 x2 x3 : Int32} (h : Cw d 167 [.ref 9, .int x1] σ (fun r τ => Wp d tb_174 29 [.ref 9, .int x1, .int x2, .int x3, .null] (r.toList ++ []) τ Q)) : Wp d tb_174 24 [.ref 9, .int x1, .int x2, .int x3, .null] [] σ Q := by
  refine Wp.adv (pc' := 26) (ls' := [.ref 9, .int x1, .int x2, .int x3, .null]) (st' := [.int x1, .ref 9]) (σ' := σ) 2 rfl ?_
  exact Wp.call (q := (167, 2, 9, 29)) rfl (Nat.le_of_ble_eq_true rfl) rfl h
theorem b174_29 {d : Nat} {Q : Option Value → px_S → Prop} {σ : px_S} {x1 x2 x3 : Int32} (ht : (σ.1 9 22) ≤ (4 : Int32) → Wp d tb_174 41 [.ref 9, .int x1, .int x2, .int x3, .null] [] σ Q) (hf : ¬ ((σ.1 9 22) ≤ (4 : Int32)) → Wp d tb_174 37 [.ref 9, .int x1, .int x2, .int x3, .null] [] σ Q) : Wp d tb_174 29 [.ref 9, .int x1, .int x2, .int x3, .null] [] σ Q := by
  refine Wp.adv (pc' := 34) (ls' := [.ref 9, .int x1, .int x2, .int x3, .null]) (st' := [.int (4 : Int32), .int (σ.1 9 22)]) (σ' := σ) 3 rfl ?_
  exact Wp.icmp rfl ht hf
theorem b174_37 {d : Nat} {Q : Option Value → px_S → Prop} {σ : px_S} {x1 x2 x3 : Int32} (h : Q (some (.int (-1005 : Int32))) σ) : Wp d tb_174 37 [.ref 9, .int x1, .int x2, .int x3, .null] [] σ Q := by
  refine Wp.adv (pc' := 40) (ls' := [.ref 9, .int x1, .int x2, .int x3, .null]) (st' := [.int (-1005 : Int32)]) (σ' := σ) 1 rfl ?_
  exact Wp.ret rfl rfl h
theorem b174_41 {d : Nat} {Q : Option Value → px_S → Prop} {σ : px_S} {x1 x2 x3 : Int32} (h : Cw d 168 [.ref 9] σ (fun r τ => Wp d tb_174 45 [.ref 9, .int x1, .int x2, .int x3, .null] (r.toList ++ []) τ Q)) : Wp d tb_174 41 [.ref 9, .int x1, .int x2, .int x3, .null] [] σ Q := by
  refine Wp.adv (pc' := 42) (ls' := [.ref 9, .int x1, .int x2, .int x3, .null]) (st' := [.ref 9]) (σ' := σ) 1 rfl ?_
  exact Wp.call (q := (168, 1, 9, 45)) rfl (Nat.le_of_ble_eq_true rfl) rfl h
theorem b174_45 {d : Nat} {Q : Option Value → px_S → Prop} {σ : px_S} {x1 x2 x3 : Int32} (h : Cw d 130 [.long (x2).toInt64, .long (0 : Int64), .long (((σ.1 9 25) - (1 : Int32))).toInt64] σ (fun r τ => Wp d tb_174 58 [.ref 9, .int x1, .int x2, .int x3, .null] (r.toList ++ []) τ Q)) : Wp d tb_174 45 [.ref 9, .int x1, .int x2, .int x3, .null] [] σ Q := by
  refine Wp.adv (pc' := 55) (ls' := [.ref 9, .int x1, .int x2, .int x3, .null]) (st' := [.long (((σ.1 9 25) - (1 : Int32))).toInt64, .long (0 : Int64), .long (x2).toInt64]) (σ' := σ) 8 rfl ?_
  exact Wp.call (q := (130, 3, 0, 58)) rfl (Nat.le_of_ble_eq_true rfl) rfl h
theorem b174_58 {d : Nat} {Q : Option Value → px_S → Prop} {σ : px_S} {x1 x2 x3 s0 : Int32} (ht : ¬ s0 = 0 → Wp d tb_174 63 [.ref 9, .int x1, .int x2, .int x3, .null] [] σ Q) (hf : ¬ (¬ s0 = 0) → Wp d tb_174 61 [.ref 9, .int x1, .int x2, .int x3, .null] [] σ Q) : Wp d tb_174 58 [.ref 9, .int x1, .int x2, .int x3, .null] [.int s0] σ Q := by
  exact Wp.if_ rfl ht hf
theorem b174_61 {d : Nat} {Q : Option Value → px_S → Prop} {σ : px_S} {x1 x2 x3 : Int32} (h : Q (some (.int (-1 : Int32))) σ) : Wp d tb_174 61 [.ref 9, .int x1, .int x2, .int x3, .null] [] σ Q := by
  refine Wp.adv (pc' := 62) (ls' := [.ref 9, .int x1, .int x2, .int x3, .null]) (st' := [.int (-1 : Int32)]) (σ' := σ) 1 rfl ?_
  exact Wp.ret rfl rfl h
theorem b174_63 {d : Nat} {Q : Option Value → px_S → Prop} {σ : px_S} {x1 x2 x3 : Int32} (c1 : vp_in x2 56) (ht : ¬ x3 = (-1 : Int32) → Wp d tb_174 86 [.ref 9, .int x1, .int x2, .int x3, .int (σ.1 55 (x2).toNatClampNeg)] [] σ Q) (hf : ¬ (¬ x3 = (-1 : Int32)) → Wp d tb_174 76 [.ref 9, .int x1, .int x2, .int x3, .int (σ.1 55 (x2).toNatClampNeg)] [] σ Q) : Wp d tb_174 63 [.ref 9, .int x1, .int x2, .int x3, .null] [] σ Q := by
  refine Wp.adv (pc' := 68) (ls' := [.ref 9, .int x1, .int x2, .int x3, .null]) (st' := [.int x2, .ref 55]) (σ' := σ) 3 rfl ?_
  refine Wp.iald (N := 56) rfl rfl c1 ?_
  refine Wp.adv (pc' := 73) (ls' := [.ref 9, .int x1, .int x2, .int x3, .int (σ.1 55 (x2).toNatClampNeg)]) (st' := [.int (-1 : Int32), .int x3]) (σ' := σ) 3 rfl ?_
  exact Wp.icmp rfl ht hf
theorem b174_76 {d : Nat} {Q : Option Value → px_S → Prop} {σ : px_S} {x1 x2 x3 x4 : Int32} (c1 : vp_in x4 560) (h : Wp d tb_174 121 [.ref 9, .int x1, .int x2, .int x3, .int x4] [.int (σ.1 44 (x4).toNatClampNeg)] σ Q) : Wp d tb_174 76 [.ref 9, .int x1, .int x2, .int x3, .int x4] [] σ Q := by
  refine Wp.adv (pc' := 82) (ls' := [.ref 9, .int x1, .int x2, .int x3, .int x4]) (st' := [.int x4, .ref 44]) (σ' := σ) 3 rfl ?_
  refine Wp.iald (N := 560) rfl rfl c1 ?_
  refine Wp.adv (pc' := 121) (ls' := [.ref 9, .int x1, .int x2, .int x3, .int x4]) (st' := [.int (σ.1 44 (x4).toNatClampNeg)]) (σ' := σ) 1 rfl ?_
  exact h
theorem b174_86 {d : Nat} {Q : Option Value → px_S → Prop} {σ : px_S} {x1 x2 x3 x4 : Int32} (c1 : vp_in x4 560) (h : Cw d 130 [.long (x3).toInt64, .long (0 : Int64), .long (((σ.1 44 (x4).toNatClampNeg) - (1 : Int32))).toInt64] σ (fun r τ => Wp d tb_174 102 [.ref 9, .int x1, .int x2, .int x3, .int x4] (r.toList ++ []) τ Q)) : Wp d tb_174 86 [.ref 9, .int x1, .int x2, .int x3, .int x4] [] σ Q := by
  refine Wp.adv (pc' := 95) (ls' := [.ref 9, .int x1, .int x2, .int x3, .int x4]) (st' := [.int x4, .ref 44, .long (0 : Int64), .long (x3).toInt64]) (σ' := σ) 6 rfl ?_
  refine Wp.iald (N := 560) rfl rfl c1 ?_
  refine Wp.adv (pc' := 99) (ls' := [.ref 9, .int x1, .int x2, .int x3, .int x4]) (st' := [.long (((σ.1 44 (x4).toNatClampNeg) - (1 : Int32))).toInt64, .long (0 : Int64), .long (x3).toInt64]) (σ' := σ) 3 rfl ?_
  exact Wp.call (q := (130, 3, 0, 102)) rfl (Nat.le_of_ble_eq_true rfl) rfl h
theorem b174_102 {d : Nat} {Q : Option Value → px_S → Prop} {σ : px_S} {x1 x2 x3 x4 s0 : Int32} (ht : s0 = 0 → Wp d tb_174 120 [.ref 9, .int x1, .int x2, .int x3, .int x4] [] σ Q) (hf : ¬ (s0 = 0) → Wp d tb_174 105 [.ref 9, .int x1, .int x2, .int x3, .int x4] [] σ Q) : Wp d tb_174 102 [.ref 9, .int x1, .int x2, .int x3, .int x4] [.int s0] σ Q := by
  exact Wp.if_ rfl ht hf
theorem b174_105 {d : Nat} {Q : Option Value → px_S → Prop} {σ : px_S} {x1 x2 x3 x4 : Int32} (c1 : vp_in (((8 : Int32) * x4) + x3) 4480) (h : Wp d tb_174 121 [.ref 9, .int x1, .int x2, .int x3, .int x4] [.int (σ.1 45 ((((8 : Int32) * x4) + x3)).toNatClampNeg)] σ Q) : Wp d tb_174 105 [.ref 9, .int x1, .int x2, .int x3, .int x4] [] σ Q := by
  refine Wp.adv (pc' := 116) (ls' := [.ref 9, .int x1, .int x2, .int x3, .int x4]) (st' := [.int (((8 : Int32) * x4) + x3), .ref 45]) (σ' := σ) 7 rfl ?_
  refine Wp.iald (N := 4480) rfl rfl c1 ?_
  refine Wp.adv (pc' := 121) (ls' := [.ref 9, .int x1, .int x2, .int x3, .int x4]) (st' := [.int (σ.1 45 ((((8 : Int32) * x4) + x3)).toNatClampNeg)]) (σ' := σ) 1 rfl ?_
  exact h
theorem b174_120 {d : Nat} {Q : Option Value → px_S → Prop} {σ : px_S} {x1 x2 x3 x4 : Int32} (h : Wp d tb_174 121 [.ref 9, .int x1, .int x2, .int x3, .int x4] [.int (-1 : Int32)] σ Q) : Wp d tb_174 120 [.ref 9, .int x1, .int x2, .int x3, .int x4] [] σ Q := by
  refine Wp.adv (pc' := 121) (ls' := [.ref 9, .int x1, .int x2, .int x3, .int x4]) (st' := [.int (-1 : Int32)]) (σ' := σ) 1 rfl ?_
  exact h
theorem b174_121 {d : Nat} {Q : Option Value → px_S → Prop} {σ : px_S} {x1 x2 x3 x4 s0 : Int32} (h : Q (some (.int s0)) σ) : Wp d tb_174 121 [.ref 9, .int x1, .int x2, .int x3, .int x4] [.int s0] σ Q := by
  exact Wp.ret rfl rfl h
theorem e174 {d : Nat} {Q : Option Value → px_S → Prop} {σ : px_S} {x1 x2 x3 : Int32} (h : Wp d tb_174 0 [.ref 9, .int x1, .int x2, .int x3, .null] [] σ Q) : Cw (d + 1) 174 [.ref 9, .int x1, .int x2, .int x3] σ Q := Cw.of (nL := 5) (y := yX9_lostWord) (cc := cX9_lostWord) (rt := some .int) rfl (Nat.le_of_ble_eq_true rfl) h
theorem b175_0 {d : Nat} {Q : Option Value → px_S → Prop} {σ : px_S} {x1 : Int32} (h : Cw d 148 [.ref 9] σ (fun r τ => Wp d tb_175 4 [.ref 9, .int x1, .null, .null, .null, .null, .null, .null, .null] (r.toList ++ []) τ Q)) : Wp d tb_175 0 [.ref 9, .int x1, .null, .null, .null, .null, .null, .null, .null] [] σ Q := by
  refine Wp.adv (pc' := 1) (ls' := [.ref 9, .int x1, .null, .null, .null, .null, .null, .null, .null]) (st' := [.ref 9]) (σ' := σ) 1 rfl ?_
  exact Wp.call (q := (148, 1, 9, 4)) rfl (Nat.le_of_ble_eq_true rfl) rfl h
theorem b175_4 {d : Nat} {Q : Option Value → px_S → Prop} {σ : px_S} {x1 : Int32} (h : Wp d tb_175 11 [.ref 9, .int x1, .int (1 : Int32), .long (0 : Int64), .null, .int (0 : Int32), .null, .null, .null] [] σ Q) : Wp d tb_175 4 [.ref 9, .int x1, .null, .null, .null, .null, .null, .null, .null] [] σ Q := by
  refine Wp.adv (pc' := 11) (ls' := [.ref 9, .int x1, .int (1 : Int32), .long (0 : Int64), .null, .int (0 : Int32), .null, .null, .null]) (st' := []) (σ' := σ) 6 rfl ?_
  exact h
theorem b175_11 {d : Nat} {Q : Option Value → px_S → Prop} {σ : px_S} {x1 x2 x5 : Int32} {y3 : Int64} {v6 v7 v8 : Value} (ht : x2 = 0 → Wp d tb_175 141 [.ref 9, .int x1, .int x2, .long y3, .null, .int x5, v6, v7, v8] [] σ Q) (hf : ¬ (x2 = 0) → Wp d tb_175 15 [.ref 9, .int x1, .int x2, .long y3, .null, .int x5, v6, v7, v8] [] σ Q) : Wp d tb_175 11 [.ref 9, .int x1, .int x2, .long y3, .null, .int x5, v6, v7, v8] [] σ Q := by
  refine Wp.adv (pc' := 12) (ls' := [.ref 9, .int x1, .int x2, .long y3, .null, .int x5, v6, v7, v8]) (st' := [.int x2]) (σ' := σ) 1 rfl ?_
  exact Wp.if_ rfl ht hf
theorem b175_15 {d : Nat} {Q : Option Value → px_S → Prop} {σ : px_S} {x1 x2 x5 : Int32} {y3 : Int64} {v6 v7 v8 : Value} (h : Wp d tb_175 26 [.ref 9, .int x1, .int x2, .long y3, .null, .int x5, .int (-1 : Int32), .int ((σ.1 9 1) - (1 : Int32)), v8] [] σ Q) : Wp d tb_175 15 [.ref 9, .int x1, .int x2, .long y3, .null, .int x5, v6, v7, v8] [] σ Q := by
  refine Wp.adv (pc' := 26) (ls' := [.ref 9, .int x1, .int x2, .long y3, .null, .int x5, .int (-1 : Int32), .int ((σ.1 9 1) - (1 : Int32)), v8]) (st' := []) (σ' := σ) 7 rfl ?_
  exact h
theorem b175_26 {d : Nat} {Q : Option Value → px_S → Prop} {σ : px_S} {x1 x2 x5 x6 x7 : Int32} {y3 : Int64} {v8 : Value} (ht : x7 < 0 → Wp d tb_175 104 [.ref 9, .int x1, .int x2, .long y3, .null, .int x5, .int x6, .int x7, v8] [] σ Q) (hf : ¬ (x7 < 0) → Wp d tb_175 31 [.ref 9, .int x1, .int x2, .long y3, .null, .int x5, .int x6, .int x7, v8] [] σ Q) : Wp d tb_175 26 [.ref 9, .int x1, .int x2, .long y3, .null, .int x5, .int x6, .int x7, v8] [] σ Q := by
  refine Wp.adv (pc' := 28) (ls' := [.ref 9, .int x1, .int x2, .long y3, .null, .int x5, .int x6, .int x7, v8]) (st' := [.int x7]) (σ' := σ) 1 rfl ?_
  exact Wp.if_ rfl ht hf
theorem b175_31 {d : Nat} {Q : Option Value → px_S → Prop} {σ : px_S} {x1 x2 x5 x6 x7 : Int32} {y3 : Int64} {v8 : Value} (c1 : vp_in x7 40) (ht : (σ.1 49 (x7).toNatClampNeg) < 0 → Wp d tb_175 57 [.ref 9, .int x1, .int x2, .long y3, .null, .int x5, .int x6, .int x7, v8] [] σ Q) (hf : ¬ ((σ.1 49 (x7).toNatClampNeg) < 0) → Wp d tb_175 41 [.ref 9, .int x1, .int x2, .long y3, .null, .int x5, .int x6, .int x7, v8] [] σ Q) : Wp d tb_175 31 [.ref 9, .int x1, .int x2, .long y3, .null, .int x5, .int x6, .int x7, v8] [] σ Q := by
  refine Wp.adv (pc' := 37) (ls' := [.ref 9, .int x1, .int x2, .long y3, .null, .int x5, .int x6, .int x7, v8]) (st' := [.int x7, .ref 49]) (σ' := σ) 3 rfl ?_
  refine Wp.iald (N := 40) rfl rfl c1 ?_
  exact Wp.if_ rfl ht hf
theorem b175_41 {d : Nat} {Q : Option Value → px_S → Prop} {σ : px_S} {x1 x2 x5 x6 x7 : Int32} {y3 : Int64} {v8 : Value} (c1 : vp_in x7 40) (ht : ¬ (lg_cmp ((y3 >>> (((σ.1 49 (x7).toNatClampNeg)).toInt64 &&& 63)) &&& (1 : Int64)) (1 : Int64)) = 0 → Wp d tb_175 61 [.ref 9, .int x1, .int x2, .long y3, .null, .int x5, .int x6, .int x7, v8] [] σ Q) (hf : ¬ (¬ (lg_cmp ((y3 >>> (((σ.1 49 (x7).toNatClampNeg)).toInt64 &&& 63)) &&& (1 : Int64)) (1 : Int64)) = 0) → Wp d tb_175 57 [.ref 9, .int x1, .int x2, .long y3, .null, .int x5, .int x6, .int x7, v8] [] σ Q) : Wp d tb_175 41 [.ref 9, .int x1, .int x2, .long y3, .null, .int x5, .int x6, .int x7, v8] [] σ Q := by
  refine Wp.adv (pc' := 48) (ls' := [.ref 9, .int x1, .int x2, .long y3, .null, .int x5, .int x6, .int x7, v8]) (st' := [.int x7, .ref 49, .long y3]) (σ' := σ) 4 rfl ?_
  refine Wp.iald (N := 40) rfl rfl c1 ?_
  refine Wp.adv (pc' := 54) (ls' := [.ref 9, .int x1, .int x2, .long y3, .null, .int x5, .int x6, .int x7, v8]) (st' := [.int (lg_cmp ((y3 >>> (((σ.1 49 (x7).toNatClampNeg)).toInt64 &&& 63)) &&& (1 : Int64)) (1 : Int64))]) (σ' := σ) 5 rfl ?_
  exact Wp.if_ rfl ht hf
theorem b175_57 {d : Nat} {Q : Option Value → px_S → Prop} {σ : px_S} {x1 x2 x5 x6 x7 : Int32} {y3 : Int64} {v8 : Value} (h : Wp d tb_175 62 [.ref 9, .int x1, .int x2, .long y3, .null, .int x5, .int x6, .int x7, v8] [.int (1 : Int32)] σ Q) : Wp d tb_175 57 [.ref 9, .int x1, .int x2, .long y3, .null, .int x5, .int x6, .int x7, v8] [] σ Q := by
  refine Wp.adv (pc' := 62) (ls' := [.ref 9, .int x1, .int x2, .long y3, .null, .int x5, .int x6, .int x7, v8]) (st' := [.int (1 : Int32)]) (σ' := σ) 2 rfl ?_
  exact h
theorem b175_61 {d : Nat} {Q : Option Value → px_S → Prop} {σ : px_S} {x1 x2 x5 x6 x7 : Int32} {y3 : Int64} {v8 : Value} (h : Wp d tb_175 62 [.ref 9, .int x1, .int x2, .long y3, .null, .int x5, .int x6, .int x7, v8] [.int (0 : Int32)] σ Q) : Wp d tb_175 61 [.ref 9, .int x1, .int x2, .long y3, .null, .int x5, .int x6, .int x7, v8] [] σ Q := by
  refine Wp.adv (pc' := 62) (ls' := [.ref 9, .int x1, .int x2, .long y3, .null, .int x5, .int x6, .int x7, v8]) (st' := [.int (0 : Int32)]) (σ' := σ) 1 rfl ?_
  exact h
theorem b175_62 {d : Nat} {Q : Option Value → px_S → Prop} {σ : px_S} {x1 x2 x5 x6 x7 s0 : Int32} {y3 : Int64} {v8 : Value} (h : Cw d 143 [.ref 9, .int x7] σ (fun r τ => Wp d tb_175 70 [.ref 9, .int x1, .int x2, .long y3, .null, .int x5, .int x6, .int x7, .int s0] (r.toList ++ []) τ Q)) : Wp d tb_175 62 [.ref 9, .int x1, .int x2, .long y3, .null, .int x5, .int x6, .int x7, v8] [.int s0] σ Q := by
  refine Wp.adv (pc' := 67) (ls' := [.ref 9, .int x1, .int x2, .long y3, .null, .int x5, .int x6, .int x7, .int s0]) (st' := [.int x7, .ref 9]) (σ' := σ) 3 rfl ?_
  exact Wp.call (q := (143, 2, 9, 70)) rfl (Nat.le_of_ble_eq_true rfl) rfl h
theorem b175_70 {d : Nat} {Q : Option Value → px_S → Prop} {σ : px_S} {x1 x2 x5 x6 x7 x8 s0 : Int32} {y3 : Int64} (ht : s0 = 0 → Wp d tb_175 94 [.ref 9, .int x1, .int x2, .long y3, .null, .int x5, .int x6, .int x7, .int x8] [] σ Q) (hf : ¬ (s0 = 0) → Wp d tb_175 73 [.ref 9, .int x1, .int x2, .long y3, .null, .int x5, .int x6, .int x7, .int x8] [] σ Q) : Wp d tb_175 70 [.ref 9, .int x1, .int x2, .long y3, .null, .int x5, .int x6, .int x7, .int x8] [.int s0] σ Q := by
  exact Wp.if_ rfl ht hf
theorem b175_73 {d : Nat} {Q : Option Value → px_S → Prop} {σ : px_S} {x1 x2 x5 x6 x7 x8 : Int32} {y3 : Int64} (ht : x8 = 0 → Wp d tb_175 94 [.ref 9, .int x1, .int x2, .long y3, .null, .int x5, .int x6, .int x7, .int x8] [] σ Q) (hf : ¬ (x8 = 0) → Wp d tb_175 78 [.ref 9, .int x1, .int x2, .long y3, .null, .int x5, .int x6, .int x7, .int x8] [] σ Q) : Wp d tb_175 73 [.ref 9, .int x1, .int x2, .long y3, .null, .int x5, .int x6, .int x7, .int x8] [] σ Q := by
  refine Wp.adv (pc' := 75) (ls' := [.ref 9, .int x1, .int x2, .long y3, .null, .int x5, .int x6, .int x7, .int x8]) (st' := [.int x8]) (σ' := σ) 1 rfl ?_
  exact Wp.if_ rfl ht hf
theorem b175_78 {d : Nat} {Q : Option Value → px_S → Prop} {σ : px_S} {x1 x2 x5 x6 x7 x8 : Int32} {y3 : Int64} (ht : ¬ (lg_cmp ((y3 >>> ((x7).toInt64 &&& 63)) &&& (1 : Int64)) (0 : Int64)) = 0 → Wp d tb_175 94 [.ref 9, .int x1, .int x2, .long y3, .null, .int x5, .int x6, .int x7, .int x8] [] σ Q) (hf : ¬ (¬ (lg_cmp ((y3 >>> ((x7).toInt64 &&& 63)) &&& (1 : Int64)) (0 : Int64)) = 0) → Wp d tb_175 89 [.ref 9, .int x1, .int x2, .long y3, .null, .int x5, .int x6, .int x7, .int x8] [] σ Q) : Wp d tb_175 78 [.ref 9, .int x1, .int x2, .long y3, .null, .int x5, .int x6, .int x7, .int x8] [] σ Q := by
  refine Wp.adv (pc' := 86) (ls' := [.ref 9, .int x1, .int x2, .long y3, .null, .int x5, .int x6, .int x7, .int x8]) (st' := [.int (lg_cmp ((y3 >>> ((x7).toInt64 &&& 63)) &&& (1 : Int64)) (0 : Int64))]) (σ' := σ) 7 rfl ?_
  exact Wp.if_ rfl ht hf
theorem b175_89 {d : Nat} {Q : Option Value → px_S → Prop} {σ : px_S} {x1 x2 x5 x6 x7 x8 : Int32} {y3 : Int64} (h : Wp d tb_175 96 [.ref 9, .int x1, .int x2, .long y3, .null, .int x5, .int x6, .int x7, .int x8] [.int x7] σ Q) : Wp d tb_175 89 [.ref 9, .int x1, .int x2, .long y3, .null, .int x5, .int x6, .int x7, .int x8] [] σ Q := by
  refine Wp.adv (pc' := 96) (ls' := [.ref 9, .int x1, .int x2, .long y3, .null, .int x5, .int x6, .int x7, .int x8]) (st' := [.int x7]) (σ' := σ) 2 rfl ?_
  exact h
theorem b175_94 {d : Nat} {Q : Option Value → px_S → Prop} {σ : px_S} {x1 x2 x5 x6 x7 x8 : Int32} {y3 : Int64} (h : Wp d tb_175 96 [.ref 9, .int x1, .int x2, .long y3, .null, .int x5, .int x6, .int x7, .int x8] [.int x6] σ Q) : Wp d tb_175 94 [.ref 9, .int x1, .int x2, .long y3, .null, .int x5, .int x6, .int x7, .int x8] [] σ Q := by
  refine Wp.adv (pc' := 96) (ls' := [.ref 9, .int x1, .int x2, .long y3, .null, .int x5, .int x6, .int x7, .int x8]) (st' := [.int x6]) (σ' := σ) 1 rfl ?_
  exact h
theorem b175_96 {d : Nat} {Q : Option Value → px_S → Prop} {σ : px_S} {x1 x2 x5 x6 x7 x8 s0 : Int32} {y3 : Int64} (h : Wp d tb_175 26 [.ref 9, .int x1, .int x2, .long y3, .null, .int x5, .int s0, .int (x7 + (-1)), .int x8] [] σ Q) : Wp d tb_175 96 [.ref 9, .int x1, .int x2, .long y3, .null, .int x5, .int x6, .int x7, .int x8] [.int s0] σ Q := by
  refine Wp.adv (pc' := 26) (ls' := [.ref 9, .int x1, .int x2, .long y3, .null, .int x5, .int s0, .int (x7 + (-1)), .int x8]) (st' := []) (σ' := σ) 3 rfl ?_
  exact h
theorem b175_104 {d : Nat} {Q : Option Value → px_S → Prop} {σ : px_S} {x1 x2 x5 x6 x7 : Int32} {y3 : Int64} {v8 : Value} (ht : x6 < 0 → Wp d tb_175 113 [.ref 9, .int x1, .int x2, .long y3, .null, .int x5, .int x6, .int x7, v8] [] σ Q) (hf : ¬ (x6 < 0) → Wp d tb_175 109 [.ref 9, .int x1, .int x2, .long y3, .null, .int x5, .int x6, .int x7, v8] [] σ Q) : Wp d tb_175 104 [.ref 9, .int x1, .int x2, .long y3, .null, .int x5, .int x6, .int x7, v8] [] σ Q := by
  refine Wp.adv (pc' := 106) (ls' := [.ref 9, .int x1, .int x2, .long y3, .null, .int x5, .int x6, .int x7, v8]) (st' := [.int x6]) (σ' := σ) 1 rfl ?_
  exact Wp.if_ rfl ht hf
theorem b175_109 {d : Nat} {Q : Option Value → px_S → Prop} {σ : px_S} {x1 x2 x5 x6 x7 : Int32} {y3 : Int64} {v8 : Value} (h : Wp d tb_175 114 [.ref 9, .int x1, .int x2, .long y3, .null, .int x5, .int x6, .int x7, v8] [.int (1 : Int32)] σ Q) : Wp d tb_175 109 [.ref 9, .int x1, .int x2, .long y3, .null, .int x5, .int x6, .int x7, v8] [] σ Q := by
  refine Wp.adv (pc' := 114) (ls' := [.ref 9, .int x1, .int x2, .long y3, .null, .int x5, .int x6, .int x7, v8]) (st' := [.int (1 : Int32)]) (σ' := σ) 2 rfl ?_
  exact h
theorem b175_113 {d : Nat} {Q : Option Value → px_S → Prop} {σ : px_S} {x1 x2 x5 x6 x7 : Int32} {y3 : Int64} {v8 : Value} (h : Wp d tb_175 114 [.ref 9, .int x1, .int x2, .long y3, .null, .int x5, .int x6, .int x7, v8] [.int (0 : Int32)] σ Q) : Wp d tb_175 113 [.ref 9, .int x1, .int x2, .long y3, .null, .int x5, .int x6, .int x7, v8] [] σ Q := by
  refine Wp.adv (pc' := 114) (ls' := [.ref 9, .int x1, .int x2, .long y3, .null, .int x5, .int x6, .int x7, v8]) (st' := [.int (0 : Int32)]) (σ' := σ) 1 rfl ?_
  exact h
theorem b175_114 {d : Nat} {Q : Option Value → px_S → Prop} {σ : px_S} {x1 x2 x5 x6 x7 s0 : Int32} {y3 : Int64} {v8 : Value} (ht : s0 = 0 → Wp d tb_175 138 [.ref 9, .int x1, .int s0, .long y3, .null, .int x5, .int x6, .int x7, v8] [] σ Q) (hf : ¬ (s0 = 0) → Wp d tb_175 119 [.ref 9, .int x1, .int s0, .long y3, .null, .int x5, .int x6, .int x7, v8] [] σ Q) : Wp d tb_175 114 [.ref 9, .int x1, .int x2, .long y3, .null, .int x5, .int x6, .int x7, v8] [.int s0] σ Q := by
  refine Wp.adv (pc' := 116) (ls' := [.ref 9, .int x1, .int s0, .long y3, .null, .int x5, .int x6, .int x7, v8]) (st' := [.int s0]) (σ' := σ) 2 rfl ?_
  exact Wp.if_ rfl ht hf
theorem b175_119 {d : Nat} {Q : Option Value → px_S → Prop} {σ : px_S} {x1 x2 x5 x6 x7 : Int32} {y3 : Int64} {v8 : Value} (ht : ¬ x5 = x1 → Wp d tb_175 128 [.ref 9, .int x1, .int x2, .long y3, .null, .int x5, .int x6, .int x7, v8] [] σ Q) (hf : ¬ (¬ x5 = x1) → Wp d tb_175 125 [.ref 9, .int x1, .int x2, .long y3, .null, .int x5, .int x6, .int x7, v8] [] σ Q) : Wp d tb_175 119 [.ref 9, .int x1, .int x2, .long y3, .null, .int x5, .int x6, .int x7, v8] [] σ Q := by
  refine Wp.adv (pc' := 122) (ls' := [.ref 9, .int x1, .int x2, .long y3, .null, .int x5, .int x6, .int x7, v8]) (st' := [.int x1, .int x5]) (σ' := σ) 2 rfl ?_
  exact Wp.icmp rfl ht hf
theorem b175_125 {d : Nat} {Q : Option Value → px_S → Prop} {σ : px_S} {x1 x2 x5 x6 x7 : Int32} {y3 : Int64} {v8 : Value} (h : Q (some (.int x6)) σ) : Wp d tb_175 125 [.ref 9, .int x1, .int x2, .long y3, .null, .int x5, .int x6, .int x7, v8] [] σ Q := by
  refine Wp.adv (pc' := 127) (ls' := [.ref 9, .int x1, .int x2, .long y3, .null, .int x5, .int x6, .int x7, v8]) (st' := [.int x6]) (σ' := σ) 1 rfl ?_
  exact Wp.ret rfl rfl h
theorem b175_128 {d : Nat} {Q : Option Value → px_S → Prop} {σ : px_S} {x1 x2 x5 x6 x7 : Int32} {y3 : Int64} {v8 : Value} (h : Wp d tb_175 138 [.ref 9, .int x1, .int x2, .long (y3 ||| ((1 : Int64) <<< ((x6).toInt64 &&& 63))), .null, .int (x5 + 1), .int x6, .int x7, v8] [] σ Q) : Wp d tb_175 128 [.ref 9, .int x1, .int x2, .long y3, .null, .int x5, .int x6, .int x7, v8] [] σ Q := by
  refine Wp.adv (pc' := 138) (ls' := [.ref 9, .int x1, .int x2, .long (y3 ||| ((1 : Int64) <<< ((x6).toInt64 &&& 63))), .null, .int (x5 + 1), .int x6, .int x7, v8]) (st' := []) (σ' := σ) 7 rfl ?_
  exact h
theorem b175_138 {d : Nat} {Q : Option Value → px_S → Prop} {σ : px_S} {x1 x2 x5 x6 x7 : Int32} {y3 : Int64} {v8 : Value} (h : Wp d tb_175 11 [.ref 9, .int x1, .int x2, .long y3, .null, .int x5, .int x6, .int x7, v8] [] σ Q) : Wp d tb_175 138 [.ref 9, .int x1, .int x2, .long y3, .null, .int x5, .int x6, .int x7, v8] [] σ Q := by
  refine Wp.adv (pc' := 11) (ls' := [.ref 9, .int x1, .int x2, .long y3, .null, .int x5, .int x6, .int x7, v8]) (st' := []) (σ' := σ) 1 rfl ?_
  exact h
theorem b175_141 {d : Nat} {Q : Option Value → px_S → Prop} {σ : px_S} {x1 x2 x5 : Int32} {y3 : Int64} {v6 v7 v8 : Value} (h : Q (some (.int (-1 : Int32))) σ) : Wp d tb_175 141 [.ref 9, .int x1, .int x2, .long y3, .null, .int x5, v6, v7, v8] [] σ Q := by
  refine Wp.adv (pc' := 142) (ls' := [.ref 9, .int x1, .int x2, .long y3, .null, .int x5, v6, v7, v8]) (st' := [.int (-1 : Int32)]) (σ' := σ) 1 rfl ?_
  exact Wp.ret rfl rfl h
theorem e175 {d : Nat} {Q : Option Value → px_S → Prop} {σ : px_S} {x1 : Int32} (h : Wp d tb_175 0 [.ref 9, .int x1, .null, .null, .null, .null, .null, .null, .null] [] σ Q) : Cw (d + 1) 175 [.ref 9, .int x1] σ Q := Cw.of (nL := 9) (y := yX9_order) (cc := cX9_order) (rt := some .int) rfl (Nat.le_of_ble_eq_true rfl) h
theorem b176_0 {d : Nat} {Q : Option Value → px_S → Prop} {σ : px_S} {x1 : Int32} (h : Cw d 148 [.ref 9] σ (fun r τ => Wp d tb_176 4 [.ref 9, .int x1, .null, .null] (r.toList ++ []) τ Q)) : Wp d tb_176 0 [.ref 9, .int x1, .null, .null] [] σ Q := by
  refine Wp.adv (pc' := 1) (ls' := [.ref 9, .int x1, .null, .null]) (st' := [.ref 9]) (σ' := σ) 1 rfl ?_
  exact Wp.call (q := (148, 1, 9, 4)) rfl (Nat.le_of_ble_eq_true rfl) rfl h
theorem b176_4 {d : Nat} {Q : Option Value → px_S → Prop} {σ : px_S} {x1 : Int32} (h : Wp d tb_176 8 [.ref 9, .int x1, .int (0 : Int32), .int (0 : Int32)] [] σ Q) : Wp d tb_176 4 [.ref 9, .int x1, .null, .null] [] σ Q := by
  refine Wp.adv (pc' := 8) (ls' := [.ref 9, .int x1, .int (0 : Int32), .int (0 : Int32)]) (st' := []) (σ' := σ) 4 rfl ?_
  exact h
theorem b176_8 {d : Nat} {Q : Option Value → px_S → Prop} {σ : px_S} {x1 x2 x3 : Int32} (ht : (σ.1 9 1) ≤ x3 → Wp d tb_176 40 [.ref 9, .int x1, .int x2, .int x3] [] σ Q) (hf : ¬ ((σ.1 9 1) ≤ x3) → Wp d tb_176 16 [.ref 9, .int x1, .int x2, .int x3] [] σ Q) : Wp d tb_176 8 [.ref 9, .int x1, .int x2, .int x3] [] σ Q := by
  refine Wp.adv (pc' := 13) (ls' := [.ref 9, .int x1, .int x2, .int x3]) (st' := [.int (σ.1 9 1), .int x3]) (σ' := σ) 3 rfl ?_
  exact Wp.icmp rfl ht hf
theorem b176_16 {d : Nat} {Q : Option Value → px_S → Prop} {σ : px_S} {x1 x2 x3 : Int32} (h : Cw d 177 [.ref 9, .int x3] σ (fun r τ => Wp d tb_176 21 [.ref 9, .int x1, .int x2, .int x3] (r.toList ++ []) τ Q)) : Wp d tb_176 16 [.ref 9, .int x1, .int x2, .int x3] [] σ Q := by
  refine Wp.adv (pc' := 18) (ls' := [.ref 9, .int x1, .int x2, .int x3]) (st' := [.int x3, .ref 9]) (σ' := σ) 2 rfl ?_
  exact Wp.call (q := (177, 2, 9, 21)) rfl (Nat.le_of_ble_eq_true rfl) rfl h
theorem b176_21 {d : Nat} {Q : Option Value → px_S → Prop} {σ : px_S} {x1 x2 x3 s0 : Int32} (ht : s0 = 0 → Wp d tb_176 34 [.ref 9, .int x1, .int x2, .int x3] [] σ Q) (hf : ¬ (s0 = 0) → Wp d tb_176 24 [.ref 9, .int x1, .int x2, .int x3] [] σ Q) : Wp d tb_176 21 [.ref 9, .int x1, .int x2, .int x3] [.int s0] σ Q := by
  exact Wp.if_ rfl ht hf
theorem b176_24 {d : Nat} {Q : Option Value → px_S → Prop} {σ : px_S} {x1 x2 x3 : Int32} (ht : ¬ x2 = x1 → Wp d tb_176 31 [.ref 9, .int x1, .int x2, .int x3] [] σ Q) (hf : ¬ (¬ x2 = x1) → Wp d tb_176 29 [.ref 9, .int x1, .int x2, .int x3] [] σ Q) : Wp d tb_176 24 [.ref 9, .int x1, .int x2, .int x3] [] σ Q := by
  refine Wp.adv (pc' := 26) (ls' := [.ref 9, .int x1, .int x2, .int x3]) (st' := [.int x1, .int x2]) (σ' := σ) 2 rfl ?_
  exact Wp.icmp rfl ht hf
theorem b176_29 {d : Nat} {Q : Option Value → px_S → Prop} {σ : px_S} {x1 x2 x3 : Int32} (h : Q (some (.int x3)) σ) : Wp d tb_176 29 [.ref 9, .int x1, .int x2, .int x3] [] σ Q := by
  refine Wp.adv (pc' := 30) (ls' := [.ref 9, .int x1, .int x2, .int x3]) (st' := [.int x3]) (σ' := σ) 1 rfl ?_
  exact Wp.ret rfl rfl h
theorem b176_31 {d : Nat} {Q : Option Value → px_S → Prop} {σ : px_S} {x1 x2 x3 : Int32} (h : Wp d tb_176 34 [.ref 9, .int x1, .int (x2 + 1), .int x3] [] σ Q) : Wp d tb_176 31 [.ref 9, .int x1, .int x2, .int x3] [] σ Q := by
  refine Wp.adv (pc' := 34) (ls' := [.ref 9, .int x1, .int (x2 + 1), .int x3]) (st' := []) (σ' := σ) 1 rfl ?_
  exact h
theorem b176_34 {d : Nat} {Q : Option Value → px_S → Prop} {σ : px_S} {x1 x2 x3 : Int32} (h : Wp d tb_176 8 [.ref 9, .int x1, .int x2, .int (x3 + 1)] [] σ Q) : Wp d tb_176 34 [.ref 9, .int x1, .int x2, .int x3] [] σ Q := by
  refine Wp.adv (pc' := 8) (ls' := [.ref 9, .int x1, .int x2, .int (x3 + 1)]) (st' := []) (σ' := σ) 2 rfl ?_
  exact h
theorem b176_40 {d : Nat} {Q : Option Value → px_S → Prop} {σ : px_S} {x1 x2 x3 : Int32} (h : Q (some (.int (-1 : Int32))) σ) : Wp d tb_176 40 [.ref 9, .int x1, .int x2, .int x3] [] σ Q := by
  refine Wp.adv (pc' := 41) (ls' := [.ref 9, .int x1, .int x2, .int x3]) (st' := [.int (-1 : Int32)]) (σ' := σ) 1 rfl ?_
  exact Wp.ret rfl rfl h
theorem e176 {d : Nat} {Q : Option Value → px_S → Prop} {σ : px_S} {x1 : Int32} (h : Wp d tb_176 0 [.ref 9, .int x1, .null, .null] [] σ Q) : Cw (d + 1) 176 [.ref 9, .int x1] σ Q := Cw.of (nL := 4) (y := yX9_quarrel) (cc := cX9_quarrel) (rt := some .int) rfl (Nat.le_of_ble_eq_true rfl) h
theorem b177_0 {d : Nat} {Q : Option Value → px_S → Prop} {σ : px_S} {x1 : Int32} (c1 : vp_in x1 40) (ht : (σ.1 49 (x1).toNatClampNeg) < 0 → Wp d tb_177 48 [.ref 9, .int x1, .int (σ.1 49 (x1).toNatClampNeg)] [] σ Q) (hf : ¬ ((σ.1 49 (x1).toNatClampNeg) < 0) → Wp d tb_177 11 [.ref 9, .int x1, .int (σ.1 49 (x1).toNatClampNeg)] [] σ Q) : Wp d tb_177 0 [.ref 9, .int x1, .null] [] σ Q := by
  refine Wp.adv (pc' := 5) (ls' := [.ref 9, .int x1, .null]) (st' := [.int x1, .ref 49]) (σ' := σ) 3 rfl ?_
  refine Wp.iald (N := 40) rfl rfl c1 ?_
  refine Wp.adv (pc' := 8) (ls' := [.ref 9, .int x1, .int (σ.1 49 (x1).toNatClampNeg)]) (st' := [.int (σ.1 49 (x1).toNatClampNeg)]) (σ' := σ) 2 rfl ?_
  exact Wp.if_ rfl ht hf
theorem b177_11 {d : Nat} {Q : Option Value → px_S → Prop} {σ : px_S} {x1 x2 : Int32} (c1 : vp_in x1 40) (ht : (σ.1 39 (x1).toNatClampNeg) < 0 → Wp d tb_177 48 [.ref 9, .int x1, .int x2] [] σ Q) (hf : ¬ ((σ.1 39 (x1).toNatClampNeg) < 0) → Wp d tb_177 20 [.ref 9, .int x1, .int x2] [] σ Q) : Wp d tb_177 11 [.ref 9, .int x1, .int x2] [] σ Q := by
  refine Wp.adv (pc' := 16) (ls' := [.ref 9, .int x1, .int x2]) (st' := [.int x1, .ref 39]) (σ' := σ) 3 rfl ?_
  refine Wp.iald (N := 40) rfl rfl c1 ?_
  exact Wp.if_ rfl ht hf
theorem b177_20 {d : Nat} {Q : Option Value → px_S → Prop} {σ : px_S} {x1 x2 : Int32} (c1 : vp_in x2 40) (ht : (σ.1 39 (x2).toNatClampNeg) < 0 → Wp d tb_177 48 [.ref 9, .int x1, .int x2] [] σ Q) (hf : ¬ ((σ.1 39 (x2).toNatClampNeg) < 0) → Wp d tb_177 29 [.ref 9, .int x1, .int x2] [] σ Q) : Wp d tb_177 20 [.ref 9, .int x1, .int x2] [] σ Q := by
  refine Wp.adv (pc' := 25) (ls' := [.ref 9, .int x1, .int x2]) (st' := [.int x2, .ref 39]) (σ' := σ) 3 rfl ?_
  refine Wp.iald (N := 40) rfl rfl c1 ?_
  exact Wp.if_ rfl ht hf
theorem b177_29 {d : Nat} {Q : Option Value → px_S → Prop} {σ : px_S} {x1 x2 : Int32} (c1 : vp_in x1 40) (c2 : vp_in x2 40) (ht : (σ.1 39 (x2).toNatClampNeg) ≤ (σ.1 39 (x1).toNatClampNeg) → Wp d tb_177 48 [.ref 9, .int x1, .int x2] [] σ Q) (hf : ¬ ((σ.1 39 (x2).toNatClampNeg) ≤ (σ.1 39 (x1).toNatClampNeg)) → Wp d tb_177 44 [.ref 9, .int x1, .int x2] [] σ Q) : Wp d tb_177 29 [.ref 9, .int x1, .int x2] [] σ Q := by
  refine Wp.adv (pc' := 34) (ls' := [.ref 9, .int x1, .int x2]) (st' := [.int x1, .ref 39]) (σ' := σ) 3 rfl ?_
  refine Wp.iald (N := 40) rfl rfl c1 ?_
  refine Wp.adv (pc' := 40) (ls' := [.ref 9, .int x1, .int x2]) (st' := [.int x2, .ref 39, .int (σ.1 39 (x1).toNatClampNeg)]) (σ' := σ) 3 rfl ?_
  refine Wp.iald (N := 40) rfl rfl c2 ?_
  exact Wp.icmp rfl ht hf
theorem b177_44 {d : Nat} {Q : Option Value → px_S → Prop} {σ : px_S} {x1 x2 : Int32} (h : Wp d tb_177 49 [.ref 9, .int x1, .int x2] [.int (1 : Int32)] σ Q) : Wp d tb_177 44 [.ref 9, .int x1, .int x2] [] σ Q := by
  refine Wp.adv (pc' := 49) (ls' := [.ref 9, .int x1, .int x2]) (st' := [.int (1 : Int32)]) (σ' := σ) 2 rfl ?_
  exact h
theorem b177_48 {d : Nat} {Q : Option Value → px_S → Prop} {σ : px_S} {x1 x2 : Int32} (h : Wp d tb_177 49 [.ref 9, .int x1, .int x2] [.int (0 : Int32)] σ Q) : Wp d tb_177 48 [.ref 9, .int x1, .int x2] [] σ Q := by
  refine Wp.adv (pc' := 49) (ls' := [.ref 9, .int x1, .int x2]) (st' := [.int (0 : Int32)]) (σ' := σ) 1 rfl ?_
  exact h
theorem b177_49 {d : Nat} {Q : Option Value → px_S → Prop} {σ : px_S} {x1 x2 s0 : Int32} (c1 : s0 = 0 ∨ s0 = 1) (h : Q (some (.int s0)) σ) : Wp d tb_177 49 [.ref 9, .int x1, .int x2] [.int s0] σ Q := by
  exact Wp.zret rfl c1 h
theorem e177 {d : Nat} {Q : Option Value → px_S → Prop} {σ : px_S} {x1 : Int32} (h : Wp d tb_177 0 [.ref 9, .int x1, .null] [] σ Q) : Cw (d + 1) 177 [.ref 9, .int x1] σ Q := Cw.of (nL := 3) (y := yX9_quarrels) (cc := cX9_quarrels) (rt := some .boolean) rfl (Nat.le_of_ble_eq_true rfl) h
theorem b178_0 {d : Nat} {Q : Option Value → px_S → Prop} {σ : px_S} {x1 x2 : Int32} (h : Cw d 132 [.ref 9, .int x1] σ (fun r τ => Wp d tb_178 5 [.ref 9, .int x1, .int x2, .null, .null, .null] (r.toList ++ []) τ Q)) : Wp d tb_178 0 [.ref 9, .int x1, .int x2, .null, .null, .null] [] σ Q := by
  refine Wp.adv (pc' := 2) (ls' := [.ref 9, .int x1, .int x2, .null, .null, .null]) (st' := [.int x1, .ref 9]) (σ' := σ) 2 rfl ?_
  exact Wp.call (q := (132, 2, 9, 5)) rfl (Nat.le_of_ble_eq_true rfl) rfl h
theorem b178_5 {d : Nat} {Q : Option Value → px_S → Prop} {σ : px_S} {x1 x2 s0 : Int32} (ht : s0 = 0 → Wp d tb_178 12 [.ref 9, .int x1, .int x2, .null, .null, .null] [] σ Q) (hf : ¬ (s0 = 0) → Wp d tb_178 8 [.ref 9, .int x1, .int x2, .null, .null, .null] [] σ Q) : Wp d tb_178 5 [.ref 9, .int x1, .int x2, .null, .null, .null] [.int s0] σ Q := by
  exact Wp.if_ rfl ht hf
theorem b178_8 {d : Nat} {Q : Option Value → px_S → Prop} {σ : px_S} {x1 x2 : Int32} (h : Q (some (.int (-1001 : Int32))) σ) : Wp d tb_178 8 [.ref 9, .int x1, .int x2, .null, .null, .null] [] σ Q := by
  refine Wp.adv (pc' := 11) (ls' := [.ref 9, .int x1, .int x2, .null, .null, .null]) (st' := [.int (-1001 : Int32)]) (σ' := σ) 1 rfl ?_
  exact Wp.ret rfl rfl h
theorem b178_12 {d : Nat} {Q : Option Value → px_S → Prop} {σ : px_S} {x1 x2 : Int32} (h : Cw d 130 [.long (x2).toInt64, .long (0 : Int64), .long (1 : Int64)] σ (fun r τ => Wp d tb_178 19 [.ref 9, .int x1, .int x2, .null, .null, .null] (r.toList ++ []) τ Q)) : Wp d tb_178 12 [.ref 9, .int x1, .int x2, .null, .null, .null] [] σ Q := by
  refine Wp.adv (pc' := 16) (ls' := [.ref 9, .int x1, .int x2, .null, .null, .null]) (st' := [.long (1 : Int64), .long (0 : Int64), .long (x2).toInt64]) (σ' := σ) 4 rfl ?_
  exact Wp.call (q := (130, 3, 0, 19)) rfl (Nat.le_of_ble_eq_true rfl) rfl h
theorem b178_19 {d : Nat} {Q : Option Value → px_S → Prop} {σ : px_S} {x1 x2 s0 : Int32} (ht : ¬ s0 = 0 → Wp d tb_178 26 [.ref 9, .int x1, .int x2, .null, .null, .null] [] σ Q) (hf : ¬ (¬ s0 = 0) → Wp d tb_178 22 [.ref 9, .int x1, .int x2, .null, .null, .null] [] σ Q) : Wp d tb_178 19 [.ref 9, .int x1, .int x2, .null, .null, .null] [.int s0] σ Q := by
  exact Wp.if_ rfl ht hf
theorem b178_22 {d : Nat} {Q : Option Value → px_S → Prop} {σ : px_S} {x1 x2 : Int32} (h : Q (some (.int (-1002 : Int32))) σ) : Wp d tb_178 22 [.ref 9, .int x1, .int x2, .null, .null, .null] [] σ Q := by
  refine Wp.adv (pc' := 25) (ls' := [.ref 9, .int x1, .int x2, .null, .null, .null]) (st' := [.int (-1002 : Int32)]) (σ' := σ) 1 rfl ?_
  exact Wp.ret rfl rfl h
theorem b178_26 {d : Nat} {Q : Option Value → px_S → Prop} {σ : px_S} {x1 x2 : Int32} (h : Cw d 143 [.ref 9, .int x1] σ (fun r τ => Wp d tb_178 31 [.ref 9, .int x1, .int x2, .null, .null, .null] (r.toList ++ []) τ Q)) : Wp d tb_178 26 [.ref 9, .int x1, .int x2, .null, .null, .null] [] σ Q := by
  refine Wp.adv (pc' := 28) (ls' := [.ref 9, .int x1, .int x2, .null, .null, .null]) (st' := [.int x1, .ref 9]) (σ' := σ) 2 rfl ?_
  exact Wp.call (q := (143, 2, 9, 31)) rfl (Nat.le_of_ble_eq_true rfl) rfl h
theorem b178_31 {d : Nat} {Q : Option Value → px_S → Prop} {σ : px_S} {x1 x2 s0 : Int32} (ht : ¬ s0 = 0 → Wp d tb_178 38 [.ref 9, .int x1, .int x2, .null, .null, .null] [] σ Q) (hf : ¬ (¬ s0 = 0) → Wp d tb_178 34 [.ref 9, .int x1, .int x2, .null, .null, .null] [] σ Q) : Wp d tb_178 31 [.ref 9, .int x1, .int x2, .null, .null, .null] [.int s0] σ Q := by
  exact Wp.if_ rfl ht hf
theorem b178_34 {d : Nat} {Q : Option Value → px_S → Prop} {σ : px_S} {x1 x2 : Int32} (h : Q (some (.int (-1003 : Int32))) σ) : Wp d tb_178 34 [.ref 9, .int x1, .int x2, .null, .null, .null] [] σ Q := by
  refine Wp.adv (pc' := 37) (ls' := [.ref 9, .int x1, .int x2, .null, .null, .null]) (st' := [.int (-1003 : Int32)]) (σ' := σ) 1 rfl ?_
  exact Wp.ret rfl rfl h
theorem b178_38 {d : Nat} {Q : Option Value → px_S → Prop} {σ : px_S} {x1 x2 : Int32} (c1 : vp_in x1 40) (ht : (σ.1 39 (x1).toNatClampNeg) < 0 → Wp d tb_178 54 [.ref 9, .int x1, .int x2, .null, .null, .null] [] σ Q) (hf : ¬ ((σ.1 39 (x1).toNatClampNeg) < 0) → Wp d tb_178 47 [.ref 9, .int x1, .int x2, .null, .null, .null] [] σ Q) : Wp d tb_178 38 [.ref 9, .int x1, .int x2, .null, .null, .null] [] σ Q := by
  refine Wp.adv (pc' := 43) (ls' := [.ref 9, .int x1, .int x2, .null, .null, .null]) (st' := [.int x1, .ref 39]) (σ' := σ) 3 rfl ?_
  refine Wp.iald (N := 40) rfl rfl c1 ?_
  exact Wp.if_ rfl ht hf
theorem b178_47 {d : Nat} {Q : Option Value → px_S → Prop} {σ : px_S} {x1 x2 : Int32} (c1 : vp_in x1 40) (h : Q (some (.int (σ.1 39 (x1).toNatClampNeg))) σ) : Wp d tb_178 47 [.ref 9, .int x1, .int x2, .null, .null, .null] [] σ Q := by
  refine Wp.adv (pc' := 52) (ls' := [.ref 9, .int x1, .int x2, .null, .null, .null]) (st' := [.int x1, .ref 39]) (σ' := σ) 3 rfl ?_
  refine Wp.iald (N := 40) rfl rfl c1 ?_
  exact Wp.ret rfl rfl h
theorem b178_54 {d : Nat} {Q : Option Value → px_S → Prop} {σ : px_S} {x1 x2 : Int32} (h : Cw d 148 [.ref 9] σ (fun r τ => Wp d tb_178 58 [.ref 9, .int x1, .int x2, .null, .null, .null] (r.toList ++ []) τ Q)) : Wp d tb_178 54 [.ref 9, .int x1, .int x2, .null, .null, .null] [] σ Q := by
  refine Wp.adv (pc' := 55) (ls' := [.ref 9, .int x1, .int x2, .null, .null, .null]) (st' := [.ref 9]) (σ' := σ) 1 rfl ?_
  exact Wp.call (q := (148, 1, 9, 58)) rfl (Nat.le_of_ble_eq_true rfl) rfl h
theorem b178_58 {d : Nat} {Q : Option Value → px_S → Prop} {σ : px_S} {x1 x2 : Int32} (c1 : vp_in x1 40) (h : Wp d tb_178 73 [.ref 9, .int x1, .int x2, .int (0 : Int32), .int (9999 : Int32), .int (σ.1 49 (x1).toNatClampNeg)] [] σ Q) : Wp d tb_178 58 [.ref 9, .int x1, .int x2, .null, .null, .null] [] σ Q := by
  refine Wp.adv (pc' := 70) (ls' := [.ref 9, .int x1, .int x2, .int (0 : Int32), .int (9999 : Int32), .null]) (st' := [.int x1, .ref 49]) (σ' := σ) 7 rfl ?_
  refine Wp.iald (N := 40) rfl rfl c1 ?_
  refine Wp.adv (pc' := 73) (ls' := [.ref 9, .int x1, .int x2, .int (0 : Int32), .int (9999 : Int32), .int (σ.1 49 (x1).toNatClampNeg)]) (st' := []) (σ' := σ) 1 rfl ?_
  exact h
theorem b178_73 {d : Nat} {Q : Option Value → px_S → Prop} {σ : px_S} {x1 x2 x3 x4 x5 : Int32} (ht : x5 < 0 → Wp d tb_178 113 [.ref 9, .int x1, .int x2, .int x3, .int x4, .int x5] [] σ Q) (hf : ¬ (x5 < 0) → Wp d tb_178 78 [.ref 9, .int x1, .int x2, .int x3, .int x4, .int x5] [] σ Q) : Wp d tb_178 73 [.ref 9, .int x1, .int x2, .int x3, .int x4, .int x5] [] σ Q := by
  refine Wp.adv (pc' := 75) (ls' := [.ref 9, .int x1, .int x2, .int x3, .int x4, .int x5]) (st' := [.int x5]) (σ' := σ) 1 rfl ?_
  exact Wp.if_ rfl ht hf
theorem b178_78 {d : Nat} {Q : Option Value → px_S → Prop} {σ : px_S} {x1 x2 x3 x4 x5 : Int32} (c1 : vp_in x5 40) (ht : (σ.1 39 (x5).toNatClampNeg) ≤ x3 → Wp d tb_178 99 [.ref 9, .int x1, .int x2, .int x3, .int x4, .int x5] [] σ Q) (hf : ¬ ((σ.1 39 (x5).toNatClampNeg) ≤ x3) → Wp d tb_178 89 [.ref 9, .int x1, .int x2, .int x3, .int x4, .int x5] [] σ Q) : Wp d tb_178 78 [.ref 9, .int x1, .int x2, .int x3, .int x4, .int x5] [] σ Q := by
  refine Wp.adv (pc' := 84) (ls' := [.ref 9, .int x1, .int x2, .int x3, .int x4, .int x5]) (st' := [.int x5, .ref 39]) (σ' := σ) 3 rfl ?_
  refine Wp.iald (N := 40) rfl rfl c1 ?_
  refine Wp.adv (pc' := 86) (ls' := [.ref 9, .int x1, .int x2, .int x3, .int x4, .int x5]) (st' := [.int x3, .int (σ.1 39 (x5).toNatClampNeg)]) (σ' := σ) 1 rfl ?_
  exact Wp.icmp rfl ht hf
theorem b178_89 {d : Nat} {Q : Option Value → px_S → Prop} {σ : px_S} {x1 x2 x3 x4 x5 : Int32} (c1 : vp_in x5 40) (h : Wp d tb_178 100 [.ref 9, .int x1, .int x2, .int x3, .int x4, .int x5] [.int (σ.1 39 (x5).toNatClampNeg)] σ Q) : Wp d tb_178 89 [.ref 9, .int x1, .int x2, .int x3, .int x4, .int x5] [] σ Q := by
  refine Wp.adv (pc' := 95) (ls' := [.ref 9, .int x1, .int x2, .int x3, .int x4, .int x5]) (st' := [.int x5, .ref 39]) (σ' := σ) 3 rfl ?_
  refine Wp.iald (N := 40) rfl rfl c1 ?_
  refine Wp.adv (pc' := 100) (ls' := [.ref 9, .int x1, .int x2, .int x3, .int x4, .int x5]) (st' := [.int (σ.1 39 (x5).toNatClampNeg)]) (σ' := σ) 1 rfl ?_
  exact h
theorem b178_99 {d : Nat} {Q : Option Value → px_S → Prop} {σ : px_S} {x1 x2 x3 x4 x5 : Int32} (h : Wp d tb_178 100 [.ref 9, .int x1, .int x2, .int x3, .int x4, .int x5] [.int x3] σ Q) : Wp d tb_178 99 [.ref 9, .int x1, .int x2, .int x3, .int x4, .int x5] [] σ Q := by
  refine Wp.adv (pc' := 100) (ls' := [.ref 9, .int x1, .int x2, .int x3, .int x4, .int x5]) (st' := [.int x3]) (σ' := σ) 1 rfl ?_
  exact h
theorem b178_100 {d : Nat} {Q : Option Value → px_S → Prop} {σ : px_S} {x1 x2 x3 x4 x5 s0 : Int32} (c1 : vp_in x5 40) (h : Wp d tb_178 73 [.ref 9, .int x1, .int x2, .int s0, .int x4, .int (σ.1 49 (x5).toNatClampNeg)] [] σ Q) : Wp d tb_178 100 [.ref 9, .int x1, .int x2, .int x3, .int x4, .int x5] [.int s0] σ Q := by
  refine Wp.adv (pc' := 107) (ls' := [.ref 9, .int x1, .int x2, .int s0, .int x4, .int x5]) (st' := [.int x5, .ref 49]) (σ' := σ) 4 rfl ?_
  refine Wp.iald (N := 40) rfl rfl c1 ?_
  refine Wp.adv (pc' := 73) (ls' := [.ref 9, .int x1, .int x2, .int s0, .int x4, .int (σ.1 49 (x5).toNatClampNeg)]) (st' := []) (σ' := σ) 2 rfl ?_
  exact h
theorem b178_113 {d : Nat} {Q : Option Value → px_S → Prop} {σ : px_S} {x1 x2 x3 x4 x5 : Int32} (h : Wp d tb_178 116 [.ref 9, .int x1, .int x2, .int x3, .int x4, .int (0 : Int32)] [] σ Q) : Wp d tb_178 113 [.ref 9, .int x1, .int x2, .int x3, .int x4, .int x5] [] σ Q := by
  refine Wp.adv (pc' := 116) (ls' := [.ref 9, .int x1, .int x2, .int x3, .int x4, .int (0 : Int32)]) (st' := []) (σ' := σ) 2 rfl ?_
  exact h
theorem b178_116 {d : Nat} {Q : Option Value → px_S → Prop} {σ : px_S} {x1 x2 x3 x4 x5 : Int32} (ht : (σ.1 9 1) ≤ x5 → Wp d tb_178 192 [.ref 9, .int x1, .int x2, .int x3, .int x4, .int x5] [] σ Q) (hf : ¬ ((σ.1 9 1) ≤ x5) → Wp d tb_178 125 [.ref 9, .int x1, .int x2, .int x3, .int x4, .int x5] [] σ Q) : Wp d tb_178 116 [.ref 9, .int x1, .int x2, .int x3, .int x4, .int x5] [] σ Q := by
  refine Wp.adv (pc' := 122) (ls' := [.ref 9, .int x1, .int x2, .int x3, .int x4, .int x5]) (st' := [.int (σ.1 9 1), .int x5]) (σ' := σ) 3 rfl ?_
  exact Wp.icmp rfl ht hf
theorem b178_125 {d : Nat} {Q : Option Value → px_S → Prop} {σ : px_S} {x1 x2 x3 x4 x5 : Int32} (ht : x5 = x1 → Wp d tb_178 182 [.ref 9, .int x1, .int x2, .int x3, .int x4, .int x5] [] σ Q) (hf : ¬ (x5 = x1) → Wp d tb_178 131 [.ref 9, .int x1, .int x2, .int x3, .int x4, .int x5] [] σ Q) : Wp d tb_178 125 [.ref 9, .int x1, .int x2, .int x3, .int x4, .int x5] [] σ Q := by
  refine Wp.adv (pc' := 128) (ls' := [.ref 9, .int x1, .int x2, .int x3, .int x4, .int x5]) (st' := [.int x1, .int x5]) (σ' := σ) 2 rfl ?_
  exact Wp.icmp rfl ht hf
theorem b178_131 {d : Nat} {Q : Option Value → px_S → Prop} {σ : px_S} {x1 x2 x3 x4 x5 : Int32} (h : Cw d 143 [.ref 9, .int x5] σ (fun r τ => Wp d tb_178 137 [.ref 9, .int x1, .int x2, .int x3, .int x4, .int x5] (r.toList ++ []) τ Q)) : Wp d tb_178 131 [.ref 9, .int x1, .int x2, .int x3, .int x4, .int x5] [] σ Q := by
  refine Wp.adv (pc' := 134) (ls' := [.ref 9, .int x1, .int x2, .int x3, .int x4, .int x5]) (st' := [.int x5, .ref 9]) (σ' := σ) 2 rfl ?_
  exact Wp.call (q := (143, 2, 9, 137)) rfl (Nat.le_of_ble_eq_true rfl) rfl h
theorem b178_137 {d : Nat} {Q : Option Value → px_S → Prop} {σ : px_S} {x1 x2 x3 x4 x5 s0 : Int32} (ht : s0 = 0 → Wp d tb_178 182 [.ref 9, .int x1, .int x2, .int x3, .int x4, .int x5] [] σ Q) (hf : ¬ (s0 = 0) → Wp d tb_178 140 [.ref 9, .int x1, .int x2, .int x3, .int x4, .int x5] [] σ Q) : Wp d tb_178 137 [.ref 9, .int x1, .int x2, .int x3, .int x4, .int x5] [.int s0] σ Q := by
  exact Wp.if_ rfl ht hf
theorem b178_140 {d : Nat} {Q : Option Value → px_S → Prop} {σ : px_S} {x1 x2 x3 x4 x5 : Int32} (c1 : vp_in x5 40) (ht : (σ.1 39 (x5).toNatClampNeg) < 0 → Wp d tb_178 182 [.ref 9, .int x1, .int x2, .int x3, .int x4, .int x5] [] σ Q) (hf : ¬ ((σ.1 39 (x5).toNatClampNeg) < 0) → Wp d tb_178 150 [.ref 9, .int x1, .int x2, .int x3, .int x4, .int x5] [] σ Q) : Wp d tb_178 140 [.ref 9, .int x1, .int x2, .int x3, .int x4, .int x5] [] σ Q := by
  refine Wp.adv (pc' := 146) (ls' := [.ref 9, .int x1, .int x2, .int x3, .int x4, .int x5]) (st' := [.int x5, .ref 39]) (σ' := σ) 3 rfl ?_
  refine Wp.iald (N := 40) rfl rfl c1 ?_
  exact Wp.if_ rfl ht hf
theorem b178_150 {d : Nat} {Q : Option Value → px_S → Prop} {σ : px_S} {x1 x2 x3 x4 x5 : Int32} (c1 : vp_in x5 40) (ht : x4 ≤ (σ.1 39 (x5).toNatClampNeg) → Wp d tb_178 182 [.ref 9, .int x1, .int x2, .int x3, .int x4, .int x5] [] σ Q) (hf : ¬ (x4 ≤ (σ.1 39 (x5).toNatClampNeg)) → Wp d tb_178 162 [.ref 9, .int x1, .int x2, .int x3, .int x4, .int x5] [] σ Q) : Wp d tb_178 150 [.ref 9, .int x1, .int x2, .int x3, .int x4, .int x5] [] σ Q := by
  refine Wp.adv (pc' := 156) (ls' := [.ref 9, .int x1, .int x2, .int x3, .int x4, .int x5]) (st' := [.int x5, .ref 39]) (σ' := σ) 3 rfl ?_
  refine Wp.iald (N := 40) rfl rfl c1 ?_
  refine Wp.adv (pc' := 159) (ls' := [.ref 9, .int x1, .int x2, .int x3, .int x4, .int x5]) (st' := [.int x4, .int (σ.1 39 (x5).toNatClampNeg)]) (σ' := σ) 1 rfl ?_
  exact Wp.icmp rfl ht hf
theorem b178_162 {d : Nat} {Q : Option Value → px_S → Prop} {σ : px_S} {x1 x2 x3 x4 x5 : Int32} (h : Cw d 149 [.ref 9, .int x5, .int x1] σ (fun r τ => Wp d tb_178 169 [.ref 9, .int x1, .int x2, .int x3, .int x4, .int x5] (r.toList ++ []) τ Q)) : Wp d tb_178 162 [.ref 9, .int x1, .int x2, .int x3, .int x4, .int x5] [] σ Q := by
  refine Wp.adv (pc' := 166) (ls' := [.ref 9, .int x1, .int x2, .int x3, .int x4, .int x5]) (st' := [.int x1, .int x5, .ref 9]) (σ' := σ) 3 rfl ?_
  exact Wp.call (q := (149, 3, 9, 169)) rfl (Nat.le_of_ble_eq_true rfl) rfl h
theorem b178_169 {d : Nat} {Q : Option Value → px_S → Prop} {σ : px_S} {x1 x2 x3 x4 x5 s0 : Int32} (ht : s0 = 0 → Wp d tb_178 182 [.ref 9, .int x1, .int x2, .int x3, .int x4, .int x5] [] σ Q) (hf : ¬ (s0 = 0) → Wp d tb_178 172 [.ref 9, .int x1, .int x2, .int x3, .int x4, .int x5] [] σ Q) : Wp d tb_178 169 [.ref 9, .int x1, .int x2, .int x3, .int x4, .int x5] [.int s0] σ Q := by
  exact Wp.if_ rfl ht hf
theorem b178_172 {d : Nat} {Q : Option Value → px_S → Prop} {σ : px_S} {x1 x2 x3 x4 x5 : Int32} (c1 : vp_in x5 40) (h : Wp d tb_178 184 [.ref 9, .int x1, .int x2, .int x3, .int x4, .int x5] [.int (σ.1 39 (x5).toNatClampNeg)] σ Q) : Wp d tb_178 172 [.ref 9, .int x1, .int x2, .int x3, .int x4, .int x5] [] σ Q := by
  refine Wp.adv (pc' := 178) (ls' := [.ref 9, .int x1, .int x2, .int x3, .int x4, .int x5]) (st' := [.int x5, .ref 39]) (σ' := σ) 3 rfl ?_
  refine Wp.iald (N := 40) rfl rfl c1 ?_
  refine Wp.adv (pc' := 184) (ls' := [.ref 9, .int x1, .int x2, .int x3, .int x4, .int x5]) (st' := [.int (σ.1 39 (x5).toNatClampNeg)]) (σ' := σ) 1 rfl ?_
  exact h
theorem b178_182 {d : Nat} {Q : Option Value → px_S → Prop} {σ : px_S} {x1 x2 x3 x4 x5 : Int32} (h : Wp d tb_178 184 [.ref 9, .int x1, .int x2, .int x3, .int x4, .int x5] [.int x4] σ Q) : Wp d tb_178 182 [.ref 9, .int x1, .int x2, .int x3, .int x4, .int x5] [] σ Q := by
  refine Wp.adv (pc' := 184) (ls' := [.ref 9, .int x1, .int x2, .int x3, .int x4, .int x5]) (st' := [.int x4]) (σ' := σ) 1 rfl ?_
  exact h
theorem b178_184 {d : Nat} {Q : Option Value → px_S → Prop} {σ : px_S} {x1 x2 x3 x4 x5 s0 : Int32} (h : Wp d tb_178 116 [.ref 9, .int x1, .int x2, .int x3, .int s0, .int (x5 + 1)] [] σ Q) : Wp d tb_178 184 [.ref 9, .int x1, .int x2, .int x3, .int x4, .int x5] [.int s0] σ Q := by
  refine Wp.adv (pc' := 116) (ls' := [.ref 9, .int x1, .int x2, .int x3, .int s0, .int (x5 + 1)]) (st' := []) (σ' := σ) 3 rfl ?_
  exact h
theorem b178_192 {d : Nat} {Q : Option Value → px_S → Prop} {σ : px_S} {x1 x2 x3 x4 x5 : Int32} (ht : ¬ x2 = 0 → Wp d tb_178 200 [.ref 9, .int x1, .int x2, .int x3, .int x4, .int x5] [] σ Q) (hf : ¬ (¬ x2 = 0) → Wp d tb_178 196 [.ref 9, .int x1, .int x2, .int x3, .int x4, .int x5] [] σ Q) : Wp d tb_178 192 [.ref 9, .int x1, .int x2, .int x3, .int x4, .int x5] [] σ Q := by
  refine Wp.adv (pc' := 193) (ls' := [.ref 9, .int x1, .int x2, .int x3, .int x4, .int x5]) (st' := [.int x2]) (σ' := σ) 1 rfl ?_
  exact Wp.if_ rfl ht hf
theorem b178_196 {d : Nat} {Q : Option Value → px_S → Prop} {σ : px_S} {x1 x2 x3 x4 x5 : Int32} (h : Wp d tb_178 202 [.ref 9, .int x1, .int x2, .int x3, .int x4, .int x5] [.int x3] σ Q) : Wp d tb_178 196 [.ref 9, .int x1, .int x2, .int x3, .int x4, .int x5] [] σ Q := by
  refine Wp.adv (pc' := 202) (ls' := [.ref 9, .int x1, .int x2, .int x3, .int x4, .int x5]) (st' := [.int x3]) (σ' := σ) 2 rfl ?_
  exact h
theorem b178_200 {d : Nat} {Q : Option Value → px_S → Prop} {σ : px_S} {x1 x2 x3 x4 x5 : Int32} (h : Wp d tb_178 202 [.ref 9, .int x1, .int x2, .int x3, .int x4, .int x5] [.int x4] σ Q) : Wp d tb_178 200 [.ref 9, .int x1, .int x2, .int x3, .int x4, .int x5] [] σ Q := by
  refine Wp.adv (pc' := 202) (ls' := [.ref 9, .int x1, .int x2, .int x3, .int x4, .int x5]) (st' := [.int x4]) (σ' := σ) 1 rfl ?_
  exact h
theorem b178_202 {d : Nat} {Q : Option Value → px_S → Prop} {σ : px_S} {x1 x2 x3 x4 x5 s0 : Int32} (h : Q (some (.int s0)) σ) : Wp d tb_178 202 [.ref 9, .int x1, .int x2, .int x3, .int x4, .int x5] [.int s0] σ Q := by
  exact Wp.ret rfl rfl h
theorem e178 {d : Nat} {Q : Option Value → px_S → Prop} {σ : px_S} {x1 x2 : Int32} (h : Wp d tb_178 0 [.ref 9, .int x1, .int x2, .null, .null, .null] [] σ Q) : Cw (d + 1) 178 [.ref 9, .int x1, .int x2] σ Q := Cw.of (nL := 6) (y := yX9_span) (cc := cX9_span) (rt := some .int) rfl (Nat.le_of_ble_eq_true rfl) h
theorem b179_0 {d : Nat} {Q : Option Value → px_S → Prop} {σ : px_S} {x1 : Int32} (h : Cw d 130 [.long (x1).toInt64, .long (0 : Int64), .long (63 : Int64)] σ (fun r τ => Wp d tb_179 9 [.ref 9, .int x1] (r.toList ++ []) τ Q)) : Wp d tb_179 0 [.ref 9, .int x1] [] σ Q := by
  refine Wp.adv (pc' := 6) (ls' := [.ref 9, .int x1]) (st' := [.long (63 : Int64), .long (0 : Int64), .long (x1).toInt64]) (σ' := σ) 4 rfl ?_
  exact Wp.call (q := (130, 3, 0, 9)) rfl (Nat.le_of_ble_eq_true rfl) rfl h
theorem b179_9 {d : Nat} {Q : Option Value → px_S → Prop} {σ : px_S} {x1 s0 : Int32} (ht : ¬ s0 = 0 → Wp d tb_179 16 [.ref 9, .int x1] [] σ Q) (hf : ¬ (¬ s0 = 0) → Wp d tb_179 12 [.ref 9, .int x1] [] σ Q) : Wp d tb_179 9 [.ref 9, .int x1] [.int s0] σ Q := by
  exact Wp.if_ rfl ht hf
theorem b179_12 {d : Nat} {Q : Option Value → px_S → Prop} {σ : px_S} {x1 : Int32} (h : Q (some (.int (-1002 : Int32))) σ) : Wp d tb_179 12 [.ref 9, .int x1] [] σ Q := by
  refine Wp.adv (pc' := 15) (ls' := [.ref 9, .int x1]) (st' := [.int (-1002 : Int32)]) (σ' := σ) 1 rfl ?_
  exact Wp.ret rfl rfl h
theorem b179_16 {d : Nat} {Q : Option Value → px_S → Prop} {σ : px_S} {x1 : Int32} (ht : ¬ (σ.1 9 26) = (4 : Int32) → Wp d tb_179 28 [.ref 9, .int x1] [] σ Q) (hf : ¬ (¬ (σ.1 9 26) = (4 : Int32)) → Wp d tb_179 24 [.ref 9, .int x1] [] σ Q) : Wp d tb_179 16 [.ref 9, .int x1] [] σ Q := by
  refine Wp.adv (pc' := 21) (ls' := [.ref 9, .int x1]) (st' := [.int (4 : Int32), .int (σ.1 9 26)]) (σ' := σ) 3 rfl ?_
  exact Wp.icmp rfl ht hf
theorem b179_24 {d : Nat} {Q : Option Value → px_S → Prop} {σ : px_S} {x1 : Int32} (h : Q (some (.int (-1004 : Int32))) σ) : Wp d tb_179 24 [.ref 9, .int x1] [] σ Q := by
  refine Wp.adv (pc' := 27) (ls' := [.ref 9, .int x1]) (st' := [.int (-1004 : Int32)]) (σ' := σ) 1 rfl ?_
  exact Wp.ret rfl rfl h
theorem b179_28 {d : Nat} {Q : Option Value → px_S → Prop} {σ : px_S} {x1 : Int32} (c1 : vp_in (σ.1 9 26) 4) (h : Wp d tb_179 38 [.ref 9, .int x1] [] (px_uI σ 56 ((σ.1 9 26)).toNatClampNeg x1) Q) : Wp d tb_179 28 [.ref 9, .int x1] [] σ Q := by
  refine Wp.adv (pc' := 37) (ls' := [.ref 9, .int x1]) (st' := [.int x1, .int (σ.1 9 26), .ref 56]) (σ' := σ) 5 rfl ?_
  refine Wp.iast (N := 4) rfl rfl c1 ?_
  exact h
theorem b179_38 {d : Nat} {Q : Option Value → px_S → Prop} {σ : px_S} {x1 : Int32} (h : Wp d tb_179 48 [.ref 9, .int x1] [] (px_uI σ 9 26 ((σ.1 9 26) + (1 : Int32))) Q) : Wp d tb_179 38 [.ref 9, .int x1] [] σ Q := by
  refine Wp.adv (pc' := 45) (ls' := [.ref 9, .int x1]) (st' := [.int ((σ.1 9 26) + (1 : Int32)), .ref 9]) (σ' := σ) 5 rfl ?_
  refine Wp.step (q := (48, [.ref 9, .int x1], [], (px_uI σ 9 26 ((σ.1 9 26) + (1 : Int32))))) rfl rfl ?_
  exact h
theorem b179_48 {d : Nat} {Q : Option Value → px_S → Prop} {σ : px_S} {x1 : Int32} (h : Q (some (.int (σ.1 9 26))) σ) : Wp d tb_179 48 [.ref 9, .int x1] [] σ Q := by
  refine Wp.adv (pc' := 52) (ls' := [.ref 9, .int x1]) (st' := [.int (σ.1 9 26)]) (σ' := σ) 2 rfl ?_
  exact Wp.ret rfl rfl h
theorem e179 {d : Nat} {Q : Option Value → px_S → Prop} {σ : px_S} {x1 : Int32} (h : Wp d tb_179 0 [.ref 9, .int x1] [] σ Q) : Cw (d + 1) 179 [.ref 9, .int x1] σ Q := Cw.of (nL := 2) (y := yX9_sign) (cc := cX9_sign) (rt := some .int) rfl (Nat.le_of_ble_eq_true rfl) h
theorem b180_0 {d : Nat} {Q : Option Value → px_S → Prop} {σ : px_S}  (h : Wp d tb_180 10 [.ref 9, .int (σ.1 9 26)] [] (px_uI σ 9 26 (0 : Int32)) Q) : Wp d tb_180 0 [.ref 9, .null] [] σ Q := by
  refine Wp.adv (pc' := 7) (ls' := [.ref 9, .int (σ.1 9 26)]) (st' := [.int (0 : Int32), .ref 9]) (σ' := σ) 5 rfl ?_
  refine Wp.step (q := (10, [.ref 9, .int (σ.1 9 26)], [], (px_uI σ 9 26 (0 : Int32)))) rfl rfl ?_
  exact h
theorem b180_10 {d : Nat} {Q : Option Value → px_S → Prop} {σ : px_S} {x1 : Int32} (h : Q (some (.int x1)) σ) : Wp d tb_180 10 [.ref 9, .int x1] [] σ Q := by
  refine Wp.adv (pc' := 11) (ls' := [.ref 9, .int x1]) (st' := [.int x1]) (σ' := σ) 1 rfl ?_
  exact Wp.ret rfl rfl h
theorem e180 {d : Nat} {Q : Option Value → px_S → Prop} {σ : px_S}  (h : Wp d tb_180 0 [.ref 9, .null] [] σ Q) : Cw (d + 1) 180 [.ref 9] σ Q := Cw.of (nL := 2) (y := yX9_clear) (cc := cX9_clear) (rt := some .int) rfl (Nat.le_of_ble_eq_true rfl) h
theorem b181_0 {d : Nat} {Q : Option Value → px_S → Prop} {σ : px_S} {x1 x2 x3 : Int32} (h : Cw d 130 [.long (x1).toInt64, .long (-1 : Int64), .long (9 : Int64)] σ (fun r τ => Wp d tb_181 11 [.ref 9, .int x1, .int x2, .int x3, .null, .null, .null, .null, .null, .null] (r.toList ++ []) τ Q)) : Wp d tb_181 0 [.ref 9, .int x1, .int x2, .int x3, .null, .null, .null, .null, .null, .null] [] σ Q := by
  refine Wp.adv (pc' := 8) (ls' := [.ref 9, .int x1, .int x2, .int x3, .null, .null, .null, .null, .null, .null]) (st' := [.long (9 : Int64), .long (-1 : Int64), .long (x1).toInt64]) (σ' := σ) 4 rfl ?_
  exact Wp.call (q := (130, 3, 0, 11)) rfl (Nat.le_of_ble_eq_true rfl) rfl h
theorem b181_11 {d : Nat} {Q : Option Value → px_S → Prop} {σ : px_S} {x1 x2 x3 s0 : Int32} (ht : s0 = 0 → Wp d tb_181 26 [.ref 9, .int x1, .int x2, .int x3, .null, .null, .null, .null, .null, .null] [] σ Q) (hf : ¬ (s0 = 0) → Wp d tb_181 14 [.ref 9, .int x1, .int x2, .int x3, .null, .null, .null, .null, .null, .null] [] σ Q) : Wp d tb_181 11 [.ref 9, .int x1, .int x2, .int x3, .null, .null, .null, .null, .null, .null] [.int s0] σ Q := by
  exact Wp.if_ rfl ht hf
theorem b181_14 {d : Nat} {Q : Option Value → px_S → Prop} {σ : px_S} {x1 x2 x3 : Int32} (h : Cw d 130 [.long (x2).toInt64, .long (0 : Int64), .long (2 : Int64)] σ (fun r τ => Wp d tb_181 23 [.ref 9, .int x1, .int x2, .int x3, .null, .null, .null, .null, .null, .null] (r.toList ++ []) τ Q)) : Wp d tb_181 14 [.ref 9, .int x1, .int x2, .int x3, .null, .null, .null, .null, .null, .null] [] σ Q := by
  refine Wp.adv (pc' := 20) (ls' := [.ref 9, .int x1, .int x2, .int x3, .null, .null, .null, .null, .null, .null]) (st' := [.long (2 : Int64), .long (0 : Int64), .long (x2).toInt64]) (σ' := σ) 4 rfl ?_
  exact Wp.call (q := (130, 3, 0, 23)) rfl (Nat.le_of_ble_eq_true rfl) rfl h
theorem b181_23 {d : Nat} {Q : Option Value → px_S → Prop} {σ : px_S} {x1 x2 x3 s0 : Int32} (ht : ¬ s0 = 0 → Wp d tb_181 30 [.ref 9, .int x1, .int x2, .int x3, .null, .null, .null, .null, .null, .null] [] σ Q) (hf : ¬ (¬ s0 = 0) → Wp d tb_181 26 [.ref 9, .int x1, .int x2, .int x3, .null, .null, .null, .null, .null, .null] [] σ Q) : Wp d tb_181 23 [.ref 9, .int x1, .int x2, .int x3, .null, .null, .null, .null, .null, .null] [.int s0] σ Q := by
  exact Wp.if_ rfl ht hf
theorem b181_26 {d : Nat} {Q : Option Value → px_S → Prop} {σ : px_S} {x1 x2 x3 : Int32} (h : Q (some (.int (-1002 : Int32))) σ) : Wp d tb_181 26 [.ref 9, .int x1, .int x2, .int x3, .null, .null, .null, .null, .null, .null] [] σ Q := by
  refine Wp.adv (pc' := 29) (ls' := [.ref 9, .int x1, .int x2, .int x3, .null, .null, .null, .null, .null, .null]) (st' := [.int (-1002 : Int32)]) (σ' := σ) 1 rfl ?_
  exact Wp.ret rfl rfl h
theorem b181_30 {d : Nat} {Q : Option Value → px_S → Prop} {σ : px_S} {x1 x2 x3 : Int32} (ht : ¬ (σ.1 9 26) = 0 → Wp d tb_181 41 [.ref 9, .int x1, .int x2, .int x3, .null, .null, .null, .null, .null, .null] [] σ Q) (hf : ¬ (¬ (σ.1 9 26) = 0) → Wp d tb_181 37 [.ref 9, .int x1, .int x2, .int x3, .null, .null, .null, .null, .null, .null] [] σ Q) : Wp d tb_181 30 [.ref 9, .int x1, .int x2, .int x3, .null, .null, .null, .null, .null, .null] [] σ Q := by
  refine Wp.adv (pc' := 34) (ls' := [.ref 9, .int x1, .int x2, .int x3, .null, .null, .null, .null, .null, .null]) (st' := [.int (σ.1 9 26)]) (σ' := σ) 2 rfl ?_
  exact Wp.if_ rfl ht hf
theorem b181_37 {d : Nat} {Q : Option Value → px_S → Prop} {σ : px_S} {x1 x2 x3 : Int32} (h : Q (some (.int (-1003 : Int32))) σ) : Wp d tb_181 37 [.ref 9, .int x1, .int x2, .int x3, .null, .null, .null, .null, .null, .null] [] σ Q := by
  refine Wp.adv (pc' := 40) (ls' := [.ref 9, .int x1, .int x2, .int x3, .null, .null, .null, .null, .null, .null]) (st' := [.int (-1003 : Int32)]) (σ' := σ) 1 rfl ?_
  exact Wp.ret rfl rfl h
theorem b181_41 {d : Nat} {Q : Option Value → px_S → Prop} {σ : px_S} {x1 x2 x3 : Int32} (h : Wp d tb_181 50 [.ref 9, .int x1, .int x2, .int x3, .int (0 : Int32), .int (-1 : Int32), .int (0 : Int32), .null, .null, .null] [] σ Q) : Wp d tb_181 41 [.ref 9, .int x1, .int x2, .int x3, .null, .null, .null, .null, .null, .null] [] σ Q := by
  refine Wp.adv (pc' := 50) (ls' := [.ref 9, .int x1, .int x2, .int x3, .int (0 : Int32), .int (-1 : Int32), .int (0 : Int32), .null, .null, .null]) (st' := []) (σ' := σ) 6 rfl ?_
  exact h
theorem b181_50 {d : Nat} {Q : Option Value → px_S → Prop} {σ : px_S} {x1 x2 x3 x4 x5 x6 : Int32} {v7 v8 v9 : Value} (ht : ((14 : Int32) * (σ.1 9 1)) ≤ x6 → Wp d tb_181 198 [.ref 9, .int x1, .int x2, .int x3, .int x4, .int x5, .int x6, v7, v8, v9] [] σ Q) (hf : ¬ (((14 : Int32) * (σ.1 9 1)) ≤ x6) → Wp d tb_181 62 [.ref 9, .int x1, .int x2, .int x3, .int x4, .int x5, .int x6, v7, v8, v9] [] σ Q) : Wp d tb_181 50 [.ref 9, .int x1, .int x2, .int x3, .int x4, .int x5, .int x6, v7, v8, v9] [] σ Q := by
  refine Wp.adv (pc' := 59) (ls' := [.ref 9, .int x1, .int x2, .int x3, .int x4, .int x5, .int x6, v7, v8, v9]) (st' := [.int ((14 : Int32) * (σ.1 9 1)), .int x6]) (σ' := σ) 5 rfl ?_
  exact Wp.icmp rfl ht hf
theorem b181_62 {d : Nat} {Q : Option Value → px_S → Prop} {σ : px_S} {x1 x2 x3 x4 x5 x6 : Int32} {v7 v8 v9 : Value} (c1 : vp_in (x6 / (14 : Int32)) 40) (ht : (σ.1 41 ((x6 / (14 : Int32))).toNatClampNeg) ≤ (x6 - x6 / (14 : Int32) * (14 : Int32)) → Wp d tb_181 113 [.ref 9, .int x1, .int x2, .int x3, .int x4, .int x5, .int x6, .int (x6 / (14 : Int32)), v8, v9] [] σ Q) (hf : ¬ ((σ.1 41 ((x6 / (14 : Int32))).toNatClampNeg) ≤ (x6 - x6 / (14 : Int32) * (14 : Int32))) → Wp d tb_181 84 [.ref 9, .int x1, .int x2, .int x3, .int x4, .int x5, .int x6, .int (x6 / (14 : Int32)), v8, v9] [] σ Q) : Wp d tb_181 62 [.ref 9, .int x1, .int x2, .int x3, .int x4, .int x5, .int x6, v7, v8, v9] [] σ Q := by
  refine Wp.adv (pc' := 66) (ls' := [.ref 9, .int x1, .int x2, .int x3, .int x4, .int x5, .int x6, v7, v8, v9]) (st' := [.int (14 : Int32), .int x6]) (σ' := σ) 2 rfl ?_
  refine Wp.binz rfl (by decide) ?_
  refine Wp.adv (pc' := 73) (ls' := [.ref 9, .int x1, .int x2, .int x3, .int x4, .int x5, .int x6, .int (x6 / (14 : Int32)), v8, v9]) (st' := [.int (14 : Int32), .int x6]) (σ' := σ) 3 rfl ?_
  refine Wp.binz rfl (by decide) ?_
  refine Wp.adv (pc' := 80) (ls' := [.ref 9, .int x1, .int x2, .int x3, .int x4, .int x5, .int x6, .int (x6 / (14 : Int32)), v8, v9]) (st' := [.int (x6 / (14 : Int32)), .ref 41, .int (x6 - x6 / (14 : Int32) * (14 : Int32))]) (σ' := σ) 3 rfl ?_
  refine Wp.iald (N := 40) rfl rfl c1 ?_
  exact Wp.icmp rfl ht hf
theorem b181_84 {d : Nat} {Q : Option Value → px_S → Prop} {σ : px_S} {x1 x2 x3 x4 x5 x6 x7 : Int32} {v8 v9 : Value} (nv8 : px_nc v8 = true) (nv9 : px_nc v9 = true) (h : Cw d 143 [.ref 9, .int x7] σ (fun r τ => Wp d tb_181 90 [.ref 9, .int x1, .int x2, .int x3, .int x4, .int x5, .int x6, .int x7, v8, v9] (r.toList ++ []) τ Q)) : Wp d tb_181 84 [.ref 9, .int x1, .int x2, .int x3, .int x4, .int x5, .int x6, .int x7, v8, v9] [] σ Q := by
  refine Wp.adv (pc' := 87) (ls' := [.ref 9, .int x1, .int x2, .int x3, .int x4, .int x5, .int x6, .int x7, v8, v9]) (st' := [.int x7, .ref 9]) (σ' := σ) 2 rfl ?_
  exact Wp.call (q := (143, 2, 9, 90)) rfl (Nat.le_of_ble_eq_true rfl) (px_okc_mk rfl rfl rfl (by simp only [List.all_cons, List.all_nil, nv8, nv9]; rfl)) h
theorem b181_90 {d : Nat} {Q : Option Value → px_S → Prop} {σ : px_S} {x1 x2 x3 x4 x5 x6 x7 s0 : Int32} {v8 v9 : Value} (ht : s0 = 0 → Wp d tb_181 113 [.ref 9, .int x1, .int x2, .int x3, .int x4, .int x5, .int x6, .int x7, v8, v9] [] σ Q) (hf : ¬ (s0 = 0) → Wp d tb_181 93 [.ref 9, .int x1, .int x2, .int x3, .int x4, .int x5, .int x6, .int x7, v8, v9] [] σ Q) : Wp d tb_181 90 [.ref 9, .int x1, .int x2, .int x3, .int x4, .int x5, .int x6, .int x7, v8, v9] [.int s0] σ Q := by
  exact Wp.if_ rfl ht hf
theorem b181_93 {d : Nat} {Q : Option Value → px_S → Prop} {σ : px_S} {x1 x2 x3 x4 x5 x6 x7 : Int32} {v8 v9 : Value} (ht : x1 = (-1 : Int32) → Wp d tb_181 109 [.ref 9, .int x1, .int x2, .int x3, .int x4, .int x5, .int x6, .int x7, v8, v9] [] σ Q) (hf : ¬ (x1 = (-1 : Int32)) → Wp d tb_181 98 [.ref 9, .int x1, .int x2, .int x3, .int x4, .int x5, .int x6, .int x7, v8, v9] [] σ Q) : Wp d tb_181 93 [.ref 9, .int x1, .int x2, .int x3, .int x4, .int x5, .int x6, .int x7, v8, v9] [] σ Q := by
  refine Wp.adv (pc' := 95) (ls' := [.ref 9, .int x1, .int x2, .int x3, .int x4, .int x5, .int x6, .int x7, v8, v9]) (st' := [.int (-1 : Int32), .int x1]) (σ' := σ) 2 rfl ?_
  exact Wp.icmp rfl ht hf
theorem b181_98 {d : Nat} {Q : Option Value → px_S → Prop} {σ : px_S} {x1 x2 x3 x4 x5 x6 x7 : Int32} {v8 v9 : Value} (c1 : vp_in x7 40) (ht : ¬ (σ.1 38 (x7).toNatClampNeg) = x1 → Wp d tb_181 113 [.ref 9, .int x1, .int x2, .int x3, .int x4, .int x5, .int x6, .int x7, v8, v9] [] σ Q) (hf : ¬ (¬ (σ.1 38 (x7).toNatClampNeg) = x1) → Wp d tb_181 109 [.ref 9, .int x1, .int x2, .int x3, .int x4, .int x5, .int x6, .int x7, v8, v9] [] σ Q) : Wp d tb_181 98 [.ref 9, .int x1, .int x2, .int x3, .int x4, .int x5, .int x6, .int x7, v8, v9] [] σ Q := by
  refine Wp.adv (pc' := 104) (ls' := [.ref 9, .int x1, .int x2, .int x3, .int x4, .int x5, .int x6, .int x7, v8, v9]) (st' := [.int x7, .ref 38]) (σ' := σ) 3 rfl ?_
  refine Wp.iald (N := 40) rfl rfl c1 ?_
  refine Wp.adv (pc' := 106) (ls' := [.ref 9, .int x1, .int x2, .int x3, .int x4, .int x5, .int x6, .int x7, v8, v9]) (st' := [.int x1, .int (σ.1 38 (x7).toNatClampNeg)]) (σ' := σ) 1 rfl ?_
  exact Wp.icmp rfl ht hf
theorem b181_109 {d : Nat} {Q : Option Value → px_S → Prop} {σ : px_S} {x1 x2 x3 x4 x5 x6 x7 : Int32} {v8 v9 : Value} (h : Wp d tb_181 114 [.ref 9, .int x1, .int x2, .int x3, .int x4, .int x5, .int x6, .int x7, v8, v9] [.int (1 : Int32)] σ Q) : Wp d tb_181 109 [.ref 9, .int x1, .int x2, .int x3, .int x4, .int x5, .int x6, .int x7, v8, v9] [] σ Q := by
  refine Wp.adv (pc' := 114) (ls' := [.ref 9, .int x1, .int x2, .int x3, .int x4, .int x5, .int x6, .int x7, v8, v9]) (st' := [.int (1 : Int32)]) (σ' := σ) 2 rfl ?_
  exact h
theorem b181_113 {d : Nat} {Q : Option Value → px_S → Prop} {σ : px_S} {x1 x2 x3 x4 x5 x6 x7 : Int32} {v8 v9 : Value} (h : Wp d tb_181 114 [.ref 9, .int x1, .int x2, .int x3, .int x4, .int x5, .int x6, .int x7, v8, v9] [.int (0 : Int32)] σ Q) : Wp d tb_181 113 [.ref 9, .int x1, .int x2, .int x3, .int x4, .int x5, .int x6, .int x7, v8, v9] [] σ Q := by
  refine Wp.adv (pc' := 114) (ls' := [.ref 9, .int x1, .int x2, .int x3, .int x4, .int x5, .int x6, .int x7, v8, v9]) (st' := [.int (0 : Int32)]) (σ' := σ) 1 rfl ?_
  exact h
theorem b181_114 {d : Nat} {Q : Option Value → px_S → Prop} {σ : px_S} {x1 x2 x3 x4 x5 x6 x7 s0 : Int32} {v8 v9 : Value} (ht : x2 = 0 → Wp d tb_181 148 [.ref 9, .int x1, .int x2, .int x3, .int x4, .int x5, .int x6, .int x7, .int s0, v9] [] σ Q) (hf : ¬ (x2 = 0) → Wp d tb_181 120 [.ref 9, .int x1, .int x2, .int x3, .int x4, .int x5, .int x6, .int x7, .int s0, v9] [] σ Q) : Wp d tb_181 114 [.ref 9, .int x1, .int x2, .int x3, .int x4, .int x5, .int x6, .int x7, v8, v9] [.int s0] σ Q := by
  refine Wp.adv (pc' := 117) (ls' := [.ref 9, .int x1, .int x2, .int x3, .int x4, .int x5, .int x6, .int x7, .int s0, v9]) (st' := [.int x2]) (σ' := σ) 2 rfl ?_
  exact Wp.if_ rfl ht hf
theorem b181_120 {d : Nat} {Q : Option Value → px_S → Prop} {σ : px_S} {x1 x2 x3 x4 x5 x6 x7 x8 : Int32} {v9 : Value} (ht : ¬ x2 = (1 : Int32) → Wp d tb_181 129 [.ref 9, .int x1, .int x2, .int x3, .int x4, .int x5, .int x6, .int x7, .int x8, v9] [] σ Q) (hf : ¬ (¬ x2 = (1 : Int32)) → Wp d tb_181 125 [.ref 9, .int x1, .int x2, .int x3, .int x4, .int x5, .int x6, .int x7, .int x8, v9] [] σ Q) : Wp d tb_181 120 [.ref 9, .int x1, .int x2, .int x3, .int x4, .int x5, .int x6, .int x7, .int x8, v9] [] σ Q := by
  refine Wp.adv (pc' := 122) (ls' := [.ref 9, .int x1, .int x2, .int x3, .int x4, .int x5, .int x6, .int x7, .int x8, v9]) (st' := [.int (1 : Int32), .int x2]) (σ' := σ) 2 rfl ?_
  exact Wp.icmp rfl ht hf
theorem b181_125 {d : Nat} {Q : Option Value → px_S → Prop} {σ : px_S} {x1 x2 x3 x4 x5 x6 x7 x8 : Int32} {v9 : Value} (h : Wp d tb_181 130 [.ref 9, .int x1, .int x2, .int x3, .int x4, .int x5, .int x6, .int x7, .int x8, v9] [.int (1 : Int32)] σ Q) : Wp d tb_181 125 [.ref 9, .int x1, .int x2, .int x3, .int x4, .int x5, .int x6, .int x7, .int x8, v9] [] σ Q := by
  refine Wp.adv (pc' := 130) (ls' := [.ref 9, .int x1, .int x2, .int x3, .int x4, .int x5, .int x6, .int x7, .int x8, v9]) (st' := [.int (1 : Int32)]) (σ' := σ) 2 rfl ?_
  exact h
theorem b181_129 {d : Nat} {Q : Option Value → px_S → Prop} {σ : px_S} {x1 x2 x3 x4 x5 x6 x7 x8 : Int32} {v9 : Value} (h : Wp d tb_181 130 [.ref 9, .int x1, .int x2, .int x3, .int x4, .int x5, .int x6, .int x7, .int x8, v9] [.int (0 : Int32)] σ Q) : Wp d tb_181 129 [.ref 9, .int x1, .int x2, .int x3, .int x4, .int x5, .int x6, .int x7, .int x8, v9] [] σ Q := by
  refine Wp.adv (pc' := 130) (ls' := [.ref 9, .int x1, .int x2, .int x3, .int x4, .int x5, .int x6, .int x7, .int x8, v9]) (st' := [.int (0 : Int32)]) (σ' := σ) 1 rfl ?_
  exact h
theorem b181_130 {d : Nat} {Q : Option Value → px_S → Prop} {σ : px_S} {x1 x2 x3 x4 x5 x6 x7 x8 s0 : Int32} {v9 : Value} (c1 : vp_in x6 560) (ht : ¬ (σ.1 43 (x6).toNatClampNeg) = 0 → Wp d tb_181 144 [.ref 9, .int x1, .int x2, .int x3, .int x4, .int x5, .int x6, .int x7, .int x8, v9] [.int s0] σ Q) (hf : ¬ (¬ (σ.1 43 (x6).toNatClampNeg) = 0) → Wp d tb_181 140 [.ref 9, .int x1, .int x2, .int x3, .int x4, .int x5, .int x6, .int x7, .int x8, v9] [.int s0] σ Q) : Wp d tb_181 130 [.ref 9, .int x1, .int x2, .int x3, .int x4, .int x5, .int x6, .int x7, .int x8, v9] [.int s0] σ Q := by
  refine Wp.adv (pc' := 136) (ls' := [.ref 9, .int x1, .int x2, .int x3, .int x4, .int x5, .int x6, .int x7, .int x8, v9]) (st' := [.int x6, .ref 43, .int s0]) (σ' := σ) 3 rfl ?_
  refine Wp.iald (N := 560) rfl rfl c1 ?_
  exact Wp.if_ rfl ht hf
theorem b181_140 {d : Nat} {Q : Option Value → px_S → Prop} {σ : px_S} {x1 x2 x3 x4 x5 x6 x7 x8 s0 : Int32} {v9 : Value} (h : Wp d tb_181 145 [.ref 9, .int x1, .int x2, .int x3, .int x4, .int x5, .int x6, .int x7, .int x8, v9] [.int (1 : Int32), .int s0] σ Q) : Wp d tb_181 140 [.ref 9, .int x1, .int x2, .int x3, .int x4, .int x5, .int x6, .int x7, .int x8, v9] [.int s0] σ Q := by
  refine Wp.adv (pc' := 145) (ls' := [.ref 9, .int x1, .int x2, .int x3, .int x4, .int x5, .int x6, .int x7, .int x8, v9]) (st' := [.int (1 : Int32), .int s0]) (σ' := σ) 2 rfl ?_
  exact h
theorem b181_144 {d : Nat} {Q : Option Value → px_S → Prop} {σ : px_S} {x1 x2 x3 x4 x5 x6 x7 x8 s0 : Int32} {v9 : Value} (h : Wp d tb_181 145 [.ref 9, .int x1, .int x2, .int x3, .int x4, .int x5, .int x6, .int x7, .int x8, v9] [.int (0 : Int32), .int s0] σ Q) : Wp d tb_181 144 [.ref 9, .int x1, .int x2, .int x3, .int x4, .int x5, .int x6, .int x7, .int x8, v9] [.int s0] σ Q := by
  refine Wp.adv (pc' := 145) (ls' := [.ref 9, .int x1, .int x2, .int x3, .int x4, .int x5, .int x6, .int x7, .int x8, v9]) (st' := [.int (0 : Int32), .int s0]) (σ' := σ) 1 rfl ?_
  exact h
theorem b181_145 {d : Nat} {Q : Option Value → px_S → Prop} {σ : px_S} {x1 x2 x3 x4 x5 x6 x7 x8 s0 s1 : Int32} {v9 : Value} (ht : ¬ s1 = s0 → Wp d tb_181 152 [.ref 9, .int x1, .int x2, .int x3, .int x4, .int x5, .int x6, .int x7, .int x8, v9] [] σ Q) (hf : ¬ (¬ s1 = s0) → Wp d tb_181 148 [.ref 9, .int x1, .int x2, .int x3, .int x4, .int x5, .int x6, .int x7, .int x8, v9] [] σ Q) : Wp d tb_181 145 [.ref 9, .int x1, .int x2, .int x3, .int x4, .int x5, .int x6, .int x7, .int x8, v9] [.int s0, .int s1] σ Q := by
  exact Wp.icmp rfl ht hf
theorem b181_148 {d : Nat} {Q : Option Value → px_S → Prop} {σ : px_S} {x1 x2 x3 x4 x5 x6 x7 x8 : Int32} {v9 : Value} (h : Wp d tb_181 153 [.ref 9, .int x1, .int x2, .int x3, .int x4, .int x5, .int x6, .int x7, .int x8, v9] [.int (1 : Int32)] σ Q) : Wp d tb_181 148 [.ref 9, .int x1, .int x2, .int x3, .int x4, .int x5, .int x6, .int x7, .int x8, v9] [] σ Q := by
  refine Wp.adv (pc' := 153) (ls' := [.ref 9, .int x1, .int x2, .int x3, .int x4, .int x5, .int x6, .int x7, .int x8, v9]) (st' := [.int (1 : Int32)]) (σ' := σ) 2 rfl ?_
  exact h
theorem b181_152 {d : Nat} {Q : Option Value → px_S → Prop} {σ : px_S} {x1 x2 x3 x4 x5 x6 x7 x8 : Int32} {v9 : Value} (h : Wp d tb_181 153 [.ref 9, .int x1, .int x2, .int x3, .int x4, .int x5, .int x6, .int x7, .int x8, v9] [.int (0 : Int32)] σ Q) : Wp d tb_181 152 [.ref 9, .int x1, .int x2, .int x3, .int x4, .int x5, .int x6, .int x7, .int x8, v9] [] σ Q := by
  refine Wp.adv (pc' := 153) (ls' := [.ref 9, .int x1, .int x2, .int x3, .int x4, .int x5, .int x6, .int x7, .int x8, v9]) (st' := [.int (0 : Int32)]) (σ' := σ) 1 rfl ?_
  exact h
theorem b181_153 {d : Nat} {Q : Option Value → px_S → Prop} {σ : px_S} {x1 x2 x3 x4 x5 x6 x7 x8 s0 : Int32} {v9 : Value} (ht : x8 = 0 → Wp d tb_181 192 [.ref 9, .int x1, .int x2, .int x3, .int x4, .int x5, .int x6, .int x7, .int x8, .int s0] [] σ Q) (hf : ¬ (x8 = 0) → Wp d tb_181 160 [.ref 9, .int x1, .int x2, .int x3, .int x4, .int x5, .int x6, .int x7, .int x8, .int s0] [] σ Q) : Wp d tb_181 153 [.ref 9, .int x1, .int x2, .int x3, .int x4, .int x5, .int x6, .int x7, .int x8, v9] [.int s0] σ Q := by
  refine Wp.adv (pc' := 157) (ls' := [.ref 9, .int x1, .int x2, .int x3, .int x4, .int x5, .int x6, .int x7, .int x8, .int s0]) (st' := [.int x8]) (σ' := σ) 2 rfl ?_
  exact Wp.if_ rfl ht hf
theorem b181_160 {d : Nat} {Q : Option Value → px_S → Prop} {σ : px_S} {x1 x2 x3 x4 x5 x6 x7 x8 x9 : Int32} (ht : x9 = 0 → Wp d tb_181 192 [.ref 9, .int x1, .int x2, .int x3, .int x4, .int x5, .int x6, .int x7, .int x8, .int x9] [] σ Q) (hf : ¬ (x9 = 0) → Wp d tb_181 165 [.ref 9, .int x1, .int x2, .int x3, .int x4, .int x5, .int x6, .int x7, .int x8, .int x9] [] σ Q) : Wp d tb_181 160 [.ref 9, .int x1, .int x2, .int x3, .int x4, .int x5, .int x6, .int x7, .int x8, .int x9] [] σ Q := by
  refine Wp.adv (pc' := 162) (ls' := [.ref 9, .int x1, .int x2, .int x3, .int x4, .int x5, .int x6, .int x7, .int x8, .int x9]) (st' := [.int x9]) (σ' := σ) 1 rfl ?_
  exact Wp.if_ rfl ht hf
theorem b181_165 {d : Nat} {Q : Option Value → px_S → Prop} {σ : px_S} {x1 x2 x3 x4 x5 x6 x7 x8 x9 : Int32} (h : Cw d 182 [.ref 9, .int x6] σ (fun r τ => Wp d tb_181 171 [.ref 9, .int x1, .int x2, .int x3, .int x4, .int x5, .int x6, .int x7, .int x8, .int x9] (r.toList ++ []) τ Q)) : Wp d tb_181 165 [.ref 9, .int x1, .int x2, .int x3, .int x4, .int x5, .int x6, .int x7, .int x8, .int x9] [] σ Q := by
  refine Wp.adv (pc' := 168) (ls' := [.ref 9, .int x1, .int x2, .int x3, .int x4, .int x5, .int x6, .int x7, .int x8, .int x9]) (st' := [.int x6, .ref 9]) (σ' := σ) 2 rfl ?_
  exact Wp.call (q := (182, 2, 9, 171)) rfl (Nat.le_of_ble_eq_true rfl) rfl h
theorem b181_171 {d : Nat} {Q : Option Value → px_S → Prop} {σ : px_S} {x1 x2 x3 x4 x5 x6 x7 x8 x9 s0 : Int32} (ht : s0 = 0 → Wp d tb_181 192 [.ref 9, .int x1, .int x2, .int x3, .int x4, .int x5, .int x6, .int x7, .int x8, .int x9] [] σ Q) (hf : ¬ (s0 = 0) → Wp d tb_181 174 [.ref 9, .int x1, .int x2, .int x3, .int x4, .int x5, .int x6, .int x7, .int x8, .int x9] [] σ Q) : Wp d tb_181 171 [.ref 9, .int x1, .int x2, .int x3, .int x4, .int x5, .int x6, .int x7, .int x8, .int x9] [.int s0] σ Q := by
  exact Wp.if_ rfl ht hf
theorem b181_174 {d : Nat} {Q : Option Value → px_S → Prop} {σ : px_S} {x1 x2 x3 x4 x5 x6 x7 x8 x9 : Int32} (ht : ¬ x4 = x3 → Wp d tb_181 185 [.ref 9, .int x1, .int x2, .int x3, .int x4, .int x5, .int x6, .int x7, .int x8, .int x9] [] σ Q) (hf : ¬ (¬ x4 = x3) → Wp d tb_181 180 [.ref 9, .int x1, .int x2, .int x3, .int x4, .int x5, .int x6, .int x7, .int x8, .int x9] [] σ Q) : Wp d tb_181 174 [.ref 9, .int x1, .int x2, .int x3, .int x4, .int x5, .int x6, .int x7, .int x8, .int x9] [] σ Q := by
  refine Wp.adv (pc' := 177) (ls' := [.ref 9, .int x1, .int x2, .int x3, .int x4, .int x5, .int x6, .int x7, .int x8, .int x9]) (st' := [.int x3, .int x4]) (σ' := σ) 2 rfl ?_
  exact Wp.icmp rfl ht hf
theorem b181_180 {d : Nat} {Q : Option Value → px_S → Prop} {σ : px_S} {x1 x2 x3 x4 x5 x6 x7 x8 x9 : Int32} (h : Wp d tb_181 187 [.ref 9, .int x1, .int x2, .int x3, .int x4, .int x5, .int x6, .int x7, .int x8, .int x9] [.int x6] σ Q) : Wp d tb_181 180 [.ref 9, .int x1, .int x2, .int x3, .int x4, .int x5, .int x6, .int x7, .int x8, .int x9] [] σ Q := by
  refine Wp.adv (pc' := 187) (ls' := [.ref 9, .int x1, .int x2, .int x3, .int x4, .int x5, .int x6, .int x7, .int x8, .int x9]) (st' := [.int x6]) (σ' := σ) 2 rfl ?_
  exact h
theorem b181_185 {d : Nat} {Q : Option Value → px_S → Prop} {σ : px_S} {x1 x2 x3 x4 x5 x6 x7 x8 x9 : Int32} (h : Wp d tb_181 187 [.ref 9, .int x1, .int x2, .int x3, .int x4, .int x5, .int x6, .int x7, .int x8, .int x9] [.int x5] σ Q) : Wp d tb_181 185 [.ref 9, .int x1, .int x2, .int x3, .int x4, .int x5, .int x6, .int x7, .int x8, .int x9] [] σ Q := by
  refine Wp.adv (pc' := 187) (ls' := [.ref 9, .int x1, .int x2, .int x3, .int x4, .int x5, .int x6, .int x7, .int x8, .int x9]) (st' := [.int x5]) (σ' := σ) 1 rfl ?_
  exact h
theorem b181_187 {d : Nat} {Q : Option Value → px_S → Prop} {σ : px_S} {x1 x2 x3 x4 x5 x6 x7 x8 x9 s0 : Int32} (h : Wp d tb_181 192 [.ref 9, .int x1, .int x2, .int x3, .int (x4 + 1), .int s0, .int x6, .int x7, .int x8, .int x9] [] σ Q) : Wp d tb_181 187 [.ref 9, .int x1, .int x2, .int x3, .int x4, .int x5, .int x6, .int x7, .int x8, .int x9] [.int s0] σ Q := by
  refine Wp.adv (pc' := 192) (ls' := [.ref 9, .int x1, .int x2, .int x3, .int (x4 + 1), .int s0, .int x6, .int x7, .int x8, .int x9]) (st' := []) (σ' := σ) 2 rfl ?_
  exact h
theorem b181_192 {d : Nat} {Q : Option Value → px_S → Prop} {σ : px_S} {x1 x2 x3 x4 x5 x6 x7 x8 x9 : Int32} (h : Wp d tb_181 50 [.ref 9, .int x1, .int x2, .int x3, .int x4, .int x5, .int (x6 + 1), .int x7, .int x8, .int x9] [] σ Q) : Wp d tb_181 192 [.ref 9, .int x1, .int x2, .int x3, .int x4, .int x5, .int x6, .int x7, .int x8, .int x9] [] σ Q := by
  refine Wp.adv (pc' := 50) (ls' := [.ref 9, .int x1, .int x2, .int x3, .int x4, .int x5, .int (x6 + 1), .int x7, .int x8, .int x9]) (st' := []) (σ' := σ) 2 rfl ?_
  exact h
theorem b181_198 {d : Nat} {Q : Option Value → px_S → Prop} {σ : px_S} {x1 x2 x3 x4 x5 x6 : Int32} {v7 v8 v9 : Value} (ht : ¬ x3 = (-1 : Int32) → Wp d tb_181 208 [.ref 9, .int x1, .int x2, .int x3, .int x4, .int x5, .int x6, v7, v8, v9] [] σ Q) (hf : ¬ (¬ x3 = (-1 : Int32)) → Wp d tb_181 203 [.ref 9, .int x1, .int x2, .int x3, .int x4, .int x5, .int x6, v7, v8, v9] [] σ Q) : Wp d tb_181 198 [.ref 9, .int x1, .int x2, .int x3, .int x4, .int x5, .int x6, v7, v8, v9] [] σ Q := by
  refine Wp.adv (pc' := 200) (ls' := [.ref 9, .int x1, .int x2, .int x3, .int x4, .int x5, .int x6, v7, v8, v9]) (st' := [.int (-1 : Int32), .int x3]) (σ' := σ) 2 rfl ?_
  exact Wp.icmp rfl ht hf
theorem b181_203 {d : Nat} {Q : Option Value → px_S → Prop} {σ : px_S} {x1 x2 x3 x4 x5 x6 : Int32} {v7 v8 v9 : Value} (h : Wp d tb_181 210 [.ref 9, .int x1, .int x2, .int x3, .int x4, .int x5, .int x6, v7, v8, v9] [.int x4] σ Q) : Wp d tb_181 203 [.ref 9, .int x1, .int x2, .int x3, .int x4, .int x5, .int x6, v7, v8, v9] [] σ Q := by
  refine Wp.adv (pc' := 210) (ls' := [.ref 9, .int x1, .int x2, .int x3, .int x4, .int x5, .int x6, v7, v8, v9]) (st' := [.int x4]) (σ' := σ) 2 rfl ?_
  exact h
theorem b181_208 {d : Nat} {Q : Option Value → px_S → Prop} {σ : px_S} {x1 x2 x3 x4 x5 x6 : Int32} {v7 v8 v9 : Value} (h : Wp d tb_181 210 [.ref 9, .int x1, .int x2, .int x3, .int x4, .int x5, .int x6, v7, v8, v9] [.int x5] σ Q) : Wp d tb_181 208 [.ref 9, .int x1, .int x2, .int x3, .int x4, .int x5, .int x6, v7, v8, v9] [] σ Q := by
  refine Wp.adv (pc' := 210) (ls' := [.ref 9, .int x1, .int x2, .int x3, .int x4, .int x5, .int x6, v7, v8, v9]) (st' := [.int x5]) (σ' := σ) 1 rfl ?_
  exact h
theorem b181_210 {d : Nat} {Q : Option Value → px_S → Prop} {σ : px_S} {x1 x2 x3 x4 x5 x6 s0 : Int32} {v7 v8 v9 : Value} (h : Q (some (.int s0)) σ) : Wp d tb_181 210 [.ref 9, .int x1, .int x2, .int x3, .int x4, .int x5, .int x6, v7, v8, v9] [.int s0] σ Q := by
  exact Wp.ret rfl rfl h
theorem e181 {d : Nat} {Q : Option Value → px_S → Prop} {σ : px_S} {x1 x2 x3 : Int32} (h : Wp d tb_181 0 [.ref 9, .int x1, .int x2, .int x3, .null, .null, .null, .null, .null, .null] [] σ Q) : Cw (d + 1) 181 [.ref 9, .int x1, .int x2, .int x3] σ Q := Cw.of (nL := 10) (y := yX9_seek) (cc := cX9_seek) (rt := some .int) rfl (Nat.le_of_ble_eq_true rfl) h
theorem b182_0 {d : Nat} {Q : Option Value → px_S → Prop} {σ : px_S} {x1 : Int32} (h : Wp d tb_182 4 [.ref 9, .int x1, .int (0 : Int32), .int (0 : Int32), .null] [] σ Q) : Wp d tb_182 0 [.ref 9, .int x1, .null, .null, .null] [] σ Q := by
  refine Wp.adv (pc' := 4) (ls' := [.ref 9, .int x1, .int (0 : Int32), .int (0 : Int32), .null]) (st' := []) (σ' := σ) 4 rfl ?_
  exact h
theorem b182_4 {d : Nat} {Q : Option Value → px_S → Prop} {σ : px_S} {x1 x2 x3 : Int32} {v4 : Value} (c1 : vp_in x1 560) (ht : (σ.1 44 (x1).toNatClampNeg) < (x3 + (σ.1 9 26)) → Wp d tb_182 93 [.ref 9, .int x1, .int x2, .int x3, v4] [] σ Q) (hf : ¬ ((σ.1 44 (x1).toNatClampNeg) < (x3 + (σ.1 9 26))) → Wp d tb_182 19 [.ref 9, .int x1, .int x2, .int x3, v4] [] σ Q) : Wp d tb_182 4 [.ref 9, .int x1, .int x2, .int x3, v4] [] σ Q := by
  refine Wp.adv (pc' := 15) (ls' := [.ref 9, .int x1, .int x2, .int x3, v4]) (st' := [.int x1, .ref 44, .int (x3 + (σ.1 9 26))]) (σ' := σ) 7 rfl ?_
  refine Wp.iald (N := 560) rfl rfl c1 ?_
  exact Wp.icmp rfl ht hf
theorem b182_19 {d : Nat} {Q : Option Value → px_S → Prop} {σ : px_S} {x1 x2 x3 : Int32} {v4 : Value} (ht : ¬ x2 = 0 → Wp d tb_182 93 [.ref 9, .int x1, .int x2, .int x3, v4] [] σ Q) (hf : ¬ (¬ x2 = 0) → Wp d tb_182 23 [.ref 9, .int x1, .int x2, .int x3, v4] [] σ Q) : Wp d tb_182 19 [.ref 9, .int x1, .int x2, .int x3, v4] [] σ Q := by
  refine Wp.adv (pc' := 20) (ls' := [.ref 9, .int x1, .int x2, .int x3, v4]) (st' := [.int x2]) (σ' := σ) 1 rfl ?_
  exact Wp.if_ rfl ht hf
theorem b182_23 {d : Nat} {Q : Option Value → px_S → Prop} {σ : px_S} {x1 x2 x3 : Int32} {v4 : Value} (h : Wp d tb_182 28 [.ref 9, .int x1, .int (1 : Int32), .int x3, .int (0 : Int32)] [] σ Q) : Wp d tb_182 23 [.ref 9, .int x1, .int x2, .int x3, v4] [] σ Q := by
  refine Wp.adv (pc' := 28) (ls' := [.ref 9, .int x1, .int (1 : Int32), .int x3, .int (0 : Int32)]) (st' := []) (σ' := σ) 4 rfl ?_
  exact h
theorem b182_28 {d : Nat} {Q : Option Value → px_S → Prop} {σ : px_S} {x1 x2 x3 x4 : Int32} (ht : (σ.1 9 26) ≤ x4 → Wp d tb_182 87 [.ref 9, .int x1, .int x2, .int x3, .int x4] [] σ Q) (hf : ¬ ((σ.1 9 26) ≤ x4) → Wp d tb_182 37 [.ref 9, .int x1, .int x2, .int x3, .int x4] [] σ Q) : Wp d tb_182 28 [.ref 9, .int x1, .int x2, .int x3, .int x4] [] σ Q := by
  refine Wp.adv (pc' := 34) (ls' := [.ref 9, .int x1, .int x2, .int x3, .int x4]) (st' := [.int (σ.1 9 26), .int x4]) (σ' := σ) 3 rfl ?_
  exact Wp.icmp rfl ht hf
theorem b182_37 {d : Nat} {Q : Option Value → px_S → Prop} {σ : px_S} {x1 x2 x3 x4 : Int32} (ht : x2 = 0 → Wp d tb_182 79 [.ref 9, .int x1, .int x2, .int x3, .int x4] [] σ Q) (hf : ¬ (x2 = 0) → Wp d tb_182 41 [.ref 9, .int x1, .int x2, .int x3, .int x4] [] σ Q) : Wp d tb_182 37 [.ref 9, .int x1, .int x2, .int x3, .int x4] [] σ Q := by
  refine Wp.adv (pc' := 38) (ls' := [.ref 9, .int x1, .int x2, .int x3, .int x4]) (st' := [.int x2]) (σ' := σ) 1 rfl ?_
  exact Wp.if_ rfl ht hf
theorem b182_41 {d : Nat} {Q : Option Value → px_S → Prop} {σ : px_S} {x1 x2 x3 x4 : Int32} (c1 : vp_in x4 4) (ht : (σ.1 56 (x4).toNatClampNeg) = 0 → Wp d tb_182 75 [.ref 9, .int x1, .int x2, .int x3, .int x4] [] σ Q) (hf : ¬ ((σ.1 56 (x4).toNatClampNeg) = 0) → Wp d tb_182 51 [.ref 9, .int x1, .int x2, .int x3, .int x4] [] σ Q) : Wp d tb_182 41 [.ref 9, .int x1, .int x2, .int x3, .int x4] [] σ Q := by
  refine Wp.adv (pc' := 47) (ls' := [.ref 9, .int x1, .int x2, .int x3, .int x4]) (st' := [.int x4, .ref 56]) (σ' := σ) 3 rfl ?_
  refine Wp.iald (N := 4) rfl rfl c1 ?_
  exact Wp.if_ rfl ht hf
theorem b182_51 {d : Nat} {Q : Option Value → px_S → Prop} {σ : px_S} {x1 x2 x3 x4 : Int32} (c1 : vp_in x4 4) (c2 : vp_in ((((8 : Int32) * x1) + x3) + x4) 4480) (ht : ¬ (σ.1 56 (x4).toNatClampNeg) = (σ.1 45 (((((8 : Int32) * x1) + x3) + x4)).toNatClampNeg) → Wp d tb_182 79 [.ref 9, .int x1, .int x2, .int x3, .int x4] [] σ Q) (hf : ¬ (¬ (σ.1 56 (x4).toNatClampNeg) = (σ.1 45 (((((8 : Int32) * x1) + x3) + x4)).toNatClampNeg)) → Wp d tb_182 75 [.ref 9, .int x1, .int x2, .int x3, .int x4] [] σ Q) : Wp d tb_182 51 [.ref 9, .int x1, .int x2, .int x3, .int x4] [] σ Q := by
  refine Wp.adv (pc' := 57) (ls' := [.ref 9, .int x1, .int x2, .int x3, .int x4]) (st' := [.int x4, .ref 56]) (σ' := σ) 3 rfl ?_
  refine Wp.iald (N := 4) rfl rfl c1 ?_
  refine Wp.adv (pc' := 71) (ls' := [.ref 9, .int x1, .int x2, .int x3, .int x4]) (st' := [.int ((((8 : Int32) * x1) + x3) + x4), .ref 45, .int (σ.1 56 (x4).toNatClampNeg)]) (σ' := σ) 9 rfl ?_
  refine Wp.iald (N := 4480) rfl rfl c2 ?_
  exact Wp.icmp rfl ht hf
theorem b182_75 {d : Nat} {Q : Option Value → px_S → Prop} {σ : px_S} {x1 x2 x3 x4 : Int32} (h : Wp d tb_182 80 [.ref 9, .int x1, .int x2, .int x3, .int x4] [.int (1 : Int32)] σ Q) : Wp d tb_182 75 [.ref 9, .int x1, .int x2, .int x3, .int x4] [] σ Q := by
  refine Wp.adv (pc' := 80) (ls' := [.ref 9, .int x1, .int x2, .int x3, .int x4]) (st' := [.int (1 : Int32)]) (σ' := σ) 2 rfl ?_
  exact h
theorem b182_79 {d : Nat} {Q : Option Value → px_S → Prop} {σ : px_S} {x1 x2 x3 x4 : Int32} (h : Wp d tb_182 80 [.ref 9, .int x1, .int x2, .int x3, .int x4] [.int (0 : Int32)] σ Q) : Wp d tb_182 79 [.ref 9, .int x1, .int x2, .int x3, .int x4] [] σ Q := by
  refine Wp.adv (pc' := 80) (ls' := [.ref 9, .int x1, .int x2, .int x3, .int x4]) (st' := [.int (0 : Int32)]) (σ' := σ) 1 rfl ?_
  exact h
theorem b182_80 {d : Nat} {Q : Option Value → px_S → Prop} {σ : px_S} {x1 x2 x3 x4 s0 : Int32} (h : Wp d tb_182 28 [.ref 9, .int x1, .int s0, .int x3, .int (x4 + 1)] [] σ Q) : Wp d tb_182 80 [.ref 9, .int x1, .int x2, .int x3, .int x4] [.int s0] σ Q := by
  refine Wp.adv (pc' := 28) (ls' := [.ref 9, .int x1, .int s0, .int x3, .int (x4 + 1)]) (st' := []) (σ' := σ) 3 rfl ?_
  exact h
theorem b182_87 {d : Nat} {Q : Option Value → px_S → Prop} {σ : px_S} {x1 x2 x3 x4 : Int32} (h : Wp d tb_182 4 [.ref 9, .int x1, .int x2, .int (x3 + 1), .int x4] [] σ Q) : Wp d tb_182 87 [.ref 9, .int x1, .int x2, .int x3, .int x4] [] σ Q := by
  refine Wp.adv (pc' := 4) (ls' := [.ref 9, .int x1, .int x2, .int (x3 + 1), .int x4]) (st' := []) (σ' := σ) 2 rfl ?_
  exact h
theorem b182_93 {d : Nat} {Q : Option Value → px_S → Prop} {σ : px_S} {x1 x2 x3 : Int32} {v4 : Value} (c1 : x2 = 0 ∨ x2 = 1) (h : Q (some (.int x2)) σ) : Wp d tb_182 93 [.ref 9, .int x1, .int x2, .int x3, v4] [] σ Q := by
  refine Wp.adv (pc' := 94) (ls' := [.ref 9, .int x1, .int x2, .int x3, v4]) (st' := [.int x2]) (σ' := σ) 1 rfl ?_
  exact Wp.zret rfl c1 h
theorem e182 {d : Nat} {Q : Option Value → px_S → Prop} {σ : px_S} {x1 : Int32} (h : Wp d tb_182 0 [.ref 9, .int x1, .null, .null, .null] [] σ Q) : Cw (d + 1) 182 [.ref 9, .int x1] σ Q := Cw.of (nL := 5) (y := yX9_hasSigns) (cc := cX9_hasSigns) (rt := some .boolean) rfl (Nat.le_of_ble_eq_true rfl) h
theorem b183_0 {d : Nat} {Q : Option Value → px_S → Prop} {σ : px_S} {x1 : Int32} (h : Cw d 132 [.ref 9, .int x1] σ (fun r τ => Wp d tb_183 5 [.ref 9, .int x1, .null, .null, .null, .null, .null] (r.toList ++ []) τ Q)) : Wp d tb_183 0 [.ref 9, .int x1, .null, .null, .null, .null, .null] [] σ Q := by
  refine Wp.adv (pc' := 2) (ls' := [.ref 9, .int x1, .null, .null, .null, .null, .null]) (st' := [.int x1, .ref 9]) (σ' := σ) 2 rfl ?_
  exact Wp.call (q := (132, 2, 9, 5)) rfl (Nat.le_of_ble_eq_true rfl) rfl h
theorem b183_5 {d : Nat} {Q : Option Value → px_S → Prop} {σ : px_S} {x1 s0 : Int32} (ht : s0 = 0 → Wp d tb_183 12 [.ref 9, .int x1, .null, .null, .null, .null, .null] [] σ Q) (hf : ¬ (s0 = 0) → Wp d tb_183 8 [.ref 9, .int x1, .null, .null, .null, .null, .null] [] σ Q) : Wp d tb_183 5 [.ref 9, .int x1, .null, .null, .null, .null, .null] [.int s0] σ Q := by
  exact Wp.if_ rfl ht hf
theorem b183_8 {d : Nat} {Q : Option Value → px_S → Prop} {σ : px_S} {x1 : Int32} (h : Q (some (.int (-1001 : Int32))) σ) : Wp d tb_183 8 [.ref 9, .int x1, .null, .null, .null, .null, .null] [] σ Q := by
  refine Wp.adv (pc' := 11) (ls' := [.ref 9, .int x1, .null, .null, .null, .null, .null]) (st' := [.int (-1001 : Int32)]) (σ' := σ) 1 rfl ?_
  exact Wp.ret rfl rfl h
theorem b183_12 {d : Nat} {Q : Option Value → px_S → Prop} {σ : px_S} {x1 : Int32} (c1 : vp_in x1 40) (ht : ¬ (σ.1 42 (x1).toNatClampNeg) = 0 → Wp d tb_183 25 [.ref 9, .int x1, .null, .null, .null, .null, .null] [] σ Q) (hf : ¬ (¬ (σ.1 42 (x1).toNatClampNeg) = 0) → Wp d tb_183 21 [.ref 9, .int x1, .null, .null, .null, .null, .null] [] σ Q) : Wp d tb_183 12 [.ref 9, .int x1, .null, .null, .null, .null, .null] [] σ Q := by
  refine Wp.adv (pc' := 17) (ls' := [.ref 9, .int x1, .null, .null, .null, .null, .null]) (st' := [.int x1, .ref 42]) (σ' := σ) 3 rfl ?_
  refine Wp.zald (N := 40) rfl rfl c1 ?_
  exact Wp.if_ rfl ht hf
theorem b183_21 {d : Nat} {Q : Option Value → px_S → Prop} {σ : px_S} {x1 : Int32} (h : Q (some (.int (-1003 : Int32))) σ) : Wp d tb_183 21 [.ref 9, .int x1, .null, .null, .null, .null, .null] [] σ Q := by
  refine Wp.adv (pc' := 24) (ls' := [.ref 9, .int x1, .null, .null, .null, .null, .null]) (st' := [.int (-1003 : Int32)]) (σ' := σ) 1 rfl ?_
  exact Wp.ret rfl rfl h
theorem b183_25 {d : Nat} {Q : Option Value → px_S → Prop} {σ : px_S} {x1 : Int32} (h : Wp d tb_183 30 [.ref 9, .int x1, .null, .null, .null, .null, .null] [] (px_uI σ 9 13 x1) Q) : Wp d tb_183 25 [.ref 9, .int x1, .null, .null, .null, .null, .null] [] σ Q := by
  refine Wp.adv (pc' := 27) (ls' := [.ref 9, .int x1, .null, .null, .null, .null, .null]) (st' := [.int x1, .ref 9]) (σ' := σ) 2 rfl ?_
  refine Wp.step (q := (30, [.ref 9, .int x1, .null, .null, .null, .null, .null], [], (px_uI σ 9 13 x1))) rfl rfl ?_
  exact h
theorem b183_30 {d : Nat} {Q : Option Value → px_S → Prop} {σ : px_S} {x1 : Int32} (h : Cw d 148 [.ref 9] σ (fun r τ => Wp d tb_183 34 [.ref 9, .int x1, .null, .null, .null, .null, .null] (r.toList ++ []) τ Q)) : Wp d tb_183 30 [.ref 9, .int x1, .null, .null, .null, .null, .null] [] σ Q := by
  refine Wp.adv (pc' := 31) (ls' := [.ref 9, .int x1, .null, .null, .null, .null, .null]) (st' := [.ref 9]) (σ' := σ) 1 rfl ?_
  exact Wp.call (q := (148, 1, 9, 34)) rfl (Nat.le_of_ble_eq_true rfl) rfl h
theorem b183_34 {d : Nat} {Q : Option Value → px_S → Prop} {σ : px_S} {x1 : Int32} (h : Wp d tb_183 38 [.ref 9, .int x1, .int (0 : Int32), .int (0 : Int32), .null, .null, .null] [] σ Q) : Wp d tb_183 34 [.ref 9, .int x1, .null, .null, .null, .null, .null] [] σ Q := by
  refine Wp.adv (pc' := 38) (ls' := [.ref 9, .int x1, .int (0 : Int32), .int (0 : Int32), .null, .null, .null]) (st' := []) (σ' := σ) 4 rfl ?_
  exact h
theorem b183_38 {d : Nat} {Q : Option Value → px_S → Prop} {σ : px_S} {x1 x2 x3 : Int32} {v4 v5 v6 : Value} (ht : (σ.1 9 1) ≤ x3 → Wp d tb_183 151 [.ref 9, .int x1, .int x2, .int x3, v4, v5, v6] [] σ Q) (hf : ¬ ((σ.1 9 1) ≤ x3) → Wp d tb_183 46 [.ref 9, .int x1, .int x2, .int x3, v4, v5, v6] [] σ Q) : Wp d tb_183 38 [.ref 9, .int x1, .int x2, .int x3, v4, v5, v6] [] σ Q := by
  refine Wp.adv (pc' := 43) (ls' := [.ref 9, .int x1, .int x2, .int x3, v4, v5, v6]) (st' := [.int (σ.1 9 1), .int x3]) (σ' := σ) 3 rfl ?_
  exact Wp.icmp rfl ht hf
theorem b183_46 {d : Nat} {Q : Option Value → px_S → Prop} {σ : px_S} {x1 x2 x3 : Int32} {v4 v5 v6 : Value} (h : Wp d tb_183 49 [.ref 9, .int x1, .int x2, .int x3, .int (0 : Int32), v5, v6] [] σ Q) : Wp d tb_183 46 [.ref 9, .int x1, .int x2, .int x3, v4, v5, v6] [] σ Q := by
  refine Wp.adv (pc' := 49) (ls' := [.ref 9, .int x1, .int x2, .int x3, .int (0 : Int32), v5, v6]) (st' := []) (σ' := σ) 2 rfl ?_
  exact h
theorem b183_49 {d : Nat} {Q : Option Value → px_S → Prop} {σ : px_S} {x1 x2 x3 x4 : Int32} {v5 v6 : Value} (c1 : vp_in x3 40) (ht : (σ.1 41 (x3).toNatClampNeg) ≤ x4 → Wp d tb_183 145 [.ref 9, .int x1, .int x2, .int x3, .int x4, v5, v6] [] σ Q) (hf : ¬ ((σ.1 41 (x3).toNatClampNeg) ≤ x4) → Wp d tb_183 60 [.ref 9, .int x1, .int x2, .int x3, .int x4, v5, v6] [] σ Q) : Wp d tb_183 49 [.ref 9, .int x1, .int x2, .int x3, .int x4, v5, v6] [] σ Q := by
  refine Wp.adv (pc' := 56) (ls' := [.ref 9, .int x1, .int x2, .int x3, .int x4, v5, v6]) (st' := [.int x3, .ref 41, .int x4]) (σ' := σ) 4 rfl ?_
  refine Wp.iald (N := 40) rfl rfl c1 ?_
  exact Wp.icmp rfl ht hf
theorem b183_60 {d : Nat} {Q : Option Value → px_S → Prop} {σ : px_S} {x1 x2 x3 x4 : Int32} {v5 v6 : Value} (ht : x3 = x1 → Wp d tb_183 145 [.ref 9, .int x1, .int x2, .int x3, .int x4, v5, v6] [] σ Q) (hf : ¬ (x3 = x1) → Wp d tb_183 65 [.ref 9, .int x1, .int x2, .int x3, .int x4, v5, v6] [] σ Q) : Wp d tb_183 60 [.ref 9, .int x1, .int x2, .int x3, .int x4, v5, v6] [] σ Q := by
  refine Wp.adv (pc' := 62) (ls' := [.ref 9, .int x1, .int x2, .int x3, .int x4, v5, v6]) (st' := [.int x1, .int x3]) (σ' := σ) 2 rfl ?_
  exact Wp.icmp rfl ht hf
theorem b183_65 {d : Nat} {Q : Option Value → px_S → Prop} {σ : px_S} {x1 x2 x3 x4 : Int32} {v5 v6 : Value} (nv5 : px_nc v5 = true) (nv6 : px_nc v6 = true) (h : Cw d 143 [.ref 9, .int x3] σ (fun r τ => Wp d tb_183 70 [.ref 9, .int x1, .int x2, .int x3, .int x4, v5, v6] (r.toList ++ []) τ Q)) : Wp d tb_183 65 [.ref 9, .int x1, .int x2, .int x3, .int x4, v5, v6] [] σ Q := by
  refine Wp.adv (pc' := 67) (ls' := [.ref 9, .int x1, .int x2, .int x3, .int x4, v5, v6]) (st' := [.int x3, .ref 9]) (σ' := σ) 2 rfl ?_
  exact Wp.call (q := (143, 2, 9, 70)) rfl (Nat.le_of_ble_eq_true rfl) (px_okc_mk rfl rfl rfl (by simp only [List.all_cons, List.all_nil, nv5, nv6]; rfl)) h
theorem b183_70 {d : Nat} {Q : Option Value → px_S → Prop} {σ : px_S} {x1 x2 x3 x4 s0 : Int32} {v5 v6 : Value} (ht : s0 = 0 → Wp d tb_183 145 [.ref 9, .int x1, .int x2, .int x3, .int x4, v5, v6] [] σ Q) (hf : ¬ (s0 = 0) → Wp d tb_183 73 [.ref 9, .int x1, .int x2, .int x3, .int x4, v5, v6] [] σ Q) : Wp d tb_183 70 [.ref 9, .int x1, .int x2, .int x3, .int x4, v5, v6] [.int s0] σ Q := by
  exact Wp.if_ rfl ht hf
theorem b183_73 {d : Nat} {Q : Option Value → px_S → Prop} {σ : px_S} {x1 x2 x3 x4 : Int32} {v5 v6 : Value} (c1 : vp_in (((14 : Int32) * x3) + x4) 560) (ht : (σ.1 43 ((((14 : Int32) * x3) + x4)).toNatClampNeg) ≤ 0 → Wp d tb_183 101 [.ref 9, .int x1, .int x2, .int x3, .int x4, .int (((14 : Int32) * x3) + x4), v6] [] σ Q) (hf : ¬ ((σ.1 43 ((((14 : Int32) * x3) + x4)).toNatClampNeg) ≤ 0) → Wp d tb_183 92 [.ref 9, .int x1, .int x2, .int x3, .int x4, .int (((14 : Int32) * x3) + x4), v6] [] σ Q) : Wp d tb_183 73 [.ref 9, .int x1, .int x2, .int x3, .int x4, v5, v6] [] σ Q := by
  refine Wp.adv (pc' := 88) (ls' := [.ref 9, .int x1, .int x2, .int x3, .int x4, .int (((14 : Int32) * x3) + x4), v6]) (st' := [.int (((14 : Int32) * x3) + x4), .ref 43]) (σ' := σ) 9 rfl ?_
  refine Wp.iald (N := 560) rfl rfl c1 ?_
  exact Wp.if_ rfl ht hf
theorem b183_92 {d : Nat} {Q : Option Value → px_S → Prop} {σ : px_S} {x1 x2 x3 x4 x5 : Int32} {v6 : Value} (nv6 : px_nc v6 = true) (h : Cw d 155 [.ref 9, .int x5] σ (fun r τ => Wp d tb_183 98 [.ref 9, .int x1, .int x2, .int x3, .int x4, .int x5, v6] (r.toList ++ []) τ Q)) : Wp d tb_183 92 [.ref 9, .int x1, .int x2, .int x3, .int x4, .int x5, v6] [] σ Q := by
  refine Wp.adv (pc' := 95) (ls' := [.ref 9, .int x1, .int x2, .int x3, .int x4, .int x5, v6]) (st' := [.int x5, .ref 9]) (σ' := σ) 2 rfl ?_
  exact Wp.call (q := (155, 2, 9, 98)) rfl (Nat.le_of_ble_eq_true rfl) (px_okc_mk rfl rfl rfl (by simp only [List.all_cons, List.all_nil, nv6]; rfl)) h
theorem b183_98 {d : Nat} {Q : Option Value → px_S → Prop} {σ : px_S} {x1 x2 x3 x4 x5 s0 : Int32} {v6 : Value} (h : Wp d tb_183 102 [.ref 9, .int x1, .int x2, .int x3, .int x4, .int x5, v6] [.int s0] σ Q) : Wp d tb_183 98 [.ref 9, .int x1, .int x2, .int x3, .int x4, .int x5, v6] [.int s0] σ Q := by
  refine Wp.adv (pc' := 102) (ls' := [.ref 9, .int x1, .int x2, .int x3, .int x4, .int x5, v6]) (st' := [.int s0]) (σ' := σ) 1 rfl ?_
  exact h
theorem b183_101 {d : Nat} {Q : Option Value → px_S → Prop} {σ : px_S} {x1 x2 x3 x4 x5 : Int32} {v6 : Value} (h : Wp d tb_183 102 [.ref 9, .int x1, .int x2, .int x3, .int x4, .int x5, v6] [.int (-1 : Int32)] σ Q) : Wp d tb_183 101 [.ref 9, .int x1, .int x2, .int x3, .int x4, .int x5, v6] [] σ Q := by
  refine Wp.adv (pc' := 102) (ls' := [.ref 9, .int x1, .int x2, .int x3, .int x4, .int x5, v6]) (st' := [.int (-1 : Int32)]) (σ' := σ) 1 rfl ?_
  exact h
theorem b183_102 {d : Nat} {Q : Option Value → px_S → Prop} {σ : px_S} {x1 x2 x3 x4 x5 s0 : Int32} {v6 : Value} (ht : s0 < 0 → Wp d tb_183 139 [.ref 9, .int x1, .int x2, .int x3, .int x4, .int x5, .int s0] [] σ Q) (hf : ¬ (s0 < 0) → Wp d tb_183 109 [.ref 9, .int x1, .int x2, .int x3, .int x4, .int x5, .int s0] [] σ Q) : Wp d tb_183 102 [.ref 9, .int x1, .int x2, .int x3, .int x4, .int x5, v6] [.int s0] σ Q := by
  refine Wp.adv (pc' := 106) (ls' := [.ref 9, .int x1, .int x2, .int x3, .int x4, .int x5, .int s0]) (st' := [.int s0]) (σ' := σ) 2 rfl ?_
  exact Wp.if_ rfl ht hf
theorem b183_109 {d : Nat} {Q : Option Value → px_S → Prop} {σ : px_S} {x1 x2 x3 x4 x5 x6 : Int32} (ht : ¬ (x6 / (14 : Int32)) = x1 → Wp d tb_183 139 [.ref 9, .int x1, .int x2, .int x3, .int x4, .int x5, .int x6] [] σ Q) (hf : ¬ (¬ (x6 / (14 : Int32)) = x1) → Wp d tb_183 118 [.ref 9, .int x1, .int x2, .int x3, .int x4, .int x5, .int x6] [] σ Q) : Wp d tb_183 109 [.ref 9, .int x1, .int x2, .int x3, .int x4, .int x5, .int x6] [] σ Q := by
  refine Wp.adv (pc' := 113) (ls' := [.ref 9, .int x1, .int x2, .int x3, .int x4, .int x5, .int x6]) (st' := [.int (14 : Int32), .int x6]) (σ' := σ) 2 rfl ?_
  refine Wp.binz rfl (by decide) ?_
  refine Wp.adv (pc' := 115) (ls' := [.ref 9, .int x1, .int x2, .int x3, .int x4, .int x5, .int x6]) (st' := [.int x1, .int (x6 / (14 : Int32))]) (σ' := σ) 1 rfl ?_
  exact Wp.icmp rfl ht hf
theorem b183_118 {d : Nat} {Q : Option Value → px_S → Prop} {σ : px_S} {x1 x2 x3 x4 x5 x6 : Int32} (h : Cw d 157 [.ref 9, .int x6, .int x5] σ (fun r τ => Wp d tb_183 126 [.ref 9, .int x1, .int x2, .int x3, .int x4, .int x5, .int x6] (r.toList ++ []) τ Q)) : Wp d tb_183 118 [.ref 9, .int x1, .int x2, .int x3, .int x4, .int x5, .int x6] [] σ Q := by
  refine Wp.adv (pc' := 123) (ls' := [.ref 9, .int x1, .int x2, .int x3, .int x4, .int x5, .int x6]) (st' := [.int x5, .int x6, .ref 9]) (σ' := σ) 3 rfl ?_
  exact Wp.call (q := (157, 3, 9, 126)) rfl (Nat.le_of_ble_eq_true rfl) rfl h
theorem b183_126 {d : Nat} {Q : Option Value → px_S → Prop} {σ : px_S} {x1 x2 x3 x4 x5 x6 s0 : Int32} (ht : s0 = 0 → Wp d tb_183 139 [.ref 9, .int x1, .int x2, .int x3, .int x4, .int x5, .int x6] [] σ Q) (hf : ¬ (s0 = 0) → Wp d tb_183 129 [.ref 9, .int x1, .int x2, .int x3, .int x4, .int x5, .int x6] [] σ Q) : Wp d tb_183 126 [.ref 9, .int x1, .int x2, .int x3, .int x4, .int x5, .int x6] [.int s0] σ Q := by
  exact Wp.if_ rfl ht hf
theorem b183_129 {d : Nat} {Q : Option Value → px_S → Prop} {σ : px_S} {x1 x2 x3 x4 x5 x6 : Int32} (h : Wp d tb_183 139 [.ref 9, .int x1, .int (x2 ||| ((1 : Int32) <<< ((x6 - x6 / (14 : Int32) * (14 : Int32)) &&& 31))), .int x3, .int x4, .int x5, .int x6] [] σ Q) : Wp d tb_183 129 [.ref 9, .int x1, .int x2, .int x3, .int x4, .int x5, .int x6] [] σ Q := by
  refine Wp.adv (pc' := 135) (ls' := [.ref 9, .int x1, .int x2, .int x3, .int x4, .int x5, .int x6]) (st' := [.int (14 : Int32), .int x6, .int (1 : Int32), .int x2]) (σ' := σ) 4 rfl ?_
  refine Wp.binz rfl (by decide) ?_
  refine Wp.adv (pc' := 139) (ls' := [.ref 9, .int x1, .int (x2 ||| ((1 : Int32) <<< ((x6 - x6 / (14 : Int32) * (14 : Int32)) &&& 31))), .int x3, .int x4, .int x5, .int x6]) (st' := []) (σ' := σ) 3 rfl ?_
  exact h
theorem b183_139 {d : Nat} {Q : Option Value → px_S → Prop} {σ : px_S} {x1 x2 x3 x4 x5 x6 : Int32} (h : Wp d tb_183 49 [.ref 9, .int x1, .int x2, .int x3, .int (x4 + 1), .int x5, .int x6] [] σ Q) : Wp d tb_183 139 [.ref 9, .int x1, .int x2, .int x3, .int x4, .int x5, .int x6] [] σ Q := by
  refine Wp.adv (pc' := 49) (ls' := [.ref 9, .int x1, .int x2, .int x3, .int (x4 + 1), .int x5, .int x6]) (st' := []) (σ' := σ) 2 rfl ?_
  exact h
theorem b183_145 {d : Nat} {Q : Option Value → px_S → Prop} {σ : px_S} {x1 x2 x3 x4 : Int32} {v5 v6 : Value} (h : Wp d tb_183 38 [.ref 9, .int x1, .int x2, .int (x3 + 1), .int x4, v5, v6] [] σ Q) : Wp d tb_183 145 [.ref 9, .int x1, .int x2, .int x3, .int x4, v5, v6] [] σ Q := by
  refine Wp.adv (pc' := 38) (ls' := [.ref 9, .int x1, .int x2, .int (x3 + 1), .int x4, v5, v6]) (st' := []) (σ' := σ) 2 rfl ?_
  exact h
theorem b183_151 {d : Nat} {Q : Option Value → px_S → Prop} {σ : px_S} {x1 x2 x3 : Int32} {v4 v5 v6 : Value} (h : Wp d tb_183 156 [.ref 9, .int x1, .int x2, .int x3, v4, v5, v6] [] (px_uI σ 9 13 (-1 : Int32)) Q) : Wp d tb_183 151 [.ref 9, .int x1, .int x2, .int x3, v4, v5, v6] [] σ Q := by
  refine Wp.adv (pc' := 153) (ls' := [.ref 9, .int x1, .int x2, .int x3, v4, v5, v6]) (st' := [.int (-1 : Int32), .ref 9]) (σ' := σ) 2 rfl ?_
  refine Wp.step (q := (156, [.ref 9, .int x1, .int x2, .int x3, v4, v5, v6], [], (px_uI σ 9 13 (-1 : Int32)))) rfl rfl ?_
  exact h
theorem b183_156 {d : Nat} {Q : Option Value → px_S → Prop} {σ : px_S} {x1 x2 x3 : Int32} {v4 v5 v6 : Value} (h : Q (some (.int x2)) σ) : Wp d tb_183 156 [.ref 9, .int x1, .int x2, .int x3, v4, v5, v6] [] σ Q := by
  refine Wp.adv (pc' := 157) (ls' := [.ref 9, .int x1, .int x2, .int x3, v4, v5, v6]) (st' := [.int x2]) (σ' := σ) 1 rfl ?_
  exact Wp.ret rfl rfl h
theorem e183 {d : Nat} {Q : Option Value → px_S → Prop} {σ : px_S} {x1 : Int32} (h : Wp d tb_183 0 [.ref 9, .int x1, .null, .null, .null, .null, .null] [] σ Q) : Cw (d + 1) 183 [.ref 9, .int x1] σ Q := Cw.of (nL := 7) (y := yX9_still) (cc := cX9_still) (rt := some .int) rfl (Nat.le_of_ble_eq_true rfl) h
theorem b184_0 {d : Nat} {Q : Option Value → px_S → Prop} {σ : px_S} {x1 : Int32} (ht : x1 < (3 : Int32) → Wp d tb_184 15 [.ref 9, .int x1, .null, .null, .null, .null, .null, .null, .null] [] σ Q) (hf : ¬ (x1 < (3 : Int32)) → Wp d tb_184 5 [.ref 9, .int x1, .null, .null, .null, .null, .null, .null, .null] [] σ Q) : Wp d tb_184 0 [.ref 9, .int x1, .null, .null, .null, .null, .null, .null, .null] [] σ Q := by
  refine Wp.adv (pc' := 2) (ls' := [.ref 9, .int x1, .null, .null, .null, .null, .null, .null, .null]) (st' := [.int (3 : Int32), .int x1]) (σ' := σ) 2 rfl ?_
  exact Wp.icmp rfl ht hf
theorem b184_5 {d : Nat} {Q : Option Value → px_S → Prop} {σ : px_S} {x1 : Int32} (ht : (7 : Int32) < x1 → Wp d tb_184 15 [.ref 9, .int x1, .null, .null, .null, .null, .null, .null, .null] [] σ Q) (hf : ¬ ((7 : Int32) < x1) → Wp d tb_184 11 [.ref 9, .int x1, .null, .null, .null, .null, .null, .null, .null] [] σ Q) : Wp d tb_184 5 [.ref 9, .int x1, .null, .null, .null, .null, .null, .null, .null] [] σ Q := by
  refine Wp.adv (pc' := 8) (ls' := [.ref 9, .int x1, .null, .null, .null, .null, .null, .null, .null]) (st' := [.int (7 : Int32), .int x1]) (σ' := σ) 2 rfl ?_
  exact Wp.icmp rfl ht hf
theorem b184_11 {d : Nat} {Q : Option Value → px_S → Prop} {σ : px_S} {x1 : Int32} (h : Cw d 162 [.ref 9] σ (fun r τ => Wp d tb_184 15 [.ref 9, .int x1, .null, .null, .null, .null, .null, .null, .null] (r.toList ++ []) τ Q)) : Wp d tb_184 11 [.ref 9, .int x1, .null, .null, .null, .null, .null, .null, .null] [] σ Q := by
  refine Wp.adv (pc' := 12) (ls' := [.ref 9, .int x1, .null, .null, .null, .null, .null, .null, .null]) (st' := [.ref 9]) (σ' := σ) 1 rfl ?_
  exact Wp.call (q := (162, 1, 9, 15)) rfl (Nat.le_of_ble_eq_true rfl) rfl h
theorem b184_15 {d : Nat} {Q : Option Value → px_S → Prop} {σ : px_S} {x1 : Int32} (h : Wp d tb_184 31 [.ref 9, .int x1, .int (0 : Int32), .int (0 : Int32), .int (0 : Int32), .int (0 : Int32), .int (0 : Int32), .int (0 : Int32), .null] [] σ Q) : Wp d tb_184 15 [.ref 9, .int x1, .null, .null, .null, .null, .null, .null, .null] [] σ Q := by
  refine Wp.adv (pc' := 31) (ls' := [.ref 9, .int x1, .int (0 : Int32), .int (0 : Int32), .int (0 : Int32), .int (0 : Int32), .int (0 : Int32), .int (0 : Int32), .null]) (st' := []) (σ' := σ) 12 rfl ?_
  exact h
theorem b184_31 {d : Nat} {Q : Option Value → px_S → Prop} {σ : px_S} {x1 x2 x3 x4 x5 x6 x7 : Int32} {v8 : Value} (ht : (σ.1 9 1) ≤ x7 → Wp d tb_184 211 [.ref 9, .int x1, .int x2, .int x3, .int x4, .int x5, .int x6, .int x7, v8] [] σ Q) (hf : ¬ ((σ.1 9 1) ≤ x7) → Wp d tb_184 40 [.ref 9, .int x1, .int x2, .int x3, .int x4, .int x5, .int x6, .int x7, v8] [] σ Q) : Wp d tb_184 31 [.ref 9, .int x1, .int x2, .int x3, .int x4, .int x5, .int x6, .int x7, v8] [] σ Q := by
  refine Wp.adv (pc' := 37) (ls' := [.ref 9, .int x1, .int x2, .int x3, .int x4, .int x5, .int x6, .int x7, v8]) (st' := [.int (σ.1 9 1), .int x7]) (σ' := σ) 3 rfl ?_
  exact Wp.icmp rfl ht hf
theorem b184_40 {d : Nat} {Q : Option Value → px_S → Prop} {σ : px_S} {x1 x2 x3 x4 x5 x6 x7 : Int32} {v8 : Value} (nv8 : px_nc v8 = true) (h : Cw d 143 [.ref 9, .int x7] σ (fun r τ => Wp d tb_184 47 [.ref 9, .int x1, .int x2, .int x3, .int x4, .int x5, .int x6, .int x7, v8] (r.toList ++ [.int x2]) τ Q)) : Wp d tb_184 40 [.ref 9, .int x1, .int x2, .int x3, .int x4, .int x5, .int x6, .int x7, v8] [] σ Q := by
  refine Wp.adv (pc' := 44) (ls' := [.ref 9, .int x1, .int x2, .int x3, .int x4, .int x5, .int x6, .int x7, v8]) (st' := [.int x7, .ref 9, .int x2]) (σ' := σ) 3 rfl ?_
  exact Wp.call (q := (143, 2, 9, 47)) rfl (Nat.le_of_ble_eq_true rfl) (px_okc_mk rfl rfl rfl (by simp only [List.all_cons, List.all_nil, nv8]; rfl)) h
theorem b184_47 {d : Nat} {Q : Option Value → px_S → Prop} {σ : px_S} {x1 x2 x3 x4 x5 x6 x7 s0 s1 : Int32} {v8 : Value} (nv8 : px_nc v8 = true) (h : Cw d 135 [.int s0] σ (fun r τ => Wp d tb_184 50 [.ref 9, .int x1, .int x2, .int x3, .int x4, .int x5, .int x6, .int x7, v8] (r.toList ++ [.int s1]) τ Q)) : Wp d tb_184 47 [.ref 9, .int x1, .int x2, .int x3, .int x4, .int x5, .int x6, .int x7, v8] [.int s0, .int s1] σ Q := by
  exact Wp.call (q := (135, 1, 0, 50)) rfl (Nat.le_of_ble_eq_true rfl) (px_okc_mk rfl rfl rfl (by simp only [List.all_cons, List.all_nil, nv8]; rfl)) h
theorem b184_50 {d : Nat} {Q : Option Value → px_S → Prop} {σ : px_S} {x1 x2 x3 x4 x5 x6 x7 s0 s1 : Int32} {v8 : Value} (h : Wp d tb_184 55 [.ref 9, .int x1, .int (s1 + s0), .int x3, .int x4, .int x5, .int x6, .int x7, .int (0 : Int32)] [] σ Q) : Wp d tb_184 50 [.ref 9, .int x1, .int x2, .int x3, .int x4, .int x5, .int x6, .int x7, v8] [.int s0, .int s1] σ Q := by
  refine Wp.adv (pc' := 55) (ls' := [.ref 9, .int x1, .int (s1 + s0), .int x3, .int x4, .int x5, .int x6, .int x7, .int (0 : Int32)]) (st' := []) (σ' := σ) 4 rfl ?_
  exact h
theorem b184_55 {d : Nat} {Q : Option Value → px_S → Prop} {σ : px_S} {x1 x2 x3 x4 x5 x6 x7 x8 : Int32} (c1 : vp_in x7 40) (ht : (σ.1 41 (x7).toNatClampNeg) ≤ x8 → Wp d tb_184 144 [.ref 9, .int x1, .int x2, .int x3, .int x4, .int x5, .int x6, .int x7, .int x8] [] σ Q) (hf : ¬ ((σ.1 41 (x7).toNatClampNeg) ≤ x8) → Wp d tb_184 67 [.ref 9, .int x1, .int x2, .int x3, .int x4, .int x5, .int x6, .int x7, .int x8] [] σ Q) : Wp d tb_184 55 [.ref 9, .int x1, .int x2, .int x3, .int x4, .int x5, .int x6, .int x7, .int x8] [] σ Q := by
  refine Wp.adv (pc' := 63) (ls' := [.ref 9, .int x1, .int x2, .int x3, .int x4, .int x5, .int x6, .int x7, .int x8]) (st' := [.int x7, .ref 41, .int x8]) (σ' := σ) 4 rfl ?_
  refine Wp.iald (N := 40) rfl rfl c1 ?_
  exact Wp.icmp rfl ht hf
theorem b184_67 {d : Nat} {Q : Option Value → px_S → Prop} {σ : px_S} {x1 x2 x3 x4 x5 x6 x7 x8 : Int32} (h : Cw d 143 [.ref 9, .int x7] σ (fun r τ => Wp d tb_184 73 [.ref 9, .int x1, .int x2, .int x3, .int x4, .int x5, .int x6, .int x7, .int x8] (r.toList ++ []) τ Q)) : Wp d tb_184 67 [.ref 9, .int x1, .int x2, .int x3, .int x4, .int x5, .int x6, .int x7, .int x8] [] σ Q := by
  refine Wp.adv (pc' := 70) (ls' := [.ref 9, .int x1, .int x2, .int x3, .int x4, .int x5, .int x6, .int x7, .int x8]) (st' := [.int x7, .ref 9]) (σ' := σ) 2 rfl ?_
  exact Wp.call (q := (143, 2, 9, 73)) rfl (Nat.le_of_ble_eq_true rfl) rfl h
theorem b184_73 {d : Nat} {Q : Option Value → px_S → Prop} {σ : px_S} {x1 x2 x3 x4 x5 x6 x7 x8 s0 : Int32} (ht : s0 = 0 → Wp d tb_184 144 [.ref 9, .int x1, .int x2, .int x3, .int x4, .int x5, .int x6, .int x7, .int x8] [] σ Q) (hf : ¬ (s0 = 0) → Wp d tb_184 76 [.ref 9, .int x1, .int x2, .int x3, .int x4, .int x5, .int x6, .int x7, .int x8] [] σ Q) : Wp d tb_184 73 [.ref 9, .int x1, .int x2, .int x3, .int x4, .int x5, .int x6, .int x7, .int x8] [.int s0] σ Q := by
  exact Wp.if_ rfl ht hf
theorem b184_76 {d : Nat} {Q : Option Value → px_S → Prop} {σ : px_S} {x1 x2 x3 x4 x5 x6 x7 x8 : Int32} (h : Cw d 130 [.long (x1).toInt64, .long (4 : Int64), .long (5 : Int64)] σ (fun r τ => Wp d tb_184 87 [.ref 9, .int x1, .int x2, .int x3, .int x4, .int x5, .int x6, .int x7, .int x8] (r.toList ++ []) τ Q)) : Wp d tb_184 76 [.ref 9, .int x1, .int x2, .int x3, .int x4, .int x5, .int x6, .int x7, .int x8] [] σ Q := by
  refine Wp.adv (pc' := 84) (ls' := [.ref 9, .int x1, .int x2, .int x3, .int x4, .int x5, .int x6, .int x7, .int x8]) (st' := [.long (5 : Int64), .long (4 : Int64), .long (x1).toInt64]) (σ' := σ) 4 rfl ?_
  exact Wp.call (q := (130, 3, 0, 87)) rfl (Nat.le_of_ble_eq_true rfl) rfl h
theorem b184_87 {d : Nat} {Q : Option Value → px_S → Prop} {σ : px_S} {x1 x2 x3 x4 x5 x6 x7 x8 s0 : Int32} (ht : s0 = 0 → Wp d tb_184 144 [.ref 9, .int x1, .int x2, .int x3, .int x4, .int x5, .int x6, .int x7, .int x8] [] σ Q) (hf : ¬ (s0 = 0) → Wp d tb_184 90 [.ref 9, .int x1, .int x2, .int x3, .int x4, .int x5, .int x6, .int x7, .int x8] [] σ Q) : Wp d tb_184 87 [.ref 9, .int x1, .int x2, .int x3, .int x4, .int x5, .int x6, .int x7, .int x8] [.int s0] σ Q := by
  exact Wp.if_ rfl ht hf
theorem b184_90 {d : Nat} {Q : Option Value → px_S → Prop} {σ : px_S} {x1 x2 x3 x4 x5 x6 x7 x8 : Int32} (h : Cw d 159 [.ref 9, .int (((14 : Int32) * x7) + x8)] σ (fun r τ => Wp d tb_184 104 [.ref 9, .int x1, .int x2, .int x3, .int x4, .int x5, .int x6, .int x7, .int x8] (r.toList ++ [.int x4]) τ Q)) : Wp d tb_184 90 [.ref 9, .int x1, .int x2, .int x3, .int x4, .int x5, .int x6, .int x7, .int x8] [] σ Q := by
  refine Wp.adv (pc' := 101) (ls' := [.ref 9, .int x1, .int x2, .int x3, .int x4, .int x5, .int x6, .int x7, .int x8]) (st' := [.int (((14 : Int32) * x7) + x8), .ref 9, .int x4]) (σ' := σ) 7 rfl ?_
  exact Wp.call (q := (159, 2, 9, 104)) rfl (Nat.le_of_ble_eq_true rfl) rfl h
theorem b184_104 {d : Nat} {Q : Option Value → px_S → Prop} {σ : px_S} {x1 x2 x3 x4 x5 x6 x7 x8 s0 s1 : Int32} (h : Cw d 135 [.int s0] σ (fun r τ => Wp d tb_184 107 [.ref 9, .int x1, .int x2, .int x3, .int x4, .int x5, .int x6, .int x7, .int x8] (r.toList ++ [.int s1]) τ Q)) : Wp d tb_184 104 [.ref 9, .int x1, .int x2, .int x3, .int x4, .int x5, .int x6, .int x7, .int x8] [.int s0, .int s1] σ Q := by
  exact Wp.call (q := (135, 1, 0, 107)) rfl (Nat.le_of_ble_eq_true rfl) rfl h
theorem b184_107 {d : Nat} {Q : Option Value → px_S → Prop} {σ : px_S} {x1 x2 x3 x4 x5 x6 x7 x8 s0 s1 : Int32} (h : Cw d 155 [.ref 9, .int (((14 : Int32) * x7) + x8)] σ (fun r τ => Wp d tb_184 124 [.ref 9, .int x1, .int x2, .int x3, .int (s1 + s0), .int x5, .int x6, .int x7, .int x8] (r.toList ++ [.int x5]) τ Q)) : Wp d tb_184 107 [.ref 9, .int x1, .int x2, .int x3, .int x4, .int x5, .int x6, .int x7, .int x8] [.int s0, .int s1] σ Q := by
  refine Wp.adv (pc' := 121) (ls' := [.ref 9, .int x1, .int x2, .int x3, .int (s1 + s0), .int x5, .int x6, .int x7, .int x8]) (st' := [.int (((14 : Int32) * x7) + x8), .ref 9, .int x5]) (σ' := σ) 9 rfl ?_
  exact Wp.call (q := (155, 2, 9, 124)) rfl (Nat.le_of_ble_eq_true rfl) rfl h
theorem b184_124 {d : Nat} {Q : Option Value → px_S → Prop} {σ : px_S} {x1 x2 x3 x4 x5 x6 x7 x8 s0 s1 : Int32} (ht : 0 ≤ s0 → Wp d tb_184 131 [.ref 9, .int x1, .int x2, .int x3, .int x4, .int x5, .int x6, .int x7, .int x8] [.int s1] σ Q) (hf : ¬ (0 ≤ s0) → Wp d tb_184 127 [.ref 9, .int x1, .int x2, .int x3, .int x4, .int x5, .int x6, .int x7, .int x8] [.int s1] σ Q) : Wp d tb_184 124 [.ref 9, .int x1, .int x2, .int x3, .int x4, .int x5, .int x6, .int x7, .int x8] [.int s0, .int s1] σ Q := by
  exact Wp.if_ rfl ht hf
theorem b184_127 {d : Nat} {Q : Option Value → px_S → Prop} {σ : px_S} {x1 x2 x3 x4 x5 x6 x7 x8 s0 : Int32} (h : Wp d tb_184 132 [.ref 9, .int x1, .int x2, .int x3, .int x4, .int x5, .int x6, .int x7, .int x8] [.int (1 : Int32), .int s0] σ Q) : Wp d tb_184 127 [.ref 9, .int x1, .int x2, .int x3, .int x4, .int x5, .int x6, .int x7, .int x8] [.int s0] σ Q := by
  refine Wp.adv (pc' := 132) (ls' := [.ref 9, .int x1, .int x2, .int x3, .int x4, .int x5, .int x6, .int x7, .int x8]) (st' := [.int (1 : Int32), .int s0]) (σ' := σ) 2 rfl ?_
  exact h
theorem b184_131 {d : Nat} {Q : Option Value → px_S → Prop} {σ : px_S} {x1 x2 x3 x4 x5 x6 x7 x8 s0 : Int32} (h : Wp d tb_184 132 [.ref 9, .int x1, .int x2, .int x3, .int x4, .int x5, .int x6, .int x7, .int x8] [.int (0 : Int32), .int s0] σ Q) : Wp d tb_184 131 [.ref 9, .int x1, .int x2, .int x3, .int x4, .int x5, .int x6, .int x7, .int x8] [.int s0] σ Q := by
  refine Wp.adv (pc' := 132) (ls' := [.ref 9, .int x1, .int x2, .int x3, .int x4, .int x5, .int x6, .int x7, .int x8]) (st' := [.int (0 : Int32), .int s0]) (σ' := σ) 1 rfl ?_
  exact h
theorem b184_132 {d : Nat} {Q : Option Value → px_S → Prop} {σ : px_S} {x1 x2 x3 x4 x5 x6 x7 x8 s0 s1 : Int32} (h : Cw d 135 [.int s0] σ (fun r τ => Wp d tb_184 135 [.ref 9, .int x1, .int x2, .int x3, .int x4, .int x5, .int x6, .int x7, .int x8] (r.toList ++ [.int s1]) τ Q)) : Wp d tb_184 132 [.ref 9, .int x1, .int x2, .int x3, .int x4, .int x5, .int x6, .int x7, .int x8] [.int s0, .int s1] σ Q := by
  exact Wp.call (q := (135, 1, 0, 135)) rfl (Nat.le_of_ble_eq_true rfl) rfl h
theorem b184_135 {d : Nat} {Q : Option Value → px_S → Prop} {σ : px_S} {x1 x2 x3 x4 x5 x6 x7 x8 s0 s1 : Int32} (h : Wp d tb_184 55 [.ref 9, .int x1, .int x2, .int x3, .int x4, .int (s1 + s0), .int x6, .int x7, .int (x8 + 1)] [] σ Q) : Wp d tb_184 135 [.ref 9, .int x1, .int x2, .int x3, .int x4, .int x5, .int x6, .int x7, .int x8] [.int s0, .int s1] σ Q := by
  refine Wp.adv (pc' := 55) (ls' := [.ref 9, .int x1, .int x2, .int x3, .int x4, .int (s1 + s0), .int x6, .int x7, .int (x8 + 1)]) (st' := []) (σ' := σ) 4 rfl ?_
  exact h
theorem b184_144 {d : Nat} {Q : Option Value → px_S → Prop} {σ : px_S} {x1 x2 x3 x4 x5 x6 x7 x8 : Int32} (h : Cw d 143 [.ref 9, .int x7] σ (fun r τ => Wp d tb_184 151 [.ref 9, .int x1, .int x2, .int x3, .int x4, .int x5, .int x6, .int x7, .int x8] (r.toList ++ [.int x3]) τ Q)) : Wp d tb_184 144 [.ref 9, .int x1, .int x2, .int x3, .int x4, .int x5, .int x6, .int x7, .int x8] [] σ Q := by
  refine Wp.adv (pc' := 148) (ls' := [.ref 9, .int x1, .int x2, .int x3, .int x4, .int x5, .int x6, .int x7, .int x8]) (st' := [.int x7, .ref 9, .int x3]) (σ' := σ) 3 rfl ?_
  exact Wp.call (q := (143, 2, 9, 151)) rfl (Nat.le_of_ble_eq_true rfl) rfl h
theorem b184_151 {d : Nat} {Q : Option Value → px_S → Prop} {σ : px_S} {x1 x2 x3 x4 x5 x6 x7 x8 s0 s1 : Int32} (ht : s0 = 0 → Wp d tb_184 168 [.ref 9, .int x1, .int x2, .int x3, .int x4, .int x5, .int x6, .int x7, .int x8] [.int s1] σ Q) (hf : ¬ (s0 = 0) → Wp d tb_184 154 [.ref 9, .int x1, .int x2, .int x3, .int x4, .int x5, .int x6, .int x7, .int x8] [.int s1] σ Q) : Wp d tb_184 151 [.ref 9, .int x1, .int x2, .int x3, .int x4, .int x5, .int x6, .int x7, .int x8] [.int s0, .int s1] σ Q := by
  exact Wp.if_ rfl ht hf
theorem b184_154 {d : Nat} {Q : Option Value → px_S → Prop} {σ : px_S} {x1 x2 x3 x4 x5 x6 x7 x8 s0 : Int32} (c1 : vp_in x7 40) (ht : 0 ≤ (σ.1 49 (x7).toNatClampNeg) → Wp d tb_184 168 [.ref 9, .int x1, .int x2, .int x3, .int x4, .int x5, .int x6, .int x7, .int x8] [.int s0] σ Q) (hf : ¬ (0 ≤ (σ.1 49 (x7).toNatClampNeg)) → Wp d tb_184 164 [.ref 9, .int x1, .int x2, .int x3, .int x4, .int x5, .int x6, .int x7, .int x8] [.int s0] σ Q) : Wp d tb_184 154 [.ref 9, .int x1, .int x2, .int x3, .int x4, .int x5, .int x6, .int x7, .int x8] [.int s0] σ Q := by
  refine Wp.adv (pc' := 160) (ls' := [.ref 9, .int x1, .int x2, .int x3, .int x4, .int x5, .int x6, .int x7, .int x8]) (st' := [.int x7, .ref 49, .int s0]) (σ' := σ) 3 rfl ?_
  refine Wp.iald (N := 40) rfl rfl c1 ?_
  exact Wp.if_ rfl ht hf
theorem b184_164 {d : Nat} {Q : Option Value → px_S → Prop} {σ : px_S} {x1 x2 x3 x4 x5 x6 x7 x8 s0 : Int32} (h : Wp d tb_184 169 [.ref 9, .int x1, .int x2, .int x3, .int x4, .int x5, .int x6, .int x7, .int x8] [.int (1 : Int32), .int s0] σ Q) : Wp d tb_184 164 [.ref 9, .int x1, .int x2, .int x3, .int x4, .int x5, .int x6, .int x7, .int x8] [.int s0] σ Q := by
  refine Wp.adv (pc' := 169) (ls' := [.ref 9, .int x1, .int x2, .int x3, .int x4, .int x5, .int x6, .int x7, .int x8]) (st' := [.int (1 : Int32), .int s0]) (σ' := σ) 2 rfl ?_
  exact h
theorem b184_168 {d : Nat} {Q : Option Value → px_S → Prop} {σ : px_S} {x1 x2 x3 x4 x5 x6 x7 x8 s0 : Int32} (h : Wp d tb_184 169 [.ref 9, .int x1, .int x2, .int x3, .int x4, .int x5, .int x6, .int x7, .int x8] [.int (0 : Int32), .int s0] σ Q) : Wp d tb_184 168 [.ref 9, .int x1, .int x2, .int x3, .int x4, .int x5, .int x6, .int x7, .int x8] [.int s0] σ Q := by
  refine Wp.adv (pc' := 169) (ls' := [.ref 9, .int x1, .int x2, .int x3, .int x4, .int x5, .int x6, .int x7, .int x8]) (st' := [.int (0 : Int32), .int s0]) (σ' := σ) 1 rfl ?_
  exact h
theorem b184_169 {d : Nat} {Q : Option Value → px_S → Prop} {σ : px_S} {x1 x2 x3 x4 x5 x6 x7 x8 s0 s1 : Int32} (h : Cw d 135 [.int s0] σ (fun r τ => Wp d tb_184 172 [.ref 9, .int x1, .int x2, .int x3, .int x4, .int x5, .int x6, .int x7, .int x8] (r.toList ++ [.int s1]) τ Q)) : Wp d tb_184 169 [.ref 9, .int x1, .int x2, .int x3, .int x4, .int x5, .int x6, .int x7, .int x8] [.int s0, .int s1] σ Q := by
  exact Wp.call (q := (135, 1, 0, 172)) rfl (Nat.le_of_ble_eq_true rfl) rfl h
theorem b184_172 {d : Nat} {Q : Option Value → px_S → Prop} {σ : px_S} {x1 x2 x3 x4 x5 x6 x7 x8 s0 s1 : Int32} (h : Cw d 143 [.ref 9, .int x7] σ (fun r τ => Wp d tb_184 182 [.ref 9, .int x1, .int x2, .int (s1 + s0), .int x4, .int x5, .int x6, .int x7, .int x8] (r.toList ++ [.int x6]) τ Q)) : Wp d tb_184 172 [.ref 9, .int x1, .int x2, .int x3, .int x4, .int x5, .int x6, .int x7, .int x8] [.int s0, .int s1] σ Q := by
  refine Wp.adv (pc' := 179) (ls' := [.ref 9, .int x1, .int x2, .int (s1 + s0), .int x4, .int x5, .int x6, .int x7, .int x8]) (st' := [.int x7, .ref 9, .int x6]) (σ' := σ) 5 rfl ?_
  exact Wp.call (q := (143, 2, 9, 182)) rfl (Nat.le_of_ble_eq_true rfl) rfl h
theorem b184_182 {d : Nat} {Q : Option Value → px_S → Prop} {σ : px_S} {x1 x2 x3 x4 x5 x6 x7 x8 s0 s1 : Int32} (ht : s0 = 0 → Wp d tb_184 198 [.ref 9, .int x1, .int x2, .int x3, .int x4, .int x5, .int x6, .int x7, .int x8] [.int s1] σ Q) (hf : ¬ (s0 = 0) → Wp d tb_184 185 [.ref 9, .int x1, .int x2, .int x3, .int x4, .int x5, .int x6, .int x7, .int x8] [.int s1] σ Q) : Wp d tb_184 182 [.ref 9, .int x1, .int x2, .int x3, .int x4, .int x5, .int x6, .int x7, .int x8] [.int s0, .int s1] σ Q := by
  exact Wp.if_ rfl ht hf
theorem b184_185 {d : Nat} {Q : Option Value → px_S → Prop} {σ : px_S} {x1 x2 x3 x4 x5 x6 x7 x8 s0 : Int32} (h : Cw d 177 [.ref 9, .int x7] σ (fun r τ => Wp d tb_184 191 [.ref 9, .int x1, .int x2, .int x3, .int x4, .int x5, .int x6, .int x7, .int x8] (r.toList ++ [.int s0]) τ Q)) : Wp d tb_184 185 [.ref 9, .int x1, .int x2, .int x3, .int x4, .int x5, .int x6, .int x7, .int x8] [.int s0] σ Q := by
  refine Wp.adv (pc' := 188) (ls' := [.ref 9, .int x1, .int x2, .int x3, .int x4, .int x5, .int x6, .int x7, .int x8]) (st' := [.int x7, .ref 9, .int s0]) (σ' := σ) 2 rfl ?_
  exact Wp.call (q := (177, 2, 9, 191)) rfl (Nat.le_of_ble_eq_true rfl) rfl h
theorem b184_191 {d : Nat} {Q : Option Value → px_S → Prop} {σ : px_S} {x1 x2 x3 x4 x5 x6 x7 x8 s0 s1 : Int32} (ht : s0 = 0 → Wp d tb_184 198 [.ref 9, .int x1, .int x2, .int x3, .int x4, .int x5, .int x6, .int x7, .int x8] [.int s1] σ Q) (hf : ¬ (s0 = 0) → Wp d tb_184 194 [.ref 9, .int x1, .int x2, .int x3, .int x4, .int x5, .int x6, .int x7, .int x8] [.int s1] σ Q) : Wp d tb_184 191 [.ref 9, .int x1, .int x2, .int x3, .int x4, .int x5, .int x6, .int x7, .int x8] [.int s0, .int s1] σ Q := by
  exact Wp.if_ rfl ht hf
theorem b184_194 {d : Nat} {Q : Option Value → px_S → Prop} {σ : px_S} {x1 x2 x3 x4 x5 x6 x7 x8 s0 : Int32} (h : Wp d tb_184 199 [.ref 9, .int x1, .int x2, .int x3, .int x4, .int x5, .int x6, .int x7, .int x8] [.int (1 : Int32), .int s0] σ Q) : Wp d tb_184 194 [.ref 9, .int x1, .int x2, .int x3, .int x4, .int x5, .int x6, .int x7, .int x8] [.int s0] σ Q := by
  refine Wp.adv (pc' := 199) (ls' := [.ref 9, .int x1, .int x2, .int x3, .int x4, .int x5, .int x6, .int x7, .int x8]) (st' := [.int (1 : Int32), .int s0]) (σ' := σ) 2 rfl ?_
  exact h
theorem b184_198 {d : Nat} {Q : Option Value → px_S → Prop} {σ : px_S} {x1 x2 x3 x4 x5 x6 x7 x8 s0 : Int32} (h : Wp d tb_184 199 [.ref 9, .int x1, .int x2, .int x3, .int x4, .int x5, .int x6, .int x7, .int x8] [.int (0 : Int32), .int s0] σ Q) : Wp d tb_184 198 [.ref 9, .int x1, .int x2, .int x3, .int x4, .int x5, .int x6, .int x7, .int x8] [.int s0] σ Q := by
  refine Wp.adv (pc' := 199) (ls' := [.ref 9, .int x1, .int x2, .int x3, .int x4, .int x5, .int x6, .int x7, .int x8]) (st' := [.int (0 : Int32), .int s0]) (σ' := σ) 1 rfl ?_
  exact h
theorem b184_199 {d : Nat} {Q : Option Value → px_S → Prop} {σ : px_S} {x1 x2 x3 x4 x5 x6 x7 x8 s0 s1 : Int32} (h : Cw d 135 [.int s0] σ (fun r τ => Wp d tb_184 202 [.ref 9, .int x1, .int x2, .int x3, .int x4, .int x5, .int x6, .int x7, .int x8] (r.toList ++ [.int s1]) τ Q)) : Wp d tb_184 199 [.ref 9, .int x1, .int x2, .int x3, .int x4, .int x5, .int x6, .int x7, .int x8] [.int s0, .int s1] σ Q := by
  exact Wp.call (q := (135, 1, 0, 202)) rfl (Nat.le_of_ble_eq_true rfl) rfl h
theorem b184_202 {d : Nat} {Q : Option Value → px_S → Prop} {σ : px_S} {x1 x2 x3 x4 x5 x6 x7 x8 s0 s1 : Int32} (h : Wp d tb_184 31 [.ref 9, .int x1, .int x2, .int x3, .int x4, .int x5, .int (s1 + s0), .int (x7 + 1), .int x8] [] σ Q) : Wp d tb_184 202 [.ref 9, .int x1, .int x2, .int x3, .int x4, .int x5, .int x6, .int x7, .int x8] [.int s0, .int s1] σ Q := by
  refine Wp.adv (pc' := 31) (ls' := [.ref 9, .int x1, .int x2, .int x3, .int x4, .int x5, .int (s1 + s0), .int (x7 + 1), .int x8]) (st' := []) (σ' := σ) 4 rfl ?_
  exact h
theorem b184_211 {d : Nat} {Q : Option Value → px_S → Prop} {σ : px_S} {x1 x2 x3 x4 x5 x6 x7 : Int32} {v8 : Value} (hd : (x1).toInt < 0 ∨ 10 < (x1).toInt → Wp d tb_184 315 [.ref 9, .int x1, .int x2, .int x3, .int x4, .int x5, .int x6, .int x7, v8] [] σ Q) (hs : ∀ (j t : Nat), ([272, 277, 279, 284, 286, 289, 292, 297, 300, 305, 310] : List Nat)[j]? = some t → (x1).toInt = 0 + (j : Int) → Wp d tb_184 t [.ref 9, .int x1, .int x2, .int x3, .int x4, .int x5, .int x6, .int x7, v8] [] σ Q) : Wp d tb_184 211 [.ref 9, .int x1, .int x2, .int x3, .int x4, .int x5, .int x6, .int x7, v8] [] σ Q := by
  refine Wp.adv (pc' := 212) (ls' := [.ref 9, .int x1, .int x2, .int x3, .int x4, .int x5, .int x6, .int x7, v8]) (st' := [.int x1]) (σ' := σ) 1 rfl ?_
  exact Wp.tsw rfl rfl hd hs
theorem b184_272 {d : Nat} {Q : Option Value → px_S → Prop} {σ : px_S} {x1 x2 x3 x4 x5 x6 x7 : Int32} {v8 : Value} (h : Q (some (.int (σ.1 9 1))) σ) : Wp d tb_184 272 [.ref 9, .int x1, .int x2, .int x3, .int x4, .int x5, .int x6, .int x7, v8] [] σ Q := by
  refine Wp.adv (pc' := 276) (ls' := [.ref 9, .int x1, .int x2, .int x3, .int x4, .int x5, .int x6, .int x7, v8]) (st' := [.int (σ.1 9 1)]) (σ' := σ) 2 rfl ?_
  exact Wp.ret rfl rfl h
theorem b184_277 {d : Nat} {Q : Option Value → px_S → Prop} {σ : px_S} {x1 x2 x3 x4 x5 x6 x7 : Int32} {v8 : Value} (h : Q (some (.int x2)) σ) : Wp d tb_184 277 [.ref 9, .int x1, .int x2, .int x3, .int x4, .int x5, .int x6, .int x7, v8] [] σ Q := by
  refine Wp.adv (pc' := 278) (ls' := [.ref 9, .int x1, .int x2, .int x3, .int x4, .int x5, .int x6, .int x7, v8]) (st' := [.int x2]) (σ' := σ) 1 rfl ?_
  exact Wp.ret rfl rfl h
theorem b184_279 {d : Nat} {Q : Option Value → px_S → Prop} {σ : px_S} {x1 x2 x3 x4 x5 x6 x7 : Int32} {v8 : Value} (h : Q (some (.int (σ.1 9 10))) σ) : Wp d tb_184 279 [.ref 9, .int x1, .int x2, .int x3, .int x4, .int x5, .int x6, .int x7, v8] [] σ Q := by
  refine Wp.adv (pc' := 283) (ls' := [.ref 9, .int x1, .int x2, .int x3, .int x4, .int x5, .int x6, .int x7, v8]) (st' := [.int (σ.1 9 10)]) (σ' := σ) 2 rfl ?_
  exact Wp.ret rfl rfl h
theorem b184_284 {d : Nat} {Q : Option Value → px_S → Prop} {σ : px_S} {x1 x2 x3 x4 x5 x6 x7 : Int32} {v8 : Value} (h : Q (some (.int x3)) σ) : Wp d tb_184 284 [.ref 9, .int x1, .int x2, .int x3, .int x4, .int x5, .int x6, .int x7, v8] [] σ Q := by
  refine Wp.adv (pc' := 285) (ls' := [.ref 9, .int x1, .int x2, .int x3, .int x4, .int x5, .int x6, .int x7, v8]) (st' := [.int x3]) (σ' := σ) 1 rfl ?_
  exact Wp.ret rfl rfl h
theorem b184_286 {d : Nat} {Q : Option Value → px_S → Prop} {σ : px_S} {x1 x2 x3 x4 x5 x6 x7 : Int32} {v8 : Value} (h : Q (some (.int x4)) σ) : Wp d tb_184 286 [.ref 9, .int x1, .int x2, .int x3, .int x4, .int x5, .int x6, .int x7, v8] [] σ Q := by
  refine Wp.adv (pc' := 288) (ls' := [.ref 9, .int x1, .int x2, .int x3, .int x4, .int x5, .int x6, .int x7, v8]) (st' := [.int x4]) (σ' := σ) 1 rfl ?_
  exact Wp.ret rfl rfl h
theorem b184_289 {d : Nat} {Q : Option Value → px_S → Prop} {σ : px_S} {x1 x2 x3 x4 x5 x6 x7 : Int32} {v8 : Value} (h : Q (some (.int x5)) σ) : Wp d tb_184 289 [.ref 9, .int x1, .int x2, .int x3, .int x4, .int x5, .int x6, .int x7, v8] [] σ Q := by
  refine Wp.adv (pc' := 291) (ls' := [.ref 9, .int x1, .int x2, .int x3, .int x4, .int x5, .int x6, .int x7, v8]) (st' := [.int x5]) (σ' := σ) 1 rfl ?_
  exact Wp.ret rfl rfl h
theorem b184_292 {d : Nat} {Q : Option Value → px_S → Prop} {σ : px_S} {x1 x2 x3 x4 x5 x6 x7 : Int32} {v8 : Value} (h : Q (some (.int (σ.1 9 18))) σ) : Wp d tb_184 292 [.ref 9, .int x1, .int x2, .int x3, .int x4, .int x5, .int x6, .int x7, v8] [] σ Q := by
  refine Wp.adv (pc' := 296) (ls' := [.ref 9, .int x1, .int x2, .int x3, .int x4, .int x5, .int x6, .int x7, v8]) (st' := [.int (σ.1 9 18)]) (σ' := σ) 2 rfl ?_
  exact Wp.ret rfl rfl h
theorem b184_297 {d : Nat} {Q : Option Value → px_S → Prop} {σ : px_S} {x1 x2 x3 x4 x5 x6 x7 : Int32} {v8 : Value} (h : Q (some (.int x6)) σ) : Wp d tb_184 297 [.ref 9, .int x1, .int x2, .int x3, .int x4, .int x5, .int x6, .int x7, v8] [] σ Q := by
  refine Wp.adv (pc' := 299) (ls' := [.ref 9, .int x1, .int x2, .int x3, .int x4, .int x5, .int x6, .int x7, v8]) (st' := [.int x6]) (σ' := σ) 1 rfl ?_
  exact Wp.ret rfl rfl h
theorem b184_300 {d : Nat} {Q : Option Value → px_S → Prop} {σ : px_S} {x1 x2 x3 x4 x5 x6 x7 : Int32} {v8 : Value} (h : Q (some (.int (σ.1 9 26))) σ) : Wp d tb_184 300 [.ref 9, .int x1, .int x2, .int x3, .int x4, .int x5, .int x6, .int x7, v8] [] σ Q := by
  refine Wp.adv (pc' := 304) (ls' := [.ref 9, .int x1, .int x2, .int x3, .int x4, .int x5, .int x6, .int x7, v8]) (st' := [.int (σ.1 9 26)]) (σ' := σ) 2 rfl ?_
  exact Wp.ret rfl rfl h
theorem b184_305 {d : Nat} {Q : Option Value → px_S → Prop} {σ : px_S} {x1 x2 x3 x4 x5 x6 x7 : Int32} {v8 : Value} (h : Q (some (.int (σ.1 9 29))) σ) : Wp d tb_184 305 [.ref 9, .int x1, .int x2, .int x3, .int x4, .int x5, .int x6, .int x7, v8] [] σ Q := by
  refine Wp.adv (pc' := 309) (ls' := [.ref 9, .int x1, .int x2, .int x3, .int x4, .int x5, .int x6, .int x7, v8]) (st' := [.int (σ.1 9 29)]) (σ' := σ) 2 rfl ?_
  exact Wp.ret rfl rfl h
theorem b184_310 {d : Nat} {Q : Option Value → px_S → Prop} {σ : px_S} {x1 x2 x3 x4 x5 x6 x7 : Int32} {v8 : Value} (h : Q (some (.int (σ.1 9 12))) σ) : Wp d tb_184 310 [.ref 9, .int x1, .int x2, .int x3, .int x4, .int x5, .int x6, .int x7, v8] [] σ Q := by
  refine Wp.adv (pc' := 314) (ls' := [.ref 9, .int x1, .int x2, .int x3, .int x4, .int x5, .int x6, .int x7, v8]) (st' := [.int (σ.1 9 12)]) (σ' := σ) 2 rfl ?_
  exact Wp.ret rfl rfl h
theorem b184_315 {d : Nat} {Q : Option Value → px_S → Prop} {σ : px_S} {x1 x2 x3 x4 x5 x6 x7 : Int32} {v8 : Value} (h : Q (some (.int (-1002 : Int32))) σ) : Wp d tb_184 315 [.ref 9, .int x1, .int x2, .int x3, .int x4, .int x5, .int x6, .int x7, v8] [] σ Q := by
  refine Wp.adv (pc' := 318) (ls' := [.ref 9, .int x1, .int x2, .int x3, .int x4, .int x5, .int x6, .int x7, v8]) (st' := [.int (-1002 : Int32)]) (σ' := σ) 1 rfl ?_
  exact Wp.ret rfl rfl h
theorem e184 {d : Nat} {Q : Option Value → px_S → Prop} {σ : px_S} {x1 : Int32} (h : Wp d tb_184 0 [.ref 9, .int x1, .null, .null, .null, .null, .null, .null, .null] [] σ Q) : Cw (d + 1) 184 [.ref 9, .int x1] σ Q := Cw.of (nL := 9) (y := yX9_count) (cc := cX9_count) (rt := some .int) rfl (Nat.le_of_ble_eq_true rfl) h
theorem b185_0 {d : Nat} {Q : Option Value → px_S → Prop} {σ : px_S} {x1 : Int32} {y2 : Int64} (h : Cw d 130 [.long (x1).toInt64, .long (1 : Int64), .long (8 : Int64)] σ (fun r τ => Wp d tb_185 9 [.ref 9, .int x1, .long y2, .null, .null] (r.toList ++ []) τ Q)) : Wp d tb_185 0 [.ref 9, .int x1, .long y2, .null, .null] [] σ Q := by
  refine Wp.adv (pc' := 6) (ls' := [.ref 9, .int x1, .long y2, .null, .null]) (st' := [.long (8 : Int64), .long (1 : Int64), .long (x1).toInt64]) (σ' := σ) 4 rfl ?_
  exact Wp.call (q := (130, 3, 0, 9)) rfl (Nat.le_of_ble_eq_true rfl) rfl h
theorem b185_9 {d : Nat} {Q : Option Value → px_S → Prop} {σ : px_S} {x1 s0 : Int32} {y2 : Int64} (ht : ¬ s0 = 0 → Wp d tb_185 16 [.ref 9, .int x1, .long y2, .null, .null] [] σ Q) (hf : ¬ (¬ s0 = 0) → Wp d tb_185 12 [.ref 9, .int x1, .long y2, .null, .null] [] σ Q) : Wp d tb_185 9 [.ref 9, .int x1, .long y2, .null, .null] [.int s0] σ Q := by
  exact Wp.if_ rfl ht hf
theorem b185_12 {d : Nat} {Q : Option Value → px_S → Prop} {σ : px_S} {x1 : Int32} {y2 : Int64} (h : Q (some (.int (-1002 : Int32))) σ) : Wp d tb_185 12 [.ref 9, .int x1, .long y2, .null, .null] [] σ Q := by
  refine Wp.adv (pc' := 15) (ls' := [.ref 9, .int x1, .long y2, .null, .null]) (st' := [.int (-1002 : Int32)]) (σ' := σ) 1 rfl ?_
  exact Wp.ret rfl rfl h
theorem b185_16 {d : Nat} {Q : Option Value → px_S → Prop} {σ : px_S} {x1 : Int32} {y2 : Int64} (ht : ((σ.1 9 29) + x1) ≤ (120 : Int32) → Wp d tb_185 31 [.ref 9, .int x1, .long y2, .null, .null] [] σ Q) (hf : ¬ (((σ.1 9 29) + x1) ≤ (120 : Int32)) → Wp d tb_185 27 [.ref 9, .int x1, .long y2, .null, .null] [] σ Q) : Wp d tb_185 16 [.ref 9, .int x1, .long y2, .null, .null] [] σ Q := by
  refine Wp.adv (pc' := 24) (ls' := [.ref 9, .int x1, .long y2, .null, .null]) (st' := [.int (120 : Int32), .int ((σ.1 9 29) + x1)]) (σ' := σ) 5 rfl ?_
  exact Wp.icmp rfl ht hf
theorem b185_27 {d : Nat} {Q : Option Value → px_S → Prop} {σ : px_S} {x1 : Int32} {y2 : Int64} (h : Q (some (.int (-1004 : Int32))) σ) : Wp d tb_185 27 [.ref 9, .int x1, .long y2, .null, .null] [] σ Q := by
  refine Wp.adv (pc' := 30) (ls' := [.ref 9, .int x1, .long y2, .null, .null]) (st' := [.int (-1004 : Int32)]) (σ' := σ) 1 rfl ?_
  exact Wp.ret rfl rfl h
theorem b185_31 {d : Nat} {Q : Option Value → px_S → Prop} {σ : px_S} {x1 : Int32} {y2 : Int64} (h : Wp d tb_185 36 [.ref 9, .int x1, .long y2, .null, .int (x1 - (1 : Int32))] [] σ Q) : Wp d tb_185 31 [.ref 9, .int x1, .long y2, .null, .null] [] σ Q := by
  refine Wp.adv (pc' := 36) (ls' := [.ref 9, .int x1, .long y2, .null, .int (x1 - (1 : Int32))]) (st' := []) (σ' := σ) 4 rfl ?_
  exact h
theorem b185_36 {d : Nat} {Q : Option Value → px_S → Prop} {σ : px_S} {x1 x4 : Int32} {y2 : Int64} (ht : x4 < 0 → Wp d tb_185 78 [.ref 9, .int x1, .long y2, .null, .int x4] [] σ Q) (hf : ¬ (x4 < 0) → Wp d tb_185 41 [.ref 9, .int x1, .long y2, .null, .int x4] [] σ Q) : Wp d tb_185 36 [.ref 9, .int x1, .long y2, .null, .int x4] [] σ Q := by
  refine Wp.adv (pc' := 38) (ls' := [.ref 9, .int x1, .long y2, .null, .int x4]) (st' := [.int x4]) (σ' := σ) 1 rfl ?_
  exact Wp.if_ rfl ht hf
theorem b185_41 {d : Nat} {Q : Option Value → px_S → Prop} {σ : px_S} {x1 x4 : Int32} {y2 : Int64} (c1 : vp_in (σ.1 9 29) 120) (h : Wp d tb_185 62 [.ref 9, .int x1, .long y2, .null, .int x4] [] (px_uI σ 57 ((σ.1 9 29)).toNatClampNeg (((y2 >>> ((((8 : Int32) * x4)).toInt64 &&& 63)) &&& (255 : Int64))).toInt32) Q) : Wp d tb_185 41 [.ref 9, .int x1, .long y2, .null, .int x4] [] σ Q := by
  refine Wp.adv (pc' := 61) (ls' := [.ref 9, .int x1, .long y2, .null, .int x4]) (st' := [.int (((y2 >>> ((((8 : Int32) * x4)).toInt64 &&& 63)) &&& (255 : Int64))).toInt32, .int (σ.1 9 29), .ref 57]) (σ' := σ) 12 rfl ?_
  refine Wp.iast (N := 120) rfl rfl c1 ?_
  exact h
theorem b185_62 {d : Nat} {Q : Option Value → px_S → Prop} {σ : px_S} {x1 x4 : Int32} {y2 : Int64} (h : Wp d tb_185 72 [.ref 9, .int x1, .long y2, .null, .int x4] [] (px_uI σ 9 29 ((σ.1 9 29) + (1 : Int32))) Q) : Wp d tb_185 62 [.ref 9, .int x1, .long y2, .null, .int x4] [] σ Q := by
  refine Wp.adv (pc' := 69) (ls' := [.ref 9, .int x1, .long y2, .null, .int x4]) (st' := [.int ((σ.1 9 29) + (1 : Int32)), .ref 9]) (σ' := σ) 5 rfl ?_
  refine Wp.step (q := (72, [.ref 9, .int x1, .long y2, .null, .int x4], [], (px_uI σ 9 29 ((σ.1 9 29) + (1 : Int32))))) rfl rfl ?_
  exact h
theorem b185_72 {d : Nat} {Q : Option Value → px_S → Prop} {σ : px_S} {x1 x4 : Int32} {y2 : Int64} (h : Wp d tb_185 36 [.ref 9, .int x1, .long y2, .null, .int (x4 + (-1))] [] σ Q) : Wp d tb_185 72 [.ref 9, .int x1, .long y2, .null, .int x4] [] σ Q := by
  refine Wp.adv (pc' := 36) (ls' := [.ref 9, .int x1, .long y2, .null, .int (x4 + (-1))]) (st' := []) (σ' := σ) 2 rfl ?_
  exact h
theorem b185_78 {d : Nat} {Q : Option Value → px_S → Prop} {σ : px_S} {x1 x4 : Int32} {y2 : Int64} (h : Q (some (.int (σ.1 9 29))) σ) : Wp d tb_185 78 [.ref 9, .int x1, .long y2, .null, .int x4] [] σ Q := by
  refine Wp.adv (pc' := 82) (ls' := [.ref 9, .int x1, .long y2, .null, .int x4]) (st' := [.int (σ.1 9 29)]) (σ' := σ) 2 rfl ?_
  exact Wp.ret rfl rfl h
theorem e185 {d : Nat} {Q : Option Value → px_S → Prop} {σ : px_S} {x1 : Int32} {y2 : Int64} (h : Wp d tb_185 0 [.ref 9, .int x1, .long y2, .null, .null] [] σ Q) : Cw (d + 1) 185 [.ref 9, .int x1, .long y2] σ Q := Cw.of (nL := 5) (y := yX9_feed) (cc := cX9_feed) (rt := some .int) rfl (Nat.le_of_ble_eq_true rfl) h
theorem b186_0 {d : Nat} {Q : Option Value → px_S → Prop} {σ : px_S}  (h : Wp d tb_186 5 [.ref 9, .null, .null, .null] [] (px_uI σ 9 30 (0 : Int32)) Q) : Wp d tb_186 0 [.ref 9, .null, .null, .null] [] σ Q := by
  refine Wp.adv (pc' := 2) (ls' := [.ref 9, .null, .null, .null]) (st' := [.int (0 : Int32), .ref 9]) (σ' := σ) 2 rfl ?_
  refine Wp.step (q := (5, [.ref 9, .null, .null, .null], [], (px_uI σ 9 30 (0 : Int32)))) rfl rfl ?_
  exact h
theorem b186_5 {d : Nat} {Q : Option Value → px_S → Prop} {σ : px_S}  (h : Wp d tb_186 10 [.ref 9, .null, .null, .null] [] (px_uI σ 9 31 (0 : Int32)) Q) : Wp d tb_186 5 [.ref 9, .null, .null, .null] [] σ Q := by
  refine Wp.adv (pc' := 7) (ls' := [.ref 9, .null, .null, .null]) (st' := [.int (0 : Int32), .ref 9]) (σ' := σ) 2 rfl ?_
  refine Wp.step (q := (10, [.ref 9, .null, .null, .null], [], (px_uI σ 9 31 (0 : Int32)))) rfl rfl ?_
  exact h
theorem b186_10 {d : Nat} {Q : Option Value → px_S → Prop} {σ : px_S}  (h : Wp d tb_186 15 [.ref 9, .null, .null, .null] [] (px_uI σ 9 32 (-1 : Int32)) Q) : Wp d tb_186 10 [.ref 9, .null, .null, .null] [] σ Q := by
  refine Wp.adv (pc' := 12) (ls' := [.ref 9, .null, .null, .null]) (st' := [.int (-1 : Int32), .ref 9]) (σ' := σ) 2 rfl ?_
  refine Wp.step (q := (15, [.ref 9, .null, .null, .null], [], (px_uI σ 9 32 (-1 : Int32)))) rfl rfl ?_
  exact h
theorem b186_15 {d : Nat} {Q : Option Value → px_S → Prop} {σ : px_S}  (h : Wp d tb_186 17 [.ref 9, .int (0 : Int32), .null, .null] [] σ Q) : Wp d tb_186 15 [.ref 9, .null, .null, .null] [] σ Q := by
  refine Wp.adv (pc' := 17) (ls' := [.ref 9, .int (0 : Int32), .null, .null]) (st' := []) (σ' := σ) 2 rfl ?_
  exact h
theorem b186_17 {d : Nat} {Q : Option Value → px_S → Prop} {σ : px_S} {x1 : Int32} (ht : (5 : Int32) ≤ x1 → Wp d tb_186 38 [.ref 9, .int x1, .null, .null] [] σ Q) (hf : ¬ ((5 : Int32) ≤ x1) → Wp d tb_186 22 [.ref 9, .int x1, .null, .null] [] σ Q) : Wp d tb_186 17 [.ref 9, .int x1, .null, .null] [] σ Q := by
  refine Wp.adv (pc' := 19) (ls' := [.ref 9, .int x1, .null, .null]) (st' := [.int (5 : Int32), .int x1]) (σ' := σ) 2 rfl ?_
  exact Wp.icmp rfl ht hf
theorem b186_22 {d : Nat} {Q : Option Value → px_S → Prop} {σ : px_S} {x1 : Int32} (h : Cw d 128 [.int x1] σ (fun r τ => Wp d tb_186 31 [.ref 9, .int x1, .null, .null] (r.toList ++ [.int x1, .ref 58]) τ Q)) : Wp d tb_186 22 [.ref 9, .int x1, .null, .null] [] σ Q := by
  refine Wp.adv (pc' := 28) (ls' := [.ref 9, .int x1, .null, .null]) (st' := [.int x1, .int x1, .ref 58]) (σ' := σ) 4 rfl ?_
  exact Wp.call (q := (128, 1, 0, 31)) rfl (Nat.le_of_ble_eq_true rfl) rfl h
theorem b186_31 {d : Nat} {Q : Option Value → px_S → Prop} {σ : px_S} {x1 s0 s1 : Int32} (c1 : vp_in s1 5) (h : Wp d tb_186 32 [.ref 9, .int x1, .null, .null] [] (px_uI σ 58 (s1).toNatClampNeg s0) Q) : Wp d tb_186 31 [.ref 9, .int x1, .null, .null] [.int s0, .int s1, .ref 58] σ Q := by
  refine Wp.iast (N := 5) rfl rfl c1 ?_
  exact h
theorem b186_32 {d : Nat} {Q : Option Value → px_S → Prop} {σ : px_S} {x1 : Int32} (h : Wp d tb_186 17 [.ref 9, .int (x1 + 1), .null, .null] [] σ Q) : Wp d tb_186 32 [.ref 9, .int x1, .null, .null] [] σ Q := by
  refine Wp.adv (pc' := 17) (ls' := [.ref 9, .int (x1 + 1), .null, .null]) (st' := []) (σ' := σ) 2 rfl ?_
  exact h
theorem b186_38 {d : Nat} {Q : Option Value → px_S → Prop} {σ : px_S} {x1 : Int32} (h : Wp d tb_186 42 [.ref 9, .int (0 : Int32), .int (0 : Int32), .null] [] σ Q) : Wp d tb_186 38 [.ref 9, .int x1, .null, .null] [] σ Q := by
  refine Wp.adv (pc' := 42) (ls' := [.ref 9, .int (0 : Int32), .int (0 : Int32), .null]) (st' := []) (σ' := σ) 4 rfl ?_
  exact h
theorem b186_42 {d : Nat} {Q : Option Value → px_S → Prop} {σ : px_S} {x1 x2 : Int32} {v3 : Value} (ht : ¬ (σ.1 9 31) = 0 → Wp d tb_186 128 [.ref 9, .int x1, .int x2, v3] [] σ Q) (hf : ¬ (¬ (σ.1 9 31) = 0) → Wp d tb_186 49 [.ref 9, .int x1, .int x2, v3] [] σ Q) : Wp d tb_186 42 [.ref 9, .int x1, .int x2, v3] [] σ Q := by
  refine Wp.adv (pc' := 46) (ls' := [.ref 9, .int x1, .int x2, v3]) (st' := [.int (σ.1 9 31)]) (σ' := σ) 2 rfl ?_
  exact Wp.if_ rfl ht hf
theorem b186_49 {d : Nat} {Q : Option Value → px_S → Prop} {σ : px_S} {x1 x2 : Int32} {v3 : Value} (nv3 : px_nc v3 = true) (h : Cw d 187 [.ref 9] σ (fun r τ => Wp d tb_186 53 [.ref 9, .int x1, .int x2, v3] (r.toList ++ []) τ Q)) : Wp d tb_186 49 [.ref 9, .int x1, .int x2, v3] [] σ Q := by
  refine Wp.adv (pc' := 50) (ls' := [.ref 9, .int x1, .int x2, v3]) (st' := [.ref 9]) (σ' := σ) 1 rfl ?_
  exact Wp.call (q := (187, 1, 9, 53)) rfl (Nat.le_of_ble_eq_true rfl) (px_okc_mk rfl rfl rfl (by simp only [List.all_cons, List.all_nil, nv3]; rfl)) h
theorem b186_53 {d : Nat} {Q : Option Value → px_S → Prop} {σ : px_S} {x1 x2 s0 : Int32} {v3 : Value} (ht : s0 < 0 → Wp d tb_186 128 [.ref 9, .int x1, .int x2, v3] [] σ Q) (hf : ¬ (s0 < 0) → Wp d tb_186 56 [.ref 9, .int x1, .int x2, v3] [] σ Q) : Wp d tb_186 53 [.ref 9, .int x1, .int x2, v3] [.int s0] σ Q := by
  exact Wp.if_ rfl ht hf
theorem b186_56 {d : Nat} {Q : Option Value → px_S → Prop} {σ : px_S} {x1 x2 : Int32} {v3 : Value} (nv3 : px_nc v3 = true) (h : Cw d 188 [.ref 9] σ (fun r τ => Wp d tb_186 60 [.ref 9, .int x1, .int x2, v3] (r.toList ++ []) τ Q)) : Wp d tb_186 56 [.ref 9, .int x1, .int x2, v3] [] σ Q := by
  refine Wp.adv (pc' := 57) (ls' := [.ref 9, .int x1, .int x2, v3]) (st' := [.ref 9]) (σ' := σ) 1 rfl ?_
  exact Wp.call (q := (188, 1, 9, 60)) rfl (Nat.le_of_ble_eq_true rfl) (px_okc_mk rfl rfl rfl (by simp only [List.all_cons, List.all_nil, nv3]; rfl)) h
theorem b186_60 {d : Nat} {Q : Option Value → px_S → Prop} {σ : px_S} {x1 x2 : Int32} {v3 : Value} (nv3 : px_nc v3 = true) (h : Cw d 189 [.ref 9] σ (fun r τ => Wp d tb_186 64 [.ref 9, .int x1, .int x2, v3] (r.toList ++ []) τ Q)) : Wp d tb_186 60 [.ref 9, .int x1, .int x2, v3] [] σ Q := by
  refine Wp.adv (pc' := 61) (ls' := [.ref 9, .int x1, .int x2, v3]) (st' := [.ref 9]) (σ' := σ) 1 rfl ?_
  exact Wp.call (q := (189, 1, 9, 64)) rfl (Nat.le_of_ble_eq_true rfl) (px_okc_mk rfl rfl rfl (by simp only [List.all_cons, List.all_nil, nv3]; rfl)) h
theorem b186_64 {d : Nat} {Q : Option Value → px_S → Prop} {σ : px_S} {x1 x2 s0 : Int32} {v3 : Value} (ht : s0 < 0 → Wp d tb_186 74 [.ref 9, .int x1, .int x2, .int s0] [.ref 9] σ Q) (hf : ¬ (s0 < 0) → Wp d tb_186 70 [.ref 9, .int x1, .int x2, .int s0] [.ref 9] σ Q) : Wp d tb_186 64 [.ref 9, .int x1, .int x2, v3] [.int s0] σ Q := by
  refine Wp.adv (pc' := 67) (ls' := [.ref 9, .int x1, .int x2, .int s0]) (st' := [.int s0, .ref 9]) (σ' := σ) 3 rfl ?_
  exact Wp.if_ rfl ht hf
theorem b186_70 {d : Nat} {Q : Option Value → px_S → Prop} {σ : px_S} {x1 x2 x3 : Int32} (h : Wp d tb_186 75 [.ref 9, .int x1, .int x2, .int x3] [.int (1 : Int32), .ref 9] σ Q) : Wp d tb_186 70 [.ref 9, .int x1, .int x2, .int x3] [.ref 9] σ Q := by
  refine Wp.adv (pc' := 75) (ls' := [.ref 9, .int x1, .int x2, .int x3]) (st' := [.int (1 : Int32), .ref 9]) (σ' := σ) 2 rfl ?_
  exact h
theorem b186_74 {d : Nat} {Q : Option Value → px_S → Prop} {σ : px_S} {x1 x2 x3 : Int32} (h : Wp d tb_186 75 [.ref 9, .int x1, .int x2, .int x3] [.int (0 : Int32), .ref 9] σ Q) : Wp d tb_186 74 [.ref 9, .int x1, .int x2, .int x3] [.ref 9] σ Q := by
  refine Wp.adv (pc' := 75) (ls' := [.ref 9, .int x1, .int x2, .int x3]) (st' := [.int (0 : Int32), .ref 9]) (σ' := σ) 1 rfl ?_
  exact h
theorem b186_75 {d : Nat} {Q : Option Value → px_S → Prop} {σ : px_S} {x1 x2 x3 s0 : Int32} (h : Cw d 191 [.ref 9, .int s0, .int (1 : Int32), .int (σ.1 9 33)] σ (fun r τ => Wp d tb_186 83 [.ref 9, .int x1, .int x2, .int x3] (r.toList ++ []) τ Q)) : Wp d tb_186 75 [.ref 9, .int x1, .int x2, .int x3] [.int s0, .ref 9] σ Q := by
  refine Wp.adv (pc' := 80) (ls' := [.ref 9, .int x1, .int x2, .int x3]) (st' := [.int (σ.1 9 33), .int (1 : Int32), .int s0, .ref 9]) (σ' := σ) 3 rfl ?_
  exact Wp.call (q := (191, 4, 9, 83)) rfl (Nat.le_of_ble_eq_true rfl) rfl h
theorem b186_83 {d : Nat} {Q : Option Value → px_S → Prop} {σ : px_S} {x1 x2 x3 s0 : Int32} (ht : s0 = 0 → Wp d tb_186 125 [.ref 9, .int x1, .int x2, .int x3] [] σ Q) (hf : ¬ (s0 = 0) → Wp d tb_186 86 [.ref 9, .int x1, .int x2, .int x3] [] σ Q) : Wp d tb_186 83 [.ref 9, .int x1, .int x2, .int x3] [.int s0] σ Q := by
  exact Wp.if_ rfl ht hf
theorem b186_86 {d : Nat} {Q : Option Value → px_S → Prop} {σ : px_S} {x1 x2 x3 : Int32} (ht : ¬ ((x2 >>> (x3 &&& 31)) &&& (1 : Int32)) = 0 → Wp d tb_186 99 [.ref 9, .int x1, .int x2, .int x3] [.ref 9] σ Q) (hf : ¬ (¬ ((x2 >>> (x3 &&& 31)) &&& (1 : Int32)) = 0) → Wp d tb_186 95 [.ref 9, .int x1, .int x2, .int x3] [.ref 9] σ Q) : Wp d tb_186 86 [.ref 9, .int x1, .int x2, .int x3] [] σ Q := by
  refine Wp.adv (pc' := 92) (ls' := [.ref 9, .int x1, .int x2, .int x3]) (st' := [.int ((x2 >>> (x3 &&& 31)) &&& (1 : Int32)), .ref 9]) (σ' := σ) 6 rfl ?_
  exact Wp.if_ rfl ht hf
theorem b186_95 {d : Nat} {Q : Option Value → px_S → Prop} {σ : px_S} {x1 x2 x3 : Int32} (h : Wp d tb_186 100 [.ref 9, .int x1, .int x2, .int x3] [.int (1 : Int32), .ref 9] σ Q) : Wp d tb_186 95 [.ref 9, .int x1, .int x2, .int x3] [.ref 9] σ Q := by
  refine Wp.adv (pc' := 100) (ls' := [.ref 9, .int x1, .int x2, .int x3]) (st' := [.int (1 : Int32), .ref 9]) (σ' := σ) 2 rfl ?_
  exact h
theorem b186_99 {d : Nat} {Q : Option Value → px_S → Prop} {σ : px_S} {x1 x2 x3 : Int32} (h : Wp d tb_186 100 [.ref 9, .int x1, .int x2, .int x3] [.int (0 : Int32), .ref 9] σ Q) : Wp d tb_186 99 [.ref 9, .int x1, .int x2, .int x3] [.ref 9] σ Q := by
  refine Wp.adv (pc' := 100) (ls' := [.ref 9, .int x1, .int x2, .int x3]) (st' := [.int (0 : Int32), .ref 9]) (σ' := σ) 1 rfl ?_
  exact h
theorem b186_100 {d : Nat} {Q : Option Value → px_S → Prop} {σ : px_S} {x1 x2 x3 s0 : Int32} (h : Cw d 191 [.ref 9, .int s0, .int (3 : Int32), .int (σ.1 9 33)] σ (fun r τ => Wp d tb_186 108 [.ref 9, .int x1, .int x2, .int x3] (r.toList ++ []) τ Q)) : Wp d tb_186 100 [.ref 9, .int x1, .int x2, .int x3] [.int s0, .ref 9] σ Q := by
  refine Wp.adv (pc' := 105) (ls' := [.ref 9, .int x1, .int x2, .int x3]) (st' := [.int (σ.1 9 33), .int (3 : Int32), .int s0, .ref 9]) (σ' := σ) 3 rfl ?_
  exact Wp.call (q := (191, 4, 9, 108)) rfl (Nat.le_of_ble_eq_true rfl) rfl h
theorem b186_108 {d : Nat} {Q : Option Value → px_S → Prop} {σ : px_S} {x1 x2 x3 s0 : Int32} (ht : s0 = 0 → Wp d tb_186 125 [.ref 9, .int x1, .int x2, .int x3] [] σ Q) (hf : ¬ (s0 = 0) → Wp d tb_186 111 [.ref 9, .int x1, .int x2, .int x3] [] σ Q) : Wp d tb_186 108 [.ref 9, .int x1, .int x2, .int x3] [.int s0] σ Q := by
  exact Wp.if_ rfl ht hf
theorem b186_111 {d : Nat} {Q : Option Value → px_S → Prop} {σ : px_S} {x1 x2 x3 : Int32} (h : Cw d 192 [.ref 9, .int x3] σ (fun r τ => Wp d tb_186 122 [.ref 9, .int x1, .int (x2 ||| ((1 : Int32) <<< (x3 &&& 31))), .int x3] (r.toList ++ []) τ Q)) : Wp d tb_186 111 [.ref 9, .int x1, .int x2, .int x3] [] σ Q := by
  refine Wp.adv (pc' := 119) (ls' := [.ref 9, .int x1, .int (x2 ||| ((1 : Int32) <<< (x3 &&& 31))), .int x3]) (st' := [.int x3, .ref 9]) (σ' := σ) 8 rfl ?_
  exact Wp.call (q := (192, 2, 9, 122)) rfl (Nat.le_of_ble_eq_true rfl) rfl h
