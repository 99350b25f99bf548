/-! ===== basic blocks, 5 ===== -/
theorem b153_0 {d : Nat} {Q : Option Value → px_S → Prop} {σ : px_S} {x1 x2 x3 : Int32} (h : Cw d 140 [.ref 9, .int x1, .int x2] σ (fun r τ => Wp d tb_153 6 [.ref 9, .int x1, .int x2, .int x3, .null] (r.toList ++ []) τ Q)) : Wp d tb_153 0 [.ref 9, .int x1, .int x2, .int x3, .null] [] σ Q := by
  refine Wp.adv (pc' := 3) (ls' := [.ref 9, .int x1, .int x2, .int x3, .null]) (st' := [.int x2, .int x1, .ref 9]) (σ' := σ) 3 rfl ?_
  exact Wp.call (q := (140, 3, 9, 6)) rfl (Nat.le_of_ble_eq_true rfl) rfl h
theorem b153_6 {d : Nat} {Q : Option Value → px_S → Prop} {σ : px_S} {x1 x2 x3 s0 : Int32} (ht : s0 = 0 → Wp d tb_153 13 [.ref 9, .int x1, .int x2, .int x3, .null] [] σ Q) (hf : ¬ (s0 = 0) → Wp d tb_153 9 [.ref 9, .int x1, .int x2, .int x3, .null] [] σ Q) : Wp d tb_153 6 [.ref 9, .int x1, .int x2, .int x3, .null] [.int s0] σ Q := by
  exact Wp.if_ rfl ht hf
theorem b153_9 {d : Nat} {Q : Option Value → px_S → Prop} {σ : px_S} {x1 x2 x3 : Int32} (h : Q (some (.int (-1001 : Int32))) σ) : Wp d tb_153 9 [.ref 9, .int x1, .int x2, .int x3, .null] [] σ Q := by
  refine Wp.adv (pc' := 12) (ls' := [.ref 9, .int x1, .int x2, .int x3, .null]) (st' := [.int (-1001 : Int32)]) (σ' := σ) 1 rfl ?_
  exact Wp.ret rfl rfl h
theorem b153_13 {d : Nat} {Q : Option Value → px_S → Prop} {σ : px_S} {x1 x2 x3 : Int32} (h : Cw d 130 [.long (x3).toInt64, .long (0 : Int64), .long (9 : Int64)] σ (fun r τ => Wp d tb_153 30 [.ref 9, .int x1, .int x2, .int x3, .int (((14 : Int32) * x1) + x2)] (r.toList ++ []) τ Q)) : Wp d tb_153 13 [.ref 9, .int x1, .int x2, .int x3, .null] [] σ Q := by
  refine Wp.adv (pc' := 27) (ls' := [.ref 9, .int x1, .int x2, .int x3, .int (((14 : Int32) * x1) + x2)]) (st' := [.long (9 : Int64), .long (0 : Int64), .long (x3).toInt64]) (σ' := σ) 10 rfl ?_
  exact Wp.call (q := (130, 3, 0, 30)) rfl (Nat.le_of_ble_eq_true rfl) rfl h
theorem b153_30 {d : Nat} {Q : Option Value → px_S → Prop} {σ : px_S} {x1 x2 x3 x4 s0 : Int32} (ht : ¬ s0 = 0 → Wp d tb_153 37 [.ref 9, .int x1, .int x2, .int x3, .int x4] [] σ Q) (hf : ¬ (¬ s0 = 0) → Wp d tb_153 33 [.ref 9, .int x1, .int x2, .int x3, .int x4] [] σ Q) : Wp d tb_153 30 [.ref 9, .int x1, .int x2, .int x3, .int x4] [.int s0] σ Q := by
  exact Wp.if_ rfl ht hf
theorem b153_33 {d : Nat} {Q : Option Value → px_S → Prop} {σ : px_S} {x1 x2 x3 x4 : Int32} (h : Q (some (.int (-1002 : Int32))) σ) : Wp d tb_153 33 [.ref 9, .int x1, .int x2, .int x3, .int x4] [] σ Q := by
  refine Wp.adv (pc' := 36) (ls' := [.ref 9, .int x1, .int x2, .int x3, .int x4]) (st' := [.int (-1002 : Int32)]) (σ' := σ) 1 rfl ?_
  exact Wp.ret rfl rfl h
theorem b153_37 {d : Nat} {Q : Option Value → px_S → Prop} {σ : px_S} {x1 x2 x3 x4 : Int32} (ht : ¬ x3 = 0 → Wp d tb_153 51 [.ref 9, .int x1, .int x2, .int x3, .int x4] [] σ Q) (hf : ¬ (¬ x3 = 0) → Wp d tb_153 41 [.ref 9, .int x1, .int x2, .int x3, .int x4] [] σ Q) : Wp d tb_153 37 [.ref 9, .int x1, .int x2, .int x3, .int x4] [] σ Q := by
  refine Wp.adv (pc' := 38) (ls' := [.ref 9, .int x1, .int x2, .int x3, .int x4]) (st' := [.int x3]) (σ' := σ) 1 rfl ?_
  exact Wp.if_ rfl ht hf
theorem b153_41 {d : Nat} {Q : Option Value → px_S → Prop} {σ : px_S} {x1 x2 x3 x4 : Int32} (c1 : vp_in x4 560) (h : Wp d tb_153 97 [.ref 9, .int x1, .int x2, .int x3, .int x4] [.int (σ.1 43 (x4).toNatClampNeg)] σ Q) : Wp d tb_153 41 [.ref 9, .int x1, .int x2, .int x3, .int x4] [] σ Q := by
  refine Wp.adv (pc' := 47) (ls' := [.ref 9, .int x1, .int x2, .int x3, .int x4]) (st' := [.int x4, .ref 43]) (σ' := σ) 3 rfl ?_
  refine Wp.iald (N := 560) rfl rfl c1 ?_
  refine Wp.adv (pc' := 97) (ls' := [.ref 9, .int x1, .int x2, .int x3, .int x4]) (st' := [.int (σ.1 43 (x4).toNatClampNeg)]) (σ' := σ) 1 rfl ?_
  exact h
theorem b153_51 {d : Nat} {Q : Option Value → px_S → Prop} {σ : px_S} {x1 x2 x3 x4 : Int32} (ht : ¬ x3 = (1 : Int32) → Wp d tb_153 66 [.ref 9, .int x1, .int x2, .int x3, .int x4] [] σ Q) (hf : ¬ (¬ x3 = (1 : Int32)) → Wp d tb_153 56 [.ref 9, .int x1, .int x2, .int x3, .int x4] [] σ Q) : Wp d tb_153 51 [.ref 9, .int x1, .int x2, .int x3, .int x4] [] σ Q := by
  refine Wp.adv (pc' := 53) (ls' := [.ref 9, .int x1, .int x2, .int x3, .int x4]) (st' := [.int (1 : Int32), .int x3]) (σ' := σ) 2 rfl ?_
  exact Wp.icmp rfl ht hf
theorem b153_56 {d : Nat} {Q : Option Value → px_S → Prop} {σ : px_S} {x1 x2 x3 x4 : Int32} (c1 : vp_in x4 560) (h : Wp d tb_153 97 [.ref 9, .int x1, .int x2, .int x3, .int x4] [.int (σ.1 44 (x4).toNatClampNeg)] σ Q) : Wp d tb_153 56 [.ref 9, .int x1, .int x2, .int x3, .int x4] [] σ Q := by
  refine Wp.adv (pc' := 62) (ls' := [.ref 9, .int x1, .int x2, .int x3, .int x4]) (st' := [.int x4, .ref 44]) (σ' := σ) 3 rfl ?_
  refine Wp.iald (N := 560) rfl rfl c1 ?_
  refine Wp.adv (pc' := 97) (ls' := [.ref 9, .int x1, .int x2, .int x3, .int x4]) (st' := [.int (σ.1 44 (x4).toNatClampNeg)]) (σ' := σ) 1 rfl ?_
  exact h
theorem b153_66 {d : Nat} {Q : Option Value → px_S → Prop} {σ : px_S} {x1 x2 x3 x4 : Int32} (c1 : vp_in x4 560) (ht : (σ.1 44 (x4).toNatClampNeg) ≤ (x3 - (2 : Int32)) → Wp d tb_153 96 [.ref 9, .int x1, .int x2, .int x3, .int x4] [] σ Q) (hf : ¬ ((σ.1 44 (x4).toNatClampNeg) ≤ (x3 - (2 : Int32))) → Wp d tb_153 79 [.ref 9, .int x1, .int x2, .int x3, .int x4] [] σ Q) : Wp d tb_153 66 [.ref 9, .int x1, .int x2, .int x3, .int x4] [] σ Q := by
  refine Wp.adv (pc' := 75) (ls' := [.ref 9, .int x1, .int x2, .int x3, .int x4]) (st' := [.int x4, .ref 44, .int (x3 - (2 : Int32))]) (σ' := σ) 6 rfl ?_
  refine Wp.iald (N := 560) rfl rfl c1 ?_
  exact Wp.icmp rfl ht hf
theorem b153_79 {d : Nat} {Q : Option Value → px_S → Prop} {σ : px_S} {x1 x2 x3 x4 : Int32} (c1 : vp_in ((((8 : Int32) * x4) + x3) - (2 : Int32)) 4480) (h : Wp d tb_153 97 [.ref 9, .int x1, .int x2, .int x3, .int x4] [.int (σ.1 45 (((((8 : Int32) * x4) + x3) - (2 : Int32))).toNatClampNeg)] σ Q) : Wp d tb_153 79 [.ref 9, .int x1, .int x2, .int x3, .int x4] [] σ Q := by
  refine Wp.adv (pc' := 92) (ls' := [.ref 9, .int x1, .int x2, .int x3, .int x4]) (st' := [.int ((((8 : Int32) * x4) + x3) - (2 : Int32)), .ref 45]) (σ' := σ) 9 rfl ?_
  refine Wp.iald (N := 4480) rfl rfl c1 ?_
  refine Wp.adv (pc' := 97) (ls' := [.ref 9, .int x1, .int x2, .int x3, .int x4]) (st' := [.int (σ.1 45 (((((8 : Int32) * x4) + x3) - (2 : Int32))).toNatClampNeg)]) (σ' := σ) 1 rfl ?_
  exact h
theorem b153_96 {d : Nat} {Q : Option Value → px_S → Prop} {σ : px_S} {x1 x2 x3 x4 : Int32} (h : Wp d tb_153 97 [.ref 9, .int x1, .int x2, .int x3, .int x4] [.int (-1 : Int32)] σ Q) : Wp d tb_153 96 [.ref 9, .int x1, .int x2, .int x3, .int x4] [] σ Q := by
  refine Wp.adv (pc' := 97) (ls' := [.ref 9, .int x1, .int x2, .int x3, .int x4]) (st' := [.int (-1 : Int32)]) (σ' := σ) 1 rfl ?_
  exact h
theorem b153_97 {d : Nat} {Q : Option Value → px_S → Prop} {σ : px_S} {x1 x2 x3 x4 s0 : Int32} (h : Q (some (.int s0)) σ) : Wp d tb_153 97 [.ref 9, .int x1, .int x2, .int x3, .int x4] [.int s0] σ Q := by
  exact Wp.ret rfl rfl h
theorem e153 {d : Nat} {Q : Option Value → px_S → Prop} {σ : px_S} {x1 x2 x3 : Int32} (h : Wp d tb_153 0 [.ref 9, .int x1, .int x2, .int x3, .null] [] σ Q) : Cw (d + 1) 153 [.ref 9, .int x1, .int x2, .int x3] σ Q := Cw.of (nL := 5) (y := yX9_told) (cc := cX9_told) (rt := some .int) rfl (Nat.le_of_ble_eq_true rfl) h
theorem b154_0 {d : Nat} {Q : Option Value → px_S → Prop} {σ : px_S} {x1 x2 x3 : Int32} (h : Cw d 140 [.ref 9, .int x1, .int x2] σ (fun r τ => Wp d tb_154 6 [.ref 9, .int x1, .int x2, .int x3, .null] (r.toList ++ []) τ Q)) : Wp d tb_154 0 [.ref 9, .int x1, .int x2, .int x3, .null] [] σ Q := by
  refine Wp.adv (pc' := 3) (ls' := [.ref 9, .int x1, .int x2, .int x3, .null]) (st' := [.int x2, .int x1, .ref 9]) (σ' := σ) 3 rfl ?_
  exact Wp.call (q := (140, 3, 9, 6)) rfl (Nat.le_of_ble_eq_true rfl) rfl h
theorem b154_6 {d : Nat} {Q : Option Value → px_S → Prop} {σ : px_S} {x1 x2 x3 s0 : Int32} (ht : s0 = 0 → Wp d tb_154 13 [.ref 9, .int x1, .int x2, .int x3, .null] [] σ Q) (hf : ¬ (s0 = 0) → Wp d tb_154 9 [.ref 9, .int x1, .int x2, .int x3, .null] [] σ Q) : Wp d tb_154 6 [.ref 9, .int x1, .int x2, .int x3, .null] [.int s0] σ Q := by
  exact Wp.if_ rfl ht hf
theorem b154_9 {d : Nat} {Q : Option Value → px_S → Prop} {σ : px_S} {x1 x2 x3 : Int32} (h : Q (some (.int (-1001 : Int32))) σ) : Wp d tb_154 9 [.ref 9, .int x1, .int x2, .int x3, .null] [] σ Q := by
  refine Wp.adv (pc' := 12) (ls' := [.ref 9, .int x1, .int x2, .int x3, .null]) (st' := [.int (-1001 : Int32)]) (σ' := σ) 1 rfl ?_
  exact Wp.ret rfl rfl h
theorem b154_13 {d : Nat} {Q : Option Value → px_S → Prop} {σ : px_S} {x1 x2 x3 : Int32} (h : Cw d 130 [.long (x3).toInt64, .long (0 : Int64), .long (2 : Int64)] σ (fun r τ => Wp d tb_154 22 [.ref 9, .int x1, .int x2, .int x3, .null] (r.toList ++ []) τ Q)) : Wp d tb_154 13 [.ref 9, .int x1, .int x2, .int x3, .null] [] σ Q := by
  refine Wp.adv (pc' := 19) (ls' := [.ref 9, .int x1, .int x2, .int x3, .null]) (st' := [.long (2 : Int64), .long (0 : Int64), .long (x3).toInt64]) (σ' := σ) 4 rfl ?_
  exact Wp.call (q := (130, 3, 0, 22)) rfl (Nat.le_of_ble_eq_true rfl) rfl h
theorem b154_22 {d : Nat} {Q : Option Value → px_S → Prop} {σ : px_S} {x1 x2 x3 s0 : Int32} (ht : ¬ s0 = 0 → Wp d tb_154 29 [.ref 9, .int x1, .int x2, .int x3, .null] [] σ Q) (hf : ¬ (¬ s0 = 0) → Wp d tb_154 25 [.ref 9, .int x1, .int x2, .int x3, .null] [] σ Q) : Wp d tb_154 22 [.ref 9, .int x1, .int x2, .int x3, .null] [.int s0] σ Q := by
  exact Wp.if_ rfl ht hf
theorem b154_25 {d : Nat} {Q : Option Value → px_S → Prop} {σ : px_S} {x1 x2 x3 : Int32} (h : Q (some (.int (-1002 : Int32))) σ) : Wp d tb_154 25 [.ref 9, .int x1, .int x2, .int x3, .null] [] σ Q := by
  refine Wp.adv (pc' := 28) (ls' := [.ref 9, .int x1, .int x2, .int x3, .null]) (st' := [.int (-1002 : Int32)]) (σ' := σ) 1 rfl ?_
  exact Wp.ret rfl rfl h
theorem b154_29 {d : Nat} {Q : Option Value → px_S → Prop} {σ : px_S} {x1 x2 x3 : Int32} (h : Cw d 143 [.ref 9, .int x1] σ (fun r τ => Wp d tb_154 34 [.ref 9, .int x1, .int x2, .int x3, .null] (r.toList ++ []) τ Q)) : Wp d tb_154 29 [.ref 9, .int x1, .int x2, .int x3, .null] [] σ Q := by
  refine Wp.adv (pc' := 31) (ls' := [.ref 9, .int x1, .int x2, .int x3, .null]) (st' := [.int x1, .ref 9]) (σ' := σ) 2 rfl ?_
  exact Wp.call (q := (143, 2, 9, 34)) rfl (Nat.le_of_ble_eq_true rfl) rfl h
theorem b154_34 {d : Nat} {Q : Option Value → px_S → Prop} {σ : px_S} {x1 x2 x3 s0 : Int32} (ht : ¬ s0 = 0 → Wp d tb_154 41 [.ref 9, .int x1, .int x2, .int x3, .null] [] σ Q) (hf : ¬ (¬ s0 = 0) → Wp d tb_154 37 [.ref 9, .int x1, .int x2, .int x3, .null] [] σ Q) : Wp d tb_154 34 [.ref 9, .int x1, .int x2, .int x3, .null] [.int s0] σ Q := by
  exact Wp.if_ rfl ht hf
theorem b154_37 {d : Nat} {Q : Option Value → px_S → Prop} {σ : px_S} {x1 x2 x3 : Int32} (h : Q (some (.int (-1003 : Int32))) σ) : Wp d tb_154 37 [.ref 9, .int x1, .int x2, .int x3, .null] [] σ Q := by
  refine Wp.adv (pc' := 40) (ls' := [.ref 9, .int x1, .int x2, .int x3, .null]) (st' := [.int (-1003 : Int32)]) (σ' := σ) 1 rfl ?_
  exact Wp.ret rfl rfl h
theorem b154_41 {d : Nat} {Q : Option Value → px_S → Prop} {σ : px_S} {x1 x2 x3 : Int32} (h : Cw d 148 [.ref 9] σ (fun r τ => Wp d tb_154 45 [.ref 9, .int x1, .int x2, .int x3, .null] (r.toList ++ []) τ Q)) : Wp d tb_154 41 [.ref 9, .int x1, .int x2, .int x3, .null] [] σ Q := by
  refine Wp.adv (pc' := 42) (ls' := [.ref 9, .int x1, .int x2, .int x3, .null]) (st' := [.ref 9]) (σ' := σ) 1 rfl ?_
  exact Wp.call (q := (148, 1, 9, 45)) rfl (Nat.le_of_ble_eq_true rfl) rfl h
theorem b154_45 {d : Nat} {Q : Option Value → px_S → Prop} {σ : px_S} {x1 x2 x3 : Int32} (h : Cw d 155 [.ref 9, .int (((14 : Int32) * x1) + x2)] σ (fun r τ => Wp d tb_154 55 [.ref 9, .int x1, .int x2, .int x3, .null] (r.toList ++ []) τ Q)) : Wp d tb_154 45 [.ref 9, .int x1, .int x2, .int x3, .null] [] σ Q := by
  refine Wp.adv (pc' := 52) (ls' := [.ref 9, .int x1, .int x2, .int x3, .null]) (st' := [.int (((14 : Int32) * x1) + x2), .ref 9]) (σ' := σ) 6 rfl ?_
  exact Wp.call (q := (155, 2, 9, 55)) rfl (Nat.le_of_ble_eq_true rfl) rfl h
theorem b154_55 {d : Nat} {Q : Option Value → px_S → Prop} {σ : px_S} {x1 x2 x3 s0 : Int32} (ht : 0 ≤ s0 → Wp d tb_154 66 [.ref 9, .int x1, .int x2, .int x3, .int s0] [] σ Q) (hf : ¬ (0 ≤ s0) → Wp d tb_154 62 [.ref 9, .int x1, .int x2, .int x3, .int s0] [] σ Q) : Wp d tb_154 55 [.ref 9, .int x1, .int x2, .int x3, .null] [.int s0] σ Q := by
  refine Wp.adv (pc' := 59) (ls' := [.ref 9, .int x1, .int x2, .int x3, .int s0]) (st' := [.int s0]) (σ' := σ) 2 rfl ?_
  exact Wp.if_ rfl ht hf
theorem b154_62 {d : Nat} {Q : Option Value → px_S → Prop} {σ : px_S} {x1 x2 x3 x4 : Int32} (h : Wp d tb_154 101 [.ref 9, .int x1, .int x2, .int x3, .int x4] [.int (-1 : Int32)] σ Q) : Wp d tb_154 62 [.ref 9, .int x1, .int x2, .int x3, .int x4] [] σ Q := by
  refine Wp.adv (pc' := 101) (ls' := [.ref 9, .int x1, .int x2, .int x3, .int x4]) (st' := [.int (-1 : Int32)]) (σ' := σ) 2 rfl ?_
  exact h
theorem b154_66 {d : Nat} {Q : Option Value → px_S → Prop} {σ : px_S} {x1 x2 x3 x4 : Int32} (ht : ¬ x3 = 0 → Wp d tb_154 78 [.ref 9, .int x1, .int x2, .int x3, .int x4] [] σ Q) (hf : ¬ (¬ x3 = 0) → Wp d tb_154 70 [.ref 9, .int x1, .int x2, .int x3, .int x4] [] σ Q) : Wp d tb_154 66 [.ref 9, .int x1, .int x2, .int x3, .int x4] [] σ Q := by
  refine Wp.adv (pc' := 67) (ls' := [.ref 9, .int x1, .int x2, .int x3, .int x4]) (st' := [.int x3]) (σ' := σ) 1 rfl ?_
  exact Wp.if_ rfl ht hf
theorem b154_70 {d : Nat} {Q : Option Value → px_S → Prop} {σ : px_S} {x1 x2 x3 x4 : Int32} (h : Wp d tb_154 101 [.ref 9, .int x1, .int x2, .int x3, .int x4] [.int (x4 / (14 : Int32))] σ Q) : Wp d tb_154 70 [.ref 9, .int x1, .int x2, .int x3, .int x4] [] σ Q := by
  refine Wp.adv (pc' := 74) (ls' := [.ref 9, .int x1, .int x2, .int x3, .int x4]) (st' := [.int (14 : Int32), .int x4]) (σ' := σ) 2 rfl ?_
  refine Wp.binz rfl (by decide) ?_
  refine Wp.adv (pc' := 101) (ls' := [.ref 9, .int x1, .int x2, .int x3, .int x4]) (st' := [.int (x4 / (14 : Int32))]) (σ' := σ) 1 rfl ?_
  exact h
theorem b154_78 {d : Nat} {Q : Option Value → px_S → Prop} {σ : px_S} {x1 x2 x3 x4 : Int32} (ht : ¬ x3 = (1 : Int32) → Wp d tb_154 91 [.ref 9, .int x1, .int x2, .int x3, .int x4] [] σ Q) (hf : ¬ (¬ x3 = (1 : Int32)) → Wp d tb_154 83 [.ref 9, .int x1, .int x2, .int x3, .int x4] [] σ Q) : Wp d tb_154 78 [.ref 9, .int x1, .int x2, .int x3, .int x4] [] σ Q := by
  refine Wp.adv (pc' := 80) (ls' := [.ref 9, .int x1, .int x2, .int x3, .int x4]) (st' := [.int (1 : Int32), .int x3]) (σ' := σ) 2 rfl ?_
  exact Wp.icmp rfl ht hf
theorem b154_83 {d : Nat} {Q : Option Value → px_S → Prop} {σ : px_S} {x1 x2 x3 x4 : Int32} (h : Wp d tb_154 101 [.ref 9, .int x1, .int x2, .int x3, .int x4] [.int (x4 - x4 / (14 : Int32) * (14 : Int32))] σ Q) : Wp d tb_154 83 [.ref 9, .int x1, .int x2, .int x3, .int x4] [] σ Q := by
  refine Wp.adv (pc' := 87) (ls' := [.ref 9, .int x1, .int x2, .int x3, .int x4]) (st' := [.int (14 : Int32), .int x4]) (σ' := σ) 2 rfl ?_
  refine Wp.binz rfl (by decide) ?_
  refine Wp.adv (pc' := 101) (ls' := [.ref 9, .int x1, .int x2, .int x3, .int x4]) (st' := [.int (x4 - x4 / (14 : Int32) * (14 : Int32))]) (σ' := σ) 1 rfl ?_
  exact h
theorem b154_91 {d : Nat} {Q : Option Value → px_S → Prop} {σ : px_S} {x1 x2 x3 x4 : Int32} (c1 : vp_in (x4 / (14 : Int32)) 40) (h : Wp d tb_154 101 [.ref 9, .int x1, .int x2, .int x3, .int x4] [.int (σ.1 38 ((x4 / (14 : Int32))).toNatClampNeg)] σ Q) : Wp d tb_154 91 [.ref 9, .int x1, .int x2, .int x3, .int x4] [] σ Q := by
  refine Wp.adv (pc' := 99) (ls' := [.ref 9, .int x1, .int x2, .int x3, .int x4]) (st' := [.int (14 : Int32), .int x4, .ref 38]) (σ' := σ) 4 rfl ?_
  refine Wp.binz rfl (by decide) ?_
  refine Wp.iald (N := 40) rfl rfl c1 ?_
  exact h
theorem b154_101 {d : Nat} {Q : Option Value → px_S → Prop} {σ : px_S} {x1 x2 x3 x4 s0 : Int32} (h : Q (some (.int s0)) σ) : Wp d tb_154 101 [.ref 9, .int x1, .int x2, .int x3, .int x4] [.int s0] σ Q := by
  exact Wp.ret rfl rfl h
theorem e154 {d : Nat} {Q : Option Value → px_S → Prop} {σ : px_S} {x1 x2 x3 : Int32} (h : Wp d tb_154 0 [.ref 9, .int x1, .int x2, .int x3, .null] [] σ Q) : Cw (d + 1) 154 [.ref 9, .int x1, .int x2, .int x3] σ Q := Cw.of (nL := 5) (y := yX9_origin) (cc := cX9_origin) (rt := some .int) rfl (Nat.le_of_ble_eq_true rfl) h
theorem b155_0 {d : Nat} {Q : Option Value → px_S → Prop} {σ : px_S} {x1 : Int32} (h : Wp d tb_155 2 [.ref 9, .int x1, .int x1] [] σ Q) : Wp d tb_155 0 [.ref 9, .int x1, .null] [] σ Q := by
  refine Wp.adv (pc' := 2) (ls' := [.ref 9, .int x1, .int x1]) (st' := []) (σ' := σ) 2 rfl ?_
  exact h
theorem b155_2 {d : Nat} {Q : Option Value → px_S → Prop} {σ : px_S} {x1 x2 : Int32} (ht : x2 < 0 → Wp d tb_155 24 [.ref 9, .int x1, .int x2] [] σ Q) (hf : ¬ (x2 < 0) → Wp d tb_155 6 [.ref 9, .int x1, .int x2] [] σ Q) : Wp d tb_155 2 [.ref 9, .int x1, .int x2] [] σ Q := by
  refine Wp.adv (pc' := 3) (ls' := [.ref 9, .int x1, .int x2]) (st' := [.int x2]) (σ' := σ) 1 rfl ?_
  exact Wp.if_ rfl ht hf
theorem b155_6 {d : Nat} {Q : Option Value → px_S → Prop} {σ : px_S} {x1 x2 : Int32} (c1 : vp_in x2 560) (ht : (σ.1 43 (x2).toNatClampNeg) ≤ 0 → Wp d tb_155 24 [.ref 9, .int x1, .int x2] [] σ Q) (hf : ¬ ((σ.1 43 (x2).toNatClampNeg) ≤ 0) → Wp d tb_155 15 [.ref 9, .int x1, .int x2] [] σ Q) : Wp d tb_155 6 [.ref 9, .int x1, .int x2] [] σ Q := by
  refine Wp.adv (pc' := 11) (ls' := [.ref 9, .int x1, .int x2]) (st' := [.int x2, .ref 43]) (σ' := σ) 3 rfl ?_
  refine Wp.iald (N := 560) rfl rfl c1 ?_
  exact Wp.if_ rfl ht hf
theorem b155_15 {d : Nat} {Q : Option Value → px_S → Prop} {σ : px_S} {x1 x2 : Int32} (h : Cw d 156 [.ref 9, .int x2] σ (fun r τ => Wp d tb_155 20 [.ref 9, .int x1, .int x2] (r.toList ++ []) τ Q)) : Wp d tb_155 15 [.ref 9, .int x1, .int x2] [] σ Q := by
  refine Wp.adv (pc' := 17) (ls' := [.ref 9, .int x1, .int x2]) (st' := [.int x2, .ref 9]) (σ' := σ) 2 rfl ?_
  exact Wp.call (q := (156, 2, 9, 20)) rfl (Nat.le_of_ble_eq_true rfl) rfl h
theorem b155_20 {d : Nat} {Q : Option Value → px_S → Prop} {σ : px_S} {x1 x2 s0 : Int32} (h : Wp d tb_155 2 [.ref 9, .int x1, .int s0] [] σ Q) : Wp d tb_155 20 [.ref 9, .int x1, .int x2] [.int s0] σ Q := by
  refine Wp.adv (pc' := 2) (ls' := [.ref 9, .int x1, .int s0]) (st' := []) (σ' := σ) 2 rfl ?_
  exact h
theorem b155_24 {d : Nat} {Q : Option Value → px_S → Prop} {σ : px_S} {x1 x2 : Int32} (h : Q (some (.int x2)) σ) : Wp d tb_155 24 [.ref 9, .int x1, .int x2] [] σ Q := by
  refine Wp.adv (pc' := 25) (ls' := [.ref 9, .int x1, .int x2]) (st' := [.int x2]) (σ' := σ) 1 rfl ?_
  exact Wp.ret rfl rfl h
theorem e155 {d : Nat} {Q : Option Value → px_S → Prop} {σ : px_S} {x1 : Int32} (h : Wp d tb_155 0 [.ref 9, .int x1, .null] [] σ Q) : Cw (d + 1) 155 [.ref 9, .int x1] σ Q := Cw.of (nL := 3) (y := yX9_originOf) (cc := cX9_originOf) (rt := some .int) rfl (Nat.le_of_ble_eq_true rfl) h
theorem b156_0 {d : Nat} {Q : Option Value → px_S → Prop} {σ : px_S} {x1 : Int32} (c1 : vp_in (x1 / (14 : Int32)) 40) (ht : 0 ≤ (σ.1 49 ((x1 / (14 : Int32))).toNatClampNeg) → Wp d tb_156 16 [.ref 9, .int x1, .int (σ.1 49 ((x1 / (14 : Int32))).toNatClampNeg), .null, .null, .null] [] σ Q) (hf : ¬ (0 ≤ (σ.1 49 ((x1 / (14 : Int32))).toNatClampNeg)) → Wp d tb_156 14 [.ref 9, .int x1, .int (σ.1 49 ((x1 / (14 : Int32))).toNatClampNeg), .null, .null, .null] [] σ Q) : Wp d tb_156 0 [.ref 9, .int x1, .null, .null, .null, .null] [] σ Q := by
  refine Wp.adv (pc' := 7) (ls' := [.ref 9, .int x1, .null, .null, .null, .null]) (st' := [.int (14 : Int32), .int x1, .ref 49]) (σ' := σ) 4 rfl ?_
  refine Wp.binz rfl (by decide) ?_
  refine Wp.iald (N := 40) rfl rfl c1 ?_
  refine Wp.adv (pc' := 11) (ls' := [.ref 9, .int x1, .int (σ.1 49 ((x1 / (14 : Int32))).toNatClampNeg), .null, .null, .null]) (st' := [.int (σ.1 49 ((x1 / (14 : Int32))).toNatClampNeg)]) (σ' := σ) 2 rfl ?_
  exact Wp.if_ rfl ht hf
theorem b156_14 {d : Nat} {Q : Option Value → px_S → Prop} {σ : px_S} {x1 x2 : Int32} (h : Q (some (.int (-1 : Int32))) σ) : Wp d tb_156 14 [.ref 9, .int x1, .int x2, .null, .null, .null] [] σ Q := by
  refine Wp.adv (pc' := 15) (ls' := [.ref 9, .int x1, .int x2, .null, .null, .null]) (st' := [.int (-1 : Int32)]) (σ' := σ) 1 rfl ?_
  exact Wp.ret rfl rfl h
theorem b156_16 {d : Nat} {Q : Option Value → px_S → Prop} {σ : px_S} {x1 x2 : Int32} (c1 : vp_in x2 40) (h : Wp d tb_156 28 [.ref 9, .int x1, .int x2, .int (-1 : Int32), .int ((σ.1 41 (x2).toNatClampNeg) - (1 : Int32)), .null] [] σ Q) : Wp d tb_156 16 [.ref 9, .int x1, .int x2, .null, .null, .null] [] σ Q := by
  refine Wp.adv (pc' := 23) (ls' := [.ref 9, .int x1, .int x2, .int (-1 : Int32), .null, .null]) (st' := [.int x2, .ref 41]) (σ' := σ) 5 rfl ?_
  refine Wp.iald (N := 40) rfl rfl c1 ?_
  refine Wp.adv (pc' := 28) (ls' := [.ref 9, .int x1, .int x2, .int (-1 : Int32), .int ((σ.1 41 (x2).toNatClampNeg) - (1 : Int32)), .null]) (st' := []) (σ' := σ) 3 rfl ?_
  exact h
theorem b156_28 {d : Nat} {Q : Option Value → px_S → Prop} {σ : px_S} {x1 x2 x3 x4 : Int32} (ht : x4 < 0 → Wp d tb_156 66 [.ref 9, .int x1, .int x2, .int x3, .int x4, .null] [] σ Q) (hf : ¬ (x4 < 0) → Wp d tb_156 33 [.ref 9, .int x1, .int x2, .int x3, .int x4, .null] [] σ Q) : Wp d tb_156 28 [.ref 9, .int x1, .int x2, .int x3, .int x4, .null] [] σ Q := by
  refine Wp.adv (pc' := 30) (ls' := [.ref 9, .int x1, .int x2, .int x3, .int x4, .null]) (st' := [.int x4]) (σ' := σ) 1 rfl ?_
  exact Wp.if_ rfl ht hf
theorem b156_33 {d : Nat} {Q : Option Value → px_S → Prop} {σ : px_S} {x1 x2 x3 x4 : Int32} (h : Cw d 145 [.ref 9, .int x1, .int (((14 : Int32) * x2) + x4)] σ (fun r τ => Wp d tb_156 45 [.ref 9, .int x1, .int x2, .int x3, .int x4, .null] (r.toList ++ []) τ Q)) : Wp d tb_156 33 [.ref 9, .int x1, .int x2, .int x3, .int x4, .null] [] σ Q := by
  refine Wp.adv (pc' := 42) (ls' := [.ref 9, .int x1, .int x2, .int x3, .int x4, .null]) (st' := [.int (((14 : Int32) * x2) + x4), .int x1, .ref 9]) (σ' := σ) 7 rfl ?_
  exact Wp.call (q := (145, 3, 9, 45)) rfl (Nat.le_of_ble_eq_true rfl) rfl h
theorem b156_45 {d : Nat} {Q : Option Value → px_S → Prop} {σ : px_S} {x1 x2 x3 x4 s0 : Int32} (ht : s0 = 0 → Wp d tb_156 58 [.ref 9, .int x1, .int x2, .int x3, .int x4, .null] [] σ Q) (hf : ¬ (s0 = 0) → Wp d tb_156 48 [.ref 9, .int x1, .int x2, .int x3, .int x4, .null] [] σ Q) : Wp d tb_156 45 [.ref 9, .int x1, .int x2, .int x3, .int x4, .null] [.int s0] σ Q := by
  exact Wp.if_ rfl ht hf
theorem b156_48 {d : Nat} {Q : Option Value → px_S → Prop} {σ : px_S} {x1 x2 x3 x4 : Int32} (h : Wp d tb_156 59 [.ref 9, .int x1, .int x2, .int x3, .int x4, .null] [.int (((14 : Int32) * x2) + x4)] σ Q) : Wp d tb_156 48 [.ref 9, .int x1, .int x2, .int x3, .int x4, .null] [] σ Q := by
  refine Wp.adv (pc' := 59) (ls' := [.ref 9, .int x1, .int x2, .int x3, .int x4, .null]) (st' := [.int (((14 : Int32) * x2) + x4)]) (σ' := σ) 6 rfl ?_
  exact h
theorem b156_58 {d : Nat} {Q : Option Value → px_S → Prop} {σ : px_S} {x1 x2 x3 x4 : Int32} (h : Wp d tb_156 59 [.ref 9, .int x1, .int x2, .int x3, .int x4, .null] [.int x3] σ Q) : Wp d tb_156 58 [.ref 9, .int x1, .int x2, .int x3, .int x4, .null] [] σ Q := by
  refine Wp.adv (pc' := 59) (ls' := [.ref 9, .int x1, .int x2, .int x3, .int x4, .null]) (st' := [.int x3]) (σ' := σ) 1 rfl ?_
  exact h
theorem b156_59 {d : Nat} {Q : Option Value → px_S → Prop} {σ : px_S} {x1 x2 x3 x4 s0 : Int32} (h : Wp d tb_156 28 [.ref 9, .int x1, .int x2, .int s0, .int (x4 + (-1)), .null] [] σ Q) : Wp d tb_156 59 [.ref 9, .int x1, .int x2, .int x3, .int x4, .null] [.int s0] σ Q := by
  refine Wp.adv (pc' := 28) (ls' := [.ref 9, .int x1, .int x2, .int s0, .int (x4 + (-1)), .null]) (st' := []) (σ' := σ) 3 rfl ?_
  exact h
theorem b156_66 {d : Nat} {Q : Option Value → px_S → Prop} {σ : px_S} {x1 x2 x3 x4 : Int32} (c1 : vp_in x2 40) (h : Wp d tb_156 76 [.ref 9, .int x1, .int x2, .int x3, .int ((σ.1 41 (x2).toNatClampNeg) - (1 : Int32)), .null] [] σ Q) : Wp d tb_156 66 [.ref 9, .int x1, .int x2, .int x3, .int x4, .null] [] σ Q := by
  refine Wp.adv (pc' := 71) (ls' := [.ref 9, .int x1, .int x2, .int x3, .int x4, .null]) (st' := [.int x2, .ref 41]) (σ' := σ) 3 rfl ?_
  refine Wp.iald (N := 40) rfl rfl c1 ?_
  refine Wp.adv (pc' := 76) (ls' := [.ref 9, .int x1, .int x2, .int x3, .int ((σ.1 41 (x2).toNatClampNeg) - (1 : Int32)), .null]) (st' := []) (σ' := σ) 3 rfl ?_
  exact h
theorem b156_76 {d : Nat} {Q : Option Value → px_S → Prop} {σ : px_S} {x1 x2 x3 x4 : Int32} {v5 : Value} (ht : x4 < 0 → Wp d tb_156 131 [.ref 9, .int x1, .int x2, .int x3, .int x4, v5] [] σ Q) (hf : ¬ (x4 < 0) → Wp d tb_156 81 [.ref 9, .int x1, .int x2, .int x3, .int x4, v5] [] σ Q) : Wp d tb_156 76 [.ref 9, .int x1, .int x2, .int x3, .int x4, v5] [] σ Q := by
  refine Wp.adv (pc' := 78) (ls' := [.ref 9, .int x1, .int x2, .int x3, .int x4, v5]) (st' := [.int x4]) (σ' := σ) 1 rfl ?_
  exact Wp.if_ rfl ht hf
theorem b156_81 {d : Nat} {Q : Option Value → px_S → Prop} {σ : px_S} {x1 x2 x3 x4 : Int32} {v5 : Value} (c1 : vp_in (((14 : Int32) * x2) + x4) 560) (c2 : vp_in x1 560) (ht : ¬ (σ.1 43 ((((14 : Int32) * x2) + x4)).toNatClampNeg) = ((σ.1 43 (x1).toNatClampNeg) - (1 : Int32)) → Wp d tb_156 123 [.ref 9, .int x1, .int x2, .int x3, .int x4, .int (((14 : Int32) * x2) + x4)] [] σ Q) (hf : ¬ (¬ (σ.1 43 ((((14 : Int32) * x2) + x4)).toNatClampNeg) = ((σ.1 43 (x1).toNatClampNeg) - (1 : Int32))) → Wp d tb_156 108 [.ref 9, .int x1, .int x2, .int x3, .int x4, .int (((14 : Int32) * x2) + x4)] [] σ Q) : Wp d tb_156 81 [.ref 9, .int x1, .int x2, .int x3, .int x4, v5] [] σ Q := by
  refine Wp.adv (pc' := 96) (ls' := [.ref 9, .int x1, .int x2, .int x3, .int x4, .int (((14 : Int32) * x2) + x4)]) (st' := [.int (((14 : Int32) * x2) + x4), .ref 43]) (σ' := σ) 9 rfl ?_
  refine Wp.iald (N := 560) rfl rfl c1 ?_
  refine Wp.adv (pc' := 102) (ls' := [.ref 9, .int x1, .int x2, .int x3, .int x4, .int (((14 : Int32) * x2) + x4)]) (st' := [.int x1, .ref 43, .int (σ.1 43 ((((14 : Int32) * x2) + x4)).toNatClampNeg)]) (σ' := σ) 3 rfl ?_
  refine Wp.iald (N := 560) rfl rfl c2 ?_
  refine Wp.adv (pc' := 105) (ls' := [.ref 9, .int x1, .int x2, .int x3, .int x4, .int (((14 : Int32) * x2) + x4)]) (st' := [.int ((σ.1 43 (x1).toNatClampNeg) - (1 : Int32)), .int (σ.1 43 ((((14 : Int32) * x2) + x4)).toNatClampNeg)]) (σ' := σ) 2 rfl ?_
  exact Wp.icmp rfl ht hf
theorem b156_108 {d : Nat} {Q : Option Value → px_S → Prop} {σ : px_S} {x1 x2 x3 x4 x5 : Int32} (h : Cw d 157 [.ref 9, .int x1, .int x5] σ (fun r τ => Wp d tb_156 115 [.ref 9, .int x1, .int x2, .int x3, .int x4, .int x5] (r.toList ++ []) τ Q)) : Wp d tb_156 108 [.ref 9, .int x1, .int x2, .int x3, .int x4, .int x5] [] σ Q := by
  refine Wp.adv (pc' := 112) (ls' := [.ref 9, .int x1, .int x2, .int x3, .int x4, .int x5]) (st' := [.int x5, .int x1, .ref 9]) (σ' := σ) 3 rfl ?_
  exact Wp.call (q := (157, 3, 9, 115)) rfl (Nat.le_of_ble_eq_true rfl) rfl h
theorem b156_115 {d : Nat} {Q : Option Value → px_S → Prop} {σ : px_S} {x1 x2 x3 x4 x5 s0 : Int32} (ht : s0 = 0 → Wp d tb_156 123 [.ref 9, .int x1, .int x2, .int x3, .int x4, .int x5] [] σ Q) (hf : ¬ (s0 = 0) → Wp d tb_156 118 [.ref 9, .int x1, .int x2, .int x3, .int x4, .int x5] [] σ Q) : Wp d tb_156 115 [.ref 9, .int x1, .int x2, .int x3, .int x4, .int x5] [.int s0] σ Q := by
  exact Wp.if_ rfl ht hf
theorem b156_118 {d : Nat} {Q : Option Value → px_S → Prop} {σ : px_S} {x1 x2 x3 x4 x5 : Int32} (h : Wp d tb_156 124 [.ref 9, .int x1, .int x2, .int x3, .int x4, .int x5] [.int x5] σ Q) : Wp d tb_156 118 [.ref 9, .int x1, .int x2, .int x3, .int x4, .int x5] [] σ Q := by
  refine Wp.adv (pc' := 124) (ls' := [.ref 9, .int x1, .int x2, .int x3, .int x4, .int x5]) (st' := [.int x5]) (σ' := σ) 2 rfl ?_
  exact h
theorem b156_123 {d : Nat} {Q : Option Value → px_S → Prop} {σ : px_S} {x1 x2 x3 x4 x5 : Int32} (h : Wp d tb_156 124 [.ref 9, .int x1, .int x2, .int x3, .int x4, .int x5] [.int x3] σ Q) : Wp d tb_156 123 [.ref 9, .int x1, .int x2, .int x3, .int x4, .int x5] [] σ Q := by
  refine Wp.adv (pc' := 124) (ls' := [.ref 9, .int x1, .int x2, .int x3, .int x4, .int x5]) (st' := [.int x3]) (σ' := σ) 1 rfl ?_
  exact h
theorem b156_124 {d : Nat} {Q : Option Value → px_S → Prop} {σ : px_S} {x1 x2 x3 x4 x5 s0 : Int32} (h : Wp d tb_156 76 [.ref 9, .int x1, .int x2, .int s0, .int (x4 + (-1)), .int x5] [] σ Q) : Wp d tb_156 124 [.ref 9, .int x1, .int x2, .int x3, .int x4, .int x5] [.int s0] σ Q := by
  refine Wp.adv (pc' := 76) (ls' := [.ref 9, .int x1, .int x2, .int s0, .int (x4 + (-1)), .int x5]) (st' := []) (σ' := σ) 3 rfl ?_
  exact h
theorem b156_131 {d : Nat} {Q : Option Value → px_S → Prop} {σ : px_S} {x1 x2 x3 x4 : Int32} {v5 : Value} (h : Q (some (.int x3)) σ) : Wp d tb_156 131 [.ref 9, .int x1, .int x2, .int x3, .int x4, v5] [] σ Q := by
  refine Wp.adv (pc' := 132) (ls' := [.ref 9, .int x1, .int x2, .int x3, .int x4, v5]) (st' := [.int x3]) (σ' := σ) 1 rfl ?_
  exact Wp.ret rfl rfl h
theorem e156 {d : Nat} {Q : Option Value → px_S → Prop} {σ : px_S} {x1 : Int32} (h : Wp d tb_156 0 [.ref 9, .int x1, .null, .null, .null, .null] [] σ Q) : Cw (d + 1) 156 [.ref 9, .int x1] σ Q := Cw.of (nL := 6) (y := yX9_heldTo) (cc := cX9_heldTo) (rt := some .int) rfl (Nat.le_of_ble_eq_true rfl) h
theorem b157_0 {d : Nat} {Q : Option Value → px_S → Prop} {σ : px_S} {x1 x2 : Int32} (c1 : vp_in x1 560) (c2 : vp_in x2 560) (ht : ¬ (σ.1 44 (x1).toNatClampNeg) = (σ.1 44 (x2).toNatClampNeg) → Wp d tb_157 19 [.ref 9, .int x1, .int x2, .null, .null] [] σ Q) (hf : ¬ (¬ (σ.1 44 (x1).toNatClampNeg) = (σ.1 44 (x2).toNatClampNeg)) → Wp d tb_157 15 [.ref 9, .int x1, .int x2, .null, .null] [] σ Q) : Wp d tb_157 0 [.ref 9, .int x1, .int x2, .null, .null] [] σ Q := by
  refine Wp.adv (pc' := 5) (ls' := [.ref 9, .int x1, .int x2, .null, .null]) (st' := [.int x1, .ref 44]) (σ' := σ) 3 rfl ?_
  refine Wp.iald (N := 560) rfl rfl c1 ?_
  refine Wp.adv (pc' := 11) (ls' := [.ref 9, .int x1, .int x2, .null, .null]) (st' := [.int x2, .ref 44, .int (σ.1 44 (x1).toNatClampNeg)]) (σ' := σ) 3 rfl ?_
  refine Wp.iald (N := 560) rfl rfl c2 ?_
  exact Wp.icmp rfl ht hf
theorem b157_15 {d : Nat} {Q : Option Value → px_S → Prop} {σ : px_S} {x1 x2 : Int32} (h : Wp d tb_157 20 [.ref 9, .int x1, .int x2, .null, .null] [.int (1 : Int32)] σ Q) : Wp d tb_157 15 [.ref 9, .int x1, .int x2, .null, .null] [] σ Q := by
  refine Wp.adv (pc' := 20) (ls' := [.ref 9, .int x1, .int x2, .null, .null]) (st' := [.int (1 : Int32)]) (σ' := σ) 2 rfl ?_
  exact h
theorem b157_19 {d : Nat} {Q : Option Value → px_S → Prop} {σ : px_S} {x1 x2 : Int32} (h : Wp d tb_157 20 [.ref 9, .int x1, .int x2, .null, .null] [.int (0 : Int32)] σ Q) : Wp d tb_157 19 [.ref 9, .int x1, .int x2, .null, .null] [] σ Q := by
  refine Wp.adv (pc' := 20) (ls' := [.ref 9, .int x1, .int x2, .null, .null]) (st' := [.int (0 : Int32)]) (σ' := σ) 1 rfl ?_
  exact h
theorem b157_20 {d : Nat} {Q : Option Value → px_S → Prop} {σ : px_S} {x1 x2 s0 : Int32} (h : Wp d tb_157 24 [.ref 9, .int x1, .int x2, .int s0, .int (0 : Int32)] [] σ Q) : Wp d tb_157 20 [.ref 9, .int x1, .int x2, .null, .null] [.int s0] σ Q := by
  refine Wp.adv (pc' := 24) (ls' := [.ref 9, .int x1, .int x2, .int s0, .int (0 : Int32)]) (st' := []) (σ' := σ) 3 rfl ?_
  exact h
theorem b157_24 {d : Nat} {Q : Option Value → px_S → Prop} {σ : px_S} {x1 x2 x3 x4 : Int32} (c1 : vp_in x1 560) (ht : (σ.1 44 (x1).toNatClampNeg) ≤ x4 → Wp d tb_157 78 [.ref 9, .int x1, .int x2, .int x3, .int x4] [] σ Q) (hf : ¬ ((σ.1 44 (x1).toNatClampNeg) ≤ x4) → Wp d tb_157 35 [.ref 9, .int x1, .int x2, .int x3, .int x4] [] σ Q) : Wp d tb_157 24 [.ref 9, .int x1, .int x2, .int x3, .int x4] [] σ Q := by
  refine Wp.adv (pc' := 31) (ls' := [.ref 9, .int x1, .int x2, .int x3, .int x4]) (st' := [.int x1, .ref 44, .int x4]) (σ' := σ) 4 rfl ?_
  refine Wp.iald (N := 560) rfl rfl c1 ?_
  exact Wp.icmp rfl ht hf
theorem b157_35 {d : Nat} {Q : Option Value → px_S → Prop} {σ : px_S} {x1 x2 x3 x4 : Int32} (ht : x3 = 0 → Wp d tb_157 78 [.ref 9, .int x1, .int x2, .int x3, .int x4] [] σ Q) (hf : ¬ (x3 = 0) → Wp d tb_157 39 [.ref 9, .int x1, .int x2, .int x3, .int x4] [] σ Q) : Wp d tb_157 35 [.ref 9, .int x1, .int x2, .int x3, .int x4] [] σ Q := by
  refine Wp.adv (pc' := 36) (ls' := [.ref 9, .int x1, .int x2, .int x3, .int x4]) (st' := [.int x3]) (σ' := σ) 1 rfl ?_
  exact Wp.if_ rfl ht hf
theorem b157_39 {d : Nat} {Q : Option Value → px_S → Prop} {σ : px_S} {x1 x2 x3 x4 : Int32} (c1 : vp_in (((8 : Int32) * x1) + x4) 4480) (c2 : vp_in (((8 : Int32) * x2) + x4) 4480) (ht : ¬ (σ.1 45 ((((8 : Int32) * x1) + x4)).toNatClampNeg) = (σ.1 45 ((((8 : Int32) * x2) + x4)).toNatClampNeg) → Wp d tb_157 70 [.ref 9, .int x1, .int x2, .int x3, .int x4] [] σ Q) (hf : ¬ (¬ (σ.1 45 ((((8 : Int32) * x1) + x4)).toNatClampNeg) = (σ.1 45 ((((8 : Int32) * x2) + x4)).toNatClampNeg)) → Wp d tb_157 66 [.ref 9, .int x1, .int x2, .int x3, .int x4] [] σ Q) : Wp d tb_157 39 [.ref 9, .int x1, .int x2, .int x3, .int x4] [] σ Q := by
  refine Wp.adv (pc' := 50) (ls' := [.ref 9, .int x1, .int x2, .int x3, .int x4]) (st' := [.int (((8 : Int32) * x1) + x4), .ref 45]) (σ' := σ) 7 rfl ?_
  refine Wp.iald (N := 4480) rfl rfl c1 ?_
  refine Wp.adv (pc' := 62) (ls' := [.ref 9, .int x1, .int x2, .int x3, .int x4]) (st' := [.int (((8 : Int32) * x2) + x4), .ref 45, .int (σ.1 45 ((((8 : Int32) * x1) + x4)).toNatClampNeg)]) (σ' := σ) 7 rfl ?_
  refine Wp.iald (N := 4480) rfl rfl c2 ?_
  exact Wp.icmp rfl ht hf
theorem b157_66 {d : Nat} {Q : Option Value → px_S → Prop} {σ : px_S} {x1 x2 x3 x4 : Int32} (h : Wp d tb_157 71 [.ref 9, .int x1, .int x2, .int x3, .int x4] [.int (1 : Int32)] σ Q) : Wp d tb_157 66 [.ref 9, .int x1, .int x2, .int x3, .int x4] [] σ Q := by
  refine Wp.adv (pc' := 71) (ls' := [.ref 9, .int x1, .int x2, .int x3, .int x4]) (st' := [.int (1 : Int32)]) (σ' := σ) 2 rfl ?_
  exact h
theorem b157_70 {d : Nat} {Q : Option Value → px_S → Prop} {σ : px_S} {x1 x2 x3 x4 : Int32} (h : Wp d tb_157 71 [.ref 9, .int x1, .int x2, .int x3, .int x4] [.int (0 : Int32)] σ Q) : Wp d tb_157 70 [.ref 9, .int x1, .int x2, .int x3, .int x4] [] σ Q := by
  refine Wp.adv (pc' := 71) (ls' := [.ref 9, .int x1, .int x2, .int x3, .int x4]) (st' := [.int (0 : Int32)]) (σ' := σ) 1 rfl ?_
  exact h
theorem b157_71 {d : Nat} {Q : Option Value → px_S → Prop} {σ : px_S} {x1 x2 x3 x4 s0 : Int32} (h : Wp d tb_157 24 [.ref 9, .int x1, .int x2, .int s0, .int (x4 + 1)] [] σ Q) : Wp d tb_157 71 [.ref 9, .int x1, .int x2, .int x3, .int x4] [.int s0] σ Q := by
  refine Wp.adv (pc' := 24) (ls' := [.ref 9, .int x1, .int x2, .int s0, .int (x4 + 1)]) (st' := []) (σ' := σ) 3 rfl ?_
  exact h
theorem b157_78 {d : Nat} {Q : Option Value → px_S → Prop} {σ : px_S} {x1 x2 x3 x4 : Int32} (c1 : x3 = 0 ∨ x3 = 1) (h : Q (some (.int x3)) σ) : Wp d tb_157 78 [.ref 9, .int x1, .int x2, .int x3, .int x4] [] σ Q := by
  refine Wp.adv (pc' := 79) (ls' := [.ref 9, .int x1, .int x2, .int x3, .int x4]) (st' := [.int x3]) (σ' := σ) 1 rfl ?_
  exact Wp.zret rfl c1 h
theorem e157 {d : Nat} {Q : Option Value → px_S → Prop} {σ : px_S} {x1 x2 : Int32} (h : Wp d tb_157 0 [.ref 9, .int x1, .int x2, .null, .null] [] σ Q) : Cw (d + 1) 157 [.ref 9, .int x1, .int x2] σ Q := Cw.of (nL := 5) (y := yX9_isSame) (cc := cX9_isSame) (rt := some .boolean) rfl (Nat.le_of_ble_eq_true rfl) h
theorem b158_0 {d : Nat} {Q : Option Value → px_S → Prop} {σ : px_S} {x1 x2 : Int32} (h : Cw d 140 [.ref 9, .int x1, .int x2] σ (fun r τ => Wp d tb_158 6 [.ref 9, .int x1, .int x2] (r.toList ++ []) τ Q)) : Wp d tb_158 0 [.ref 9, .int x1, .int x2] [] σ Q := by
  refine Wp.adv (pc' := 3) (ls' := [.ref 9, .int x1, .int x2]) (st' := [.int x2, .int x1, .ref 9]) (σ' := σ) 3 rfl ?_
  exact Wp.call (q := (140, 3, 9, 6)) rfl (Nat.le_of_ble_eq_true rfl) rfl h
theorem b158_6 {d : Nat} {Q : Option Value → px_S → Prop} {σ : px_S} {x1 x2 s0 : Int32} (ht : s0 = 0 → Wp d tb_158 13 [.ref 9, .int x1, .int x2] [] σ Q) (hf : ¬ (s0 = 0) → Wp d tb_158 9 [.ref 9, .int x1, .int x2] [] σ Q) : Wp d tb_158 6 [.ref 9, .int x1, .int x2] [.int s0] σ Q := by
  exact Wp.if_ rfl ht hf
theorem b158_9 {d : Nat} {Q : Option Value → px_S → Prop} {σ : px_S} {x1 x2 : Int32} (h : Q (some (.int (-1001 : Int32))) σ) : Wp d tb_158 9 [.ref 9, .int x1, .int x2] [] σ Q := by
  refine Wp.adv (pc' := 12) (ls' := [.ref 9, .int x1, .int x2]) (st' := [.int (-1001 : Int32)]) (σ' := σ) 1 rfl ?_
  exact Wp.ret rfl rfl h
theorem b158_13 {d : Nat} {Q : Option Value → px_S → Prop} {σ : px_S} {x1 x2 : Int32} (h : Cw d 143 [.ref 9, .int x1] σ (fun r τ => Wp d tb_158 18 [.ref 9, .int x1, .int x2] (r.toList ++ []) τ Q)) : Wp d tb_158 13 [.ref 9, .int x1, .int x2] [] σ Q := by
  refine Wp.adv (pc' := 15) (ls' := [.ref 9, .int x1, .int x2]) (st' := [.int x1, .ref 9]) (σ' := σ) 2 rfl ?_
  exact Wp.call (q := (143, 2, 9, 18)) rfl (Nat.le_of_ble_eq_true rfl) rfl h
theorem b158_18 {d : Nat} {Q : Option Value → px_S → Prop} {σ : px_S} {x1 x2 s0 : Int32} (ht : ¬ s0 = 0 → Wp d tb_158 25 [.ref 9, .int x1, .int x2] [] σ Q) (hf : ¬ (¬ s0 = 0) → Wp d tb_158 21 [.ref 9, .int x1, .int x2] [] σ Q) : Wp d tb_158 18 [.ref 9, .int x1, .int x2] [.int s0] σ Q := by
  exact Wp.if_ rfl ht hf
theorem b158_21 {d : Nat} {Q : Option Value → px_S → Prop} {σ : px_S} {x1 x2 : Int32} (h : Q (some (.int (-1003 : Int32))) σ) : Wp d tb_158 21 [.ref 9, .int x1, .int x2] [] σ Q := by
  refine Wp.adv (pc' := 24) (ls' := [.ref 9, .int x1, .int x2]) (st' := [.int (-1003 : Int32)]) (σ' := σ) 1 rfl ?_
  exact Wp.ret rfl rfl h
theorem b158_25 {d : Nat} {Q : Option Value → px_S → Prop} {σ : px_S} {x1 x2 : Int32} (h : Cw d 148 [.ref 9] σ (fun r τ => Wp d tb_158 29 [.ref 9, .int x1, .int x2] (r.toList ++ []) τ Q)) : Wp d tb_158 25 [.ref 9, .int x1, .int x2] [] σ Q := by
  refine Wp.adv (pc' := 26) (ls' := [.ref 9, .int x1, .int x2]) (st' := [.ref 9]) (σ' := σ) 1 rfl ?_
  exact Wp.call (q := (148, 1, 9, 29)) rfl (Nat.le_of_ble_eq_true rfl) rfl h
theorem b158_29 {d : Nat} {Q : Option Value → px_S → Prop} {σ : px_S} {x1 x2 : Int32} (h : Cw d 159 [.ref 9, .int (((14 : Int32) * x1) + x2)] σ (fun r τ => Wp d tb_158 39 [.ref 9, .int x1, .int x2] (r.toList ++ []) τ Q)) : Wp d tb_158 29 [.ref 9, .int x1, .int x2] [] σ Q := by
  refine Wp.adv (pc' := 36) (ls' := [.ref 9, .int x1, .int x2]) (st' := [.int (((14 : Int32) * x1) + x2), .ref 9]) (σ' := σ) 6 rfl ?_
  exact Wp.call (q := (159, 2, 9, 39)) rfl (Nat.le_of_ble_eq_true rfl) rfl h
theorem b158_39 {d : Nat} {Q : Option Value → px_S → Prop} {σ : px_S} {x1 x2 s0 : Int32} (h : Cw d 135 [.int s0] σ (fun r τ => Wp d tb_158 42 [.ref 9, .int x1, .int x2] (r.toList ++ []) τ Q)) : Wp d tb_158 39 [.ref 9, .int x1, .int x2] [.int s0] σ Q := by
  exact Wp.call (q := (135, 1, 0, 42)) rfl (Nat.le_of_ble_eq_true rfl) rfl h
theorem b158_42 {d : Nat} {Q : Option Value → px_S → Prop} {σ : px_S} {x1 x2 s0 : Int32} (h : Q (some (.int s0)) σ) : Wp d tb_158 42 [.ref 9, .int x1, .int x2] [.int s0] σ Q := by
  exact Wp.ret rfl rfl h
theorem e158 {d : Nat} {Q : Option Value → px_S → Prop} {σ : px_S} {x1 x2 : Int32} (h : Wp d tb_158 0 [.ref 9, .int x1, .int x2] [] σ Q) : Cw (d + 1) 158 [.ref 9, .int x1, .int x2] σ Q := Cw.of (nL := 3) (y := yX9_altered) (cc := cX9_altered) (rt := some .int) rfl (Nat.le_of_ble_eq_true rfl) h
theorem b159_0 {d : Nat} {Q : Option Value → px_S → Prop} {σ : px_S} {x1 : Int32} (c1 : vp_in x1 560) (ht : ¬ (σ.1 43 (x1).toNatClampNeg) = 0 → Wp d tb_159 11 [.ref 9, .int x1, .null] [] σ Q) (hf : ¬ (¬ (σ.1 43 (x1).toNatClampNeg) = 0) → Wp d tb_159 9 [.ref 9, .int x1, .null] [] σ Q) : Wp d tb_159 0 [.ref 9, .int x1, .null] [] σ Q := by
  refine Wp.adv (pc' := 5) (ls' := [.ref 9, .int x1, .null]) (st' := [.int x1, .ref 43]) (σ' := σ) 3 rfl ?_
  refine Wp.iald (N := 560) rfl rfl c1 ?_
  exact Wp.if_ rfl ht hf
theorem b159_9 {d : Nat} {Q : Option Value → px_S → Prop} {σ : px_S} {x1 : Int32} (h : Q (some (.int (0 : Int32))) σ) : Wp d tb_159 9 [.ref 9, .int x1, .null] [] σ Q := by
  refine Wp.adv (pc' := 10) (ls' := [.ref 9, .int x1, .null]) (st' := [.int (0 : Int32)]) (σ' := σ) 1 rfl ?_
  exact Wp.zret rfl (by decide) h
theorem b159_11 {d : Nat} {Q : Option Value → px_S → Prop} {σ : px_S} {x1 : Int32} (h : Cw d 156 [.ref 9, .int x1] σ (fun r τ => Wp d tb_159 16 [.ref 9, .int x1, .null] (r.toList ++ []) τ Q)) : Wp d tb_159 11 [.ref 9, .int x1, .null] [] σ Q := by
  refine Wp.adv (pc' := 13) (ls' := [.ref 9, .int x1, .null]) (st' := [.int x1, .ref 9]) (σ' := σ) 2 rfl ?_
  exact Wp.call (q := (156, 2, 9, 16)) rfl (Nat.le_of_ble_eq_true rfl) rfl h
theorem b159_16 {d : Nat} {Q : Option Value → px_S → Prop} {σ : px_S} {x1 s0 : Int32} (ht : s0 < 0 → Wp d tb_159 34 [.ref 9, .int x1, .int s0] [] σ Q) (hf : ¬ (s0 < 0) → Wp d tb_159 21 [.ref 9, .int x1, .int s0] [] σ Q) : Wp d tb_159 16 [.ref 9, .int x1, .null] [.int s0] σ Q := by
  refine Wp.adv (pc' := 18) (ls' := [.ref 9, .int x1, .int s0]) (st' := [.int s0]) (σ' := σ) 2 rfl ?_
  exact Wp.if_ rfl ht hf
theorem b159_21 {d : Nat} {Q : Option Value → px_S → Prop} {σ : px_S} {x1 x2 : Int32} (h : Cw d 157 [.ref 9, .int x1, .int x2] σ (fun r τ => Wp d tb_159 27 [.ref 9, .int x1, .int x2] (r.toList ++ []) τ Q)) : Wp d tb_159 21 [.ref 9, .int x1, .int x2] [] σ Q := by
  refine Wp.adv (pc' := 24) (ls' := [.ref 9, .int x1, .int x2]) (st' := [.int x2, .int x1, .ref 9]) (σ' := σ) 3 rfl ?_
  exact Wp.call (q := (157, 3, 9, 27)) rfl (Nat.le_of_ble_eq_true rfl) rfl h
theorem b159_27 {d : Nat} {Q : Option Value → px_S → Prop} {σ : px_S} {x1 x2 s0 : Int32} (ht : ¬ s0 = 0 → Wp d tb_159 34 [.ref 9, .int x1, .int x2] [] σ Q) (hf : ¬ (¬ s0 = 0) → Wp d tb_159 30 [.ref 9, .int x1, .int x2] [] σ Q) : Wp d tb_159 27 [.ref 9, .int x1, .int x2] [.int s0] σ Q := by
  exact Wp.if_ rfl ht hf
theorem b159_30 {d : Nat} {Q : Option Value → px_S → Prop} {σ : px_S} {x1 x2 : Int32} (h : Wp d tb_159 35 [.ref 9, .int x1, .int x2] [.int (1 : Int32)] σ Q) : Wp d tb_159 30 [.ref 9, .int x1, .int x2] [] σ Q := by
  refine Wp.adv (pc' := 35) (ls' := [.ref 9, .int x1, .int x2]) (st' := [.int (1 : Int32)]) (σ' := σ) 2 rfl ?_
  exact h
theorem b159_34 {d : Nat} {Q : Option Value → px_S → Prop} {σ : px_S} {x1 x2 : Int32} (h : Wp d tb_159 35 [.ref 9, .int x1, .int x2] [.int (0 : Int32)] σ Q) : Wp d tb_159 34 [.ref 9, .int x1, .int x2] [] σ Q := by
  refine Wp.adv (pc' := 35) (ls' := [.ref 9, .int x1, .int x2]) (st' := [.int (0 : Int32)]) (σ' := σ) 1 rfl ?_
  exact h
theorem b159_35 {d : Nat} {Q : Option Value → px_S → Prop} {σ : px_S} {x1 x2 s0 : Int32} (c1 : s0 = 0 ∨ s0 = 1) (h : Q (some (.int s0)) σ) : Wp d tb_159 35 [.ref 9, .int x1, .int x2] [.int s0] σ Q := by
  exact Wp.zret rfl c1 h
theorem e159 {d : Nat} {Q : Option Value → px_S → Prop} {σ : px_S} {x1 : Int32} (h : Wp d tb_159 0 [.ref 9, .int x1, .null] [] σ Q) : Cw (d + 1) 159 [.ref 9, .int x1] σ Q := Cw.of (nL := 3) (y := yX9_isAltered) (cc := cX9_isAltered) (rt := some .boolean) rfl (Nat.le_of_ble_eq_true rfl) h
theorem b160_0 {d : Nat} {Q : Option Value → px_S → Prop} {σ : px_S} {x1 x2 : Int32} (h : Cw d 140 [.ref 9, .int x1, .int x2] σ (fun r τ => Wp d tb_160 6 [.ref 9, .int x1, .int x2, .null, .null, .null] (r.toList ++ []) τ Q)) : Wp d tb_160 0 [.ref 9, .int x1, .int x2, .null, .null, .null] [] σ Q := by
  refine Wp.adv (pc' := 3) (ls' := [.ref 9, .int x1, .int x2, .null, .null, .null]) (st' := [.int x2, .int x1, .ref 9]) (σ' := σ) 3 rfl ?_
  exact Wp.call (q := (140, 3, 9, 6)) rfl (Nat.le_of_ble_eq_true rfl) rfl h
theorem b160_6 {d : Nat} {Q : Option Value → px_S → Prop} {σ : px_S} {x1 x2 s0 : Int32} (ht : s0 = 0 → Wp d tb_160 13 [.ref 9, .int x1, .int x2, .null, .null, .null] [] σ Q) (hf : ¬ (s0 = 0) → Wp d tb_160 9 [.ref 9, .int x1, .int x2, .null, .null, .null] [] σ Q) : Wp d tb_160 6 [.ref 9, .int x1, .int x2, .null, .null, .null] [.int s0] σ Q := by
  exact Wp.if_ rfl ht hf
theorem b160_9 {d : Nat} {Q : Option Value → px_S → Prop} {σ : px_S} {x1 x2 : Int32} (h : Q (some (.int (-1001 : Int32))) σ) : Wp d tb_160 9 [.ref 9, .int x1, .int x2, .null, .null, .null] [] σ Q := by
  refine Wp.adv (pc' := 12) (ls' := [.ref 9, .int x1, .int x2, .null, .null, .null]) (st' := [.int (-1001 : Int32)]) (σ' := σ) 1 rfl ?_
  exact Wp.ret rfl rfl h
theorem b160_13 {d : Nat} {Q : Option Value → px_S → Prop} {σ : px_S} {x1 x2 : Int32} (h : Cw d 148 [.ref 9] σ (fun r τ => Wp d tb_160 17 [.ref 9, .int x1, .int x2, .null, .null, .null] (r.toList ++ []) τ Q)) : Wp d tb_160 13 [.ref 9, .int x1, .int x2, .null, .null, .null] [] σ Q := by
  refine Wp.adv (pc' := 14) (ls' := [.ref 9, .int x1, .int x2, .null, .null, .null]) (st' := [.ref 9]) (σ' := σ) 1 rfl ?_
  exact Wp.call (q := (148, 1, 9, 17)) rfl (Nat.le_of_ble_eq_true rfl) rfl h
theorem b160_17 {d : Nat} {Q : Option Value → px_S → Prop} {σ : px_S} {x1 x2 : Int32} (h : Wp d tb_160 22 [.ref 9, .int x1, .int x2, .int (0 : Int32), .int (0 : Int32), .null] [] σ Q) : Wp d tb_160 17 [.ref 9, .int x1, .int x2, .null, .null, .null] [] σ Q := by
  refine Wp.adv (pc' := 22) (ls' := [.ref 9, .int x1, .int x2, .int (0 : Int32), .int (0 : Int32), .null]) (st' := []) (σ' := σ) 4 rfl ?_
  exact h
theorem b160_22 {d : Nat} {Q : Option Value → px_S → Prop} {σ : px_S} {x1 x2 x3 x4 : Int32} {v5 : Value} (ht : (σ.1 9 1) ≤ x4 → Wp d tb_160 99 [.ref 9, .int x1, .int x2, .int x3, .int x4, v5] [] σ Q) (hf : ¬ ((σ.1 9 1) ≤ x4) → Wp d tb_160 31 [.ref 9, .int x1, .int x2, .int x3, .int x4, v5] [] σ Q) : Wp d tb_160 22 [.ref 9, .int x1, .int x2, .int x3, .int x4, v5] [] σ Q := by
  refine Wp.adv (pc' := 28) (ls' := [.ref 9, .int x1, .int x2, .int x3, .int x4, v5]) (st' := [.int (σ.1 9 1), .int x4]) (σ' := σ) 3 rfl ?_
  exact Wp.icmp rfl ht hf
theorem b160_31 {d : Nat} {Q : Option Value → px_S → Prop} {σ : px_S} {x1 x2 x3 x4 : Int32} {v5 : Value} (h : Wp d tb_160 34 [.ref 9, .int x1, .int x2, .int x3, .int x4, .int (0 : Int32)] [] σ Q) : Wp d tb_160 31 [.ref 9, .int x1, .int x2, .int x3, .int x4, v5] [] σ Q := by
  refine Wp.adv (pc' := 34) (ls' := [.ref 9, .int x1, .int x2, .int x3, .int x4, .int (0 : Int32)]) (st' := []) (σ' := σ) 2 rfl ?_
  exact h
theorem b160_34 {d : Nat} {Q : Option Value → px_S → Prop} {σ : px_S} {x1 x2 x3 x4 x5 : Int32} (c1 : vp_in x4 40) (ht : (σ.1 41 (x4).toNatClampNeg) ≤ x5 → Wp d tb_160 93 [.ref 9, .int x1, .int x2, .int x3, .int x4, .int x5] [] σ Q) (hf : ¬ ((σ.1 41 (x4).toNatClampNeg) ≤ x5) → Wp d tb_160 46 [.ref 9, .int x1, .int x2, .int x3, .int x4, .int x5] [] σ Q) : Wp d tb_160 34 [.ref 9, .int x1, .int x2, .int x3, .int x4, .int x5] [] σ Q := by
  refine Wp.adv (pc' := 42) (ls' := [.ref 9, .int x1, .int x2, .int x3, .int x4, .int x5]) (st' := [.int x4, .ref 41, .int x5]) (σ' := σ) 4 rfl ?_
  refine Wp.iald (N := 40) rfl rfl c1 ?_
  exact Wp.icmp rfl ht hf
theorem b160_46 {d : Nat} {Q : Option Value → px_S → Prop} {σ : px_S} {x1 x2 x3 x4 x5 : Int32} (h : Cw d 143 [.ref 9, .int x4] σ (fun r τ => Wp d tb_160 52 [.ref 9, .int x1, .int x2, .int x3, .int x4, .int x5] (r.toList ++ []) τ Q)) : Wp d tb_160 46 [.ref 9, .int x1, .int x2, .int x3, .int x4, .int x5] [] σ Q := by
  refine Wp.adv (pc' := 49) (ls' := [.ref 9, .int x1, .int x2, .int x3, .int x4, .int x5]) (st' := [.int x4, .ref 9]) (σ' := σ) 2 rfl ?_
  exact Wp.call (q := (143, 2, 9, 52)) rfl (Nat.le_of_ble_eq_true rfl) rfl h
theorem b160_52 {d : Nat} {Q : Option Value → px_S → Prop} {σ : px_S} {x1 x2 x3 x4 x5 s0 : Int32} (ht : s0 = 0 → Wp d tb_160 93 [.ref 9, .int x1, .int x2, .int x3, .int x4, .int x5] [] σ Q) (hf : ¬ (s0 = 0) → Wp d tb_160 55 [.ref 9, .int x1, .int x2, .int x3, .int x4, .int x5] [] σ Q) : Wp d tb_160 52 [.ref 9, .int x1, .int x2, .int x3, .int x4, .int x5] [.int s0] σ Q := by
  exact Wp.if_ rfl ht hf
theorem b160_55 {d : Nat} {Q : Option Value → px_S → Prop} {σ : px_S} {x1 x2 x3 x4 x5 : Int32} (h : Cw d 155 [.ref 9, .int (((14 : Int32) * x4) + x5)] σ (fun r τ => Wp d tb_160 68 [.ref 9, .int x1, .int x2, .int x3, .int x4, .int x5] (r.toList ++ [.int x3]) τ Q)) : Wp d tb_160 55 [.ref 9, .int x1, .int x2, .int x3, .int x4, .int x5] [] σ Q := by
  refine Wp.adv (pc' := 65) (ls' := [.ref 9, .int x1, .int x2, .int x3, .int x4, .int x5]) (st' := [.int (((14 : Int32) * x4) + x5), .ref 9, .int x3]) (σ' := σ) 7 rfl ?_
  exact Wp.call (q := (155, 2, 9, 68)) rfl (Nat.le_of_ble_eq_true rfl) rfl h
theorem b160_68 {d : Nat} {Q : Option Value → px_S → Prop} {σ : px_S} {x1 x2 x3 x4 x5 s0 s1 : Int32} (ht : ¬ s0 = (((14 : Int32) * x1) + x2) → Wp d tb_160 81 [.ref 9, .int x1, .int x2, .int x3, .int x4, .int x5] [.int s1] σ Q) (hf : ¬ (¬ s0 = (((14 : Int32) * x1) + x2)) → Wp d tb_160 77 [.ref 9, .int x1, .int x2, .int x3, .int x4, .int x5] [.int s1] σ Q) : Wp d tb_160 68 [.ref 9, .int x1, .int x2, .int x3, .int x4, .int x5] [.int s0, .int s1] σ Q := by
  refine Wp.adv (pc' := 74) (ls' := [.ref 9, .int x1, .int x2, .int x3, .int x4, .int x5]) (st' := [.int (((14 : Int32) * x1) + x2), .int s0, .int s1]) (σ' := σ) 5 rfl ?_
  exact Wp.icmp rfl ht hf
theorem b160_77 {d : Nat} {Q : Option Value → px_S → Prop} {σ : px_S} {x1 x2 x3 x4 x5 s0 : Int32} (h : Wp d tb_160 82 [.ref 9, .int x1, .int x2, .int x3, .int x4, .int x5] [.int (1 : Int32), .int s0] σ Q) : Wp d tb_160 77 [.ref 9, .int x1, .int x2, .int x3, .int x4, .int x5] [.int s0] σ Q := by
  refine Wp.adv (pc' := 82) (ls' := [.ref 9, .int x1, .int x2, .int x3, .int x4, .int x5]) (st' := [.int (1 : Int32), .int s0]) (σ' := σ) 2 rfl ?_
  exact h
theorem b160_81 {d : Nat} {Q : Option Value → px_S → Prop} {σ : px_S} {x1 x2 x3 x4 x5 s0 : Int32} (h : Wp d tb_160 82 [.ref 9, .int x1, .int x2, .int x3, .int x4, .int x5] [.int (0 : Int32), .int s0] σ Q) : Wp d tb_160 81 [.ref 9, .int x1, .int x2, .int x3, .int x4, .int x5] [.int s0] σ Q := by
  refine Wp.adv (pc' := 82) (ls' := [.ref 9, .int x1, .int x2, .int x3, .int x4, .int x5]) (st' := [.int (0 : Int32), .int s0]) (σ' := σ) 1 rfl ?_
  exact h
theorem b160_82 {d : Nat} {Q : Option Value → px_S → Prop} {σ : px_S} {x1 x2 x3 x4 x5 s0 s1 : Int32} (h : Cw d 135 [.int s0] σ (fun r τ => Wp d tb_160 85 [.ref 9, .int x1, .int x2, .int x3, .int x4, .int x5] (r.toList ++ [.int s1]) τ Q)) : Wp d tb_160 82 [.ref 9, .int x1, .int x2, .int x3, .int x4, .int x5] [.int s0, .int s1] σ Q := by
  exact Wp.call (q := (135, 1, 0, 85)) rfl (Nat.le_of_ble_eq_true rfl) rfl h
theorem b160_85 {d : Nat} {Q : Option Value → px_S → Prop} {σ : px_S} {x1 x2 x3 x4 x5 s0 s1 : Int32} (h : Wp d tb_160 34 [.ref 9, .int x1, .int x2, .int (s1 + s0), .int x4, .int (x5 + 1)] [] σ Q) : Wp d tb_160 85 [.ref 9, .int x1, .int x2, .int x3, .int x4, .int x5] [.int s0, .int s1] σ Q := by
  refine Wp.adv (pc' := 34) (ls' := [.ref 9, .int x1, .int x2, .int (s1 + s0), .int x4, .int (x5 + 1)]) (st' := []) (σ' := σ) 4 rfl ?_
  exact h
theorem b160_93 {d : Nat} {Q : Option Value → px_S → Prop} {σ : px_S} {x1 x2 x3 x4 x5 : Int32} (h : Wp d tb_160 22 [.ref 9, .int x1, .int x2, .int x3, .int (x4 + 1), .int x5] [] σ Q) : Wp d tb_160 93 [.ref 9, .int x1, .int x2, .int x3, .int x4, .int x5] [] σ Q := by
  refine Wp.adv (pc' := 22) (ls' := [.ref 9, .int x1, .int x2, .int x3, .int (x4 + 1), .int x5]) (st' := []) (σ' := σ) 2 rfl ?_
  exact h
theorem b160_99 {d : Nat} {Q : Option Value → px_S → Prop} {σ : px_S} {x1 x2 x3 x4 : Int32} {v5 : Value} (h : Q (some (.int x3)) σ) : Wp d tb_160 99 [.ref 9, .int x1, .int x2, .int x3, .int x4, v5] [] σ Q := by
  refine Wp.adv (pc' := 100) (ls' := [.ref 9, .int x1, .int x2, .int x3, .int x4, v5]) (st' := [.int x3]) (σ' := σ) 1 rfl ?_
  exact Wp.ret rfl rfl h
theorem e160 {d : Nat} {Q : Option Value → px_S → Prop} {σ : px_S} {x1 x2 : Int32} (h : Wp d tb_160 0 [.ref 9, .int x1, .int x2, .null, .null, .null] [] σ Q) : Cw (d + 1) 160 [.ref 9, .int x1, .int x2] σ Q := Cw.of (nL := 6) (y := yX9_echoes) (cc := cX9_echoes) (rt := some .int) rfl (Nat.le_of_ble_eq_true rfl) h
theorem b161_0 {d : Nat} {Q : Option Value → px_S → Prop} {σ : px_S} {x1 : Int32} (h : Cw d 132 [.ref 9, .int x1] σ (fun r τ => Wp d tb_161 5 [.ref 9, .int x1] (r.toList ++ []) τ Q)) : Wp d tb_161 0 [.ref 9, .int x1] [] σ Q := by
  refine Wp.adv (pc' := 2) (ls' := [.ref 9, .int x1]) (st' := [.int x1, .ref 9]) (σ' := σ) 2 rfl ?_
  exact Wp.call (q := (132, 2, 9, 5)) rfl (Nat.le_of_ble_eq_true rfl) rfl h
theorem b161_5 {d : Nat} {Q : Option Value → px_S → Prop} {σ : px_S} {x1 s0 : Int32} (ht : s0 = 0 → Wp d tb_161 12 [.ref 9, .int x1] [] σ Q) (hf : ¬ (s0 = 0) → Wp d tb_161 8 [.ref 9, .int x1] [] σ Q) : Wp d tb_161 5 [.ref 9, .int x1] [.int s0] σ Q := by
  exact Wp.if_ rfl ht hf
theorem b161_8 {d : Nat} {Q : Option Value → px_S → Prop} {σ : px_S} {x1 : Int32} (h : Q (some (.int (-1001 : Int32))) σ) : Wp d tb_161 8 [.ref 9, .int x1] [] σ Q := by
  refine Wp.adv (pc' := 11) (ls' := [.ref 9, .int x1]) (st' := [.int (-1001 : Int32)]) (σ' := σ) 1 rfl ?_
  exact Wp.ret rfl rfl h
theorem b161_12 {d : Nat} {Q : Option Value → px_S → Prop} {σ : px_S} {x1 : Int32} (h : Cw d 162 [.ref 9] σ (fun r τ => Wp d tb_161 16 [.ref 9, .int x1] (r.toList ++ []) τ Q)) : Wp d tb_161 12 [.ref 9, .int x1] [] σ Q := by
  refine Wp.adv (pc' := 13) (ls' := [.ref 9, .int x1]) (st' := [.ref 9]) (σ' := σ) 1 rfl ?_
  exact Wp.call (q := (162, 1, 9, 16)) rfl (Nat.le_of_ble_eq_true rfl) rfl h
theorem b161_16 {d : Nat} {Q : Option Value → px_S → Prop} {σ : px_S} {x1 : Int32} (c1 : vp_in x1 40) (h : Q (some (.int (σ.1 50 (x1).toNatClampNeg))) σ) : Wp d tb_161 16 [.ref 9, .int x1] [] σ Q := by
  refine Wp.adv (pc' := 21) (ls' := [.ref 9, .int x1]) (st' := [.int x1, .ref 50]) (σ' := σ) 3 rfl ?_
  refine Wp.iald (N := 40) rfl rfl c1 ?_
  exact Wp.ret rfl rfl h
theorem e161 {d : Nat} {Q : Option Value → px_S → Prop} {σ : px_S} {x1 : Int32} (h : Wp d tb_161 0 [.ref 9, .int x1] [] σ Q) : Cw (d + 1) 161 [.ref 9, .int x1] σ Q := Cw.of (nL := 2) (y := yX9_group) (cc := cX9_group) (rt := some .int) rfl (Nat.le_of_ble_eq_true rfl) h
theorem b162_0 {d : Nat} {Q : Option Value → px_S → Prop} {σ : px_S}  (h : Cw d 148 [.ref 9] σ (fun r τ => Wp d tb_162 4 [.ref 9, .null, .null, .null] (r.toList ++ []) τ Q)) : Wp d tb_162 0 [.ref 9, .null, .null, .null] [] σ Q := by
  refine Wp.adv (pc' := 1) (ls' := [.ref 9, .null, .null, .null]) (st' := [.ref 9]) (σ' := σ) 1 rfl ?_
  exact Wp.call (q := (148, 1, 9, 4)) rfl (Nat.le_of_ble_eq_true rfl) rfl h
theorem b162_4 {d : Nat} {Q : Option Value → px_S → Prop} {σ : px_S}  (h : Wp d tb_162 6 [.ref 9, .int (0 : Int32), .null, .null] [] σ Q) : Wp d tb_162 4 [.ref 9, .null, .null, .null] [] σ Q := by
  refine Wp.adv (pc' := 6) (ls' := [.ref 9, .int (0 : Int32), .null, .null]) (st' := []) (σ' := σ) 2 rfl ?_
  exact h
theorem b162_6 {d : Nat} {Q : Option Value → px_S → Prop} {σ : px_S} {x1 : Int32} (ht : (σ.1 9 1) ≤ x1 → Wp d tb_162 47 [.ref 9, .int x1, .null, .null] [] σ Q) (hf : ¬ ((σ.1 9 1) ≤ x1) → Wp d tb_162 14 [.ref 9, .int x1, .null, .null] [] σ Q) : Wp d tb_162 6 [.ref 9, .int x1, .null, .null] [] σ Q := by
  refine Wp.adv (pc' := 11) (ls' := [.ref 9, .int x1, .null, .null]) (st' := [.int (σ.1 9 1), .int x1]) (σ' := σ) 3 rfl ?_
  exact Wp.icmp rfl ht hf
theorem b162_14 {d : Nat} {Q : Option Value → px_S → Prop} {σ : px_S} {x1 : Int32} (h : Cw d 143 [.ref 9, .int x1] σ (fun r τ => Wp d tb_162 24 [.ref 9, .int x1, .null, .null] (r.toList ++ [.int x1, .ref 50]) τ Q)) : Wp d tb_162 14 [.ref 9, .int x1, .null, .null] [] σ Q := by
  refine Wp.adv (pc' := 21) (ls' := [.ref 9, .int x1, .null, .null]) (st' := [.int x1, .ref 9, .int x1, .ref 50]) (σ' := σ) 5 rfl ?_
  exact Wp.call (q := (143, 2, 9, 24)) rfl (Nat.le_of_ble_eq_true rfl) rfl h
theorem b162_24 {d : Nat} {Q : Option Value → px_S → Prop} {σ : px_S} {x1 s0 s1 : Int32} (ht : s0 = 0 → Wp d tb_162 39 [.ref 9, .int x1, .null, .null] [.int s1, .ref 50] σ Q) (hf : ¬ (s0 = 0) → Wp d tb_162 27 [.ref 9, .int x1, .null, .null] [.int s1, .ref 50] σ Q) : Wp d tb_162 24 [.ref 9, .int x1, .null, .null] [.int s0, .int s1, .ref 50] σ Q := by
  exact Wp.if_ rfl ht hf
theorem b162_27 {d : Nat} {Q : Option Value → px_S → Prop} {σ : px_S} {x1 s0 : Int32} (h : Cw d 163 [.ref 9, .int x1] σ (fun r τ => Wp d tb_162 32 [.ref 9, .int x1, .null, .null] (r.toList ++ [.int s0, .ref 50]) τ Q)) : Wp d tb_162 27 [.ref 9, .int x1, .null, .null] [.int s0, .ref 50] σ Q := by
  refine Wp.adv (pc' := 29) (ls' := [.ref 9, .int x1, .null, .null]) (st' := [.int x1, .ref 9, .int s0, .ref 50]) (σ' := σ) 2 rfl ?_
  exact Wp.call (q := (163, 2, 9, 32)) rfl (Nat.le_of_ble_eq_true rfl) rfl h
theorem b162_32 {d : Nat} {Q : Option Value → px_S → Prop} {σ : px_S} {x1 s0 s1 : Int32} (ht : s0 = 0 → Wp d tb_162 39 [.ref 9, .int x1, .null, .null] [.int s1, .ref 50] σ Q) (hf : ¬ (s0 = 0) → Wp d tb_162 35 [.ref 9, .int x1, .null, .null] [.int s1, .ref 50] σ Q) : Wp d tb_162 32 [.ref 9, .int x1, .null, .null] [.int s0, .int s1, .ref 50] σ Q := by
  exact Wp.if_ rfl ht hf
theorem b162_35 {d : Nat} {Q : Option Value → px_S → Prop} {σ : px_S} {x1 s0 : Int32} (h : Wp d tb_162 40 [.ref 9, .int x1, .null, .null] [.int x1, .int s0, .ref 50] σ Q) : Wp d tb_162 35 [.ref 9, .int x1, .null, .null] [.int s0, .ref 50] σ Q := by
  refine Wp.adv (pc' := 40) (ls' := [.ref 9, .int x1, .null, .null]) (st' := [.int x1, .int s0, .ref 50]) (σ' := σ) 2 rfl ?_
  exact h
theorem b162_39 {d : Nat} {Q : Option Value → px_S → Prop} {σ : px_S} {x1 s0 : Int32} (h : Wp d tb_162 40 [.ref 9, .int x1, .null, .null] [.int (-1 : Int32), .int s0, .ref 50] σ Q) : Wp d tb_162 39 [.ref 9, .int x1, .null, .null] [.int s0, .ref 50] σ Q := by
  refine Wp.adv (pc' := 40) (ls' := [.ref 9, .int x1, .null, .null]) (st' := [.int (-1 : Int32), .int s0, .ref 50]) (σ' := σ) 1 rfl ?_
  exact h
theorem b162_40 {d : Nat} {Q : Option Value → px_S → Prop} {σ : px_S} {x1 s0 s1 : Int32} (c1 : vp_in s1 40) (h : Wp d tb_162 41 [.ref 9, .int x1, .null, .null] [] (px_uI σ 50 (s1).toNatClampNeg s0) Q) : Wp d tb_162 40 [.ref 9, .int x1, .null, .null] [.int s0, .int s1, .ref 50] σ Q := by
  refine Wp.iast (N := 40) rfl rfl c1 ?_
  exact h
theorem b162_41 {d : Nat} {Q : Option Value → px_S → Prop} {σ : px_S} {x1 : Int32} (h : Wp d tb_162 6 [.ref 9, .int (x1 + 1), .null, .null] [] σ Q) : Wp d tb_162 41 [.ref 9, .int x1, .null, .null] [] σ Q := by
  refine Wp.adv (pc' := 6) (ls' := [.ref 9, .int (x1 + 1), .null, .null]) (st' := []) (σ' := σ) 2 rfl ?_
  exact h
theorem b162_47 {d : Nat} {Q : Option Value → px_S → Prop} {σ : px_S} {x1 : Int32} (h : Wp d tb_162 49 [.ref 9, .int (1 : Int32), .null, .null] [] σ Q) : Wp d tb_162 47 [.ref 9, .int x1, .null, .null] [] σ Q := by
  refine Wp.adv (pc' := 49) (ls' := [.ref 9, .int (1 : Int32), .null, .null]) (st' := []) (σ' := σ) 2 rfl ?_
  exact h
theorem b162_49 {d : Nat} {Q : Option Value → px_S → Prop} {σ : px_S} {x1 : Int32} {v2 v3 : Value} (ht : x1 = 0 → Wp d tb_162 137 [.ref 9, .int x1, v2, v3] [] σ Q) (hf : ¬ (x1 = 0) → Wp d tb_162 53 [.ref 9, .int x1, v2, v3] [] σ Q) : Wp d tb_162 49 [.ref 9, .int x1, v2, v3] [] σ Q := by
  refine Wp.adv (pc' := 50) (ls' := [.ref 9, .int x1, v2, v3]) (st' := [.int x1]) (σ' := σ) 1 rfl ?_
  exact Wp.if_ rfl ht hf
theorem b162_53 {d : Nat} {Q : Option Value → px_S → Prop} {σ : px_S} {x1 : Int32} {v2 v3 : Value} (h : Wp d tb_162 57 [.ref 9, .int (0 : Int32), .int (0 : Int32), v3] [] σ Q) : Wp d tb_162 53 [.ref 9, .int x1, v2, v3] [] σ Q := by
  refine Wp.adv (pc' := 57) (ls' := [.ref 9, .int (0 : Int32), .int (0 : Int32), v3]) (st' := []) (σ' := σ) 4 rfl ?_
  exact h
theorem b162_57 {d : Nat} {Q : Option Value → px_S → Prop} {σ : px_S} {x1 x2 : Int32} {v3 : Value} (ht : (σ.1 9 1) ≤ x2 → Wp d tb_162 134 [.ref 9, .int x1, .int x2, v3] [] σ Q) (hf : ¬ ((σ.1 9 1) ≤ x2) → Wp d tb_162 65 [.ref 9, .int x1, .int x2, v3] [] σ Q) : Wp d tb_162 57 [.ref 9, .int x1, .int x2, v3] [] σ Q := by
  refine Wp.adv (pc' := 62) (ls' := [.ref 9, .int x1, .int x2, v3]) (st' := [.int (σ.1 9 1), .int x2]) (σ' := σ) 3 rfl ?_
  exact Wp.icmp rfl ht hf
theorem b162_65 {d : Nat} {Q : Option Value → px_S → Prop} {σ : px_S} {x1 x2 : Int32} {v3 : Value} (h : Wp d tb_162 67 [.ref 9, .int x1, .int x2, .int (0 : Int32)] [] σ Q) : Wp d tb_162 65 [.ref 9, .int x1, .int x2, v3] [] σ Q := by
  refine Wp.adv (pc' := 67) (ls' := [.ref 9, .int x1, .int x2, .int (0 : Int32)]) (st' := []) (σ' := σ) 2 rfl ?_
  exact h
theorem b162_67 {d : Nat} {Q : Option Value → px_S → Prop} {σ : px_S} {x1 x2 x3 : Int32} (ht : (σ.1 9 1) ≤ x3 → Wp d tb_162 128 [.ref 9, .int x1, .int x2, .int x3] [] σ Q) (hf : ¬ ((σ.1 9 1) ≤ x3) → Wp d tb_162 75 [.ref 9, .int x1, .int x2, .int x3] [] σ Q) : Wp d tb_162 67 [.ref 9, .int x1, .int x2, .int x3] [] σ Q := by
  refine Wp.adv (pc' := 72) (ls' := [.ref 9, .int x1, .int x2, .int x3]) (st' := [.int (σ.1 9 1), .int x3]) (σ' := σ) 3 rfl ?_
  exact Wp.icmp rfl ht hf
theorem b162_75 {d : Nat} {Q : Option Value → px_S → Prop} {σ : px_S} {x1 x2 x3 : Int32} (c1 : vp_in x2 40) (ht : (σ.1 50 (x2).toNatClampNeg) < 0 → Wp d tb_162 122 [.ref 9, .int x1, .int x2, .int x3] [] σ Q) (hf : ¬ ((σ.1 50 (x2).toNatClampNeg) < 0) → Wp d tb_162 84 [.ref 9, .int x1, .int x2, .int x3] [] σ Q) : Wp d tb_162 75 [.ref 9, .int x1, .int x2, .int x3] [] σ Q := by
  refine Wp.adv (pc' := 80) (ls' := [.ref 9, .int x1, .int x2, .int x3]) (st' := [.int x2, .ref 50]) (σ' := σ) 3 rfl ?_
  refine Wp.iald (N := 40) rfl rfl c1 ?_
  exact Wp.if_ rfl ht hf
theorem b162_84 {d : Nat} {Q : Option Value → px_S → Prop} {σ : px_S} {x1 x2 x3 : Int32} (c1 : vp_in x3 40) (c2 : vp_in x2 40) (ht : (σ.1 50 (x3).toNatClampNeg) ≤ (σ.1 50 (x2).toNatClampNeg) → Wp d tb_162 122 [.ref 9, .int x1, .int x2, .int x3] [] σ Q) (hf : ¬ ((σ.1 50 (x3).toNatClampNeg) ≤ (σ.1 50 (x2).toNatClampNeg)) → Wp d tb_162 99 [.ref 9, .int x1, .int x2, .int x3] [] σ Q) : Wp d tb_162 84 [.ref 9, .int x1, .int x2, .int x3] [] σ Q := by
  refine Wp.adv (pc' := 89) (ls' := [.ref 9, .int x1, .int x2, .int x3]) (st' := [.int x3, .ref 50]) (σ' := σ) 3 rfl ?_
  refine Wp.iald (N := 40) rfl rfl c1 ?_
  refine Wp.adv (pc' := 95) (ls' := [.ref 9, .int x1, .int x2, .int x3]) (st' := [.int x2, .ref 50, .int (σ.1 50 (x3).toNatClampNeg)]) (σ' := σ) 3 rfl ?_
  refine Wp.iald (N := 40) rfl rfl c2 ?_
  exact Wp.icmp rfl ht hf
theorem b162_99 {d : Nat} {Q : Option Value → px_S → Prop} {σ : px_S} {x1 x2 x3 : Int32} (h : Cw d 165 [.ref 9, .int x2, .int x3] σ (fun r τ => Wp d tb_162 105 [.ref 9, .int x1, .int x2, .int x3] (r.toList ++ []) τ Q)) : Wp d tb_162 99 [.ref 9, .int x1, .int x2, .int x3] [] σ Q := by
  refine Wp.adv (pc' := 102) (ls' := [.ref 9, .int x1, .int x2, .int x3]) (st' := [.int x3, .int x2, .ref 9]) (σ' := σ) 3 rfl ?_
  exact Wp.call (q := (165, 3, 9, 105)) rfl (Nat.le_of_ble_eq_true rfl) rfl h
theorem b162_105 {d : Nat} {Q : Option Value → px_S → Prop} {σ : px_S} {x1 x2 x3 s0 : Int32} (ht : s0 = 0 → Wp d tb_162 122 [.ref 9, .int x1, .int x2, .int x3] [] σ Q) (hf : ¬ (s0 = 0) → Wp d tb_162 108 [.ref 9, .int x1, .int x2, .int x3] [] σ Q) : Wp d tb_162 105 [.ref 9, .int x1, .int x2, .int x3] [.int s0] σ Q := by
  exact Wp.if_ rfl ht hf
theorem b162_108 {d : Nat} {Q : Option Value → px_S → Prop} {σ : px_S} {x1 x2 x3 : Int32} (c1 : vp_in x2 40) (c2 : vp_in x3 40) (h : Wp d tb_162 120 [.ref 9, .int x1, .int x2, .int x3] [] (px_uI σ 50 (x3).toNatClampNeg (σ.1 50 (x2).toNatClampNeg)) Q) : Wp d tb_162 108 [.ref 9, .int x1, .int x2, .int x3] [] σ Q := by
  refine Wp.adv (pc' := 118) (ls' := [.ref 9, .int x1, .int x2, .int x3]) (st' := [.int x2, .ref 50, .int x3, .ref 50]) (σ' := σ) 6 rfl ?_
  refine Wp.iald (N := 40) rfl rfl c1 ?_
  refine Wp.iast (N := 40) rfl rfl c2 ?_
  exact h
theorem b162_120 {d : Nat} {Q : Option Value → px_S → Prop} {σ : px_S} {x1 x2 x3 : Int32} (h : Wp d tb_162 122 [.ref 9, .int (1 : Int32), .int x2, .int x3] [] σ Q) : Wp d tb_162 120 [.ref 9, .int x1, .int x2, .int x3] [] σ Q := by
  refine Wp.adv (pc' := 122) (ls' := [.ref 9, .int (1 : Int32), .int x2, .int x3]) (st' := []) (σ' := σ) 2 rfl ?_
  exact h
theorem b162_122 {d : Nat} {Q : Option Value → px_S → Prop} {σ : px_S} {x1 x2 x3 : Int32} (h : Wp d tb_162 67 [.ref 9, .int x1, .int x2, .int (x3 + 1)] [] σ Q) : Wp d tb_162 122 [.ref 9, .int x1, .int x2, .int x3] [] σ Q := by
  refine Wp.adv (pc' := 67) (ls' := [.ref 9, .int x1, .int x2, .int (x3 + 1)]) (st' := []) (σ' := σ) 2 rfl ?_
  exact h
theorem b162_128 {d : Nat} {Q : Option Value → px_S → Prop} {σ : px_S} {x1 x2 x3 : Int32} (h : Wp d tb_162 57 [.ref 9, .int x1, .int (x2 + 1), .int x3] [] σ Q) : Wp d tb_162 128 [.ref 9, .int x1, .int x2, .int x3] [] σ Q := by
  refine Wp.adv (pc' := 57) (ls' := [.ref 9, .int x1, .int (x2 + 1), .int x3]) (st' := []) (σ' := σ) 2 rfl ?_
  exact h
theorem b162_134 {d : Nat} {Q : Option Value → px_S → Prop} {σ : px_S} {x1 x2 : Int32} {v3 : Value} (h : Wp d tb_162 49 [.ref 9, .int x1, .int x2, v3] [] σ Q) : Wp d tb_162 134 [.ref 9, .int x1, .int x2, v3] [] σ Q := by
  refine Wp.adv (pc' := 49) (ls' := [.ref 9, .int x1, .int x2, v3]) (st' := []) (σ' := σ) 1 rfl ?_
  exact h
theorem b162_137 {d : Nat} {Q : Option Value → px_S → Prop} {σ : px_S} {x1 : Int32} {v2 v3 : Value} (h : Wp d tb_162 142 [.ref 9, .int x1, v2, v3] [] (px_uI σ 9 18 (0 : Int32)) Q) : Wp d tb_162 137 [.ref 9, .int x1, v2, v3] [] σ Q := by
  refine Wp.adv (pc' := 139) (ls' := [.ref 9, .int x1, v2, v3]) (st' := [.int (0 : Int32), .ref 9]) (σ' := σ) 2 rfl ?_
  refine Wp.step (q := (142, [.ref 9, .int x1, v2, v3], [], (px_uI σ 9 18 (0 : Int32)))) rfl rfl ?_
  exact h
theorem b162_142 {d : Nat} {Q : Option Value → px_S → Prop} {σ : px_S} {x1 : Int32} {v2 v3 : Value} (h : Wp d tb_162 144 [.ref 9, .int x1, .int (0 : Int32), v3] [] σ Q) : Wp d tb_162 142 [.ref 9, .int x1, v2, v3] [] σ Q := by
  refine Wp.adv (pc' := 144) (ls' := [.ref 9, .int x1, .int (0 : Int32), v3]) (st' := []) (σ' := σ) 2 rfl ?_
  exact h
theorem b162_144 {d : Nat} {Q : Option Value → px_S → Prop} {σ : px_S} {x1 x2 : Int32} {v3 : Value} (ht : (σ.1 9 1) ≤ x2 → Wp d tb_162 226 [.ref 9, .int x1, .int x2, v3] [] σ Q) (hf : ¬ ((σ.1 9 1) ≤ x2) → Wp d tb_162 152 [.ref 9, .int x1, .int x2, v3] [] σ Q) : Wp d tb_162 144 [.ref 9, .int x1, .int x2, v3] [] σ Q := by
  refine Wp.adv (pc' := 149) (ls' := [.ref 9, .int x1, .int x2, v3]) (st' := [.int (σ.1 9 1), .int x2]) (σ' := σ) 3 rfl ?_
  exact Wp.icmp rfl ht hf
theorem b162_152 {d : Nat} {Q : Option Value → px_S → Prop} {σ : px_S} {x1 x2 : Int32} {v3 : Value} (c1 : vp_in x2 40) (ht : ¬ (σ.1 50 (x2).toNatClampNeg) = x2 → Wp d tb_162 220 [.ref 9, .int x1, .int x2, v3] [] σ Q) (hf : ¬ (¬ (σ.1 50 (x2).toNatClampNeg) = x2) → Wp d tb_162 162 [.ref 9, .int x1, .int x2, v3] [] σ Q) : Wp d tb_162 152 [.ref 9, .int x1, .int x2, v3] [] σ Q := by
  refine Wp.adv (pc' := 157) (ls' := [.ref 9, .int x1, .int x2, v3]) (st' := [.int x2, .ref 50]) (σ' := σ) 3 rfl ?_
  refine Wp.iald (N := 40) rfl rfl c1 ?_
  refine Wp.adv (pc' := 159) (ls' := [.ref 9, .int x1, .int x2, v3]) (st' := [.int x2, .int (σ.1 50 (x2).toNatClampNeg)]) (σ' := σ) 1 rfl ?_
  exact Wp.icmp rfl ht hf
theorem b162_162 {d : Nat} {Q : Option Value → px_S → Prop} {σ : px_S} {x1 x2 : Int32} {v3 : Value} (h : Wp d tb_162 164 [.ref 9, .int x1, .int x2, .int x2] [] σ Q) : Wp d tb_162 162 [.ref 9, .int x1, .int x2, v3] [] σ Q := by
  refine Wp.adv (pc' := 164) (ls' := [.ref 9, .int x1, .int x2, .int x2]) (st' := []) (σ' := σ) 2 rfl ?_
  exact h
theorem b162_164 {d : Nat} {Q : Option Value → px_S → Prop} {σ : px_S} {x1 x2 x3 : Int32} (ht : (σ.1 9 1) ≤ x3 → Wp d tb_162 210 [.ref 9, .int x1, .int x2, .int x3] [] σ Q) (hf : ¬ ((σ.1 9 1) ≤ x3) → Wp d tb_162 172 [.ref 9, .int x1, .int x2, .int x3] [] σ Q) : Wp d tb_162 164 [.ref 9, .int x1, .int x2, .int x3] [] σ Q := by
  refine Wp.adv (pc' := 169) (ls' := [.ref 9, .int x1, .int x2, .int x3]) (st' := [.int (σ.1 9 1), .int x3]) (σ' := σ) 3 rfl ?_
  exact Wp.icmp rfl ht hf
theorem b162_172 {d : Nat} {Q : Option Value → px_S → Prop} {σ : px_S} {x1 x2 x3 : Int32} (c1 : vp_in x3 40) (ht : ¬ (σ.1 50 (x3).toNatClampNeg) = x2 → Wp d tb_162 197 [.ref 9, .int x1, .int x2, .int x3] [.int x3, .ref 50] σ Q) (hf : ¬ (¬ (σ.1 50 (x3).toNatClampNeg) = x2) → Wp d tb_162 187 [.ref 9, .int x1, .int x2, .int x3] [.int x3, .ref 50] σ Q) : Wp d tb_162 172 [.ref 9, .int x1, .int x2, .int x3] [] σ Q := by
  refine Wp.adv (pc' := 182) (ls' := [.ref 9, .int x1, .int x2, .int x3]) (st' := [.int x3, .ref 50, .int x3, .ref 50]) (σ' := σ) 6 rfl ?_
  refine Wp.iald (N := 40) rfl rfl c1 ?_
  refine Wp.adv (pc' := 184) (ls' := [.ref 9, .int x1, .int x2, .int x3]) (st' := [.int x2, .int (σ.1 50 (x3).toNatClampNeg), .int x3, .ref 50]) (σ' := σ) 1 rfl ?_
  exact Wp.icmp rfl ht hf
theorem b162_187 {d : Nat} {Q : Option Value → px_S → Prop} {σ : px_S} {x1 x2 x3 s0 : Int32} (h : Wp d tb_162 203 [.ref 9, .int x1, .int x2, .int x3] [.int ((40 : Int32) + (σ.1 9 18)), .int s0, .ref 50] σ Q) : Wp d tb_162 187 [.ref 9, .int x1, .int x2, .int x3] [.int s0, .ref 50] σ Q := by
  refine Wp.adv (pc' := 203) (ls' := [.ref 9, .int x1, .int x2, .int x3]) (st' := [.int ((40 : Int32) + (σ.1 9 18)), .int s0, .ref 50]) (σ' := σ) 5 rfl ?_
  exact h
theorem b162_197 {d : Nat} {Q : Option Value → px_S → Prop} {σ : px_S} {x1 x2 x3 s0 : Int32} (c1 : vp_in x3 40) (h : Wp d tb_162 203 [.ref 9, .int x1, .int x2, .int x3] [.int (σ.1 50 (x3).toNatClampNeg), .int s0, .ref 50] σ Q) : Wp d tb_162 197 [.ref 9, .int x1, .int x2, .int x3] [.int s0, .ref 50] σ Q := by
  refine Wp.adv (pc' := 202) (ls' := [.ref 9, .int x1, .int x2, .int x3]) (st' := [.int x3, .ref 50, .int s0, .ref 50]) (σ' := σ) 3 rfl ?_
  refine Wp.iald (N := 40) rfl rfl c1 ?_
  exact h
theorem b162_203 {d : Nat} {Q : Option Value → px_S → Prop} {σ : px_S} {x1 x2 x3 s0 s1 : Int32} (c1 : vp_in s1 40) (h : Wp d tb_162 204 [.ref 9, .int x1, .int x2, .int x3] [] (px_uI σ 50 (s1).toNatClampNeg s0) Q) : Wp d tb_162 203 [.ref 9, .int x1, .int x2, .int x3] [.int s0, .int s1, .ref 50] σ Q := by
  refine Wp.iast (N := 40) rfl rfl c1 ?_
  exact h
theorem b162_204 {d : Nat} {Q : Option Value → px_S → Prop} {σ : px_S} {x1 x2 x3 : Int32} (h : Wp d tb_162 164 [.ref 9, .int x1, .int x2, .int (x3 + 1)] [] σ Q) : Wp d tb_162 204 [.ref 9, .int x1, .int x2, .int x3] [] σ Q := by
  refine Wp.adv (pc' := 164) (ls' := [.ref 9, .int x1, .int x2, .int (x3 + 1)]) (st' := []) (σ' := σ) 2 rfl ?_
  exact h
theorem b162_210 {d : Nat} {Q : Option Value → px_S → Prop} {σ : px_S} {x1 x2 x3 : Int32} (h : Wp d tb_162 220 [.ref 9, .int x1, .int x2, .int x3] [] (px_uI σ 9 18 ((σ.1 9 18) + (1 : Int32))) Q) : Wp d tb_162 210 [.ref 9, .int x1, .int x2, .int x3] [] σ Q := by
  refine Wp.adv (pc' := 217) (ls' := [.ref 9, .int x1, .int x2, .int x3]) (st' := [.int ((σ.1 9 18) + (1 : Int32)), .ref 9]) (σ' := σ) 5 rfl ?_
  refine Wp.step (q := (220, [.ref 9, .int x1, .int x2, .int x3], [], (px_uI σ 9 18 ((σ.1 9 18) + (1 : Int32))))) rfl rfl ?_
  exact h
theorem b162_220 {d : Nat} {Q : Option Value → px_S → Prop} {σ : px_S} {x1 x2 : Int32} {v3 : Value} (h : Wp d tb_162 144 [.ref 9, .int x1, .int (x2 + 1), v3] [] σ Q) : Wp d tb_162 220 [.ref 9, .int x1, .int x2, v3] [] σ Q := by
  refine Wp.adv (pc' := 144) (ls' := [.ref 9, .int x1, .int (x2 + 1), v3]) (st' := []) (σ' := σ) 2 rfl ?_
  exact h
theorem b162_226 {d : Nat} {Q : Option Value → px_S → Prop} {σ : px_S} {x1 x2 : Int32} {v3 : Value} (h : Wp d tb_162 228 [.ref 9, .int x1, .int (0 : Int32), v3] [] σ Q) : Wp d tb_162 226 [.ref 9, .int x1, .int x2, v3] [] σ Q := by
  refine Wp.adv (pc' := 228) (ls' := [.ref 9, .int x1, .int (0 : Int32), v3]) (st' := []) (σ' := σ) 2 rfl ?_
  exact h
theorem b162_228 {d : Nat} {Q : Option Value → px_S → Prop} {σ : px_S} {x1 x2 : Int32} {v3 : Value} (ht : (σ.1 9 1) ≤ x2 → Wp d tb_162 272 [.ref 9, .int x1, .int x2, v3] [] σ Q) (hf : ¬ ((σ.1 9 1) ≤ x2) → Wp d tb_162 236 [.ref 9, .int x1, .int x2, v3] [] σ Q) : Wp d tb_162 228 [.ref 9, .int x1, .int x2, v3] [] σ Q := by
  refine Wp.adv (pc' := 233) (ls' := [.ref 9, .int x1, .int x2, v3]) (st' := [.int (σ.1 9 1), .int x2]) (σ' := σ) 3 rfl ?_
  exact Wp.icmp rfl ht hf
theorem b162_236 {d : Nat} {Q : Option Value → px_S → Prop} {σ : px_S} {x1 x2 : Int32} {v3 : Value} (c1 : vp_in x2 40) (ht : (σ.1 50 (x2).toNatClampNeg) < (40 : Int32) → Wp d tb_162 264 [.ref 9, .int x1, .int x2, v3] [.int x2, .ref 50] σ Q) (hf : ¬ ((σ.1 50 (x2).toNatClampNeg) < (40 : Int32)) → Wp d tb_162 252 [.ref 9, .int x1, .int x2, v3] [.int x2, .ref 50] σ Q) : Wp d tb_162 236 [.ref 9, .int x1, .int x2, v3] [] σ Q := by
  refine Wp.adv (pc' := 246) (ls' := [.ref 9, .int x1, .int x2, v3]) (st' := [.int x2, .ref 50, .int x2, .ref 50]) (σ' := σ) 6 rfl ?_
  refine Wp.iald (N := 40) rfl rfl c1 ?_
  refine Wp.adv (pc' := 249) (ls' := [.ref 9, .int x1, .int x2, v3]) (st' := [.int (40 : Int32), .int (σ.1 50 (x2).toNatClampNeg), .int x2, .ref 50]) (σ' := σ) 1 rfl ?_
  exact Wp.icmp rfl ht hf
theorem b162_252 {d : Nat} {Q : Option Value → px_S → Prop} {σ : px_S} {x1 x2 s0 : Int32} {v3 : Value} (c1 : vp_in x2 40) (h : Wp d tb_162 265 [.ref 9, .int x1, .int x2, v3] [.int ((σ.1 50 (x2).toNatClampNeg) - (40 : Int32)), .int s0, .ref 50] σ Q) : Wp d tb_162 252 [.ref 9, .int x1, .int x2, v3] [.int s0, .ref 50] σ Q := by
  refine Wp.adv (pc' := 257) (ls' := [.ref 9, .int x1, .int x2, v3]) (st' := [.int x2, .ref 50, .int s0, .ref 50]) (σ' := σ) 3 rfl ?_
  refine Wp.iald (N := 40) rfl rfl c1 ?_
  refine Wp.adv (pc' := 265) (ls' := [.ref 9, .int x1, .int x2, v3]) (st' := [.int ((σ.1 50 (x2).toNatClampNeg) - (40 : Int32)), .int s0, .ref 50]) (σ' := σ) 3 rfl ?_
  exact h
theorem b162_264 {d : Nat} {Q : Option Value → px_S → Prop} {σ : px_S} {x1 x2 s0 : Int32} {v3 : Value} (h : Wp d tb_162 265 [.ref 9, .int x1, .int x2, v3] [.int (-1 : Int32), .int s0, .ref 50] σ Q) : Wp d tb_162 264 [.ref 9, .int x1, .int x2, v3] [.int s0, .ref 50] σ Q := by
  refine Wp.adv (pc' := 265) (ls' := [.ref 9, .int x1, .int x2, v3]) (st' := [.int (-1 : Int32), .int s0, .ref 50]) (σ' := σ) 1 rfl ?_
  exact h
theorem b162_265 {d : Nat} {Q : Option Value → px_S → Prop} {σ : px_S} {x1 x2 s0 s1 : Int32} {v3 : Value} (c1 : vp_in s1 40) (h : Wp d tb_162 266 [.ref 9, .int x1, .int x2, v3] [] (px_uI σ 50 (s1).toNatClampNeg s0) Q) : Wp d tb_162 265 [.ref 9, .int x1, .int x2, v3] [.int s0, .int s1, .ref 50] σ Q := by
  refine Wp.iast (N := 40) rfl rfl c1 ?_
  exact h
theorem b162_266 {d : Nat} {Q : Option Value → px_S → Prop} {σ : px_S} {x1 x2 : Int32} {v3 : Value} (h : Wp d tb_162 228 [.ref 9, .int x1, .int (x2 + 1), v3] [] σ Q) : Wp d tb_162 266 [.ref 9, .int x1, .int x2, v3] [] σ Q := by
  refine Wp.adv (pc' := 228) (ls' := [.ref 9, .int x1, .int (x2 + 1), v3]) (st' := []) (σ' := σ) 2 rfl ?_
  exact h
theorem b162_272 {d : Nat} {Q : Option Value → px_S → Prop} {σ : px_S} {x1 x2 : Int32} {v3 : Value} (h : Q none σ) : Wp d tb_162 272 [.ref 9, .int x1, .int x2, v3] [] σ Q := by
  exact Wp.ret rfl rfl h
theorem e162 {d : Nat} {Q : Option Value → px_S → Prop} {σ : px_S}  (h : Wp d tb_162 0 [.ref 9, .null, .null, .null] [] σ Q) : Cw (d + 1) 162 [.ref 9] σ Q := Cw.of (nL := 4) (y := yX9_findGroups) (cc := cX9_findGroups) (rt := none) rfl (Nat.le_of_ble_eq_true rfl) h
theorem b163_0 {d : Nat} {Q : Option Value → px_S → Prop} {σ : px_S} {x1 : Int32} (h : Wp d tb_163 4 [.ref 9, .int x1, .int (0 : Int32), .int (0 : Int32)] [] σ Q) : Wp d tb_163 0 [.ref 9, .int x1, .null, .null] [] σ Q := by
  refine Wp.adv (pc' := 4) (ls' := [.ref 9, .int x1, .int (0 : Int32), .int (0 : Int32)]) (st' := []) (σ' := σ) 4 rfl ?_
  exact h
theorem b163_4 {d : Nat} {Q : Option Value → px_S → Prop} {σ : px_S} {x1 x2 x3 : Int32} (c1 : vp_in x1 40) (ht : (σ.1 41 (x1).toNatClampNeg) ≤ x3 → Wp d tb_163 43 [.ref 9, .int x1, .int x2, .int x3] [] σ Q) (hf : ¬ ((σ.1 41 (x1).toNatClampNeg) ≤ x3) → Wp d tb_163 14 [.ref 9, .int x1, .int x2, .int x3] [] σ Q) : Wp d tb_163 4 [.ref 9, .int x1, .int x2, .int x3] [] σ Q := by
  refine Wp.adv (pc' := 10) (ls' := [.ref 9, .int x1, .int x2, .int x3]) (st' := [.int x1, .ref 41, .int x3]) (σ' := σ) 4 rfl ?_
  refine Wp.iald (N := 40) rfl rfl c1 ?_
  exact Wp.icmp rfl ht hf
theorem b163_14 {d : Nat} {Q : Option Value → px_S → Prop} {σ : px_S} {x1 x2 x3 : Int32} (ht : ¬ x2 = 0 → Wp d tb_163 31 [.ref 9, .int x1, .int x2, .int x3] [] σ Q) (hf : ¬ (¬ x2 = 0) → Wp d tb_163 18 [.ref 9, .int x1, .int x2, .int x3] [] σ Q) : Wp d tb_163 14 [.ref 9, .int x1, .int x2, .int x3] [] σ Q := by
  refine Wp.adv (pc' := 15) (ls' := [.ref 9, .int x1, .int x2, .int x3]) (st' := [.int x2]) (σ' := σ) 1 rfl ?_
  exact Wp.if_ rfl ht hf
theorem b163_18 {d : Nat} {Q : Option Value → px_S → Prop} {σ : px_S} {x1 x2 x3 : Int32} (h : Cw d 164 [.ref 9, .int (((14 : Int32) * x1) + x3)] σ (fun r τ => Wp d tb_163 28 [.ref 9, .int x1, .int x2, .int x3] (r.toList ++ []) τ Q)) : Wp d tb_163 18 [.ref 9, .int x1, .int x2, .int x3] [] σ Q := by
  refine Wp.adv (pc' := 25) (ls' := [.ref 9, .int x1, .int x2, .int x3]) (st' := [.int (((14 : Int32) * x1) + x3), .ref 9]) (σ' := σ) 6 rfl ?_
  exact Wp.call (q := (164, 2, 9, 28)) rfl (Nat.le_of_ble_eq_true rfl) rfl h
theorem b163_28 {d : Nat} {Q : Option Value → px_S → Prop} {σ : px_S} {x1 x2 x3 s0 : Int32} (ht : s0 = 0 → Wp d tb_163 35 [.ref 9, .int x1, .int x2, .int x3] [] σ Q) (hf : ¬ (s0 = 0) → Wp d tb_163 31 [.ref 9, .int x1, .int x2, .int x3] [] σ Q) : Wp d tb_163 28 [.ref 9, .int x1, .int x2, .int x3] [.int s0] σ Q := by
  exact Wp.if_ rfl ht hf
theorem b163_31 {d : Nat} {Q : Option Value → px_S → Prop} {σ : px_S} {x1 x2 x3 : Int32} (h : Wp d tb_163 36 [.ref 9, .int x1, .int x2, .int x3] [.int (1 : Int32)] σ Q) : Wp d tb_163 31 [.ref 9, .int x1, .int x2, .int x3] [] σ Q := by
  refine Wp.adv (pc' := 36) (ls' := [.ref 9, .int x1, .int x2, .int x3]) (st' := [.int (1 : Int32)]) (σ' := σ) 2 rfl ?_
  exact h
theorem b163_35 {d : Nat} {Q : Option Value → px_S → Prop} {σ : px_S} {x1 x2 x3 : Int32} (h : Wp d tb_163 36 [.ref 9, .int x1, .int x2, .int x3] [.int (0 : Int32)] σ Q) : Wp d tb_163 35 [.ref 9, .int x1, .int x2, .int x3] [] σ Q := by
  refine Wp.adv (pc' := 36) (ls' := [.ref 9, .int x1, .int x2, .int x3]) (st' := [.int (0 : Int32)]) (σ' := σ) 1 rfl ?_
  exact h
theorem b163_36 {d : Nat} {Q : Option Value → px_S → Prop} {σ : px_S} {x1 x2 x3 s0 : Int32} (h : Wp d tb_163 4 [.ref 9, .int x1, .int s0, .int (x3 + 1)] [] σ Q) : Wp d tb_163 36 [.ref 9, .int x1, .int x2, .int x3] [.int s0] σ Q := by
  refine Wp.adv (pc' := 4) (ls' := [.ref 9, .int x1, .int s0, .int (x3 + 1)]) (st' := []) (σ' := σ) 3 rfl ?_
  exact h
theorem b163_43 {d : Nat} {Q : Option Value → px_S → Prop} {σ : px_S} {x1 x2 x3 : Int32} (c1 : x2 = 0 ∨ x2 = 1) (h : Q (some (.int x2)) σ) : Wp d tb_163 43 [.ref 9, .int x1, .int x2, .int x3] [] σ Q := by
  refine Wp.adv (pc' := 44) (ls' := [.ref 9, .int x1, .int x2, .int x3]) (st' := [.int x2]) (σ' := σ) 1 rfl ?_
  exact Wp.zret rfl c1 h
theorem e163 {d : Nat} {Q : Option Value → px_S → Prop} {σ : px_S} {x1 : Int32} (h : Wp d tb_163 0 [.ref 9, .int x1, .null, .null] [] σ Q) : Cw (d + 1) 163 [.ref 9, .int x1] σ Q := Cw.of (nL := 4) (y := yX9_hasPiece) (cc := cX9_hasPiece) (rt := some .boolean) rfl (Nat.le_of_ble_eq_true rfl) h
theorem b164_0 {d : Nat} {Q : Option Value → px_S → Prop} {σ : px_S} {x1 : Int32} (c1 : vp_in x1 560) (ht : ¬ (σ.1 43 (x1).toNatClampNeg) = (1 : Int32) → Wp d tb_164 22 [.ref 9, .int x1] [] σ Q) (hf : ¬ (¬ (σ.1 43 (x1).toNatClampNeg) = (1 : Int32)) → Wp d tb_164 10 [.ref 9, .int x1] [] σ Q) : Wp d tb_164 0 [.ref 9, .int x1] [] σ Q := by
  refine Wp.adv (pc' := 5) (ls' := [.ref 9, .int x1]) (st' := [.int x1, .ref 43]) (σ' := σ) 3 rfl ?_
  refine Wp.iald (N := 560) rfl rfl c1 ?_
  refine Wp.adv (pc' := 7) (ls' := [.ref 9, .int x1]) (st' := [.int (1 : Int32), .int (σ.1 43 (x1).toNatClampNeg)]) (σ' := σ) 1 rfl ?_
  exact Wp.icmp rfl ht hf
theorem b164_10 {d : Nat} {Q : Option Value → px_S → Prop} {σ : px_S} {x1 : Int32} (h : Cw d 156 [.ref 9, .int x1] σ (fun r τ => Wp d tb_164 15 [.ref 9, .int x1] (r.toList ++ []) τ Q)) : Wp d tb_164 10 [.ref 9, .int x1] [] σ Q := by
  refine Wp.adv (pc' := 12) (ls' := [.ref 9, .int x1]) (st' := [.int x1, .ref 9]) (σ' := σ) 2 rfl ?_
  exact Wp.call (q := (156, 2, 9, 15)) rfl (Nat.le_of_ble_eq_true rfl) rfl h
theorem b164_15 {d : Nat} {Q : Option Value → px_S → Prop} {σ : px_S} {x1 s0 : Int32} (ht : 0 ≤ s0 → Wp d tb_164 22 [.ref 9, .int x1] [] σ Q) (hf : ¬ (0 ≤ s0) → Wp d tb_164 18 [.ref 9, .int x1] [] σ Q) : Wp d tb_164 15 [.ref 9, .int x1] [.int s0] σ Q := by
  exact Wp.if_ rfl ht hf
theorem b164_18 {d : Nat} {Q : Option Value → px_S → Prop} {σ : px_S} {x1 : Int32} (h : Wp d tb_164 23 [.ref 9, .int x1] [.int (1 : Int32)] σ Q) : Wp d tb_164 18 [.ref 9, .int x1] [] σ Q := by
  refine Wp.adv (pc' := 23) (ls' := [.ref 9, .int x1]) (st' := [.int (1 : Int32)]) (σ' := σ) 2 rfl ?_
  exact h
theorem b164_22 {d : Nat} {Q : Option Value → px_S → Prop} {σ : px_S} {x1 : Int32} (h : Wp d tb_164 23 [.ref 9, .int x1] [.int (0 : Int32)] σ Q) : Wp d tb_164 22 [.ref 9, .int x1] [] σ Q := by
  refine Wp.adv (pc' := 23) (ls' := [.ref 9, .int x1]) (st' := [.int (0 : Int32)]) (σ' := σ) 1 rfl ?_
  exact h
theorem b164_23 {d : Nat} {Q : Option Value → px_S → Prop} {σ : px_S} {x1 s0 : Int32} (c1 : s0 = 0 ∨ s0 = 1) (h : Q (some (.int s0)) σ) : Wp d tb_164 23 [.ref 9, .int x1] [.int s0] σ Q := by
  exact Wp.zret rfl c1 h
theorem e164 {d : Nat} {Q : Option Value → px_S → Prop} {σ : px_S} {x1 : Int32} (h : Wp d tb_164 0 [.ref 9, .int x1] [] σ Q) : Cw (d + 1) 164 [.ref 9, .int x1] σ Q := Cw.of (nL := 2) (y := yX9_isPiece) (cc := cX9_isPiece) (rt := some .boolean) rfl (Nat.le_of_ble_eq_true rfl) h
theorem b165_0 {d : Nat} {Q : Option Value → px_S → Prop} {σ : px_S} {x1 x2 : Int32} (h : Wp d tb_165 5 [.ref 9, .int x1, .int x2, .int (0 : Int32), .int (0 : Int32), .null] [] σ Q) : Wp d tb_165 0 [.ref 9, .int x1, .int x2, .null, .null, .null] [] σ Q := by
  refine Wp.adv (pc' := 5) (ls' := [.ref 9, .int x1, .int x2, .int (0 : Int32), .int (0 : Int32), .null]) (st' := []) (σ' := σ) 4 rfl ?_
  exact h
theorem b165_5 {d : Nat} {Q : Option Value → px_S → Prop} {σ : px_S} {x1 x2 x3 x4 : Int32} {v5 : Value} (c1 : vp_in x1 40) (ht : (σ.1 41 (x1).toNatClampNeg) ≤ x4 → Wp d tb_165 101 [.ref 9, .int x1, .int x2, .int x3, .int x4, v5] [] σ Q) (hf : ¬ ((σ.1 41 (x1).toNatClampNeg) ≤ x4) → Wp d tb_165 16 [.ref 9, .int x1, .int x2, .int x3, .int x4, v5] [] σ Q) : Wp d tb_165 5 [.ref 9, .int x1, .int x2, .int x3, .int x4, v5] [] σ Q := by
  refine Wp.adv (pc' := 12) (ls' := [.ref 9, .int x1, .int x2, .int x3, .int x4, v5]) (st' := [.int x1, .ref 41, .int x4]) (σ' := σ) 4 rfl ?_
  refine Wp.iald (N := 40) rfl rfl c1 ?_
  exact Wp.icmp rfl ht hf
theorem b165_16 {d : Nat} {Q : Option Value → px_S → Prop} {σ : px_S} {x1 x2 x3 x4 : Int32} {v5 : Value} (h : Wp d tb_165 19 [.ref 9, .int x1, .int x2, .int x3, .int x4, .int (0 : Int32)] [] σ Q) : Wp d tb_165 16 [.ref 9, .int x1, .int x2, .int x3, .int x4, v5] [] σ Q := by
  refine Wp.adv (pc' := 19) (ls' := [.ref 9, .int x1, .int x2, .int x3, .int x4, .int (0 : Int32)]) (st' := []) (σ' := σ) 2 rfl ?_
  exact h
theorem b165_19 {d : Nat} {Q : Option Value → px_S → Prop} {σ : px_S} {x1 x2 x3 x4 x5 : Int32} (c1 : vp_in x2 40) (ht : (σ.1 41 (x2).toNatClampNeg) ≤ x5 → Wp d tb_165 95 [.ref 9, .int x1, .int x2, .int x3, .int x4, .int x5] [] σ Q) (hf : ¬ ((σ.1 41 (x2).toNatClampNeg) ≤ x5) → Wp d tb_165 30 [.ref 9, .int x1, .int x2, .int x3, .int x4, .int x5] [] σ Q) : Wp d tb_165 19 [.ref 9, .int x1, .int x2, .int x3, .int x4, .int x5] [] σ Q := by
  refine Wp.adv (pc' := 26) (ls' := [.ref 9, .int x1, .int x2, .int x3, .int x4, .int x5]) (st' := [.int x2, .ref 41, .int x5]) (σ' := σ) 4 rfl ?_
  refine Wp.iald (N := 40) rfl rfl c1 ?_
  exact Wp.icmp rfl ht hf
theorem b165_30 {d : Nat} {Q : Option Value → px_S → Prop} {σ : px_S} {x1 x2 x3 x4 x5 : Int32} (ht : ¬ x3 = 0 → Wp d tb_165 95 [.ref 9, .int x1, .int x2, .int x3, .int x4, .int x5] [] σ Q) (hf : ¬ (¬ x3 = 0) → Wp d tb_165 34 [.ref 9, .int x1, .int x2, .int x3, .int x4, .int x5] [] σ Q) : Wp d tb_165 30 [.ref 9, .int x1, .int x2, .int x3, .int x4, .int x5] [] σ Q := by
  refine Wp.adv (pc' := 31) (ls' := [.ref 9, .int x1, .int x2, .int x3, .int x4, .int x5]) (st' := [.int x3]) (σ' := σ) 1 rfl ?_
  exact Wp.if_ rfl ht hf
theorem b165_34 {d : Nat} {Q : Option Value → px_S → Prop} {σ : px_S} {x1 x2 x3 x4 x5 : Int32} (h : Cw d 157 [.ref 9, .int (((14 : Int32) * x1) + x4), .int (((14 : Int32) * x2) + x5)] σ (fun r τ => Wp d tb_165 52 [.ref 9, .int x1, .int x2, .int x3, .int x4, .int x5] (r.toList ++ []) τ Q)) : Wp d tb_165 34 [.ref 9, .int x1, .int x2, .int x3, .int x4, .int x5] [] σ Q := by
  refine Wp.adv (pc' := 49) (ls' := [.ref 9, .int x1, .int x2, .int x3, .int x4, .int x5]) (st' := [.int (((14 : Int32) * x2) + x5), .int (((14 : Int32) * x1) + x4), .ref 9]) (σ' := σ) 11 rfl ?_
  exact Wp.call (q := (157, 3, 9, 52)) rfl (Nat.le_of_ble_eq_true rfl) rfl h
theorem b165_52 {d : Nat} {Q : Option Value → px_S → Prop} {σ : px_S} {x1 x2 x3 x4 x5 s0 : Int32} (ht : s0 = 0 → Wp d tb_165 87 [.ref 9, .int x1, .int x2, .int x3, .int x4, .int x5] [] σ Q) (hf : ¬ (s0 = 0) → Wp d tb_165 55 [.ref 9, .int x1, .int x2, .int x3, .int x4, .int x5] [] σ Q) : Wp d tb_165 52 [.ref 9, .int x1, .int x2, .int x3, .int x4, .int x5] [.int s0] σ Q := by
  exact Wp.if_ rfl ht hf
theorem b165_55 {d : Nat} {Q : Option Value → px_S → Prop} {σ : px_S} {x1 x2 x3 x4 x5 : Int32} (h : Cw d 164 [.ref 9, .int (((14 : Int32) * x1) + x4)] σ (fun r τ => Wp d tb_165 66 [.ref 9, .int x1, .int x2, .int x3, .int x4, .int x5] (r.toList ++ []) τ Q)) : Wp d tb_165 55 [.ref 9, .int x1, .int x2, .int x3, .int x4, .int x5] [] σ Q := by
  refine Wp.adv (pc' := 63) (ls' := [.ref 9, .int x1, .int x2, .int x3, .int x4, .int x5]) (st' := [.int (((14 : Int32) * x1) + x4), .ref 9]) (σ' := σ) 6 rfl ?_
  exact Wp.call (q := (164, 2, 9, 66)) rfl (Nat.le_of_ble_eq_true rfl) rfl h
theorem b165_66 {d : Nat} {Q : Option Value → px_S → Prop} {σ : px_S} {x1 x2 x3 x4 x5 s0 : Int32} (ht : s0 = 0 → Wp d tb_165 87 [.ref 9, .int x1, .int x2, .int x3, .int x4, .int x5] [] σ Q) (hf : ¬ (s0 = 0) → Wp d tb_165 69 [.ref 9, .int x1, .int x2, .int x3, .int x4, .int x5] [] σ Q) : Wp d tb_165 66 [.ref 9, .int x1, .int x2, .int x3, .int x4, .int x5] [.int s0] σ Q := by
  exact Wp.if_ rfl ht hf
theorem b165_69 {d : Nat} {Q : Option Value → px_S → Prop} {σ : px_S} {x1 x2 x3 x4 x5 : Int32} (h : Cw d 164 [.ref 9, .int (((14 : Int32) * x2) + x5)] σ (fun r τ => Wp d tb_165 80 [.ref 9, .int x1, .int x2, .int x3, .int x4, .int x5] (r.toList ++ []) τ Q)) : Wp d tb_165 69 [.ref 9, .int x1, .int x2, .int x3, .int x4, .int x5] [] σ Q := by
  refine Wp.adv (pc' := 77) (ls' := [.ref 9, .int x1, .int x2, .int x3, .int x4, .int x5]) (st' := [.int (((14 : Int32) * x2) + x5), .ref 9]) (σ' := σ) 6 rfl ?_
  exact Wp.call (q := (164, 2, 9, 80)) rfl (Nat.le_of_ble_eq_true rfl) rfl h
theorem b165_80 {d : Nat} {Q : Option Value → px_S → Prop} {σ : px_S} {x1 x2 x3 x4 x5 s0 : Int32} (ht : s0 = 0 → Wp d tb_165 87 [.ref 9, .int x1, .int x2, .int x3, .int x4, .int x5] [] σ Q) (hf : ¬ (s0 = 0) → Wp d tb_165 83 [.ref 9, .int x1, .int x2, .int x3, .int x4, .int x5] [] σ Q) : Wp d tb_165 80 [.ref 9, .int x1, .int x2, .int x3, .int x4, .int x5] [.int s0] σ Q := by
  exact Wp.if_ rfl ht hf
theorem b165_83 {d : Nat} {Q : Option Value → px_S → Prop} {σ : px_S} {x1 x2 x3 x4 x5 : Int32} (h : Wp d tb_165 88 [.ref 9, .int x1, .int x2, .int x3, .int x4, .int x5] [.int (1 : Int32)] σ Q) : Wp d tb_165 83 [.ref 9, .int x1, .int x2, .int x3, .int x4, .int x5] [] σ Q := by
  refine Wp.adv (pc' := 88) (ls' := [.ref 9, .int x1, .int x2, .int x3, .int x4, .int x5]) (st' := [.int (1 : Int32)]) (σ' := σ) 2 rfl ?_
  exact h
theorem b165_87 {d : Nat} {Q : Option Value → px_S → Prop} {σ : px_S} {x1 x2 x3 x4 x5 : Int32} (h : Wp d tb_165 88 [.ref 9, .int x1, .int x2, .int x3, .int x4, .int x5] [.int (0 : Int32)] σ Q) : Wp d tb_165 87 [.ref 9, .int x1, .int x2, .int x3, .int x4, .int x5] [] σ Q := by
  refine Wp.adv (pc' := 88) (ls' := [.ref 9, .int x1, .int x2, .int x3, .int x4, .int x5]) (st' := [.int (0 : Int32)]) (σ' := σ) 1 rfl ?_
  exact h
theorem b165_88 {d : Nat} {Q : Option Value → px_S → Prop} {σ : px_S} {x1 x2 x3 x4 x5 s0 : Int32} (h : Wp d tb_165 19 [.ref 9, .int x1, .int x2, .int s0, .int x4, .int (x5 + 1)] [] σ Q) : Wp d tb_165 88 [.ref 9, .int x1, .int x2, .int x3, .int x4, .int x5] [.int s0] σ Q := by
  refine Wp.adv (pc' := 19) (ls' := [.ref 9, .int x1, .int x2, .int s0, .int x4, .int (x5 + 1)]) (st' := []) (σ' := σ) 3 rfl ?_
  exact h
theorem b165_95 {d : Nat} {Q : Option Value → px_S → Prop} {σ : px_S} {x1 x2 x3 x4 x5 : Int32} (h : Wp d tb_165 5 [.ref 9, .int x1, .int x2, .int x3, .int (x4 + 1), .int x5] [] σ Q) : Wp d tb_165 95 [.ref 9, .int x1, .int x2, .int x3, .int x4, .int x5] [] σ Q := by
  refine Wp.adv (pc' := 5) (ls' := [.ref 9, .int x1, .int x2, .int x3, .int (x4 + 1), .int x5]) (st' := []) (σ' := σ) 2 rfl ?_
  exact h
theorem b165_101 {d : Nat} {Q : Option Value → px_S → Prop} {σ : px_S} {x1 x2 x3 x4 : Int32} {v5 : Value} (c1 : x3 = 0 ∨ x3 = 1) (h : Q (some (.int x3)) σ) : Wp d tb_165 101 [.ref 9, .int x1, .int x2, .int x3, .int x4, v5] [] σ Q := by
  refine Wp.adv (pc' := 102) (ls' := [.ref 9, .int x1, .int x2, .int x3, .int x4, v5]) (st' := [.int x3]) (σ' := σ) 1 rfl ?_
  exact Wp.zret rfl c1 h
theorem e165 {d : Nat} {Q : Option Value → px_S → Prop} {σ : px_S} {x1 x2 : Int32} (h : Wp d tb_165 0 [.ref 9, .int x1, .int x2, .null, .null, .null] [] σ Q) : Cw (d + 1) 165 [.ref 9, .int x1, .int x2] σ Q := Cw.of (nL := 6) (y := yX9_haveCommon) (cc := cX9_haveCommon) (rt := some .boolean) rfl (Nat.le_of_ble_eq_true rfl) h
theorem b166_0 {d : Nat} {Q : Option Value → px_S → Prop} {σ : px_S} {x1 x2 : Int32} (h : Cw d 162 [.ref 9] σ (fun r τ => Wp d tb_166 4 [.ref 9, .int x1, .int x2] (r.toList ++ []) τ Q)) : Wp d tb_166 0 [.ref 9, .int x1, .int x2] [] σ Q := by
  refine Wp.adv (pc' := 1) (ls' := [.ref 9, .int x1, .int x2]) (st' := [.ref 9]) (σ' := σ) 1 rfl ?_
  exact Wp.call (q := (162, 1, 9, 4)) rfl (Nat.le_of_ble_eq_true rfl) rfl h
theorem b166_4 {d : Nat} {Q : Option Value → px_S → Prop} {σ : px_S} {x1 x2 : Int32} (h : Cw d 130 [.long (x1).toInt64, .long (0 : Int64), .long (((σ.1 9 18) - (1 : Int32))).toInt64] σ (fun r τ => Wp d tb_166 17 [.ref 9, .int x1, .int x2] (r.toList ++ []) τ Q)) : Wp d tb_166 4 [.ref 9, .int x1, .int x2] [] σ Q := by
  refine Wp.adv (pc' := 14) (ls' := [.ref 9, .int x1, .int x2]) (st' := [.long (((σ.1 9 18) - (1 : Int32))).toInt64, .long (0 : Int64), .long (x1).toInt64]) (σ' := σ) 8 rfl ?_
  exact Wp.call (q := (130, 3, 0, 17)) rfl (Nat.le_of_ble_eq_true rfl) rfl h
theorem b166_17 {d : Nat} {Q : Option Value → px_S → Prop} {σ : px_S} {x1 x2 s0 : Int32} (ht : ¬ s0 = 0 → Wp d tb_166 24 [.ref 9, .int x1, .int x2] [] σ Q) (hf : ¬ (¬ s0 = 0) → Wp d tb_166 20 [.ref 9, .int x1, .int x2] [] σ Q) : Wp d tb_166 17 [.ref 9, .int x1, .int x2] [.int s0] σ Q := by
  exact Wp.if_ rfl ht hf
theorem b166_20 {d : Nat} {Q : Option Value → px_S → Prop} {σ : px_S} {x1 x2 : Int32} (h : Q (some (.int (-1001 : Int32))) σ) : Wp d tb_166 20 [.ref 9, .int x1, .int x2] [] σ Q := by
  refine Wp.adv (pc' := 23) (ls' := [.ref 9, .int x1, .int x2]) (st' := [.int (-1001 : Int32)]) (σ' := σ) 1 rfl ?_
  exact Wp.ret rfl rfl h
theorem b166_24 {d : Nat} {Q : Option Value → px_S → Prop} {σ : px_S} {x1 x2 : Int32} (h : Cw d 130 [.long (x2).toInt64, .long (0 : Int64), .long (2 : Int64)] σ (fun r τ => Wp d tb_166 33 [.ref 9, .int x1, .int x2] (r.toList ++ []) τ Q)) : Wp d tb_166 24 [.ref 9, .int x1, .int x2] [] σ Q := by
  refine Wp.adv (pc' := 30) (ls' := [.ref 9, .int x1, .int x2]) (st' := [.long (2 : Int64), .long (0 : Int64), .long (x2).toInt64]) (σ' := σ) 4 rfl ?_
  exact Wp.call (q := (130, 3, 0, 33)) rfl (Nat.le_of_ble_eq_true rfl) rfl h
theorem b166_33 {d : Nat} {Q : Option Value → px_S → Prop} {σ : px_S} {x1 x2 s0 : Int32} (ht : ¬ s0 = 0 → Wp d tb_166 40 [.ref 9, .int x1, .int x2] [] σ Q) (hf : ¬ (¬ s0 = 0) → Wp d tb_166 36 [.ref 9, .int x1, .int x2] [] σ Q) : Wp d tb_166 33 [.ref 9, .int x1, .int x2] [.int s0] σ Q := by
  exact Wp.if_ rfl ht hf
theorem b166_36 {d : Nat} {Q : Option Value → px_S → Prop} {σ : px_S} {x1 x2 : Int32} (h : Q (some (.int (-1002 : Int32))) σ) : Wp d tb_166 36 [.ref 9, .int x1, .int x2] [] σ Q := by
  refine Wp.adv (pc' := 39) (ls' := [.ref 9, .int x1, .int x2]) (st' := [.int (-1002 : Int32)]) (σ' := σ) 1 rfl ?_
  exact Wp.ret rfl rfl h
theorem b166_40 {d : Nat} {Q : Option Value → px_S → Prop} {σ : px_S} {x1 x2 : Int32} (h : Cw d 167 [.ref 9, .int x1] σ (fun r τ => Wp d tb_166 45 [.ref 9, .int x1, .int x2] (r.toList ++ []) τ Q)) : Wp d tb_166 40 [.ref 9, .int x1, .int x2] [] σ Q := by
  refine Wp.adv (pc' := 42) (ls' := [.ref 9, .int x1, .int x2]) (st' := [.int x1, .ref 9]) (σ' := σ) 2 rfl ?_
  exact Wp.call (q := (167, 2, 9, 45)) rfl (Nat.le_of_ble_eq_true rfl) rfl h
theorem b166_45 {d : Nat} {Q : Option Value → px_S → Prop} {σ : px_S} {x1 x2 : Int32} (ht : (2 : Int32) ≤ x2 → Wp d tb_166 68 [.ref 9, .int x1, .int x2] [] σ Q) (hf : ¬ ((2 : Int32) ≤ x2) → Wp d tb_166 50 [.ref 9, .int x1, .int x2] [] σ Q) : Wp d tb_166 45 [.ref 9, .int x1, .int x2] [] σ Q := by
  refine Wp.adv (pc' := 47) (ls' := [.ref 9, .int x1, .int x2]) (st' := [.int (2 : Int32), .int x2]) (σ' := σ) 2 rfl ?_
  exact Wp.icmp rfl ht hf
theorem b166_50 {d : Nat} {Q : Option Value → px_S → Prop} {σ : px_S} {x1 x2 : Int32} (ht : ¬ x2 = 0 → Wp d tb_166 61 [.ref 9, .int x1, .int x2] [] σ Q) (hf : ¬ (¬ x2 = 0) → Wp d tb_166 54 [.ref 9, .int x1, .int x2] [] σ Q) : Wp d tb_166 50 [.ref 9, .int x1, .int x2] [] σ Q := by
  refine Wp.adv (pc' := 51) (ls' := [.ref 9, .int x1, .int x2]) (st' := [.int x2]) (σ' := σ) 1 rfl ?_
  exact Wp.if_ rfl ht hf
theorem b166_54 {d : Nat} {Q : Option Value → px_S → Prop} {σ : px_S} {x1 x2 : Int32} (h : Wp d tb_166 67 [.ref 9, .int x1, .int x2] [.int (σ.1 9 22)] σ Q) : Wp d tb_166 54 [.ref 9, .int x1, .int x2] [] σ Q := by
  refine Wp.adv (pc' := 67) (ls' := [.ref 9, .int x1, .int x2]) (st' := [.int (σ.1 9 22)]) (σ' := σ) 3 rfl ?_
  exact h
theorem b166_61 {d : Nat} {Q : Option Value → px_S → Prop} {σ : px_S} {x1 x2 : Int32} (c1 : vp_in (0 : Int32) 4) (h : Wp d tb_166 67 [.ref 9, .int x1, .int x2] [.int (σ.1 51 ((0 : Int32)).toNatClampNeg)] σ Q) : Wp d tb_166 61 [.ref 9, .int x1, .int x2] [] σ Q := by
  refine Wp.adv (pc' := 66) (ls' := [.ref 9, .int x1, .int x2]) (st' := [.int (0 : Int32), .ref 51]) (σ' := σ) 3 rfl ?_
  refine Wp.iald (N := 4) rfl rfl c1 ?_
  exact h
theorem b166_67 {d : Nat} {Q : Option Value → px_S → Prop} {σ : px_S} {x1 x2 s0 : Int32} (h : Q (some (.int s0)) σ) : Wp d tb_166 67 [.ref 9, .int x1, .int x2] [.int s0] σ Q := by
  exact Wp.ret rfl rfl h
theorem b166_68 {d : Nat} {Q : Option Value → px_S → Prop} {σ : px_S} {x1 x2 : Int32} (ht : (σ.1 9 22) ≤ (4 : Int32) → Wp d tb_166 80 [.ref 9, .int x1, .int x2] [] σ Q) (hf : ¬ ((σ.1 9 22) ≤ (4 : Int32)) → Wp d tb_166 76 [.ref 9, .int x1, .int x2] [] σ Q) : Wp d tb_166 68 [.ref 9, .int x1, .int x2] [] σ Q := by
  refine Wp.adv (pc' := 73) (ls' := [.ref 9, .int x1, .int x2]) (st' := [.int (4 : Int32), .int (σ.1 9 22)]) (σ' := σ) 3 rfl ?_
  exact Wp.icmp rfl ht hf
theorem b166_76 {d : Nat} {Q : Option Value → px_S → Prop} {σ : px_S} {x1 x2 : Int32} (h : Q (some (.int (-1005 : Int32))) σ) : Wp d tb_166 76 [.ref 9, .int x1, .int x2] [] σ Q := by
  refine Wp.adv (pc' := 79) (ls' := [.ref 9, .int x1, .int x2]) (st' := [.int (-1005 : Int32)]) (σ' := σ) 1 rfl ?_
  exact Wp.ret rfl rfl h
theorem b166_80 {d : Nat} {Q : Option Value → px_S → Prop} {σ : px_S} {x1 x2 : Int32} (h : Cw d 168 [.ref 9] σ (fun r τ => Wp d tb_166 84 [.ref 9, .int x1, .int x2] (r.toList ++ []) τ Q)) : Wp d tb_166 80 [.ref 9, .int x1, .int x2] [] σ Q := by
  refine Wp.adv (pc' := 81) (ls' := [.ref 9, .int x1, .int x2]) (st' := [.ref 9]) (σ' := σ) 1 rfl ?_
  exact Wp.call (q := (168, 1, 9, 84)) rfl (Nat.le_of_ble_eq_true rfl) rfl h
theorem b166_84 {d : Nat} {Q : Option Value → px_S → Prop} {σ : px_S} {x1 x2 : Int32} (h : Q (some (.int (σ.1 9 25))) σ) : Wp d tb_166 84 [.ref 9, .int x1, .int x2] [] σ Q := by
  refine Wp.adv (pc' := 88) (ls' := [.ref 9, .int x1, .int x2]) (st' := [.int (σ.1 9 25)]) (σ' := σ) 2 rfl ?_
  exact Wp.ret rfl rfl h
theorem e166 {d : Nat} {Q : Option Value → px_S → Prop} {σ : px_S} {x1 x2 : Int32} (h : Wp d tb_166 0 [.ref 9, .int x1, .int x2] [] σ Q) : Cw (d + 1) 166 [.ref 9, .int x1, .int x2] σ Q := Cw.of (nL := 3) (y := yX9_lost) (cc := cX9_lost) (rt := some .int) rfl (Nat.le_of_ble_eq_true rfl) h
theorem b167_0 {d : Nat} {Q : Option Value → px_S → Prop} {σ : px_S} {x1 : Int32} (h : Wp d tb_167 5 [.ref 9, .int x1, .null, .null] [] (px_uI σ 9 22 (0 : Int32)) Q) : Wp d tb_167 0 [.ref 9, .int x1, .null, .null] [] σ Q := by
  refine Wp.adv (pc' := 2) (ls' := [.ref 9, .int x1, .null, .null]) (st' := [.int (0 : Int32), .ref 9]) (σ' := σ) 2 rfl ?_
  refine Wp.step (q := (5, [.ref 9, .int x1, .null, .null], [], (px_uI σ 9 22 (0 : Int32)))) rfl rfl ?_
  exact h
theorem b167_5 {d : Nat} {Q : Option Value → px_S → Prop} {σ : px_S} {x1 : Int32} (h : Wp d tb_167 7 [.ref 9, .int x1, .int (0 : Int32), .null] [] σ Q) : Wp d tb_167 5 [.ref 9, .int x1, .null, .null] [] σ Q := by
  refine Wp.adv (pc' := 7) (ls' := [.ref 9, .int x1, .int (0 : Int32), .null]) (st' := []) (σ' := σ) 2 rfl ?_
  exact h
theorem b167_7 {d : Nat} {Q : Option Value → px_S → Prop} {σ : px_S} {x1 x2 : Int32} {v3 : Value} (ht : (σ.1 9 1) ≤ x2 → Wp d tb_167 141 [.ref 9, .int x1, .int x2, v3] [] σ Q) (hf : ¬ ((σ.1 9 1) ≤ x2) → Wp d tb_167 15 [.ref 9, .int x1, .int x2, v3] [] σ Q) : Wp d tb_167 7 [.ref 9, .int x1, .int x2, v3] [] σ Q := by
  refine Wp.adv (pc' := 12) (ls' := [.ref 9, .int x1, .int x2, v3]) (st' := [.int (σ.1 9 1), .int x2]) (σ' := σ) 3 rfl ?_
  exact Wp.icmp rfl ht hf
theorem b167_15 {d : Nat} {Q : Option Value → px_S → Prop} {σ : px_S} {x1 x2 : Int32} {v3 : Value} (c1 : vp_in x2 40) (ht : ¬ (σ.1 50 (x2).toNatClampNeg) = x1 → Wp d tb_167 135 [.ref 9, .int x1, .int x2, v3] [] σ Q) (hf : ¬ (¬ (σ.1 50 (x2).toNatClampNeg) = x1) → Wp d tb_167 25 [.ref 9, .int x1, .int x2, v3] [] σ Q) : Wp d tb_167 15 [.ref 9, .int x1, .int x2, v3] [] σ Q := by
  refine Wp.adv (pc' := 20) (ls' := [.ref 9, .int x1, .int x2, v3]) (st' := [.int x2, .ref 50]) (σ' := σ) 3 rfl ?_
  refine Wp.iald (N := 40) rfl rfl c1 ?_
  refine Wp.adv (pc' := 22) (ls' := [.ref 9, .int x1, .int x2, v3]) (st' := [.int x1, .int (σ.1 50 (x2).toNatClampNeg)]) (σ' := σ) 1 rfl ?_
  exact Wp.icmp rfl ht hf
theorem b167_25 {d : Nat} {Q : Option Value → px_S → Prop} {σ : px_S} {x1 x2 : Int32} {v3 : Value} (ht : (4 : Int32) ≤ (σ.1 9 22) → Wp d tb_167 125 [.ref 9, .int x1, .int x2, v3] [] σ Q) (hf : ¬ ((4 : Int32) ≤ (σ.1 9 22)) → Wp d tb_167 33 [.ref 9, .int x1, .int x2, v3] [] σ Q) : Wp d tb_167 25 [.ref 9, .int x1, .int x2, v3] [] σ Q := by
  refine Wp.adv (pc' := 30) (ls' := [.ref 9, .int x1, .int x2, v3]) (st' := [.int (4 : Int32), .int (σ.1 9 22)]) (σ' := σ) 3 rfl ?_
  exact Wp.icmp rfl ht hf
theorem b167_33 {d : Nat} {Q : Option Value → px_S → Prop} {σ : px_S} {x1 x2 : Int32} {v3 : Value} (c1 : vp_in (σ.1 9 22) 4) (h : Wp d tb_167 43 [.ref 9, .int x1, .int x2, v3] [] (px_uI σ 51 ((σ.1 9 22)).toNatClampNeg x2) Q) : Wp d tb_167 33 [.ref 9, .int x1, .int x2, v3] [] σ Q := by
  refine Wp.adv (pc' := 42) (ls' := [.ref 9, .int x1, .int x2, v3]) (st' := [.int x2, .int (σ.1 9 22), .ref 51]) (σ' := σ) 5 rfl ?_
  refine Wp.iast (N := 4) rfl rfl c1 ?_
  exact h
theorem b167_43 {d : Nat} {Q : Option Value → px_S → Prop} {σ : px_S} {x1 x2 : Int32} {v3 : Value} (c1 : vp_in (σ.1 9 22) 4) (h : Wp d tb_167 53 [.ref 9, .int x1, .int x2, v3] [] (px_uI σ 52 ((σ.1 9 22)).toNatClampNeg (0 : Int32)) Q) : Wp d tb_167 43 [.ref 9, .int x1, .int x2, v3] [] σ Q := by
  refine Wp.adv (pc' := 52) (ls' := [.ref 9, .int x1, .int x2, v3]) (st' := [.int (0 : Int32), .int (σ.1 9 22), .ref 52]) (σ' := σ) 5 rfl ?_
  refine Wp.iast (N := 4) rfl rfl c1 ?_
  exact h
theorem b167_53 {d : Nat} {Q : Option Value → px_S → Prop} {σ : px_S} {x1 x2 : Int32} {v3 : Value} (h : Wp d tb_167 55 [.ref 9, .int x1, .int x2, .int (0 : Int32)] [] σ Q) : Wp d tb_167 53 [.ref 9, .int x1, .int x2, v3] [] σ Q := by
  refine Wp.adv (pc' := 55) (ls' := [.ref 9, .int x1, .int x2, .int (0 : Int32)]) (st' := []) (σ' := σ) 2 rfl ?_
  exact h
theorem b167_55 {d : Nat} {Q : Option Value → px_S → Prop} {σ : px_S} {x1 x2 x3 : Int32} (c1 : vp_in x2 40) (ht : (σ.1 41 (x2).toNatClampNeg) ≤ x3 → Wp d tb_167 125 [.ref 9, .int x1, .int x2, .int x3] [] σ Q) (hf : ¬ ((σ.1 41 (x2).toNatClampNeg) ≤ x3) → Wp d tb_167 65 [.ref 9, .int x1, .int x2, .int x3] [] σ Q) : Wp d tb_167 55 [.ref 9, .int x1, .int x2, .int x3] [] σ Q := by
  refine Wp.adv (pc' := 61) (ls' := [.ref 9, .int x1, .int x2, .int x3]) (st' := [.int x2, .ref 41, .int x3]) (σ' := σ) 4 rfl ?_
  refine Wp.iald (N := 40) rfl rfl c1 ?_
  exact Wp.icmp rfl ht hf
theorem b167_65 {d : Nat} {Q : Option Value → px_S → Prop} {σ : px_S} {x1 x2 x3 : Int32} (h : Cw d 164 [.ref 9, .int (((14 : Int32) * x2) + x3)] σ (fun r τ => Wp d tb_167 75 [.ref 9, .int x1, .int x2, .int x3] (r.toList ++ []) τ Q)) : Wp d tb_167 65 [.ref 9, .int x1, .int x2, .int x3] [] σ Q := by
  refine Wp.adv (pc' := 72) (ls' := [.ref 9, .int x1, .int x2, .int x3]) (st' := [.int (((14 : Int32) * x2) + x3), .ref 9]) (σ' := σ) 6 rfl ?_
  exact Wp.call (q := (164, 2, 9, 75)) rfl (Nat.le_of_ble_eq_true rfl) rfl h
theorem b167_75 {d : Nat} {Q : Option Value → px_S → Prop} {σ : px_S} {x1 x2 x3 s0 : Int32} (ht : s0 = 0 → Wp d tb_167 119 [.ref 9, .int x1, .int x2, .int x3] [] σ Q) (hf : ¬ (s0 = 0) → Wp d tb_167 78 [.ref 9, .int x1, .int x2, .int x3] [] σ Q) : Wp d tb_167 75 [.ref 9, .int x1, .int x2, .int x3] [.int s0] σ Q := by
  exact Wp.if_ rfl ht hf
theorem b167_78 {d : Nat} {Q : Option Value → px_S → Prop} {σ : px_S} {x1 x2 x3 : Int32} (c1 : vp_in (σ.1 9 22) 4) (c2 : vp_in (((14 : Int32) * (σ.1 9 22)) + (σ.1 52 ((σ.1 9 22)).toNatClampNeg)) 56) (h : Wp d tb_167 106 [.ref 9, .int x1, .int x2, .int x3] [] (px_uI σ 53 ((((14 : Int32) * (σ.1 9 22)) + (σ.1 52 ((σ.1 9 22)).toNatClampNeg))).toNatClampNeg (((14 : Int32) * x2) + x3)) Q) : Wp d tb_167 78 [.ref 9, .int x1, .int x2, .int x3] [] σ Q := by
  refine Wp.adv (pc' := 97) (ls' := [.ref 9, .int x1, .int x2, .int x3]) (st' := [.int (σ.1 9 22), .ref 52, .int ((14 : Int32) * (σ.1 9 22)), .ref 53]) (σ' := σ) 10 rfl ?_
  refine Wp.iald (N := 4) rfl rfl c1 ?_
  refine Wp.adv (pc' := 105) (ls' := [.ref 9, .int x1, .int x2, .int x3]) (st' := [.int (((14 : Int32) * x2) + x3), .int (((14 : Int32) * (σ.1 9 22)) + (σ.1 52 ((σ.1 9 22)).toNatClampNeg)), .ref 53]) (σ' := σ) 6 rfl ?_
  refine Wp.iast (N := 56) rfl rfl c2 ?_
  exact h
theorem b167_106 {d : Nat} {Q : Option Value → px_S → Prop} {σ : px_S} {x1 x2 x3 : Int32} (c1 : vp_in (σ.1 9 22) 4) (c2 : vp_in (σ.1 9 22) 4) (h : Wp d tb_167 119 [.ref 9, .int x1, .int x2, .int x3] [] (px_uI σ 52 ((σ.1 9 22)).toNatClampNeg ((σ.1 52 ((σ.1 9 22)).toNatClampNeg) + (1 : Int32))) Q) : Wp d tb_167 106 [.ref 9, .int x1, .int x2, .int x3] [] σ Q := by
  refine Wp.adv (pc' := 115) (ls' := [.ref 9, .int x1, .int x2, .int x3]) (st' := [.int (σ.1 9 22), .ref 52, .int (σ.1 9 22), .ref 52]) (σ' := σ) 5 rfl ?_
  refine Wp.iald (N := 4) rfl rfl c1 ?_
  refine Wp.adv (pc' := 118) (ls' := [.ref 9, .int x1, .int x2, .int x3]) (st' := [.int ((σ.1 52 ((σ.1 9 22)).toNatClampNeg) + (1 : Int32)), .int (σ.1 9 22), .ref 52]) (σ' := σ) 2 rfl ?_
  refine Wp.iast (N := 4) rfl rfl c2 ?_
  exact h
theorem b167_119 {d : Nat} {Q : Option Value → px_S → Prop} {σ : px_S} {x1 x2 x3 : Int32} (h : Wp d tb_167 55 [.ref 9, .int x1, .int x2, .int (x3 + 1)] [] σ Q) : Wp d tb_167 119 [.ref 9, .int x1, .int x2, .int x3] [] σ Q := by
  refine Wp.adv (pc' := 55) (ls' := [.ref 9, .int x1, .int x2, .int (x3 + 1)]) (st' := []) (σ' := σ) 2 rfl ?_
  exact h
theorem b167_125 {d : Nat} {Q : Option Value → px_S → Prop} {σ : px_S} {x1 x2 : Int32} {v3 : Value} (h : Wp d tb_167 135 [.ref 9, .int x1, .int x2, v3] [] (px_uI σ 9 22 ((σ.1 9 22) + (1 : Int32))) Q) : Wp d tb_167 125 [.ref 9, .int x1, .int x2, v3] [] σ Q := by
  refine Wp.adv (pc' := 132) (ls' := [.ref 9, .int x1, .int x2, v3]) (st' := [.int ((σ.1 9 22) + (1 : Int32)), .ref 9]) (σ' := σ) 5 rfl ?_
  refine Wp.step (q := (135, [.ref 9, .int x1, .int x2, v3], [], (px_uI σ 9 22 ((σ.1 9 22) + (1 : Int32))))) rfl rfl ?_
  exact h
theorem b167_135 {d : Nat} {Q : Option Value → px_S → Prop} {σ : px_S} {x1 x2 : Int32} {v3 : Value} (h : Wp d tb_167 7 [.ref 9, .int x1, .int (x2 + 1), v3] [] σ Q) : Wp d tb_167 135 [.ref 9, .int x1, .int x2, v3] [] σ Q := by
  refine Wp.adv (pc' := 7) (ls' := [.ref 9, .int x1, .int (x2 + 1), v3]) (st' := []) (σ' := σ) 2 rfl ?_
  exact h
theorem b167_141 {d : Nat} {Q : Option Value → px_S → Prop} {σ : px_S} {x1 x2 : Int32} {v3 : Value} (h : Wp d tb_167 146 [.ref 9, .int x1, .int (σ.1 9 22), v3] [] σ Q) : Wp d tb_167 141 [.ref 9, .int x1, .int x2, v3] [] σ Q := by
  refine Wp.adv (pc' := 146) (ls' := [.ref 9, .int x1, .int (σ.1 9 22), v3]) (st' := []) (σ' := σ) 3 rfl ?_
  exact h
theorem b167_146 {d : Nat} {Q : Option Value → px_S → Prop} {σ : px_S} {x1 x2 : Int32} {v3 : Value} (ht : (4 : Int32) ≤ x2 → Wp d tb_167 164 [.ref 9, .int x1, .int x2, v3] [] σ Q) (hf : ¬ ((4 : Int32) ≤ x2) → Wp d tb_167 151 [.ref 9, .int x1, .int x2, v3] [] σ Q) : Wp d tb_167 146 [.ref 9, .int x1, .int x2, v3] [] σ Q := by
  refine Wp.adv (pc' := 148) (ls' := [.ref 9, .int x1, .int x2, v3]) (st' := [.int (4 : Int32), .int x2]) (σ' := σ) 2 rfl ?_
  exact Wp.icmp rfl ht hf
theorem b167_151 {d : Nat} {Q : Option Value → px_S → Prop} {σ : px_S} {x1 x2 : Int32} {v3 : Value} (c1 : vp_in x2 4) (h : Wp d tb_167 158 [.ref 9, .int x1, .int x2, v3] [] (px_uI σ 52 (x2).toNatClampNeg (0 : Int32)) Q) : Wp d tb_167 151 [.ref 9, .int x1, .int x2, v3] [] σ Q := by
  refine Wp.adv (pc' := 157) (ls' := [.ref 9, .int x1, .int x2, v3]) (st' := [.int (0 : Int32), .int x2, .ref 52]) (σ' := σ) 4 rfl ?_
  refine Wp.iast (N := 4) rfl rfl c1 ?_
  exact h
theorem b167_158 {d : Nat} {Q : Option Value → px_S → Prop} {σ : px_S} {x1 x2 : Int32} {v3 : Value} (h : Wp d tb_167 146 [.ref 9, .int x1, .int (x2 + 1), v3] [] σ Q) : Wp d tb_167 158 [.ref 9, .int x1, .int x2, v3] [] σ Q := by
  refine Wp.adv (pc' := 146) (ls' := [.ref 9, .int x1, .int (x2 + 1), v3]) (st' := []) (σ' := σ) 2 rfl ?_
  exact h
theorem b167_164 {d : Nat} {Q : Option Value → px_S → Prop} {σ : px_S} {x1 x2 : Int32} {v3 : Value} (h : Q none σ) : Wp d tb_167 164 [.ref 9, .int x1, .int x2, v3] [] σ Q := by
  exact Wp.ret rfl rfl h
theorem e167 {d : Nat} {Q : Option Value → px_S → Prop} {σ : px_S} {x1 : Int32} (h : Wp d tb_167 0 [.ref 9, .int x1, .null, .null] [] σ Q) : Cw (d + 1) 167 [.ref 9, .int x1] σ Q := Cw.of (nL := 4) (y := yX9_findPieces) (cc := cX9_findPieces) (rt := none) rfl (Nat.le_of_ble_eq_true rfl) h
theorem b168_0 {d : Nat} {Q : Option Value → px_S → Prop} {σ : px_S}  (c1 : vp_in (0 : Int32) 4) (c2 : vp_in (1 : Int32) 4) (c3 : vp_in (2 : Int32) 4) (c4 : vp_in (3 : Int32) 4) (h : Wp d tb_168 41 [.ref 9, .int ((((σ.1 52 ((0 : Int32)).toNatClampNeg) + ((15 : Int32) * (σ.1 52 ((1 : Int32)).toNatClampNeg))) + ((225 : Int32) * (σ.1 52 ((2 : Int32)).toNatClampNeg))) + ((3375 : Int32) * (σ.1 52 ((3 : Int32)).toNatClampNeg))), .int ((((σ.1 52 ((0 : Int32)).toNatClampNeg) + ((15 : Int32) * (σ.1 52 ((1 : Int32)).toNatClampNeg))) + ((225 : Int32) * (σ.1 52 ((2 : Int32)).toNatClampNeg))) + ((3375 : Int32) * (σ.1 52 ((3 : Int32)).toNatClampNeg))), .null, .null, .null, .null] [] σ Q) : Wp d tb_168 0 [.ref 9, .null, .null, .null, .null, .null, .null] [] σ Q := by
  refine Wp.adv (pc' := 5) (ls' := [.ref 9, .null, .null, .null, .null, .null, .null]) (st' := [.int (0 : Int32), .ref 52]) (σ' := σ) 3 rfl ?_
  refine Wp.iald (N := 4) rfl rfl c1 ?_
  refine Wp.adv (pc' := 13) (ls' := [.ref 9, .null, .null, .null, .null, .null, .null]) (st' := [.int (1 : Int32), .ref 52, .int (15 : Int32), .int (σ.1 52 ((0 : Int32)).toNatClampNeg)]) (σ' := σ) 4 rfl ?_
  refine Wp.iald (N := 4) rfl rfl c2 ?_
  refine Wp.adv (pc' := 24) (ls' := [.ref 9, .null, .null, .null, .null, .null, .null]) (st' := [.int (2 : Int32), .ref 52, .int (225 : Int32), .int ((σ.1 52 ((0 : Int32)).toNatClampNeg) + ((15 : Int32) * (σ.1 52 ((1 : Int32)).toNatClampNeg)))]) (σ' := σ) 6 rfl ?_
  refine Wp.iald (N := 4) rfl rfl c3 ?_
  refine Wp.adv (pc' := 35) (ls' := [.ref 9, .null, .null, .null, .null, .null, .null]) (st' := [.int (3 : Int32), .ref 52, .int (3375 : Int32), .int (((σ.1 52 ((0 : Int32)).toNatClampNeg) + ((15 : Int32) * (σ.1 52 ((1 : Int32)).toNatClampNeg))) + ((225 : Int32) * (σ.1 52 ((2 : Int32)).toNatClampNeg)))]) (σ' := σ) 6 rfl ?_
  refine Wp.iald (N := 4) rfl rfl c4 ?_
  refine Wp.adv (pc' := 41) (ls' := [.ref 9, .int ((((σ.1 52 ((0 : Int32)).toNatClampNeg) + ((15 : Int32) * (σ.1 52 ((1 : Int32)).toNatClampNeg))) + ((225 : Int32) * (σ.1 52 ((2 : Int32)).toNatClampNeg))) + ((3375 : Int32) * (σ.1 52 ((3 : Int32)).toNatClampNeg))), .int ((((σ.1 52 ((0 : Int32)).toNatClampNeg) + ((15 : Int32) * (σ.1 52 ((1 : Int32)).toNatClampNeg))) + ((225 : Int32) * (σ.1 52 ((2 : Int32)).toNatClampNeg))) + ((3375 : Int32) * (σ.1 52 ((3 : Int32)).toNatClampNeg))), .null, .null, .null, .null]) (st' := []) (σ' := σ) 5 rfl ?_
  exact h
theorem b168_41 {d : Nat} {Q : Option Value → px_S → Prop} {σ : px_S} {x1 x2 : Int32} {v3 v4 v5 v6 : Value} (ht : x2 < 0 → Wp d tb_168 142 [.ref 9, .int x1, .int x2, v3, v4, v5, v6] [] σ Q) (hf : ¬ (x2 < 0) → Wp d tb_168 45 [.ref 9, .int x1, .int x2, v3, v4, v5, v6] [] σ Q) : Wp d tb_168 41 [.ref 9, .int x1, .int x2, v3, v4, v5, v6] [] σ Q := by
  refine Wp.adv (pc' := 42) (ls' := [.ref 9, .int x1, .int x2, v3, v4, v5, v6]) (st' := [.int x2]) (σ' := σ) 1 rfl ?_
  exact Wp.if_ rfl ht hf
theorem b168_45 {d : Nat} {Q : Option Value → px_S → Prop} {σ : px_S} {x1 x2 : Int32} {v3 v4 v5 v6 : Value} (nv3 : px_nc v3 = true) (nv4 : px_nc v4 = true) (nv5 : px_nc v5 = true) (nv6 : px_nc v6 = true) (h : Cw d 169 [.ref 9, .int x2] σ (fun r τ => Wp d tb_168 50 [.ref 9, .int x1, .int x2, v3, v4, v5, v6] (r.toList ++ []) τ Q)) : Wp d tb_168 45 [.ref 9, .int x1, .int x2, v3, v4, v5, v6] [] σ Q := by
  refine Wp.adv (pc' := 47) (ls' := [.ref 9, .int x1, .int x2, v3, v4, v5, v6]) (st' := [.int x2, .ref 9]) (σ' := σ) 2 rfl ?_
  exact Wp.call (q := (169, 2, 9, 50)) rfl (Nat.le_of_ble_eq_true rfl) (px_okc_mk rfl rfl rfl (by simp only [List.all_cons, List.all_nil, nv3, nv4, nv5, nv6]; rfl)) h
theorem b168_50 {d : Nat} {Q : Option Value → px_S → Prop} {σ : px_S} {x1 x2 s0 : Int32} {v3 v4 v5 v6 : Value} (ht : s0 = 0 → Wp d tb_168 136 [.ref 9, .int x1, .int x2, v3, v4, v5, v6] [] σ Q) (hf : ¬ (s0 = 0) → Wp d tb_168 53 [.ref 9, .int x1, .int x2, v3, v4, v5, v6] [] σ Q) : Wp d tb_168 50 [.ref 9, .int x1, .int x2, v3, v4, v5, v6] [.int s0] σ Q := by
  exact Wp.if_ rfl ht hf
theorem b168_53 {d : Nat} {Q : Option Value → px_S → Prop} {σ : px_S} {x1 x2 : Int32} {v3 v4 v5 v6 : Value} (ht : ¬ x2 = x1 → Wp d tb_168 62 [.ref 9, .int x1, .int x2, v3, v4, v5, v6] [] σ Q) (hf : ¬ (¬ x2 = x1) → Wp d tb_168 58 [.ref 9, .int x1, .int x2, v3, v4, v5, v6] [] σ Q) : Wp d tb_168 53 [.ref 9, .int x1, .int x2, v3, v4, v5, v6] [] σ Q := by
  refine Wp.adv (pc' := 55) (ls' := [.ref 9, .int x1, .int x2, v3, v4, v5, v6]) (st' := [.int x1, .int x2]) (σ' := σ) 2 rfl ?_
  exact Wp.icmp rfl ht hf
theorem b168_58 {d : Nat} {Q : Option Value → px_S → Prop} {σ : px_S} {x1 x2 : Int32} {v3 v4 v5 v6 : Value} (h : Wp d tb_168 65 [.ref 9, .int x1, .int x2, v3, v4, v5, v6] [.int (0 : Int32)] σ Q) : Wp d tb_168 58 [.ref 9, .int x1, .int x2, v3, v4, v5, v6] [] σ Q := by
  refine Wp.adv (pc' := 65) (ls' := [.ref 9, .int x1, .int x2, v3, v4, v5, v6]) (st' := [.int (0 : Int32)]) (σ' := σ) 2 rfl ?_
  exact h
theorem b168_62 {d : Nat} {Q : Option Value → px_S → Prop} {σ : px_S} {x1 x2 : Int32} {v3 v4 v5 v6 : Value} (h : Wp d tb_168 65 [.ref 9, .int x1, .int x2, v3, v4, v5, v6] [.int (1000 : Int32)] σ Q) : Wp d tb_168 62 [.ref 9, .int x1, .int x2, v3, v4, v5, v6] [] σ Q := by
  refine Wp.adv (pc' := 65) (ls' := [.ref 9, .int x1, .int x2, v3, v4, v5, v6]) (st' := [.int (1000 : Int32)]) (σ' := σ) 1 rfl ?_
  exact h
theorem b168_65 {d : Nat} {Q : Option Value → px_S → Prop} {σ : px_S} {x1 x2 s0 : Int32} {v3 v4 v5 v6 : Value} (h : Wp d tb_168 69 [.ref 9, .int x1, .int x2, .int s0, .int (0 : Int32), v5, v6] [] σ Q) : Wp d tb_168 65 [.ref 9, .int x1, .int x2, v3, v4, v5, v6] [.int s0] σ Q := by
  refine Wp.adv (pc' := 69) (ls' := [.ref 9, .int x1, .int x2, .int s0, .int (0 : Int32), v5, v6]) (st' := []) (σ' := σ) 3 rfl ?_
  exact h
theorem b168_69 {d : Nat} {Q : Option Value → px_S → Prop} {σ : px_S} {x1 x2 x3 x4 : Int32} {v5 v6 : Value} (ht : (4 : Int32) ≤ x4 → Wp d tb_168 129 [.ref 9, .int x1, .int x2, .int x3, .int x4, v5, v6] [] σ Q) (hf : ¬ ((4 : Int32) ≤ x4) → Wp d tb_168 75 [.ref 9, .int x1, .int x2, .int x3, .int x4, v5, v6] [] σ Q) : Wp d tb_168 69 [.ref 9, .int x1, .int x2, .int x3, .int x4, v5, v6] [] σ Q := by
  refine Wp.adv (pc' := 72) (ls' := [.ref 9, .int x1, .int x2, .int x3, .int x4, v5, v6]) (st' := [.int (4 : Int32), .int x4]) (σ' := σ) 2 rfl ?_
  exact Wp.icmp rfl ht hf
theorem b168_75 {d : Nat} {Q : Option Value → px_S → Prop} {σ : px_S} {x1 x2 x3 x4 : Int32} {v5 v6 : Value} (ht : x1 ≤ x2 → Wp d tb_168 129 [.ref 9, .int x1, .int x2, .int x3, .int x4, v5, v6] [] σ Q) (hf : ¬ (x1 ≤ x2) → Wp d tb_168 80 [.ref 9, .int x1, .int x2, .int x3, .int x4, v5, v6] [] σ Q) : Wp d tb_168 75 [.ref 9, .int x1, .int x2, .int x3, .int x4, v5, v6] [] σ Q := by
  refine Wp.adv (pc' := 77) (ls' := [.ref 9, .int x1, .int x2, .int x3, .int x4, v5, v6]) (st' := [.int x1, .int x2]) (σ' := σ) 2 rfl ?_
  exact Wp.icmp rfl ht hf
theorem b168_80 {d : Nat} {Q : Option Value → px_S → Prop} {σ : px_S} {x1 x2 x3 x4 : Int32} {v5 v6 : Value} (nv5 : px_nc v5 = true) (nv6 : px_nc v6 = true) (h : Cw d 170 [.ref 9, .int x4, .int x2] σ (fun r τ => Wp d tb_168 87 [.ref 9, .int x1, .int x2, .int x3, .int x4, v5, v6] (r.toList ++ []) τ Q)) : Wp d tb_168 80 [.ref 9, .int x1, .int x2, .int x3, .int x4, v5, v6] [] σ Q := by
  refine Wp.adv (pc' := 84) (ls' := [.ref 9, .int x1, .int x2, .int x3, .int x4, v5, v6]) (st' := [.int x2, .int x4, .ref 9]) (σ' := σ) 3 rfl ?_
  exact Wp.call (q := (170, 3, 9, 87)) rfl (Nat.le_of_ble_eq_true rfl) (px_okc_mk rfl rfl rfl (by simp only [List.all_cons, List.all_nil, nv5, nv6]; rfl)) h
theorem b168_87 {d : Nat} {Q : Option Value → px_S → Prop} {σ : px_S} {x1 x2 x3 x4 s0 : Int32} {v5 v6 : Value} (ht : s0 < 0 → Wp d tb_168 123 [.ref 9, .int x1, .int x2, .int x3, .int x4, .int s0, v6] [] σ Q) (hf : ¬ (s0 < 0) → Wp d tb_168 94 [.ref 9, .int x1, .int x2, .int x3, .int x4, .int s0, v6] [] σ Q) : Wp d tb_168 87 [.ref 9, .int x1, .int x2, .int x3, .int x4, v5, v6] [.int s0] σ Q := by
  refine Wp.adv (pc' := 91) (ls' := [.ref 9, .int x1, .int x2, .int x3, .int x4, .int s0, v6]) (st' := [.int s0]) (σ' := σ) 2 rfl ?_
  exact Wp.if_ rfl ht hf
theorem b168_94 {d : Nat} {Q : Option Value → px_S → Prop} {σ : px_S} {x1 x2 x3 x4 x5 : Int32} {v6 : Value} (nv6 : px_nc v6 = true) (h : Cw d 171 [.ref 9, .int x2, .int x5] σ (fun r τ => Wp d tb_168 106 [.ref 9, .int x1, .int x2, .int x3, .int x4, .int x5, v6] (r.toList ++ [.ref 54, .int (1 : Int32)]) τ Q)) : Wp d tb_168 94 [.ref 9, .int x1, .int x2, .int x3, .int x4, .int x5, v6] [] σ Q := by
  refine Wp.adv (pc' := 103) (ls' := [.ref 9, .int x1, .int x2, .int x3, .int x4, .int x5, v6]) (st' := [.int x5, .int x2, .ref 9, .ref 54, .int (1 : Int32)]) (σ' := σ) 6 rfl ?_
  exact Wp.call (q := (171, 3, 9, 106)) rfl (Nat.le_of_ble_eq_true rfl) (px_okc_mk rfl rfl rfl (by simp only [List.all_cons, List.all_nil, nv6]; rfl)) h
theorem b168_106 {d : Nat} {Q : Option Value → px_S → Prop} {σ : px_S} {x1 x2 x3 x4 x5 s0 s2 : Int32} {v6 : Value} (c1 : vp_in s0 50625) (ht : x3 ≤ (s2 + (σ.1 54 (s0).toNatClampNeg)) → Wp d tb_168 121 [.ref 9, .int x1, .int x2, .int x3, .int x4, .int x5, .int (s2 + (σ.1 54 (s0).toNatClampNeg))] [] σ Q) (hf : ¬ (x3 ≤ (s2 + (σ.1 54 (s0).toNatClampNeg))) → Wp d tb_168 116 [.ref 9, .int x1, .int x2, .int x3, .int x4, .int x5, .int (s2 + (σ.1 54 (s0).toNatClampNeg))] [] σ Q) : Wp d tb_168 106 [.ref 9, .int x1, .int x2, .int x3, .int x4, .int x5, v6] [.int s0, .ref 54, .int s2] σ Q := by
  refine Wp.iald (N := 50625) rfl rfl c1 ?_
  refine Wp.adv (pc' := 113) (ls' := [.ref 9, .int x1, .int x2, .int x3, .int x4, .int x5, .int (s2 + (σ.1 54 (s0).toNatClampNeg))]) (st' := [.int x3, .int (s2 + (σ.1 54 (s0).toNatClampNeg))]) (σ' := σ) 4 rfl ?_
  exact Wp.icmp rfl ht hf
theorem b168_116 {d : Nat} {Q : Option Value → px_S → Prop} {σ : px_S} {x1 x2 x3 x4 x5 x6 : Int32} (h : Wp d tb_168 122 [.ref 9, .int x1, .int x2, .int x3, .int x4, .int x5, .int x6] [.int x6] σ Q) : Wp d tb_168 116 [.ref 9, .int x1, .int x2, .int x3, .int x4, .int x5, .int x6] [] σ Q := by
  refine Wp.adv (pc' := 122) (ls' := [.ref 9, .int x1, .int x2, .int x3, .int x4, .int x5, .int x6]) (st' := [.int x6]) (σ' := σ) 2 rfl ?_
  exact h
theorem b168_121 {d : Nat} {Q : Option Value → px_S → Prop} {σ : px_S} {x1 x2 x3 x4 x5 x6 : Int32} (h : Wp d tb_168 122 [.ref 9, .int x1, .int x2, .int x3, .int x4, .int x5, .int x6] [.int x3] σ Q) : Wp d tb_168 121 [.ref 9, .int x1, .int x2, .int x3, .int x4, .int x5, .int x6] [] σ Q := by
  refine Wp.adv (pc' := 122) (ls' := [.ref 9, .int x1, .int x2, .int x3, .int x4, .int x5, .int x6]) (st' := [.int x3]) (σ' := σ) 1 rfl ?_
  exact h
theorem b168_122 {d : Nat} {Q : Option Value → px_S → Prop} {σ : px_S} {x1 x2 x3 x4 x5 x6 s0 : Int32} (h : Wp d tb_168 123 [.ref 9, .int x1, .int x2, .int s0, .int x4, .int x5, .int x6] [] σ Q) : Wp d tb_168 122 [.ref 9, .int x1, .int x2, .int x3, .int x4, .int x5, .int x6] [.int s0] σ Q := by
  refine Wp.adv (pc' := 123) (ls' := [.ref 9, .int x1, .int x2, .int s0, .int x4, .int x5, .int x6]) (st' := []) (σ' := σ) 1 rfl ?_
  exact h
theorem b168_123 {d : Nat} {Q : Option Value → px_S → Prop} {σ : px_S} {x1 x2 x3 x4 x5 : Int32} {v6 : Value} (h : Wp d tb_168 69 [.ref 9, .int x1, .int x2, .int x3, .int (x4 + 1), .int x5, v6] [] σ Q) : Wp d tb_168 123 [.ref 9, .int x1, .int x2, .int x3, .int x4, .int x5, v6] [] σ Q := by
  refine Wp.adv (pc' := 69) (ls' := [.ref 9, .int x1, .int x2, .int x3, .int (x4 + 1), .int x5, v6]) (st' := []) (σ' := σ) 2 rfl ?_
  exact h
theorem b168_129 {d : Nat} {Q : Option Value → px_S → Prop} {σ : px_S} {x1 x2 x3 x4 : Int32} {v5 v6 : Value} (c1 : vp_in x2 50625) (h : Wp d tb_168 136 [.ref 9, .int x1, .int x2, .int x3, .int x4, v5, v6] [] (px_uI σ 54 (x2).toNatClampNeg x3) Q) : Wp d tb_168 129 [.ref 9, .int x1, .int x2, .int x3, .int x4, v5, v6] [] σ Q := by
  refine Wp.adv (pc' := 135) (ls' := [.ref 9, .int x1, .int x2, .int x3, .int x4, v5, v6]) (st' := [.int x3, .int x2, .ref 54]) (σ' := σ) 4 rfl ?_
  refine Wp.iast (N := 50625) rfl rfl c1 ?_
  exact h
theorem b168_136 {d : Nat} {Q : Option Value → px_S → Prop} {σ : px_S} {x1 x2 : Int32} {v3 v4 v5 v6 : Value} (h : Wp d tb_168 41 [.ref 9, .int x1, .int (x2 + (-1)), v3, v4, v5, v6] [] σ Q) : Wp d tb_168 136 [.ref 9, .int x1, .int x2, v3, v4, v5, v6] [] σ Q := by
  refine Wp.adv (pc' := 41) (ls' := [.ref 9, .int x1, .int (x2 + (-1)), v3, v4, v5, v6]) (st' := []) (σ' := σ) 2 rfl ?_
  exact h
theorem b168_142 {d : Nat} {Q : Option Value → px_S → Prop} {σ : px_S} {x1 x2 : Int32} {v3 v4 v5 v6 : Value} (h : Wp d tb_168 147 [.ref 9, .int x1, .int x2, v3, v4, v5, v6] [] (px_uI σ 9 25 (0 : Int32)) Q) : Wp d tb_168 142 [.ref 9, .int x1, .int x2, v3, v4, v5, v6] [] σ Q := by
  refine Wp.adv (pc' := 144) (ls' := [.ref 9, .int x1, .int x2, v3, v4, v5, v6]) (st' := [.int (0 : Int32), .ref 9]) (σ' := σ) 2 rfl ?_
  refine Wp.step (q := (147, [.ref 9, .int x1, .int x2, v3, v4, v5, v6], [], (px_uI σ 9 25 (0 : Int32)))) rfl rfl ?_
  exact h
theorem b168_147 {d : Nat} {Q : Option Value → px_S → Prop} {σ : px_S} {x1 x2 : Int32} {v3 v4 v5 v6 : Value} (h : Wp d tb_168 149 [.ref 9, .int x1, .int (0 : Int32), v3, v4, v5, v6] [] σ Q) : Wp d tb_168 147 [.ref 9, .int x1, .int x2, v3, v4, v5, v6] [] σ Q := by
  refine Wp.adv (pc' := 149) (ls' := [.ref 9, .int x1, .int (0 : Int32), v3, v4, v5, v6]) (st' := []) (σ' := σ) 2 rfl ?_
  exact h
theorem b168_149 {d : Nat} {Q : Option Value → px_S → Prop} {σ : px_S} {x1 x2 : Int32} {v3 v4 v5 v6 : Value} (ht : x2 = x1 → Wp d tb_168 271 [.ref 9, .int x1, .int x2, v3, v4, v5, v6] [] σ Q) (hf : ¬ (x2 = x1) → Wp d tb_168 154 [.ref 9, .int x1, .int x2, v3, v4, v5, v6] [] σ Q) : Wp d tb_168 149 [.ref 9, .int x1, .int x2, v3, v4, v5, v6] [] σ Q := by
  refine Wp.adv (pc' := 151) (ls' := [.ref 9, .int x1, .int x2, v3, v4, v5, v6]) (st' := [.int x1, .int x2]) (σ' := σ) 2 rfl ?_
  exact Wp.icmp rfl ht hf
theorem b168_154 {d : Nat} {Q : Option Value → px_S → Prop} {σ : px_S} {x1 x2 : Int32} {v3 v4 v5 v6 : Value} (h : Wp d tb_168 159 [.ref 9, .int x1, .int x2, .int (-1 : Int32), .int (0 : Int32), v5, v6] [] σ Q) : Wp d tb_168 154 [.ref 9, .int x1, .int x2, v3, v4, v5, v6] [] σ Q := by
  refine Wp.adv (pc' := 159) (ls' := [.ref 9, .int x1, .int x2, .int (-1 : Int32), .int (0 : Int32), v5, v6]) (st' := []) (σ' := σ) 4 rfl ?_
  exact h
theorem b168_159 {d : Nat} {Q : Option Value → px_S → Prop} {σ : px_S} {x1 x2 x3 x4 : Int32} {v5 v6 : Value} (ht : (4 : Int32) ≤ x4 → Wp d tb_168 241 [.ref 9, .int x1, .int x2, .int x3, .int x4, v5, v6] [] σ Q) (hf : ¬ ((4 : Int32) ≤ x4) → Wp d tb_168 165 [.ref 9, .int x1, .int x2, .int x3, .int x4, v5, v6] [] σ Q) : Wp d tb_168 159 [.ref 9, .int x1, .int x2, .int x3, .int x4, v5, v6] [] σ Q := by
  refine Wp.adv (pc' := 162) (ls' := [.ref 9, .int x1, .int x2, .int x3, .int x4, v5, v6]) (st' := [.int (4 : Int32), .int x4]) (σ' := σ) 2 rfl ?_
  exact Wp.icmp rfl ht hf
theorem b168_165 {d : Nat} {Q : Option Value → px_S → Prop} {σ : px_S} {x1 x2 x3 x4 : Int32} {v5 v6 : Value} (nv5 : px_nc v5 = true) (nv6 : px_nc v6 = true) (h : Cw d 170 [.ref 9, .int x4, .int x2] σ (fun r τ => Wp d tb_168 172 [.ref 9, .int x1, .int x2, .int x3, .int x4, v5, v6] (r.toList ++ []) τ Q)) : Wp d tb_168 165 [.ref 9, .int x1, .int x2, .int x3, .int x4, v5, v6] [] σ Q := by
  refine Wp.adv (pc' := 169) (ls' := [.ref 9, .int x1, .int x2, .int x3, .int x4, v5, v6]) (st' := [.int x2, .int x4, .ref 9]) (σ' := σ) 3 rfl ?_
  exact Wp.call (q := (170, 3, 9, 172)) rfl (Nat.le_of_ble_eq_true rfl) (px_okc_mk rfl rfl rfl (by simp only [List.all_cons, List.all_nil, nv5, nv6]; rfl)) h
theorem b168_172 {d : Nat} {Q : Option Value → px_S → Prop} {σ : px_S} {x1 x2 x3 x4 s0 : Int32} {v5 v6 : Value} (ht : s0 < 0 → Wp d tb_168 206 [.ref 9, .int x1, .int x2, .int x3, .int x4, .int s0, v6] [] σ Q) (hf : ¬ (s0 < 0) → Wp d tb_168 179 [.ref 9, .int x1, .int x2, .int x3, .int x4, .int s0, v6] [] σ Q) : Wp d tb_168 172 [.ref 9, .int x1, .int x2, .int x3, .int x4, v5, v6] [.int s0] σ Q := by
  refine Wp.adv (pc' := 176) (ls' := [.ref 9, .int x1, .int x2, .int x3, .int x4, .int s0, v6]) (st' := [.int s0]) (σ' := σ) 2 rfl ?_
  exact Wp.if_ rfl ht hf
theorem b168_179 {d : Nat} {Q : Option Value → px_S → Prop} {σ : px_S} {x1 x2 x3 x4 x5 : Int32} {v6 : Value} (nv6 : px_nc v6 = true) (h : Cw d 171 [.ref 9, .int x2, .int x5] σ (fun r τ => Wp d tb_168 191 [.ref 9, .int x1, .int x2, .int x3, .int x4, .int x5, v6] (r.toList ++ [.ref 54, .int (1 : Int32)]) τ Q)) : Wp d tb_168 179 [.ref 9, .int x1, .int x2, .int x3, .int x4, .int x5, v6] [] σ Q := by
  refine Wp.adv (pc' := 188) (ls' := [.ref 9, .int x1, .int x2, .int x3, .int x4, .int x5, v6]) (st' := [.int x5, .int x2, .ref 9, .ref 54, .int (1 : Int32)]) (σ' := σ) 6 rfl ?_
  exact Wp.call (q := (171, 3, 9, 191)) rfl (Nat.le_of_ble_eq_true rfl) (px_okc_mk rfl rfl rfl (by simp only [List.all_cons, List.all_nil, nv6]; rfl)) h
theorem b168_191 {d : Nat} {Q : Option Value → px_S → Prop} {σ : px_S} {x1 x2 x3 x4 x5 s0 s2 : Int32} {v6 : Value} (c1 : vp_in s0 50625) (c2 : vp_in x2 50625) (ht : ¬ (s2 + (σ.1 54 (s0).toNatClampNeg)) = (σ.1 54 (x2).toNatClampNeg) → Wp d tb_168 206 [.ref 9, .int x1, .int x2, .int x3, .int x4, .int x5, v6] [] σ Q) (hf : ¬ (¬ (s2 + (σ.1 54 (s0).toNatClampNeg)) = (σ.1 54 (x2).toNatClampNeg)) → Wp d tb_168 202 [.ref 9, .int x1, .int x2, .int x3, .int x4, .int x5, v6] [] σ Q) : Wp d tb_168 191 [.ref 9, .int x1, .int x2, .int x3, .int x4, .int x5, v6] [.int s0, .ref 54, .int s2] σ Q := by
  refine Wp.iald (N := 50625) rfl rfl c1 ?_
  refine Wp.adv (pc' := 198) (ls' := [.ref 9, .int x1, .int x2, .int x3, .int x4, .int x5, v6]) (st' := [.int x2, .ref 54, .int (s2 + (σ.1 54 (s0).toNatClampNeg))]) (σ' := σ) 4 rfl ?_
  refine Wp.iald (N := 50625) rfl rfl c2 ?_
  exact Wp.icmp rfl ht hf
theorem b168_202 {d : Nat} {Q : Option Value → px_S → Prop} {σ : px_S} {x1 x2 x3 x4 x5 : Int32} {v6 : Value} (h : Wp d tb_168 207 [.ref 9, .int x1, .int x2, .int x3, .int x4, .int x5, v6] [.int (1 : Int32)] σ Q) : Wp d tb_168 202 [.ref 9, .int x1, .int x2, .int x3, .int x4, .int x5, v6] [] σ Q := by
  refine Wp.adv (pc' := 207) (ls' := [.ref 9, .int x1, .int x2, .int x3, .int x4, .int x5, v6]) (st' := [.int (1 : Int32)]) (σ' := σ) 2 rfl ?_
  exact h
theorem b168_206 {d : Nat} {Q : Option Value → px_S → Prop} {σ : px_S} {x1 x2 x3 x4 x5 : Int32} {v6 : Value} (h : Wp d tb_168 207 [.ref 9, .int x1, .int x2, .int x3, .int x4, .int x5, v6] [.int (0 : Int32)] σ Q) : Wp d tb_168 206 [.ref 9, .int x1, .int x2, .int x3, .int x4, .int x5, v6] [] σ Q := by
  refine Wp.adv (pc' := 207) (ls' := [.ref 9, .int x1, .int x2, .int x3, .int x4, .int x5, v6]) (st' := [.int (0 : Int32)]) (σ' := σ) 1 rfl ?_
  exact h
theorem b168_207 {d : Nat} {Q : Option Value → px_S → Prop} {σ : px_S} {x1 x2 x3 x4 x5 s0 : Int32} {v6 : Value} (ht : s0 = 0 → Wp d tb_168 233 [.ref 9, .int x1, .int x2, .int x3, .int x4, .int x5, .int s0] [] σ Q) (hf : ¬ (s0 = 0) → Wp d tb_168 214 [.ref 9, .int x1, .int x2, .int x3, .int x4, .int x5, .int s0] [] σ Q) : Wp d tb_168 207 [.ref 9, .int x1, .int x2, .int x3, .int x4, .int x5, v6] [.int s0] σ Q := by
  refine Wp.adv (pc' := 211) (ls' := [.ref 9, .int x1, .int x2, .int x3, .int x4, .int x5, .int s0]) (st' := [.int s0]) (σ' := σ) 2 rfl ?_
  exact Wp.if_ rfl ht hf
theorem b168_214 {d : Nat} {Q : Option Value → px_S → Prop} {σ : px_S} {x1 x2 x3 x4 x5 x6 : Int32} (ht : x3 < 0 → Wp d tb_168 228 [.ref 9, .int x1, .int x2, .int x3, .int x4, .int x5, .int x6] [] σ Q) (hf : ¬ (x3 < 0) → Wp d tb_168 218 [.ref 9, .int x1, .int x2, .int x3, .int x4, .int x5, .int x6] [] σ Q) : Wp d tb_168 214 [.ref 9, .int x1, .int x2, .int x3, .int x4, .int x5, .int x6] [] σ Q := by
  refine Wp.adv (pc' := 215) (ls' := [.ref 9, .int x1, .int x2, .int x3, .int x4, .int x5, .int x6]) (st' := [.int x3]) (σ' := σ) 1 rfl ?_
  exact Wp.if_ rfl ht hf
theorem b168_218 {d : Nat} {Q : Option Value → px_S → Prop} {σ : px_S} {x1 x2 x3 x4 x5 x6 : Int32} (h : Cw d 173 [.ref 9, .int x5, .int x3] σ (fun r τ => Wp d tb_168 225 [.ref 9, .int x1, .int x2, .int x3, .int x4, .int x5, .int x6] (r.toList ++ []) τ Q)) : Wp d tb_168 218 [.ref 9, .int x1, .int x2, .int x3, .int x4, .int x5, .int x6] [] σ Q := by
  refine Wp.adv (pc' := 222) (ls' := [.ref 9, .int x1, .int x2, .int x3, .int x4, .int x5, .int x6]) (st' := [.int x3, .int x5, .ref 9]) (σ' := σ) 3 rfl ?_
  exact Wp.call (q := (173, 3, 9, 225)) rfl (Nat.le_of_ble_eq_true rfl) rfl h
theorem b168_225 {d : Nat} {Q : Option Value → px_S → Prop} {σ : px_S} {x1 x2 x3 x4 x5 x6 s0 : Int32} (ht : s0 = 0 → Wp d tb_168 233 [.ref 9, .int x1, .int x2, .int x3, .int x4, .int x5, .int x6] [] σ Q) (hf : ¬ (s0 = 0) → Wp d tb_168 228 [.ref 9, .int x1, .int x2, .int x3, .int x4, .int x5, .int x6] [] σ Q) : Wp d tb_168 225 [.ref 9, .int x1, .int x2, .int x3, .int x4, .int x5, .int x6] [.int s0] σ Q := by
  exact Wp.if_ rfl ht hf
theorem b168_228 {d : Nat} {Q : Option Value → px_S → Prop} {σ : px_S} {x1 x2 x3 x4 x5 x6 : Int32} (h : Wp d tb_168 234 [.ref 9, .int x1, .int x2, .int x3, .int x4, .int x5, .int x6] [.int x5] σ Q) : Wp d tb_168 228 [.ref 9, .int x1, .int x2, .int x3, .int x4, .int x5, .int x6] [] σ Q := by
  refine Wp.adv (pc' := 234) (ls' := [.ref 9, .int x1, .int x2, .int x3, .int x4, .int x5, .int x6]) (st' := [.int x5]) (σ' := σ) 2 rfl ?_
  exact h
theorem b168_233 {d : Nat} {Q : Option Value → px_S → Prop} {σ : px_S} {x1 x2 x3 x4 x5 x6 : Int32} (h : Wp d tb_168 234 [.ref 9, .int x1, .int x2, .int x3, .int x4, .int x5, .int x6] [.int x3] σ Q) : Wp d tb_168 233 [.ref 9, .int x1, .int x2, .int x3, .int x4, .int x5, .int x6] [] σ Q := by
  refine Wp.adv (pc' := 234) (ls' := [.ref 9, .int x1, .int x2, .int x3, .int x4, .int x5, .int x6]) (st' := [.int x3]) (σ' := σ) 1 rfl ?_
  exact h
theorem b168_234 {d : Nat} {Q : Option Value → px_S → Prop} {σ : px_S} {x1 x2 x3 x4 x5 x6 s0 : Int32} (h : Wp d tb_168 159 [.ref 9, .int x1, .int x2, .int s0, .int (x4 + 1), .int x5, .int x6] [] σ Q) : Wp d tb_168 234 [.ref 9, .int x1, .int x2, .int x3, .int x4, .int x5, .int x6] [.int s0] σ Q := by
  refine Wp.adv (pc' := 159) (ls' := [.ref 9, .int x1, .int x2, .int s0, .int (x4 + 1), .int x5, .int x6]) (st' := []) (σ' := σ) 3 rfl ?_
  exact h
theorem b168_241 {d : Nat} {Q : Option Value → px_S → Prop} {σ : px_S} {x1 x2 x3 x4 : Int32} {v5 v6 : Value} (c1 : vp_in (σ.1 9 25) 56) (h : Wp d tb_168 251 [.ref 9, .int x1, .int x2, .int x3, .int x4, v5, v6] [] (px_uI σ 55 ((σ.1 9 25)).toNatClampNeg x3) Q) : Wp d tb_168 241 [.ref 9, .int x1, .int x2, .int x3, .int x4, v5, v6] [] σ Q := by
  refine Wp.adv (pc' := 250) (ls' := [.ref 9, .int x1, .int x2, .int x3, .int x4, v5, v6]) (st' := [.int x3, .int (σ.1 9 25), .ref 55]) (σ' := σ) 5 rfl ?_
  refine Wp.iast (N := 56) rfl rfl c1 ?_
  exact h
theorem b168_251 {d : Nat} {Q : Option Value → px_S → Prop} {σ : px_S} {x1 x2 x3 x4 : Int32} {v5 v6 : Value} (h : Wp d tb_168 261 [.ref 9, .int x1, .int x2, .int x3, .int x4, v5, v6] [] (px_uI σ 9 25 ((σ.1 9 25) + (1 : Int32))) Q) : Wp d tb_168 251 [.ref 9, .int x1, .int x2, .int x3, .int x4, v5, v6] [] σ Q := by
  refine Wp.adv (pc' := 258) (ls' := [.ref 9, .int x1, .int x2, .int x3, .int x4, v5, v6]) (st' := [.int ((σ.1 9 25) + (1 : Int32)), .ref 9]) (σ' := σ) 5 rfl ?_
  refine Wp.step (q := (261, [.ref 9, .int x1, .int x2, .int x3, .int x4, v5, v6], [], (px_uI σ 9 25 ((σ.1 9 25) + (1 : Int32))))) rfl rfl ?_
  exact h
theorem b168_261 {d : Nat} {Q : Option Value → px_S → Prop} {σ : px_S} {x1 x2 x3 x4 : Int32} {v5 v6 : Value} (nv5 : px_nc v5 = true) (nv6 : px_nc v6 = true) (h : Cw d 171 [.ref 9, .int x2, .int x3] σ (fun r τ => Wp d tb_168 267 [.ref 9, .int x1, .int x2, .int x3, .int x4, v5, v6] (r.toList ++ []) τ Q)) : Wp d tb_168 261 [.ref 9, .int x1, .int x2, .int x3, .int x4, v5, v6] [] σ Q := by
  refine Wp.adv (pc' := 264) (ls' := [.ref 9, .int x1, .int x2, .int x3, .int x4, v5, v6]) (st' := [.int x3, .int x2, .ref 9]) (σ' := σ) 3 rfl ?_
  exact Wp.call (q := (171, 3, 9, 267)) rfl (Nat.le_of_ble_eq_true rfl) (px_okc_mk rfl rfl rfl (by simp only [List.all_cons, List.all_nil, nv5, nv6]; rfl)) h
theorem b168_267 {d : Nat} {Q : Option Value → px_S → Prop} {σ : px_S} {x1 x2 x3 x4 s0 : Int32} {v5 v6 : Value} (h : Wp d tb_168 149 [.ref 9, .int x1, .int s0, .int x3, .int x4, v5, v6] [] σ Q) : Wp d tb_168 267 [.ref 9, .int x1, .int x2, .int x3, .int x4, v5, v6] [.int s0] σ Q := by
  refine Wp.adv (pc' := 149) (ls' := [.ref 9, .int x1, .int s0, .int x3, .int x4, v5, v6]) (st' := []) (σ' := σ) 2 rfl ?_
  exact h
theorem b168_271 {d : Nat} {Q : Option Value → px_S → Prop} {σ : px_S} {x1 x2 : Int32} {v3 v4 v5 v6 : Value} (h : Q none σ) : Wp d tb_168 271 [.ref 9, .int x1, .int x2, v3, v4, v5, v6] [] σ Q := by
  exact Wp.ret rfl rfl h
theorem e168 {d : Nat} {Q : Option Value → px_S → Prop} {σ : px_S}  (h : Wp d tb_168 0 [.ref 9, .null, .null, .null, .null, .null, .null] [] σ Q) : Cw (d + 1) 168 [.ref 9] σ Q := Cw.of (nL := 7) (y := yX9_findRow) (cc := cX9_findRow) (rt := none) rfl (Nat.le_of_ble_eq_true rfl) h
theorem b169_0 {d : Nat} {Q : Option Value → px_S → Prop} {σ : px_S} {x1 : Int32} (c1 : vp_in (0 : Int32) 4) (ht : (σ.1 52 ((0 : Int32)).toNatClampNeg) < (x1 - x1 / (15 : Int32) * (15 : Int32)) → Wp d tb_169 64 [.ref 9, .int x1] [] σ Q) (hf : ¬ ((σ.1 52 ((0 : Int32)).toNatClampNeg) < (x1 - x1 / (15 : Int32) * (15 : Int32))) → Wp d tb_169 13 [.ref 9, .int x1] [] σ Q) : Wp d tb_169 0 [.ref 9, .int x1] [] σ Q := by
  refine Wp.adv (pc' := 3) (ls' := [.ref 9, .int x1]) (st' := [.int (15 : Int32), .int x1]) (σ' := σ) 2 rfl ?_
  refine Wp.binz rfl (by decide) ?_
  refine Wp.adv (pc' := 9) (ls' := [.ref 9, .int x1]) (st' := [.int (0 : Int32), .ref 52, .int (x1 - x1 / (15 : Int32) * (15 : Int32))]) (σ' := σ) 3 rfl ?_
  refine Wp.iald (N := 4) rfl rfl c1 ?_
  exact Wp.icmp rfl ht hf
theorem b169_13 {d : Nat} {Q : Option Value → px_S → Prop} {σ : px_S} {x1 : Int32} (c1 : vp_in (1 : Int32) 4) (ht : (σ.1 52 ((1 : Int32)).toNatClampNeg) < ((x1 / (15 : Int32)) - (x1 / (15 : Int32)) / (15 : Int32) * (15 : Int32)) → Wp d tb_169 64 [.ref 9, .int x1] [] σ Q) (hf : ¬ ((σ.1 52 ((1 : Int32)).toNatClampNeg) < ((x1 / (15 : Int32)) - (x1 / (15 : Int32)) / (15 : Int32) * (15 : Int32))) → Wp d tb_169 29 [.ref 9, .int x1] [] σ Q) : Wp d tb_169 13 [.ref 9, .int x1] [] σ Q := by
  refine Wp.adv (pc' := 16) (ls' := [.ref 9, .int x1]) (st' := [.int (15 : Int32), .int x1]) (σ' := σ) 2 rfl ?_
  refine Wp.binz rfl (by decide) ?_
  refine Wp.adv (pc' := 19) (ls' := [.ref 9, .int x1]) (st' := [.int (15 : Int32), .int (x1 / (15 : Int32))]) (σ' := σ) 1 rfl ?_
  refine Wp.binz rfl (by decide) ?_
  refine Wp.adv (pc' := 25) (ls' := [.ref 9, .int x1]) (st' := [.int (1 : Int32), .ref 52, .int ((x1 / (15 : Int32)) - (x1 / (15 : Int32)) / (15 : Int32) * (15 : Int32))]) (σ' := σ) 3 rfl ?_
  refine Wp.iald (N := 4) rfl rfl c1 ?_
  exact Wp.icmp rfl ht hf
theorem b169_29 {d : Nat} {Q : Option Value → px_S → Prop} {σ : px_S} {x1 : Int32} (c1 : vp_in (2 : Int32) 4) (ht : (σ.1 52 ((2 : Int32)).toNatClampNeg) < ((x1 / (225 : Int32)) - (x1 / (225 : Int32)) / (15 : Int32) * (15 : Int32)) → Wp d tb_169 64 [.ref 9, .int x1] [] σ Q) (hf : ¬ ((σ.1 52 ((2 : Int32)).toNatClampNeg) < ((x1 / (225 : Int32)) - (x1 / (225 : Int32)) / (15 : Int32) * (15 : Int32))) → Wp d tb_169 46 [.ref 9, .int x1] [] σ Q) : Wp d tb_169 29 [.ref 9, .int x1] [] σ Q := by
  refine Wp.adv (pc' := 33) (ls' := [.ref 9, .int x1]) (st' := [.int (225 : Int32), .int x1]) (σ' := σ) 2 rfl ?_
  refine Wp.binz rfl (by decide) ?_
  refine Wp.adv (pc' := 36) (ls' := [.ref 9, .int x1]) (st' := [.int (15 : Int32), .int (x1 / (225 : Int32))]) (σ' := σ) 1 rfl ?_
  refine Wp.binz rfl (by decide) ?_
  refine Wp.adv (pc' := 42) (ls' := [.ref 9, .int x1]) (st' := [.int (2 : Int32), .ref 52, .int ((x1 / (225 : Int32)) - (x1 / (225 : Int32)) / (15 : Int32) * (15 : Int32))]) (σ' := σ) 3 rfl ?_
  refine Wp.iald (N := 4) rfl rfl c1 ?_
  exact Wp.icmp rfl ht hf
theorem b169_46 {d : Nat} {Q : Option Value → px_S → Prop} {σ : px_S} {x1 : Int32} (c1 : vp_in (3 : Int32) 4) (ht : (σ.1 52 ((3 : Int32)).toNatClampNeg) < (x1 / (3375 : Int32)) → Wp d tb_169 64 [.ref 9, .int x1] [] σ Q) (hf : ¬ ((σ.1 52 ((3 : Int32)).toNatClampNeg) < (x1 / (3375 : Int32))) → Wp d tb_169 60 [.ref 9, .int x1] [] σ Q) : Wp d tb_169 46 [.ref 9, .int x1] [] σ Q := by
  refine Wp.adv (pc' := 50) (ls' := [.ref 9, .int x1]) (st' := [.int (3375 : Int32), .int x1]) (σ' := σ) 2 rfl ?_
  refine Wp.binz rfl (by decide) ?_
  refine Wp.adv (pc' := 56) (ls' := [.ref 9, .int x1]) (st' := [.int (3 : Int32), .ref 52, .int (x1 / (3375 : Int32))]) (σ' := σ) 3 rfl ?_
  refine Wp.iald (N := 4) rfl rfl c1 ?_
  exact Wp.icmp rfl ht hf
theorem b169_60 {d : Nat} {Q : Option Value → px_S → Prop} {σ : px_S} {x1 : Int32} (h : Wp d tb_169 65 [.ref 9, .int x1] [.int (1 : Int32)] σ Q) : Wp d tb_169 60 [.ref 9, .int x1] [] σ Q := by
  refine Wp.adv (pc' := 65) (ls' := [.ref 9, .int x1]) (st' := [.int (1 : Int32)]) (σ' := σ) 2 rfl ?_
  exact h
theorem b169_64 {d : Nat} {Q : Option Value → px_S → Prop} {σ : px_S} {x1 : Int32} (h : Wp d tb_169 65 [.ref 9, .int x1] [.int (0 : Int32)] σ Q) : Wp d tb_169 64 [.ref 9, .int x1] [] σ Q := by
  refine Wp.adv (pc' := 65) (ls' := [.ref 9, .int x1]) (st' := [.int (0 : Int32)]) (σ' := σ) 1 rfl ?_
  exact h
theorem b169_65 {d : Nat} {Q : Option Value → px_S → Prop} {σ : px_S} {x1 s0 : Int32} (c1 : s0 = 0 ∨ s0 = 1) (h : Q (some (.int s0)) σ) : Wp d tb_169 65 [.ref 9, .int x1] [.int s0] σ Q := by
  exact Wp.zret rfl c1 h
theorem e169 {d : Nat} {Q : Option Value → px_S → Prop} {σ : px_S} {x1 : Int32} (h : Wp d tb_169 0 [.ref 9, .int x1] [] σ Q) : Cw (d + 1) 169 [.ref 9, .int x1] σ Q := Cw.of (nL := 2) (y := yX9_isWithin) (cc := cX9_isWithin) (rt := some .boolean) rfl (Nat.le_of_ble_eq_true rfl) h
theorem b170_0 {d : Nat} {Q : Option Value → px_S → Prop} {σ : px_S} {x1 x2 : Int32} (ht : ¬ x1 = 0 → Wp d tb_170 11 [.ref 9, .int x1, .int x2, .null] [] σ Q) (hf : ¬ (¬ x1 = 0) → Wp d tb_170 4 [.ref 9, .int x1, .int x2, .null] [] σ Q) : Wp d tb_170 0 [.ref 9, .int x1, .int x2, .null] [] σ Q := by
  refine Wp.adv (pc' := 1) (ls' := [.ref 9, .int x1, .int x2, .null]) (st' := [.int x1]) (σ' := σ) 1 rfl ?_
  exact Wp.if_ rfl ht hf
theorem b170_4 {d : Nat} {Q : Option Value → px_S → Prop} {σ : px_S} {x1 x2 : Int32} (h : Wp d tb_170 47 [.ref 9, .int x1, .int x2, .null] [.int (x2 - x2 / (15 : Int32) * (15 : Int32))] σ Q) : Wp d tb_170 4 [.ref 9, .int x1, .int x2, .null] [] σ Q := by
  refine Wp.adv (pc' := 7) (ls' := [.ref 9, .int x1, .int x2, .null]) (st' := [.int (15 : Int32), .int x2]) (σ' := σ) 2 rfl ?_
  refine Wp.binz rfl (by decide) ?_
  refine Wp.adv (pc' := 47) (ls' := [.ref 9, .int x1, .int x2, .null]) (st' := [.int (x2 - x2 / (15 : Int32) * (15 : Int32))]) (σ' := σ) 1 rfl ?_
  exact h
theorem b170_11 {d : Nat} {Q : Option Value → px_S → Prop} {σ : px_S} {x1 x2 : Int32} (ht : ¬ x1 = (1 : Int32) → Wp d tb_170 26 [.ref 9, .int x1, .int x2, .null] [] σ Q) (hf : ¬ (¬ x1 = (1 : Int32)) → Wp d tb_170 16 [.ref 9, .int x1, .int x2, .null] [] σ Q) : Wp d tb_170 11 [.ref 9, .int x1, .int x2, .null] [] σ Q := by
  refine Wp.adv (pc' := 13) (ls' := [.ref 9, .int x1, .int x2, .null]) (st' := [.int (1 : Int32), .int x1]) (σ' := σ) 2 rfl ?_
  exact Wp.icmp rfl ht hf
theorem b170_16 {d : Nat} {Q : Option Value → px_S → Prop} {σ : px_S} {x1 x2 : Int32} (h : Wp d tb_170 47 [.ref 9, .int x1, .int x2, .null] [.int ((x2 / (15 : Int32)) - (x2 / (15 : Int32)) / (15 : Int32) * (15 : Int32))] σ Q) : Wp d tb_170 16 [.ref 9, .int x1, .int x2, .null] [] σ Q := by
  refine Wp.adv (pc' := 19) (ls' := [.ref 9, .int x1, .int x2, .null]) (st' := [.int (15 : Int32), .int x2]) (σ' := σ) 2 rfl ?_
  refine Wp.binz rfl (by decide) ?_
  refine Wp.adv (pc' := 22) (ls' := [.ref 9, .int x1, .int x2, .null]) (st' := [.int (15 : Int32), .int (x2 / (15 : Int32))]) (σ' := σ) 1 rfl ?_
  refine Wp.binz rfl (by decide) ?_
  refine Wp.adv (pc' := 47) (ls' := [.ref 9, .int x1, .int x2, .null]) (st' := [.int ((x2 / (15 : Int32)) - (x2 / (15 : Int32)) / (15 : Int32) * (15 : Int32))]) (σ' := σ) 1 rfl ?_
  exact h
theorem b170_26 {d : Nat} {Q : Option Value → px_S → Prop} {σ : px_S} {x1 x2 : Int32} (ht : ¬ x1 = (2 : Int32) → Wp d tb_170 42 [.ref 9, .int x1, .int x2, .null] [] σ Q) (hf : ¬ (¬ x1 = (2 : Int32)) → Wp d tb_170 31 [.ref 9, .int x1, .int x2, .null] [] σ Q) : Wp d tb_170 26 [.ref 9, .int x1, .int x2, .null] [] σ Q := by
  refine Wp.adv (pc' := 28) (ls' := [.ref 9, .int x1, .int x2, .null]) (st' := [.int (2 : Int32), .int x1]) (σ' := σ) 2 rfl ?_
  exact Wp.icmp rfl ht hf
theorem b170_31 {d : Nat} {Q : Option Value → px_S → Prop} {σ : px_S} {x1 x2 : Int32} (h : Wp d tb_170 47 [.ref 9, .int x1, .int x2, .null] [.int ((x2 / (225 : Int32)) - (x2 / (225 : Int32)) / (15 : Int32) * (15 : Int32))] σ Q) : Wp d tb_170 31 [.ref 9, .int x1, .int x2, .null] [] σ Q := by
  refine Wp.adv (pc' := 35) (ls' := [.ref 9, .int x1, .int x2, .null]) (st' := [.int (225 : Int32), .int x2]) (σ' := σ) 2 rfl ?_
  refine Wp.binz rfl (by decide) ?_
  refine Wp.adv (pc' := 38) (ls' := [.ref 9, .int x1, .int x2, .null]) (st' := [.int (15 : Int32), .int (x2 / (225 : Int32))]) (σ' := σ) 1 rfl ?_
  refine Wp.binz rfl (by decide) ?_
  refine Wp.adv (pc' := 47) (ls' := [.ref 9, .int x1, .int x2, .null]) (st' := [.int ((x2 / (225 : Int32)) - (x2 / (225 : Int32)) / (15 : Int32) * (15 : Int32))]) (σ' := σ) 1 rfl ?_
  exact h
theorem b170_42 {d : Nat} {Q : Option Value → px_S → Prop} {σ : px_S} {x1 x2 : Int32} (h : Wp d tb_170 47 [.ref 9, .int x1, .int x2, .null] [.int (x2 / (3375 : Int32))] σ Q) : Wp d tb_170 42 [.ref 9, .int x1, .int x2, .null] [] σ Q := by
  refine Wp.adv (pc' := 46) (ls' := [.ref 9, .int x1, .int x2, .null]) (st' := [.int (3375 : Int32), .int x2]) (σ' := σ) 2 rfl ?_
  refine Wp.binz rfl (by decide) ?_
  exact h
theorem b170_47 {d : Nat} {Q : Option Value → px_S → Prop} {σ : px_S} {x1 x2 s0 : Int32} (c1 : vp_in x1 4) (ht : (σ.1 52 (x1).toNatClampNeg) ≤ s0 → Wp d tb_170 72 [.ref 9, .int x1, .int x2, .int s0] [] σ Q) (hf : ¬ ((σ.1 52 (x1).toNatClampNeg) ≤ s0) → Wp d tb_170 58 [.ref 9, .int x1, .int x2, .int s0] [] σ Q) : Wp d tb_170 47 [.ref 9, .int x1, .int x2, .null] [.int s0] σ Q := by
  refine Wp.adv (pc' := 54) (ls' := [.ref 9, .int x1, .int x2, .int s0]) (st' := [.int x1, .ref 52, .int s0]) (σ' := σ) 5 rfl ?_
  refine Wp.iald (N := 4) rfl rfl c1 ?_
  exact Wp.icmp rfl ht hf
theorem b170_58 {d : Nat} {Q : Option Value → px_S → Prop} {σ : px_S} {x1 x2 x3 : Int32} (c1 : vp_in (((14 : Int32) * x1) + x3) 56) (h : Wp d tb_170 73 [.ref 9, .int x1, .int x2, .int x3] [.int (σ.1 53 ((((14 : Int32) * x1) + x3)).toNatClampNeg)] σ Q) : Wp d tb_170 58 [.ref 9, .int x1, .int x2, .int x3] [] σ Q := by
  refine Wp.adv (pc' := 68) (ls' := [.ref 9, .int x1, .int x2, .int x3]) (st' := [.int (((14 : Int32) * x1) + x3), .ref 53]) (σ' := σ) 7 rfl ?_
  refine Wp.iald (N := 56) rfl rfl c1 ?_
  refine Wp.adv (pc' := 73) (ls' := [.ref 9, .int x1, .int x2, .int x3]) (st' := [.int (σ.1 53 ((((14 : Int32) * x1) + x3)).toNatClampNeg)]) (σ' := σ) 1 rfl ?_
  exact h
theorem b170_72 {d : Nat} {Q : Option Value → px_S → Prop} {σ : px_S} {x1 x2 x3 : Int32} (h : Wp d tb_170 73 [.ref 9, .int x1, .int x2, .int x3] [.int (-1 : Int32)] σ Q) : Wp d tb_170 72 [.ref 9, .int x1, .int x2, .int x3] [] σ Q := by
  refine Wp.adv (pc' := 73) (ls' := [.ref 9, .int x1, .int x2, .int x3]) (st' := [.int (-1 : Int32)]) (σ' := σ) 1 rfl ?_
  exact h
theorem b170_73 {d : Nat} {Q : Option Value → px_S → Prop} {σ : px_S} {x1 x2 x3 s0 : Int32} (h : Q (some (.int s0)) σ) : Wp d tb_170 73 [.ref 9, .int x1, .int x2, .int x3] [.int s0] σ Q := by
  exact Wp.ret rfl rfl h
theorem e170 {d : Nat} {Q : Option Value → px_S → Prop} {σ : px_S} {x1 x2 : Int32} (h : Wp d tb_170 0 [.ref 9, .int x1, .int x2, .null] [] σ Q) : Cw (d + 1) 170 [.ref 9, .int x1, .int x2] σ Q := Cw.of (nL := 4) (y := yX9_textAt) (cc := cX9_textAt) (rt := some .int) rfl (Nat.le_of_ble_eq_true rfl) h
theorem b171_0 {d : Nat} {Q : Option Value → px_S → Prop} {σ : px_S} {x1 x2 : Int32} (h : Wp d tb_171 5 [.ref 9, .int x1, .int x2, .int x1, .int (0 : Int32), .null] [] σ Q) : Wp d tb_171 0 [.ref 9, .int x1, .int x2, .null, .null, .null] [] σ Q := by
  refine Wp.adv (pc' := 5) (ls' := [.ref 9, .int x1, .int x2, .int x1, .int (0 : Int32), .null]) (st' := []) (σ' := σ) 4 rfl ?_
  exact h
theorem b171_5 {d : Nat} {Q : Option Value → px_S → Prop} {σ : px_S} {x1 x2 x3 x4 : Int32} {v5 : Value} (ht : (4 : Int32) ≤ x4 → Wp d tb_171 53 [.ref 9, .int x1, .int x2, .int x3, .int x4, v5] [] σ Q) (hf : ¬ ((4 : Int32) ≤ x4) → Wp d tb_171 11 [.ref 9, .int x1, .int x2, .int x3, .int x4, v5] [] σ Q) : Wp d tb_171 5 [.ref 9, .int x1, .int x2, .int x3, .int x4, v5] [] σ Q := by
  refine Wp.adv (pc' := 8) (ls' := [.ref 9, .int x1, .int x2, .int x3, .int x4, v5]) (st' := [.int (4 : Int32), .int x4]) (σ' := σ) 2 rfl ?_
  exact Wp.icmp rfl ht hf
theorem b171_11 {d : Nat} {Q : Option Value → px_S → Prop} {σ : px_S} {x1 x2 x3 x4 : Int32} {v5 : Value} (nv5 : px_nc v5 = true) (h : Cw d 170 [.ref 9, .int x4, .int x1] σ (fun r τ => Wp d tb_171 18 [.ref 9, .int x1, .int x2, .int x3, .int x4, v5] (r.toList ++ []) τ Q)) : Wp d tb_171 11 [.ref 9, .int x1, .int x2, .int x3, .int x4, v5] [] σ Q := by
  refine Wp.adv (pc' := 15) (ls' := [.ref 9, .int x1, .int x2, .int x3, .int x4, v5]) (st' := [.int x1, .int x4, .ref 9]) (σ' := σ) 3 rfl ?_
  exact Wp.call (q := (170, 3, 9, 18)) rfl (Nat.le_of_ble_eq_true rfl) (px_okc_mk rfl rfl rfl (by simp only [List.all_cons, List.all_nil, nv5]; rfl)) h
theorem b171_18 {d : Nat} {Q : Option Value → px_S → Prop} {σ : px_S} {x1 x2 x3 x4 s0 : Int32} {v5 : Value} (ht : s0 < 0 → Wp d tb_171 44 [.ref 9, .int x1, .int x2, .int x3, .int x4, .int s0] [.int x3] σ Q) (hf : ¬ (s0 < 0) → Wp d tb_171 26 [.ref 9, .int x1, .int x2, .int x3, .int x4, .int s0] [.int x3] σ Q) : Wp d tb_171 18 [.ref 9, .int x1, .int x2, .int x3, .int x4, v5] [.int s0] σ Q := by
  refine Wp.adv (pc' := 23) (ls' := [.ref 9, .int x1, .int x2, .int x3, .int x4, .int s0]) (st' := [.int s0, .int x3]) (σ' := σ) 3 rfl ?_
  exact Wp.if_ rfl ht hf
theorem b171_26 {d : Nat} {Q : Option Value → px_S → Prop} {σ : px_S} {x1 x2 x3 x4 x5 s0 : Int32} (h : Cw d 157 [.ref 9, .int x5, .int x2] σ (fun r τ => Wp d tb_171 33 [.ref 9, .int x1, .int x2, .int x3, .int x4, .int x5] (r.toList ++ [.int s0]) τ Q)) : Wp d tb_171 26 [.ref 9, .int x1, .int x2, .int x3, .int x4, .int x5] [.int s0] σ Q := by
  refine Wp.adv (pc' := 30) (ls' := [.ref 9, .int x1, .int x2, .int x3, .int x4, .int x5]) (st' := [.int x2, .int x5, .ref 9, .int s0]) (σ' := σ) 3 rfl ?_
  exact Wp.call (q := (157, 3, 9, 33)) rfl (Nat.le_of_ble_eq_true rfl) rfl h
theorem b171_33 {d : Nat} {Q : Option Value → px_S → Prop} {σ : px_S} {x1 x2 x3 x4 x5 s0 s1 : Int32} (ht : s0 = 0 → Wp d tb_171 44 [.ref 9, .int x1, .int x2, .int x3, .int x4, .int x5] [.int s1] σ Q) (hf : ¬ (s0 = 0) → Wp d tb_171 36 [.ref 9, .int x1, .int x2, .int x3, .int x4, .int x5] [.int s1] σ Q) : Wp d tb_171 33 [.ref 9, .int x1, .int x2, .int x3, .int x4, .int x5] [.int s0, .int s1] σ Q := by
  exact Wp.if_ rfl ht hf
theorem b171_36 {d : Nat} {Q : Option Value → px_S → Prop} {σ : px_S} {x1 x2 x3 x4 x5 s0 : Int32} (h : Cw d 172 [.int x4] σ (fun r τ => Wp d tb_171 41 [.ref 9, .int x1, .int x2, .int x3, .int x4, .int x5] (r.toList ++ [.int s0]) τ Q)) : Wp d tb_171 36 [.ref 9, .int x1, .int x2, .int x3, .int x4, .int x5] [.int s0] σ Q := by
  refine Wp.adv (pc' := 38) (ls' := [.ref 9, .int x1, .int x2, .int x3, .int x4, .int x5]) (st' := [.int x4, .int s0]) (σ' := σ) 1 rfl ?_
  exact Wp.call (q := (172, 1, 0, 41)) rfl (Nat.le_of_ble_eq_true rfl) rfl h
theorem b171_41 {d : Nat} {Q : Option Value → px_S → Prop} {σ : px_S} {x1 x2 x3 x4 x5 s0 s1 : Int32} (h : Wp d tb_171 45 [.ref 9, .int x1, .int x2, .int x3, .int x4, .int x5] [.int s0, .int s1] σ Q) : Wp d tb_171 41 [.ref 9, .int x1, .int x2, .int x3, .int x4, .int x5] [.int s0, .int s1] σ Q := by
  refine Wp.adv (pc' := 45) (ls' := [.ref 9, .int x1, .int x2, .int x3, .int x4, .int x5]) (st' := [.int s0, .int s1]) (σ' := σ) 1 rfl ?_
  exact h
theorem b171_44 {d : Nat} {Q : Option Value → px_S → Prop} {σ : px_S} {x1 x2 x3 x4 x5 s0 : Int32} (h : Wp d tb_171 45 [.ref 9, .int x1, .int x2, .int x3, .int x4, .int x5] [.int (0 : Int32), .int s0] σ Q) : Wp d tb_171 44 [.ref 9, .int x1, .int x2, .int x3, .int x4, .int x5] [.int s0] σ Q := by
  refine Wp.adv (pc' := 45) (ls' := [.ref 9, .int x1, .int x2, .int x3, .int x4, .int x5]) (st' := [.int (0 : Int32), .int s0]) (σ' := σ) 1 rfl ?_
  exact h
theorem b171_45 {d : Nat} {Q : Option Value → px_S → Prop} {σ : px_S} {x1 x2 x3 x4 x5 s0 s1 : Int32} (h : Wp d tb_171 5 [.ref 9, .int x1, .int x2, .int (s1 + s0), .int (x4 + 1), .int x5] [] σ Q) : Wp d tb_171 45 [.ref 9, .int x1, .int x2, .int x3, .int x4, .int x5] [.int s0, .int s1] σ Q := by
  refine Wp.adv (pc' := 5) (ls' := [.ref 9, .int x1, .int x2, .int (s1 + s0), .int (x4 + 1), .int x5]) (st' := []) (σ' := σ) 4 rfl ?_
  exact h
theorem b171_53 {d : Nat} {Q : Option Value → px_S → Prop} {σ : px_S} {x1 x2 x3 x4 : Int32} {v5 : Value} (h : Q (some (.int x3)) σ) : Wp d tb_171 53 [.ref 9, .int x1, .int x2, .int x3, .int x4, v5] [] σ Q := by
  refine Wp.adv (pc' := 54) (ls' := [.ref 9, .int x1, .int x2, .int x3, .int x4, v5]) (st' := [.int x3]) (σ' := σ) 1 rfl ?_
  exact Wp.ret rfl rfl h
theorem e171 {d : Nat} {Q : Option Value → px_S → Prop} {σ : px_S} {x1 x2 : Int32} (h : Wp d tb_171 0 [.ref 9, .int x1, .int x2, .null, .null, .null] [] σ Q) : Cw (d + 1) 171 [.ref 9, .int x1, .int x2] σ Q := Cw.of (nL := 6) (y := yX9_behind) (cc := cX9_behind) (rt := some .int) rfl (Nat.le_of_ble_eq_true rfl) h
theorem b172_0 {d : Nat} {Q : Option Value → px_S → Prop} {σ : px_S} {x0 : Int32} (ht : ¬ x0 = 0 → Wp d tb_172 8 [.int x0] [] σ Q) (hf : ¬ (¬ x0 = 0) → Wp d tb_172 4 [.int x0] [] σ Q) : Wp d tb_172 0 [.int x0] [] σ Q := by
  refine Wp.adv (pc' := 1) (ls' := [.int x0]) (st' := [.int x0]) (σ' := σ) 1 rfl ?_
  exact Wp.if_ rfl ht hf
theorem b172_4 {d : Nat} {Q : Option Value → px_S → Prop} {σ : px_S} {x0 : Int32} (h : Wp d tb_172 32 [.int x0] [.int (1 : Int32)] σ Q) : Wp d tb_172 4 [.int x0] [] σ Q := by
  refine Wp.adv (pc' := 32) (ls' := [.int x0]) (st' := [.int (1 : Int32)]) (σ' := σ) 2 rfl ?_
  exact h
theorem b172_8 {d : Nat} {Q : Option Value → px_S → Prop} {σ : px_S} {x0 : Int32} (ht : ¬ x0 = (1 : Int32) → Wp d tb_172 18 [.int x0] [] σ Q) (hf : ¬ (¬ x0 = (1 : Int32)) → Wp d tb_172 13 [.int x0] [] σ Q) : Wp d tb_172 8 [.int x0] [] σ Q := by
  refine Wp.adv (pc' := 10) (ls' := [.int x0]) (st' := [.int (1 : Int32), .int x0]) (σ' := σ) 2 rfl ?_
  exact Wp.icmp rfl ht hf
theorem b172_13 {d : Nat} {Q : Option Value → px_S → Prop} {σ : px_S} {x0 : Int32} (h : Wp d tb_172 32 [.int x0] [.int (15 : Int32)] σ Q) : Wp d tb_172 13 [.int x0] [] σ Q := by
  refine Wp.adv (pc' := 32) (ls' := [.int x0]) (st' := [.int (15 : Int32)]) (σ' := σ) 2 rfl ?_
  exact h
theorem b172_18 {d : Nat} {Q : Option Value → px_S → Prop} {σ : px_S} {x0 : Int32} (ht : ¬ x0 = (2 : Int32) → Wp d tb_172 29 [.int x0] [] σ Q) (hf : ¬ (¬ x0 = (2 : Int32)) → Wp d tb_172 23 [.int x0] [] σ Q) : Wp d tb_172 18 [.int x0] [] σ Q := by
  refine Wp.adv (pc' := 20) (ls' := [.int x0]) (st' := [.int (2 : Int32), .int x0]) (σ' := σ) 2 rfl ?_
  exact Wp.icmp rfl ht hf
theorem b172_23 {d : Nat} {Q : Option Value → px_S → Prop} {σ : px_S} {x0 : Int32} (h : Wp d tb_172 32 [.int x0] [.int (225 : Int32)] σ Q) : Wp d tb_172 23 [.int x0] [] σ Q := by
  refine Wp.adv (pc' := 32) (ls' := [.int x0]) (st' := [.int (225 : Int32)]) (σ' := σ) 2 rfl ?_
  exact h
theorem b172_29 {d : Nat} {Q : Option Value → px_S → Prop} {σ : px_S} {x0 : Int32} (h : Wp d tb_172 32 [.int x0] [.int (3375 : Int32)] σ Q) : Wp d tb_172 29 [.int x0] [] σ Q := by
  refine Wp.adv (pc' := 32) (ls' := [.int x0]) (st' := [.int (3375 : Int32)]) (σ' := σ) 1 rfl ?_
  exact h
theorem b172_32 {d : Nat} {Q : Option Value → px_S → Prop} {σ : px_S} {x0 s0 : Int32} (h : Q (some (.int s0)) σ) : Wp d tb_172 32 [.int x0] [.int s0] σ Q := by
  exact Wp.ret rfl rfl h
theorem e172 {d : Nat} {Q : Option Value → px_S → Prop} {σ : px_S} {x0 : Int32} (h : Wp d tb_172 0 [.int x0] [] σ Q) : Cw (d + 1) 172 [.int x0] σ Q := Cw.of (nL := 1) (y := yX9_step) (cc := cX9_step) (rt := some .int) rfl (Nat.le_of_ble_eq_true rfl) h
