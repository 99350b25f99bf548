/-! ===== basic blocks, 4 ===== -/
theorem b131_90 {d : Nat} {Q : Option Value → px_S → Prop} {σ : px_S} {x1 x2 x3 : Int32} (c1 : vp_in (σ.1 9 1) 40) (h : Wp d tb_131 100 [.ref 9, .int x1, .int x2, .int x3] [] (px_uI σ 41 ((σ.1 9 1)).toNatClampNeg (0 : Int32)) Q) : Wp d tb_131 90 [.ref 9, .int x1, .int x2, .int x3] [] σ Q := by
  refine Wp.adv (pc' := 99) (ls' := [.ref 9, .int x1, .int x2, .int x3]) (st' := [.int (0 : Int32), .int (σ.1 9 1), .ref 41]) (σ' := σ) 5 rfl ?_
  refine Wp.iast (N := 40) rfl rfl c1 ?_
  exact h
theorem b131_100 {d : Nat} {Q : Option Value → px_S → Prop} {σ : px_S} {x1 x2 x3 : Int32} (c1 : vp_in (σ.1 9 1) 40) (h : Wp d tb_131 110 [.ref 9, .int x1, .int x2, .int x3] [] (px_uI σ 42 ((σ.1 9 1)).toNatClampNeg (0 : Int32)) Q) : Wp d tb_131 100 [.ref 9, .int x1, .int x2, .int x3] [] σ Q := by
  refine Wp.adv (pc' := 109) (ls' := [.ref 9, .int x1, .int x2, .int x3]) (st' := [.int (0 : Int32), .int (σ.1 9 1), .ref 42]) (σ' := σ) 5 rfl ?_
  refine Wp.zast (N := 40) rfl rfl (by decide) c1 ?_
  exact h
theorem b131_110 {d : Nat} {Q : Option Value → px_S → Prop} {σ : px_S} {x1 x2 x3 : Int32} (h : Wp d tb_131 120 [.ref 9, .int x1, .int x2, .int x3] [] (px_uI σ 9 1 ((σ.1 9 1) + (1 : Int32))) Q) : Wp d tb_131 110 [.ref 9, .int x1, .int x2, .int x3] [] σ Q := by
  refine Wp.adv (pc' := 117) (ls' := [.ref 9, .int x1, .int x2, .int x3]) (st' := [.int ((σ.1 9 1) + (1 : Int32)), .ref 9]) (σ' := σ) 5 rfl ?_
  refine Wp.step (q := (120, [.ref 9, .int x1, .int x2, .int x3], [], (px_uI σ 9 1 ((σ.1 9 1) + (1 : Int32))))) rfl rfl ?_
  exact h
theorem b131_120 {d : Nat} {Q : Option Value → px_S → Prop} {σ : px_S} {x1 x2 x3 : Int32} (h : Q (some (.int ((σ.1 9 1) - (1 : Int32)))) σ) : Wp d tb_131 120 [.ref 9, .int x1, .int x2, .int x3] [] σ Q := by
  refine Wp.adv (pc' := 126) (ls' := [.ref 9, .int x1, .int x2, .int x3]) (st' := [.int ((σ.1 9 1) - (1 : Int32))]) (σ' := σ) 4 rfl ?_
  exact Wp.ret rfl rfl h
theorem e131 {d : Nat} {Q : Option Value → px_S → Prop} {σ : px_S} {x1 x2 x3 : Int32} (h : Wp d tb_131 0 [.ref 9, .int x1, .int x2, .int x3] [] σ Q) : Cw (d + 1) 131 [.ref 9, .int x1, .int x2, .int x3] σ Q := Cw.of (nL := 4) (y := yX9_letter) (cc := cX9_letter) (rt := some .int) rfl (Nat.le_of_ble_eq_true rfl) h
theorem b132_0 {d : Nat} {Q : Option Value → px_S → Prop} {σ : px_S} {x1 : Int32} (h : Cw d 130 [.long (x1).toInt64, .long (0 : Int64), .long (((σ.1 9 1) - (1 : Int32))).toInt64] σ (fun r τ => Wp d tb_132 13 [.ref 9, .int x1] (r.toList ++ []) τ Q)) : Wp d tb_132 0 [.ref 9, .int x1] [] σ Q := by
  refine Wp.adv (pc' := 10) (ls' := [.ref 9, .int x1]) (st' := [.long (((σ.1 9 1) - (1 : Int32))).toInt64, .long (0 : Int64), .long (x1).toInt64]) (σ' := σ) 8 rfl ?_
  exact Wp.call (q := (130, 3, 0, 13)) rfl (Nat.le_of_ble_eq_true rfl) rfl h
theorem b132_13 {d : Nat} {Q : Option Value → px_S → Prop} {σ : px_S} {x1 s0 : Int32} (ht : ¬ s0 = 0 → Wp d tb_132 20 [.ref 9, .int x1] [] σ Q) (hf : ¬ (¬ s0 = 0) → Wp d tb_132 16 [.ref 9, .int x1] [] σ Q) : Wp d tb_132 13 [.ref 9, .int x1] [.int s0] σ Q := by
  exact Wp.if_ rfl ht hf
theorem b132_16 {d : Nat} {Q : Option Value → px_S → Prop} {σ : px_S} {x1 : Int32} (h : Wp d tb_132 21 [.ref 9, .int x1] [.int (1 : Int32)] σ Q) : Wp d tb_132 16 [.ref 9, .int x1] [] σ Q := by
  refine Wp.adv (pc' := 21) (ls' := [.ref 9, .int x1]) (st' := [.int (1 : Int32)]) (σ' := σ) 2 rfl ?_
  exact h
theorem b132_20 {d : Nat} {Q : Option Value → px_S → Prop} {σ : px_S} {x1 : Int32} (h : Wp d tb_132 21 [.ref 9, .int x1] [.int (0 : Int32)] σ Q) : Wp d tb_132 20 [.ref 9, .int x1] [] σ Q := by
  refine Wp.adv (pc' := 21) (ls' := [.ref 9, .int x1]) (st' := [.int (0 : Int32)]) (σ' := σ) 1 rfl ?_
  exact h
theorem b132_21 {d : Nat} {Q : Option Value → px_S → Prop} {σ : px_S} {x1 s0 : Int32} (c1 : s0 = 0 ∨ s0 = 1) (h : Q (some (.int s0)) σ) : Wp d tb_132 21 [.ref 9, .int x1] [.int s0] σ Q := by
  exact Wp.zret rfl c1 h
theorem e132 {d : Nat} {Q : Option Value → px_S → Prop} {σ : px_S} {x1 : Int32} (h : Wp d tb_132 0 [.ref 9, .int x1] [] σ Q) : Cw (d + 1) 132 [.ref 9, .int x1] σ Q := Cw.of (nL := 2) (y := yX9_noLetter) (cc := cX9_noLetter) (rt := some .boolean) rfl (Nat.le_of_ble_eq_true rfl) h
theorem b133_0 {d : Nat} {Q : Option Value → px_S → Prop} {σ : px_S} {x1 x2 : Int32} (h : Cw d 132 [.ref 9, .int x1] σ (fun r τ => Wp d tb_133 5 [.ref 9, .int x1, .int x2, .null, .null] (r.toList ++ []) τ Q)) : Wp d tb_133 0 [.ref 9, .int x1, .int x2, .null, .null] [] σ Q := by
  refine Wp.adv (pc' := 2) (ls' := [.ref 9, .int x1, .int x2, .null, .null]) (st' := [.int x1, .ref 9]) (σ' := σ) 2 rfl ?_
  exact Wp.call (q := (132, 2, 9, 5)) rfl (Nat.le_of_ble_eq_true rfl) rfl h
theorem b133_5 {d : Nat} {Q : Option Value → px_S → Prop} {σ : px_S} {x1 x2 s0 : Int32} (ht : s0 = 0 → Wp d tb_133 12 [.ref 9, .int x1, .int x2, .null, .null] [] σ Q) (hf : ¬ (s0 = 0) → Wp d tb_133 8 [.ref 9, .int x1, .int x2, .null, .null] [] σ Q) : Wp d tb_133 5 [.ref 9, .int x1, .int x2, .null, .null] [.int s0] σ Q := by
  exact Wp.if_ rfl ht hf
theorem b133_8 {d : Nat} {Q : Option Value → px_S → Prop} {σ : px_S} {x1 x2 : Int32} (h : Q (some (.int (-1001 : Int32))) σ) : Wp d tb_133 8 [.ref 9, .int x1, .int x2, .null, .null] [] σ Q := by
  refine Wp.adv (pc' := 11) (ls' := [.ref 9, .int x1, .int x2, .null, .null]) (st' := [.int (-1001 : Int32)]) (σ' := σ) 1 rfl ?_
  exact Wp.ret rfl rfl h
theorem b133_12 {d : Nat} {Q : Option Value → px_S → Prop} {σ : px_S} {x1 x2 : Int32} (h : Cw d 130 [.long (x2).toInt64, .long (0 : Int64), .long (5 : Int64)] σ (fun r τ => Wp d tb_133 21 [.ref 9, .int x1, .int x2, .null, .null] (r.toList ++ []) τ Q)) : Wp d tb_133 12 [.ref 9, .int x1, .int x2, .null, .null] [] σ Q := by
  refine Wp.adv (pc' := 18) (ls' := [.ref 9, .int x1, .int x2, .null, .null]) (st' := [.long (5 : Int64), .long (0 : Int64), .long (x2).toInt64]) (σ' := σ) 4 rfl ?_
  exact Wp.call (q := (130, 3, 0, 21)) rfl (Nat.le_of_ble_eq_true rfl) rfl h
theorem b133_21 {d : Nat} {Q : Option Value → px_S → Prop} {σ : px_S} {x1 x2 s0 : Int32} (ht : ¬ s0 = 0 → Wp d tb_133 28 [.ref 9, .int x1, .int x2, .null, .null] [] σ Q) (hf : ¬ (¬ s0 = 0) → Wp d tb_133 24 [.ref 9, .int x1, .int x2, .null, .null] [] σ Q) : Wp d tb_133 21 [.ref 9, .int x1, .int x2, .null, .null] [.int s0] σ Q := by
  exact Wp.if_ rfl ht hf
theorem b133_24 {d : Nat} {Q : Option Value → px_S → Prop} {σ : px_S} {x1 x2 : Int32} (h : Q (some (.int (-1002 : Int32))) σ) : Wp d tb_133 24 [.ref 9, .int x1, .int x2, .null, .null] [] σ Q := by
  refine Wp.adv (pc' := 27) (ls' := [.ref 9, .int x1, .int x2, .null, .null]) (st' := [.int (-1002 : Int32)]) (σ' := σ) 1 rfl ?_
  exact Wp.ret rfl rfl h
theorem b133_28 {d : Nat} {Q : Option Value → px_S → Prop} {σ : px_S} {x1 x2 : Int32} (c1 : vp_in x1 40) (ht : ¬ (σ.1 41 (x1).toNatClampNeg) = (14 : Int32) → Wp d tb_133 43 [.ref 9, .int x1, .int x2, .null, .null] [] σ Q) (hf : ¬ (¬ (σ.1 41 (x1).toNatClampNeg) = (14 : Int32)) → Wp d tb_133 39 [.ref 9, .int x1, .int x2, .null, .null] [] σ Q) : Wp d tb_133 28 [.ref 9, .int x1, .int x2, .null, .null] [] σ Q := by
  refine Wp.adv (pc' := 33) (ls' := [.ref 9, .int x1, .int x2, .null, .null]) (st' := [.int x1, .ref 41]) (σ' := σ) 3 rfl ?_
  refine Wp.iald (N := 40) rfl rfl c1 ?_
  refine Wp.adv (pc' := 36) (ls' := [.ref 9, .int x1, .int x2, .null, .null]) (st' := [.int (14 : Int32), .int (σ.1 41 (x1).toNatClampNeg)]) (σ' := σ) 1 rfl ?_
  exact Wp.icmp rfl ht hf
theorem b133_39 {d : Nat} {Q : Option Value → px_S → Prop} {σ : px_S} {x1 x2 : Int32} (h : Q (some (.int (-1004 : Int32))) σ) : Wp d tb_133 39 [.ref 9, .int x1, .int x2, .null, .null] [] σ Q := by
  refine Wp.adv (pc' := 42) (ls' := [.ref 9, .int x1, .int x2, .null, .null]) (st' := [.int (-1004 : Int32)]) (σ' := σ) 1 rfl ?_
  exact Wp.ret rfl rfl h
theorem b133_43 {d : Nat} {Q : Option Value → px_S → Prop} {σ : px_S} {x1 x2 : Int32} (c1 : vp_in x1 40) (c2 : vp_in (((14 : Int32) * x1) + (σ.1 41 (x1).toNatClampNeg)) 560) (h : Wp d tb_133 62 [.ref 9, .int x1, .int x2, .int (((14 : Int32) * x1) + (σ.1 41 (x1).toNatClampNeg)), .null] [] (px_uI σ 43 ((((14 : Int32) * x1) + (σ.1 41 (x1).toNatClampNeg))).toNatClampNeg x2) Q) : Wp d tb_133 43 [.ref 9, .int x1, .int x2, .null, .null] [] σ Q := by
  refine Wp.adv (pc' := 52) (ls' := [.ref 9, .int x1, .int x2, .null, .null]) (st' := [.int x1, .ref 41, .int ((14 : Int32) * x1)]) (σ' := σ) 6 rfl ?_
  refine Wp.iald (N := 40) rfl rfl c1 ?_
  refine Wp.adv (pc' := 61) (ls' := [.ref 9, .int x1, .int x2, .int (((14 : Int32) * x1) + (σ.1 41 (x1).toNatClampNeg)), .null]) (st' := [.int x2, .int (((14 : Int32) * x1) + (σ.1 41 (x1).toNatClampNeg)), .ref 43]) (σ' := σ) 6 rfl ?_
  refine Wp.iast (N := 560) rfl rfl c2 ?_
  exact h
theorem b133_62 {d : Nat} {Q : Option Value → px_S → Prop} {σ : px_S} {x1 x2 x3 : Int32} (c1 : vp_in x3 560) (h : Wp d tb_133 72 [.ref 9, .int x1, .int x2, .int x3, .null] [] (px_uI σ 44 (x3).toNatClampNeg (σ.1 9 10)) Q) : Wp d tb_133 62 [.ref 9, .int x1, .int x2, .int x3, .null] [] σ Q := by
  refine Wp.adv (pc' := 71) (ls' := [.ref 9, .int x1, .int x2, .int x3, .null]) (st' := [.int (σ.1 9 10), .int x3, .ref 44]) (σ' := σ) 5 rfl ?_
  refine Wp.iast (N := 560) rfl rfl c1 ?_
  exact h
theorem b133_72 {d : Nat} {Q : Option Value → px_S → Prop} {σ : px_S} {x1 x2 x3 : Int32} (h : Wp d tb_133 75 [.ref 9, .int x1, .int x2, .int x3, .int (0 : Int32)] [] σ Q) : Wp d tb_133 72 [.ref 9, .int x1, .int x2, .int x3, .null] [] σ Q := by
  refine Wp.adv (pc' := 75) (ls' := [.ref 9, .int x1, .int x2, .int x3, .int (0 : Int32)]) (st' := []) (σ' := σ) 2 rfl ?_
  exact h
theorem b133_75 {d : Nat} {Q : Option Value → px_S → Prop} {σ : px_S} {x1 x2 x3 x4 : Int32} (ht : (σ.1 9 10) ≤ x4 → Wp d tb_133 109 [.ref 9, .int x1, .int x2, .int x3, .int x4] [] σ Q) (hf : ¬ ((σ.1 9 10) ≤ x4) → Wp d tb_133 84 [.ref 9, .int x1, .int x2, .int x3, .int x4] [] σ Q) : Wp d tb_133 75 [.ref 9, .int x1, .int x2, .int x3, .int x4] [] σ Q := by
  refine Wp.adv (pc' := 81) (ls' := [.ref 9, .int x1, .int x2, .int x3, .int x4]) (st' := [.int (σ.1 9 10), .int x4]) (σ' := σ) 3 rfl ?_
  exact Wp.icmp rfl ht hf
theorem b133_84 {d : Nat} {Q : Option Value → px_S → Prop} {σ : px_S} {x1 x2 x3 x4 : Int32} (c1 : vp_in x4 8) (c2 : vp_in (((8 : Int32) * x3) + x4) 4480) (h : Wp d tb_133 103 [.ref 9, .int x1, .int x2, .int x3, .int x4] [] (px_uI σ 45 ((((8 : Int32) * x3) + x4)).toNatClampNeg (σ.1 46 (x4).toNatClampNeg)) Q) : Wp d tb_133 84 [.ref 9, .int x1, .int x2, .int x3, .int x4] [] σ Q := by
  refine Wp.adv (pc' := 101) (ls' := [.ref 9, .int x1, .int x2, .int x3, .int x4]) (st' := [.int x4, .ref 46, .int (((8 : Int32) * x3) + x4), .ref 45]) (σ' := σ) 10 rfl ?_
  refine Wp.iald (N := 8) rfl rfl c1 ?_
  refine Wp.iast (N := 4480) rfl rfl c2 ?_
  exact h
theorem b133_103 {d : Nat} {Q : Option Value → px_S → Prop} {σ : px_S} {x1 x2 x3 x4 : Int32} (h : Wp d tb_133 75 [.ref 9, .int x1, .int x2, .int x3, .int (x4 + 1)] [] σ Q) : Wp d tb_133 103 [.ref 9, .int x1, .int x2, .int x3, .int x4] [] σ Q := by
  refine Wp.adv (pc' := 75) (ls' := [.ref 9, .int x1, .int x2, .int x3, .int (x4 + 1)]) (st' := []) (σ' := σ) 2 rfl ?_
  exact h
theorem b133_109 {d : Nat} {Q : Option Value → px_S → Prop} {σ : px_S} {x1 x2 x3 x4 : Int32} (h : Wp d tb_133 114 [.ref 9, .int x1, .int x2, .int x3, .int x4] [] (px_uI σ 9 10 (0 : Int32)) Q) : Wp d tb_133 109 [.ref 9, .int x1, .int x2, .int x3, .int x4] [] σ Q := by
  refine Wp.adv (pc' := 111) (ls' := [.ref 9, .int x1, .int x2, .int x3, .int x4]) (st' := [.int (0 : Int32), .ref 9]) (σ' := σ) 2 rfl ?_
  refine Wp.step (q := (114, [.ref 9, .int x1, .int x2, .int x3, .int x4], [], (px_uI σ 9 10 (0 : Int32)))) rfl rfl ?_
  exact h
theorem b133_114 {d : Nat} {Q : Option Value → px_S → Prop} {σ : px_S} {x1 x2 x3 x4 : Int32} (c1 : vp_in x1 40) (c2 : vp_in x1 40) (h : Wp d tb_133 124 [.ref 9, .int x1, .int x2, .int x3, .int x4] [] (px_uI σ 41 (x1).toNatClampNeg ((σ.1 41 (x1).toNatClampNeg) + (1 : Int32))) Q) : Wp d tb_133 114 [.ref 9, .int x1, .int x2, .int x3, .int x4] [] σ Q := by
  refine Wp.adv (pc' := 120) (ls' := [.ref 9, .int x1, .int x2, .int x3, .int x4]) (st' := [.int x1, .ref 41, .int x1, .ref 41]) (σ' := σ) 4 rfl ?_
  refine Wp.iald (N := 40) rfl rfl c1 ?_
  refine Wp.adv (pc' := 123) (ls' := [.ref 9, .int x1, .int x2, .int x3, .int x4]) (st' := [.int ((σ.1 41 (x1).toNatClampNeg) + (1 : Int32)), .int x1, .ref 41]) (σ' := σ) 2 rfl ?_
  refine Wp.iast (N := 40) rfl rfl c2 ?_
  exact h
theorem b133_124 {d : Nat} {Q : Option Value → px_S → Prop} {σ : px_S} {x1 x2 x3 x4 : Int32} (c1 : vp_in x1 40) (h : Q (some (.int ((σ.1 41 (x1).toNatClampNeg) - (1 : Int32)))) σ) : Wp d tb_133 124 [.ref 9, .int x1, .int x2, .int x3, .int x4] [] σ Q := by
  refine Wp.adv (pc' := 129) (ls' := [.ref 9, .int x1, .int x2, .int x3, .int x4]) (st' := [.int x1, .ref 41]) (σ' := σ) 3 rfl ?_
  refine Wp.iald (N := 40) rfl rfl c1 ?_
  refine Wp.adv (pc' := 132) (ls' := [.ref 9, .int x1, .int x2, .int x3, .int x4]) (st' := [.int ((σ.1 41 (x1).toNatClampNeg) - (1 : Int32))]) (σ' := σ) 2 rfl ?_
  exact Wp.ret rfl rfl h
theorem e133 {d : Nat} {Q : Option Value → px_S → Prop} {σ : px_S} {x1 x2 : Int32} (h : Wp d tb_133 0 [.ref 9, .int x1, .int x2, .null, .null] [] σ Q) : Cw (d + 1) 133 [.ref 9, .int x1, .int x2] σ Q := Cw.of (nL := 5) (y := yX9_line) (cc := cX9_line) (rt := some .int) rfl (Nat.le_of_ble_eq_true rfl) h
theorem b134_0 {d : Nat} {Q : Option Value → px_S → Prop} {σ : px_S} {x1 x2 x3 : Int32} (h : Cw d 132 [.ref 9, .int x1] σ (fun r τ => Wp d tb_134 5 [.ref 9, .int x1, .int x2, .int x3, .null, .null, .null, .null, .null, .null, .null] (r.toList ++ []) τ Q)) : Wp d tb_134 0 [.ref 9, .int x1, .int x2, .int x3, .null, .null, .null, .null, .null, .null, .null] [] σ Q := by
  refine Wp.adv (pc' := 2) (ls' := [.ref 9, .int x1, .int x2, .int x3, .null, .null, .null, .null, .null, .null, .null]) (st' := [.int x1, .ref 9]) (σ' := σ) 2 rfl ?_
  exact Wp.call (q := (132, 2, 9, 5)) rfl (Nat.le_of_ble_eq_true rfl) rfl h
theorem b134_5 {d : Nat} {Q : Option Value → px_S → Prop} {σ : px_S} {x1 x2 x3 s0 : Int32} (ht : s0 = 0 → Wp d tb_134 12 [.ref 9, .int x1, .int x2, .int x3, .null, .null, .null, .null, .null, .null, .null] [] σ Q) (hf : ¬ (s0 = 0) → Wp d tb_134 8 [.ref 9, .int x1, .int x2, .int x3, .null, .null, .null, .null, .null, .null, .null] [] σ Q) : Wp d tb_134 5 [.ref 9, .int x1, .int x2, .int x3, .null, .null, .null, .null, .null, .null, .null] [.int s0] σ Q := by
  exact Wp.if_ rfl ht hf
theorem b134_8 {d : Nat} {Q : Option Value → px_S → Prop} {σ : px_S} {x1 x2 x3 : Int32} (h : Q (some (.int (-1001 : Int32))) σ) : Wp d tb_134 8 [.ref 9, .int x1, .int x2, .int x3, .null, .null, .null, .null, .null, .null, .null] [] σ Q := by
  refine Wp.adv (pc' := 11) (ls' := [.ref 9, .int x1, .int x2, .int x3, .null, .null, .null, .null, .null, .null, .null]) (st' := [.int (-1001 : Int32)]) (σ' := σ) 1 rfl ?_
  exact Wp.ret rfl rfl h
theorem b134_12 {d : Nat} {Q : Option Value → px_S → Prop} {σ : px_S} {x1 x2 x3 : Int32} (h : Cw d 131 [.ref 9, .int x2, .int x3, .int x1] σ (fun r τ => Wp d tb_134 19 [.ref 9, .int x1, .int x2, .int x3, .null, .null, .null, .null, .null, .null, .null] (r.toList ++ []) τ Q)) : Wp d tb_134 12 [.ref 9, .int x1, .int x2, .int x3, .null, .null, .null, .null, .null, .null, .null] [] σ Q := by
  refine Wp.adv (pc' := 16) (ls' := [.ref 9, .int x1, .int x2, .int x3, .null, .null, .null, .null, .null, .null, .null]) (st' := [.int x1, .int x3, .int x2, .ref 9]) (σ' := σ) 4 rfl ?_
  exact Wp.call (q := (131, 4, 9, 19)) rfl (Nat.le_of_ble_eq_true rfl) rfl h
theorem b134_19 {d : Nat} {Q : Option Value → px_S → Prop} {σ : px_S} {x1 x2 x3 s0 : Int32} (ht : 0 ≤ s0 → Wp d tb_134 29 [.ref 9, .int x1, .int x2, .int x3, .int s0, .null, .null, .null, .null, .null, .null] [] σ Q) (hf : ¬ (0 ≤ s0) → Wp d tb_134 26 [.ref 9, .int x1, .int x2, .int x3, .int s0, .null, .null, .null, .null, .null, .null] [] σ Q) : Wp d tb_134 19 [.ref 9, .int x1, .int x2, .int x3, .null, .null, .null, .null, .null, .null, .null] [.int s0] σ Q := by
  refine Wp.adv (pc' := 23) (ls' := [.ref 9, .int x1, .int x2, .int x3, .int s0, .null, .null, .null, .null, .null, .null]) (st' := [.int s0]) (σ' := σ) 2 rfl ?_
  exact Wp.if_ rfl ht hf
theorem b134_26 {d : Nat} {Q : Option Value → px_S → Prop} {σ : px_S} {x1 x2 x3 x4 : Int32} (h : Q (some (.int x4)) σ) : Wp d tb_134 26 [.ref 9, .int x1, .int x2, .int x3, .int x4, .null, .null, .null, .null, .null, .null] [] σ Q := by
  refine Wp.adv (pc' := 28) (ls' := [.ref 9, .int x1, .int x2, .int x3, .int x4, .null, .null, .null, .null, .null, .null]) (st' := [.int x4]) (σ' := σ) 1 rfl ?_
  exact Wp.ret rfl rfl h
theorem b134_29 {d : Nat} {Q : Option Value → px_S → Prop} {σ : px_S} {x1 x2 x3 x4 : Int32} (h : Wp d tb_134 35 [.ref 9, .int x1, .int x2, .int x3, .int x4, .int (0 : Int32), .int (0 : Int32), .null, .null, .null, .null] [] σ Q) : Wp d tb_134 29 [.ref 9, .int x1, .int x2, .int x3, .int x4, .null, .null, .null, .null, .null, .null] [] σ Q := by
  refine Wp.adv (pc' := 35) (ls' := [.ref 9, .int x1, .int x2, .int x3, .int x4, .int (0 : Int32), .int (0 : Int32), .null, .null, .null, .null]) (st' := []) (σ' := σ) 4 rfl ?_
  exact h
theorem b134_35 {d : Nat} {Q : Option Value → px_S → Prop} {σ : px_S} {x1 x2 x3 x4 x5 x6 : Int32} (c1 : vp_in x1 40) (ht : (σ.1 41 (x1).toNatClampNeg) ≤ x6 → Wp d tb_134 86 [.ref 9, .int x1, .int x2, .int x3, .int x4, .int x5, .int x6, .null, .null, .null, .null] [] σ Q) (hf : ¬ ((σ.1 41 (x1).toNatClampNeg) ≤ x6) → Wp d tb_134 46 [.ref 9, .int x1, .int x2, .int x3, .int x4, .int x5, .int x6, .null, .null, .null, .null] [] σ Q) : Wp d tb_134 35 [.ref 9, .int x1, .int x2, .int x3, .int x4, .int x5, .int x6, .null, .null, .null, .null] [] σ Q := by
  refine Wp.adv (pc' := 42) (ls' := [.ref 9, .int x1, .int x2, .int x3, .int x4, .int x5, .int x6, .null, .null, .null, .null]) (st' := [.int x1, .ref 41, .int x6]) (σ' := σ) 4 rfl ?_
  refine Wp.iald (N := 40) rfl rfl c1 ?_
  exact Wp.icmp rfl ht hf
theorem b134_46 {d : Nat} {Q : Option Value → px_S → Prop} {σ : px_S} {x1 x2 x3 x4 x5 x6 : Int32} (c1 : vp_in (((14 : Int32) * x1) + x6) 560) (c2 : vp_in (4 : Int32) 5) (ht : (σ.1 37 ((4 : Int32)).toNatClampNeg) ≤ (σ.1 43 ((((14 : Int32) * x1) + x6)).toNatClampNeg) → Wp d tb_134 73 [.ref 9, .int x1, .int x2, .int x3, .int x4, .int x5, .int x6, .null, .null, .null, .null] [.int x5] σ Q) (hf : ¬ ((σ.1 37 ((4 : Int32)).toNatClampNeg) ≤ (σ.1 43 ((((14 : Int32) * x1) + x6)).toNatClampNeg)) → Wp d tb_134 69 [.ref 9, .int x1, .int x2, .int x3, .int x4, .int x5, .int x6, .null, .null, .null, .null] [.int x5] σ Q) : Wp d tb_134 46 [.ref 9, .int x1, .int x2, .int x3, .int x4, .int x5, .int x6, .null, .null, .null, .null] [] σ Q := by
  refine Wp.adv (pc' := 59) (ls' := [.ref 9, .int x1, .int x2, .int x3, .int x4, .int x5, .int x6, .null, .null, .null, .null]) (st' := [.int (((14 : Int32) * x1) + x6), .ref 43, .int x5]) (σ' := σ) 8 rfl ?_
  refine Wp.iald (N := 560) rfl rfl c1 ?_
  refine Wp.adv (pc' := 65) (ls' := [.ref 9, .int x1, .int x2, .int x3, .int x4, .int x5, .int x6, .null, .null, .null, .null]) (st' := [.int (4 : Int32), .ref 37, .int (σ.1 43 ((((14 : Int32) * x1) + x6)).toNatClampNeg), .int x5]) (σ' := σ) 3 rfl ?_
  refine Wp.iald (N := 5) rfl rfl c2 ?_
  exact Wp.icmp rfl ht hf
theorem b134_69 {d : Nat} {Q : Option Value → px_S → Prop} {σ : px_S} {x1 x2 x3 x4 x5 x6 s0 : Int32} (h : Wp d tb_134 74 [.ref 9, .int x1, .int x2, .int x3, .int x4, .int x5, .int x6, .null, .null, .null, .null] [.int (1 : Int32), .int s0] σ Q) : Wp d tb_134 69 [.ref 9, .int x1, .int x2, .int x3, .int x4, .int x5, .int x6, .null, .null, .null, .null] [.int s0] σ Q := by
  refine Wp.adv (pc' := 74) (ls' := [.ref 9, .int x1, .int x2, .int x3, .int x4, .int x5, .int x6, .null, .null, .null, .null]) (st' := [.int (1 : Int32), .int s0]) (σ' := σ) 2 rfl ?_
  exact h
theorem b134_73 {d : Nat} {Q : Option Value → px_S → Prop} {σ : px_S} {x1 x2 x3 x4 x5 x6 s0 : Int32} (h : Wp d tb_134 74 [.ref 9, .int x1, .int x2, .int x3, .int x4, .int x5, .int x6, .null, .null, .null, .null] [.int (0 : Int32), .int s0] σ Q) : Wp d tb_134 73 [.ref 9, .int x1, .int x2, .int x3, .int x4, .int x5, .int x6, .null, .null, .null, .null] [.int s0] σ Q := by
  refine Wp.adv (pc' := 74) (ls' := [.ref 9, .int x1, .int x2, .int x3, .int x4, .int x5, .int x6, .null, .null, .null, .null]) (st' := [.int (0 : Int32), .int s0]) (σ' := σ) 1 rfl ?_
  exact h
theorem b134_74 {d : Nat} {Q : Option Value → px_S → Prop} {σ : px_S} {x1 x2 x3 x4 x5 x6 s0 s1 : Int32} (h : Cw d 135 [.int s0] σ (fun r τ => Wp d tb_134 77 [.ref 9, .int x1, .int x2, .int x3, .int x4, .int x5, .int x6, .null, .null, .null, .null] (r.toList ++ [.int s1]) τ Q)) : Wp d tb_134 74 [.ref 9, .int x1, .int x2, .int x3, .int x4, .int x5, .int x6, .null, .null, .null, .null] [.int s0, .int s1] σ Q := by
  exact Wp.call (q := (135, 1, 0, 77)) rfl (Nat.le_of_ble_eq_true rfl) rfl h
theorem b134_77 {d : Nat} {Q : Option Value → px_S → Prop} {σ : px_S} {x1 x2 x3 x4 x5 x6 s0 s1 : Int32} (h : Wp d tb_134 35 [.ref 9, .int x1, .int x2, .int x3, .int x4, .int (s1 + s0), .int (x6 + 1), .null, .null, .null, .null] [] σ Q) : Wp d tb_134 77 [.ref 9, .int x1, .int x2, .int x3, .int x4, .int x5, .int x6, .null, .null, .null, .null] [.int s0, .int s1] σ Q := by
  refine Wp.adv (pc' := 35) (ls' := [.ref 9, .int x1, .int x2, .int x3, .int x4, .int (s1 + s0), .int (x6 + 1), .null, .null, .null, .null]) (st' := []) (σ' := σ) 4 rfl ?_
  exact h
theorem b134_86 {d : Nat} {Q : Option Value → px_S → Prop} {σ : px_S} {x1 x2 x3 x4 x5 x6 : Int32} (c1 : vp_in (3 : Int32) 5) (ht : x5 ≤ (σ.1 37 ((3 : Int32)).toNatClampNeg) → Wp d tb_134 109 [.ref 9, .int x1, .int x2, .int x3, .int x4, .int x5, .int x6, .null, .null, .null, .null] [] σ Q) (hf : ¬ (x5 ≤ (σ.1 37 ((3 : Int32)).toNatClampNeg)) → Wp d tb_134 97 [.ref 9, .int x1, .int x2, .int x3, .int x4, .int x5, .int x6, .null, .null, .null, .null] [] σ Q) : Wp d tb_134 86 [.ref 9, .int x1, .int x2, .int x3, .int x4, .int x5, .int x6, .null, .null, .null, .null] [] σ Q := by
  refine Wp.adv (pc' := 93) (ls' := [.ref 9, .int x1, .int x2, .int x3, .int x4, .int x5, .int x6, .null, .null, .null, .null]) (st' := [.int (3 : Int32), .ref 37, .int x5]) (σ' := σ) 4 rfl ?_
  refine Wp.iald (N := 5) rfl rfl c1 ?_
  exact Wp.icmp rfl ht hf
theorem b134_97 {d : Nat} {Q : Option Value → px_S → Prop} {σ : px_S} {x1 x2 x3 x4 x5 x6 : Int32} (c1 : vp_in (3 : Int32) 5) (h : Wp d tb_134 110 [.ref 9, .int x1, .int x2, .int x3, .int x4, .int x5, .int x6, .null, .null, .null, .null] [.int (x5 - (σ.1 37 ((3 : Int32)).toNatClampNeg))] σ Q) : Wp d tb_134 97 [.ref 9, .int x1, .int x2, .int x3, .int x4, .int x5, .int x6, .null, .null, .null, .null] [] σ Q := by
  refine Wp.adv (pc' := 104) (ls' := [.ref 9, .int x1, .int x2, .int x3, .int x4, .int x5, .int x6, .null, .null, .null, .null]) (st' := [.int (3 : Int32), .ref 37, .int x5]) (σ' := σ) 4 rfl ?_
  refine Wp.iald (N := 5) rfl rfl c1 ?_
  refine Wp.adv (pc' := 110) (ls' := [.ref 9, .int x1, .int x2, .int x3, .int x4, .int x5, .int x6, .null, .null, .null, .null]) (st' := [.int (x5 - (σ.1 37 ((3 : Int32)).toNatClampNeg))]) (σ' := σ) 2 rfl ?_
  exact h
theorem b134_109 {d : Nat} {Q : Option Value → px_S → Prop} {σ : px_S} {x1 x2 x3 x4 x5 x6 : Int32} (h : Wp d tb_134 110 [.ref 9, .int x1, .int x2, .int x3, .int x4, .int x5, .int x6, .null, .null, .null, .null] [.int (0 : Int32)] σ Q) : Wp d tb_134 109 [.ref 9, .int x1, .int x2, .int x3, .int x4, .int x5, .int x6, .null, .null, .null, .null] [] σ Q := by
  refine Wp.adv (pc' := 110) (ls' := [.ref 9, .int x1, .int x2, .int x3, .int x4, .int x5, .int x6, .null, .null, .null, .null]) (st' := [.int (0 : Int32)]) (σ' := σ) 1 rfl ?_
  exact h
theorem b134_110 {d : Nat} {Q : Option Value → px_S → Prop} {σ : px_S} {x1 x2 x3 x4 x5 x6 s0 : Int32} (h : Wp d tb_134 115 [.ref 9, .int x1, .int x2, .int x3, .int x4, .int x5, .int s0, .int (0 : Int32), .null, .null, .null] [] σ Q) : Wp d tb_134 110 [.ref 9, .int x1, .int x2, .int x3, .int x4, .int x5, .int x6, .null, .null, .null, .null] [.int s0] σ Q := by
  refine Wp.adv (pc' := 115) (ls' := [.ref 9, .int x1, .int x2, .int x3, .int x4, .int x5, .int s0, .int (0 : Int32), .null, .null, .null]) (st' := []) (σ' := σ) 3 rfl ?_
  exact h
theorem b134_115 {d : Nat} {Q : Option Value → px_S → Prop} {σ : px_S} {x1 x2 x3 x4 x5 x6 x7 : Int32} {v8 v9 v10 : Value} (c1 : vp_in x1 40) (ht : (σ.1 41 (x1).toNatClampNeg) ≤ x7 → Wp d tb_134 266 [.ref 9, .int x1, .int x2, .int x3, .int x4, .int x5, .int x6, .int x7, v8, v9, v10] [] σ Q) (hf : ¬ ((σ.1 41 (x1).toNatClampNeg) ≤ x7) → Wp d tb_134 126 [.ref 9, .int x1, .int x2, .int x3, .int x4, .int x5, .int x6, .int x7, v8, v9, v10] [] σ Q) : Wp d tb_134 115 [.ref 9, .int x1, .int x2, .int x3, .int x4, .int x5, .int x6, .int x7, v8, v9, v10] [] σ Q := by
  refine Wp.adv (pc' := 122) (ls' := [.ref 9, .int x1, .int x2, .int x3, .int x4, .int x5, .int x6, .int x7, v8, v9, v10]) (st' := [.int x1, .ref 41, .int x7]) (σ' := σ) 4 rfl ?_
  refine Wp.iald (N := 40) rfl rfl c1 ?_
  exact Wp.icmp rfl ht hf
theorem b134_126 {d : Nat} {Q : Option Value → px_S → Prop} {σ : px_S} {x1 x2 x3 x4 x5 x6 x7 : Int32} {v8 v9 v10 : Value} (c1 : vp_in (((14 : Int32) * x1) + x7) 560) (c2 : vp_in (4 : Int32) 5) (ht : (σ.1 37 ((4 : Int32)).toNatClampNeg) ≤ (σ.1 43 ((((14 : Int32) * x1) + x7)).toNatClampNeg) → Wp d tb_134 260 [.ref 9, .int x1, .int x2, .int x3, .int x4, .int x5, .int x6, .int x7, .int (((14 : Int32) * x1) + x7), v9, v10] [] σ Q) (hf : ¬ ((σ.1 37 ((4 : Int32)).toNatClampNeg) ≤ (σ.1 43 ((((14 : Int32) * x1) + x7)).toNatClampNeg)) → Wp d tb_134 151 [.ref 9, .int x1, .int x2, .int x3, .int x4, .int x5, .int x6, .int x7, .int (((14 : Int32) * x1) + x7), v9, v10] [] σ Q) : Wp d tb_134 126 [.ref 9, .int x1, .int x2, .int x3, .int x4, .int x5, .int x6, .int x7, v8, v9, v10] [] σ Q := by
  refine Wp.adv (pc' := 141) (ls' := [.ref 9, .int x1, .int x2, .int x3, .int x4, .int x5, .int x6, .int x7, .int (((14 : Int32) * x1) + x7), v9, v10]) (st' := [.int (((14 : Int32) * x1) + x7), .ref 43]) (σ' := σ) 9 rfl ?_
  refine Wp.iald (N := 560) rfl rfl c1 ?_
  refine Wp.adv (pc' := 147) (ls' := [.ref 9, .int x1, .int x2, .int x3, .int x4, .int x5, .int x6, .int x7, .int (((14 : Int32) * x1) + x7), v9, v10]) (st' := [.int (4 : Int32), .ref 37, .int (σ.1 43 ((((14 : Int32) * x1) + x7)).toNatClampNeg)]) (σ' := σ) 3 rfl ?_
  refine Wp.iald (N := 5) rfl rfl c2 ?_
  exact Wp.icmp rfl ht hf
theorem b134_151 {d : Nat} {Q : Option Value → px_S → Prop} {σ : px_S} {x1 x2 x3 x4 x5 x6 x7 x8 : Int32} {v9 v10 : Value} (ht : x6 ≤ 0 → Wp d tb_134 162 [.ref 9, .int x1, .int x2, .int x3, .int x4, .int x5, .int x6, .int x7, .int x8, v9, v10] [] σ Q) (hf : ¬ (x6 ≤ 0) → Wp d tb_134 156 [.ref 9, .int x1, .int x2, .int x3, .int x4, .int x5, .int x6, .int x7, .int x8, v9, v10] [] σ Q) : Wp d tb_134 151 [.ref 9, .int x1, .int x2, .int x3, .int x4, .int x5, .int x6, .int x7, .int x8, v9, v10] [] σ Q := by
  refine Wp.adv (pc' := 153) (ls' := [.ref 9, .int x1, .int x2, .int x3, .int x4, .int x5, .int x6, .int x7, .int x8, v9, v10]) (st' := [.int x6]) (σ' := σ) 1 rfl ?_
  exact Wp.if_ rfl ht hf
theorem b134_156 {d : Nat} {Q : Option Value → px_S → Prop} {σ : px_S} {x1 x2 x3 x4 x5 x6 x7 x8 : Int32} {v9 v10 : Value} (h : Wp d tb_134 260 [.ref 9, .int x1, .int x2, .int x3, .int x4, .int x5, .int (x6 + (-1)), .int x7, .int x8, v9, v10] [] σ Q) : Wp d tb_134 156 [.ref 9, .int x1, .int x2, .int x3, .int x4, .int x5, .int x6, .int x7, .int x8, v9, v10] [] σ Q := by
  refine Wp.adv (pc' := 260) (ls' := [.ref 9, .int x1, .int x2, .int x3, .int x4, .int x5, .int (x6 + (-1)), .int x7, .int x8, v9, v10]) (st' := []) (σ' := σ) 2 rfl ?_
  exact h
theorem b134_162 {d : Nat} {Q : Option Value → px_S → Prop} {σ : px_S} {x1 x2 x3 x4 x5 x6 x7 x8 : Int32} {v9 v10 : Value} (c1 : vp_in x4 40) (c2 : vp_in x8 560) (c3 : vp_in (((14 : Int32) * x4) + (σ.1 41 (x4).toNatClampNeg)) 560) (h : Wp d tb_134 193 [.ref 9, .int x1, .int x2, .int x3, .int x4, .int x5, .int x6, .int x7, .int x8, .int (((14 : Int32) * x4) + (σ.1 41 (x4).toNatClampNeg)), v10] [] (px_uI σ 43 ((((14 : Int32) * x4) + (σ.1 41 (x4).toNatClampNeg))).toNatClampNeg ((σ.1 43 (x8).toNatClampNeg) + (1 : Int32))) Q) : Wp d tb_134 162 [.ref 9, .int x1, .int x2, .int x3, .int x4, .int x5, .int x6, .int x7, .int x8, v9, v10] [] σ Q := by
  refine Wp.adv (pc' := 173) (ls' := [.ref 9, .int x1, .int x2, .int x3, .int x4, .int x5, .int x6, .int x7, .int x8, v9, v10]) (st' := [.int x4, .ref 41, .int ((14 : Int32) * x4)]) (σ' := σ) 6 rfl ?_
  refine Wp.iald (N := 40) rfl rfl c1 ?_
  refine Wp.adv (pc' := 189) (ls' := [.ref 9, .int x1, .int x2, .int x3, .int x4, .int x5, .int x6, .int x7, .int x8, .int (((14 : Int32) * x4) + (σ.1 41 (x4).toNatClampNeg)), v10]) (st' := [.int x8, .ref 43, .int (((14 : Int32) * x4) + (σ.1 41 (x4).toNatClampNeg)), .ref 43]) (σ' := σ) 8 rfl ?_
  refine Wp.iald (N := 560) rfl rfl c2 ?_
  refine Wp.adv (pc' := 192) (ls' := [.ref 9, .int x1, .int x2, .int x3, .int x4, .int x5, .int x6, .int x7, .int x8, .int (((14 : Int32) * x4) + (σ.1 41 (x4).toNatClampNeg)), v10]) (st' := [.int ((σ.1 43 (x8).toNatClampNeg) + (1 : Int32)), .int (((14 : Int32) * x4) + (σ.1 41 (x4).toNatClampNeg)), .ref 43]) (σ' := σ) 2 rfl ?_
  refine Wp.iast (N := 560) rfl rfl c3 ?_
  exact h
theorem b134_193 {d : Nat} {Q : Option Value → px_S → Prop} {σ : px_S} {x1 x2 x3 x4 x5 x6 x7 x8 x9 : Int32} {v10 : Value} (c1 : vp_in x8 560) (c2 : vp_in x9 560) (h : Wp d tb_134 207 [.ref 9, .int x1, .int x2, .int x3, .int x4, .int x5, .int x6, .int x7, .int x8, .int x9, v10] [] (px_uI σ 44 (x9).toNatClampNeg (σ.1 44 (x8).toNatClampNeg)) Q) : Wp d tb_134 193 [.ref 9, .int x1, .int x2, .int x3, .int x4, .int x5, .int x6, .int x7, .int x8, .int x9, v10] [] σ Q := by
  refine Wp.adv (pc' := 205) (ls' := [.ref 9, .int x1, .int x2, .int x3, .int x4, .int x5, .int x6, .int x7, .int x8, .int x9, v10]) (st' := [.int x8, .ref 44, .int x9, .ref 44]) (σ' := σ) 6 rfl ?_
  refine Wp.iald (N := 560) rfl rfl c1 ?_
  refine Wp.iast (N := 560) rfl rfl c2 ?_
  exact h
theorem b134_207 {d : Nat} {Q : Option Value → px_S → Prop} {σ : px_S} {x1 x2 x3 x4 x5 x6 x7 x8 x9 : Int32} {v10 : Value} (h : Wp d tb_134 210 [.ref 9, .int x1, .int x2, .int x3, .int x4, .int x5, .int x6, .int x7, .int x8, .int x9, .int (0 : Int32)] [] σ Q) : Wp d tb_134 207 [.ref 9, .int x1, .int x2, .int x3, .int x4, .int x5, .int x6, .int x7, .int x8, .int x9, v10] [] σ Q := by
  refine Wp.adv (pc' := 210) (ls' := [.ref 9, .int x1, .int x2, .int x3, .int x4, .int x5, .int x6, .int x7, .int x8, .int x9, .int (0 : Int32)]) (st' := []) (σ' := σ) 2 rfl ?_
  exact h
theorem b134_210 {d : Nat} {Q : Option Value → px_S → Prop} {σ : px_S} {x1 x2 x3 x4 x5 x6 x7 x8 x9 x10 : Int32} (ht : (8 : Int32) ≤ x10 → Wp d tb_134 249 [.ref 9, .int x1, .int x2, .int x3, .int x4, .int x5, .int x6, .int x7, .int x8, .int x9, .int x10] [] σ Q) (hf : ¬ ((8 : Int32) ≤ x10) → Wp d tb_134 217 [.ref 9, .int x1, .int x2, .int x3, .int x4, .int x5, .int x6, .int x7, .int x8, .int x9, .int x10] [] σ Q) : Wp d tb_134 210 [.ref 9, .int x1, .int x2, .int x3, .int x4, .int x5, .int x6, .int x7, .int x8, .int x9, .int x10] [] σ Q := by
  refine Wp.adv (pc' := 214) (ls' := [.ref 9, .int x1, .int x2, .int x3, .int x4, .int x5, .int x6, .int x7, .int x8, .int x9, .int x10]) (st' := [.int (8 : Int32), .int x10]) (σ' := σ) 2 rfl ?_
  exact Wp.icmp rfl ht hf
theorem b134_217 {d : Nat} {Q : Option Value → px_S → Prop} {σ : px_S} {x1 x2 x3 x4 x5 x6 x7 x8 x9 x10 : Int32} (c1 : vp_in (((8 : Int32) * x8) + x10) 4480) (c2 : vp_in (((8 : Int32) * x9) + x10) 4480) (h : Wp d tb_134 243 [.ref 9, .int x1, .int x2, .int x3, .int x4, .int x5, .int x6, .int x7, .int x8, .int x9, .int x10] [] (px_uI σ 45 ((((8 : Int32) * x9) + x10)).toNatClampNeg (σ.1 45 ((((8 : Int32) * x8) + x10)).toNatClampNeg)) Q) : Wp d tb_134 217 [.ref 9, .int x1, .int x2, .int x3, .int x4, .int x5, .int x6, .int x7, .int x8, .int x9, .int x10] [] σ Q := by
  refine Wp.adv (pc' := 241) (ls' := [.ref 9, .int x1, .int x2, .int x3, .int x4, .int x5, .int x6, .int x7, .int x8, .int x9, .int x10]) (st' := [.int (((8 : Int32) * x8) + x10), .ref 45, .int (((8 : Int32) * x9) + x10), .ref 45]) (σ' := σ) 14 rfl ?_
  refine Wp.iald (N := 4480) rfl rfl c1 ?_
  refine Wp.iast (N := 4480) rfl rfl c2 ?_
  exact h
theorem b134_243 {d : Nat} {Q : Option Value → px_S → Prop} {σ : px_S} {x1 x2 x3 x4 x5 x6 x7 x8 x9 x10 : Int32} (h : Wp d tb_134 210 [.ref 9, .int x1, .int x2, .int x3, .int x4, .int x5, .int x6, .int x7, .int x8, .int x9, .int (x10 + 1)] [] σ Q) : Wp d tb_134 243 [.ref 9, .int x1, .int x2, .int x3, .int x4, .int x5, .int x6, .int x7, .int x8, .int x9, .int x10] [] σ Q := by
  refine Wp.adv (pc' := 210) (ls' := [.ref 9, .int x1, .int x2, .int x3, .int x4, .int x5, .int x6, .int x7, .int x8, .int x9, .int (x10 + 1)]) (st' := []) (σ' := σ) 2 rfl ?_
  exact h
theorem b134_249 {d : Nat} {Q : Option Value → px_S → Prop} {σ : px_S} {x1 x2 x3 x4 x5 x6 x7 x8 x9 x10 : Int32} (c1 : vp_in x4 40) (c2 : vp_in x4 40) (h : Wp d tb_134 260 [.ref 9, .int x1, .int x2, .int x3, .int x4, .int x5, .int x6, .int x7, .int x8, .int x9, .int x10] [] (px_uI σ 41 (x4).toNatClampNeg ((σ.1 41 (x4).toNatClampNeg) + (1 : Int32))) Q) : Wp d tb_134 249 [.ref 9, .int x1, .int x2, .int x3, .int x4, .int x5, .int x6, .int x7, .int x8, .int x9, .int x10] [] σ Q := by
  refine Wp.adv (pc' := 256) (ls' := [.ref 9, .int x1, .int x2, .int x3, .int x4, .int x5, .int x6, .int x7, .int x8, .int x9, .int x10]) (st' := [.int x4, .ref 41, .int x4, .ref 41]) (σ' := σ) 4 rfl ?_
  refine Wp.iald (N := 40) rfl rfl c1 ?_
  refine Wp.adv (pc' := 259) (ls' := [.ref 9, .int x1, .int x2, .int x3, .int x4, .int x5, .int x6, .int x7, .int x8, .int x9, .int x10]) (st' := [.int ((σ.1 41 (x4).toNatClampNeg) + (1 : Int32)), .int x4, .ref 41]) (σ' := σ) 2 rfl ?_
  refine Wp.iast (N := 40) rfl rfl c2 ?_
  exact h
theorem b134_260 {d : Nat} {Q : Option Value → px_S → Prop} {σ : px_S} {x1 x2 x3 x4 x5 x6 x7 x8 : Int32} {v9 v10 : Value} (h : Wp d tb_134 115 [.ref 9, .int x1, .int x2, .int x3, .int x4, .int x5, .int x6, .int (x7 + 1), .int x8, v9, v10] [] σ Q) : Wp d tb_134 260 [.ref 9, .int x1, .int x2, .int x3, .int x4, .int x5, .int x6, .int x7, .int x8, v9, v10] [] σ Q := by
  refine Wp.adv (pc' := 115) (ls' := [.ref 9, .int x1, .int x2, .int x3, .int x4, .int x5, .int x6, .int (x7 + 1), .int x8, v9, v10]) (st' := []) (σ' := σ) 2 rfl ?_
  exact h
theorem b134_266 {d : Nat} {Q : Option Value → px_S → Prop} {σ : px_S} {x1 x2 x3 x4 x5 x6 x7 : Int32} {v8 v9 v10 : Value} (h : Q (some (.int x4)) σ) : Wp d tb_134 266 [.ref 9, .int x1, .int x2, .int x3, .int x4, .int x5, .int x6, .int x7, v8, v9, v10] [] σ Q := by
  refine Wp.adv (pc' := 268) (ls' := [.ref 9, .int x1, .int x2, .int x3, .int x4, .int x5, .int x6, .int x7, v8, v9, v10]) (st' := [.int x4]) (σ' := σ) 1 rfl ?_
  exact Wp.ret rfl rfl h
theorem e134 {d : Nat} {Q : Option Value → px_S → Prop} {σ : px_S} {x1 x2 x3 : Int32} (h : Wp d tb_134 0 [.ref 9, .int x1, .int x2, .int x3, .null, .null, .null, .null, .null, .null, .null] [] σ Q) : Cw (d + 1) 134 [.ref 9, .int x1, .int x2, .int x3] σ Q := Cw.of (nL := 11) (y := yX9_answer) (cc := cX9_answer) (rt := some .int) rfl (Nat.le_of_ble_eq_true rfl) h
theorem b135_0 {d : Nat} {Q : Option Value → px_S → Prop} {σ : px_S} {x0 : Int32} (ht : x0 = 0 → Wp d tb_135 8 [.int x0] [] σ Q) (hf : ¬ (x0 = 0) → Wp d tb_135 4 [.int x0] [] σ Q) : Wp d tb_135 0 [.int x0] [] σ Q := by
  refine Wp.adv (pc' := 1) (ls' := [.int x0]) (st' := [.int x0]) (σ' := σ) 1 rfl ?_
  exact Wp.if_ rfl ht hf
theorem b135_4 {d : Nat} {Q : Option Value → px_S → Prop} {σ : px_S} {x0 : Int32} (h : Wp d tb_135 9 [.int x0] [.int (1 : Int32)] σ Q) : Wp d tb_135 4 [.int x0] [] σ Q := by
  refine Wp.adv (pc' := 9) (ls' := [.int x0]) (st' := [.int (1 : Int32)]) (σ' := σ) 2 rfl ?_
  exact h
theorem b135_8 {d : Nat} {Q : Option Value → px_S → Prop} {σ : px_S} {x0 : Int32} (h : Wp d tb_135 9 [.int x0] [.int (0 : Int32)] σ Q) : Wp d tb_135 8 [.int x0] [] σ Q := by
  refine Wp.adv (pc' := 9) (ls' := [.int x0]) (st' := [.int (0 : Int32)]) (σ' := σ) 1 rfl ?_
  exact h
theorem b135_9 {d : Nat} {Q : Option Value → px_S → Prop} {σ : px_S} {x0 s0 : Int32} (h : Q (some (.int s0)) σ) : Wp d tb_135 9 [.int x0] [.int s0] σ Q := by
  exact Wp.ret rfl rfl h
theorem e135 {d : Nat} {Q : Option Value → px_S → Prop} {σ : px_S} {x0 : Int32} (h : Wp d tb_135 0 [.int x0] [] σ Q) : Cw (d + 1) 135 [.int x0] σ Q := Cw.of (nL := 1) (y := yX9_one) (cc := cX9_one) (rt := some .int) rfl (Nat.le_of_ble_eq_true rfl) h
theorem b136_0 {d : Nat} {Q : Option Value → px_S → Prop} {σ : px_S} {x1 : Int32} (h : Cw d 132 [.ref 9, .int x1] σ (fun r τ => Wp d tb_136 5 [.ref 9, .int x1] (r.toList ++ []) τ Q)) : Wp d tb_136 0 [.ref 9, .int x1] [] σ Q := by
  refine Wp.adv (pc' := 2) (ls' := [.ref 9, .int x1]) (st' := [.int x1, .ref 9]) (σ' := σ) 2 rfl ?_
  exact Wp.call (q := (132, 2, 9, 5)) rfl (Nat.le_of_ble_eq_true rfl) rfl h
theorem b136_5 {d : Nat} {Q : Option Value → px_S → Prop} {σ : px_S} {x1 s0 : Int32} (ht : s0 = 0 → Wp d tb_136 12 [.ref 9, .int x1] [] σ Q) (hf : ¬ (s0 = 0) → Wp d tb_136 8 [.ref 9, .int x1] [] σ Q) : Wp d tb_136 5 [.ref 9, .int x1] [.int s0] σ Q := by
  exact Wp.if_ rfl ht hf
theorem b136_8 {d : Nat} {Q : Option Value → px_S → Prop} {σ : px_S} {x1 : Int32} (h : Q (some (.int (-1001 : Int32))) σ) : Wp d tb_136 8 [.ref 9, .int x1] [] σ Q := by
  refine Wp.adv (pc' := 11) (ls' := [.ref 9, .int x1]) (st' := [.int (-1001 : Int32)]) (σ' := σ) 1 rfl ?_
  exact Wp.ret rfl rfl h
theorem b136_12 {d : Nat} {Q : Option Value → px_S → Prop} {σ : px_S} {x1 : Int32} (c1 : vp_in x1 40) (ht : (σ.1 42 (x1).toNatClampNeg) = 0 → Wp d tb_136 25 [.ref 9, .int x1] [] σ Q) (hf : ¬ ((σ.1 42 (x1).toNatClampNeg) = 0) → Wp d tb_136 21 [.ref 9, .int x1] [] σ Q) : Wp d tb_136 12 [.ref 9, .int x1] [] σ Q := by
  refine Wp.adv (pc' := 17) (ls' := [.ref 9, .int x1]) (st' := [.int x1, .ref 42]) (σ' := σ) 3 rfl ?_
  refine Wp.zald (N := 40) rfl rfl c1 ?_
  exact Wp.if_ rfl ht hf
theorem b136_21 {d : Nat} {Q : Option Value → px_S → Prop} {σ : px_S} {x1 : Int32} (h : Q (some (.int (-1003 : Int32))) σ) : Wp d tb_136 21 [.ref 9, .int x1] [] σ Q := by
  refine Wp.adv (pc' := 24) (ls' := [.ref 9, .int x1]) (st' := [.int (-1003 : Int32)]) (σ' := σ) 1 rfl ?_
  exact Wp.ret rfl rfl h
theorem b136_25 {d : Nat} {Q : Option Value → px_S → Prop} {σ : px_S} {x1 : Int32} (c1 : vp_in x1 40) (h : Wp d tb_136 32 [.ref 9, .int x1] [] (px_uI σ 42 (x1).toNatClampNeg (1 : Int32)) Q) : Wp d tb_136 25 [.ref 9, .int x1] [] σ Q := by
  refine Wp.adv (pc' := 31) (ls' := [.ref 9, .int x1]) (st' := [.int (1 : Int32), .int x1, .ref 42]) (σ' := σ) 4 rfl ?_
  refine Wp.zast (N := 40) rfl rfl (by decide) c1 ?_
  exact h
theorem b136_32 {d : Nat} {Q : Option Value → px_S → Prop} {σ : px_S} {x1 : Int32} (h : Q (some (.int (1 : Int32))) σ) : Wp d tb_136 32 [.ref 9, .int x1] [] σ Q := by
  refine Wp.adv (pc' := 33) (ls' := [.ref 9, .int x1]) (st' := [.int (1 : Int32)]) (σ' := σ) 1 rfl ?_
  exact Wp.ret rfl rfl h
theorem e136 {d : Nat} {Q : Option Value → px_S → Prop} {σ : px_S} {x1 : Int32} (h : Wp d tb_136 0 [.ref 9, .int x1] [] σ Q) : Cw (d + 1) 136 [.ref 9, .int x1] σ Q := Cw.of (nL := 2) (y := yX9_take) (cc := cX9_take) (rt := some .int) rfl (Nat.le_of_ble_eq_true rfl) h
theorem b137_0 {d : Nat} {Q : Option Value → px_S → Prop} {σ : px_S} {x1 : Int32} (h : Cw d 132 [.ref 9, .int x1] σ (fun r τ => Wp d tb_137 5 [.ref 9, .int x1] (r.toList ++ []) τ Q)) : Wp d tb_137 0 [.ref 9, .int x1] [] σ Q := by
  refine Wp.adv (pc' := 2) (ls' := [.ref 9, .int x1]) (st' := [.int x1, .ref 9]) (σ' := σ) 2 rfl ?_
  exact Wp.call (q := (132, 2, 9, 5)) rfl (Nat.le_of_ble_eq_true rfl) rfl h
theorem b137_5 {d : Nat} {Q : Option Value → px_S → Prop} {σ : px_S} {x1 s0 : Int32} (ht : s0 = 0 → Wp d tb_137 12 [.ref 9, .int x1] [] σ Q) (hf : ¬ (s0 = 0) → Wp d tb_137 8 [.ref 9, .int x1] [] σ Q) : Wp d tb_137 5 [.ref 9, .int x1] [.int s0] σ Q := by
  exact Wp.if_ rfl ht hf
theorem b137_8 {d : Nat} {Q : Option Value → px_S → Prop} {σ : px_S} {x1 : Int32} (h : Q (some (.int (-1001 : Int32))) σ) : Wp d tb_137 8 [.ref 9, .int x1] [] σ Q := by
  refine Wp.adv (pc' := 11) (ls' := [.ref 9, .int x1]) (st' := [.int (-1001 : Int32)]) (σ' := σ) 1 rfl ?_
  exact Wp.ret rfl rfl h
theorem b137_12 {d : Nat} {Q : Option Value → px_S → Prop} {σ : px_S} {x1 : Int32} (c1 : vp_in x1 40) (ht : ¬ (σ.1 42 (x1).toNatClampNeg) = 0 → Wp d tb_137 25 [.ref 9, .int x1] [] σ Q) (hf : ¬ (¬ (σ.1 42 (x1).toNatClampNeg) = 0) → Wp d tb_137 21 [.ref 9, .int x1] [] σ Q) : Wp d tb_137 12 [.ref 9, .int x1] [] σ Q := by
  refine Wp.adv (pc' := 17) (ls' := [.ref 9, .int x1]) (st' := [.int x1, .ref 42]) (σ' := σ) 3 rfl ?_
  refine Wp.zald (N := 40) rfl rfl c1 ?_
  exact Wp.if_ rfl ht hf
theorem b137_21 {d : Nat} {Q : Option Value → px_S → Prop} {σ : px_S} {x1 : Int32} (h : Q (some (.int (-1003 : Int32))) σ) : Wp d tb_137 21 [.ref 9, .int x1] [] σ Q := by
  refine Wp.adv (pc' := 24) (ls' := [.ref 9, .int x1]) (st' := [.int (-1003 : Int32)]) (σ' := σ) 1 rfl ?_
  exact Wp.ret rfl rfl h
theorem b137_25 {d : Nat} {Q : Option Value → px_S → Prop} {σ : px_S} {x1 : Int32} (c1 : vp_in x1 40) (h : Wp d tb_137 32 [.ref 9, .int x1] [] (px_uI σ 42 (x1).toNatClampNeg (0 : Int32)) Q) : Wp d tb_137 25 [.ref 9, .int x1] [] σ Q := by
  refine Wp.adv (pc' := 31) (ls' := [.ref 9, .int x1]) (st' := [.int (0 : Int32), .int x1, .ref 42]) (σ' := σ) 4 rfl ?_
  refine Wp.zast (N := 40) rfl rfl (by decide) c1 ?_
  exact h
theorem b137_32 {d : Nat} {Q : Option Value → px_S → Prop} {σ : px_S} {x1 : Int32} (h : Q (some (.int (1 : Int32))) σ) : Wp d tb_137 32 [.ref 9, .int x1] [] σ Q := by
  refine Wp.adv (pc' := 33) (ls' := [.ref 9, .int x1]) (st' := [.int (1 : Int32)]) (σ' := σ) 1 rfl ?_
  exact Wp.ret rfl rfl h
theorem e137 {d : Nat} {Q : Option Value → px_S → Prop} {σ : px_S} {x1 : Int32} (h : Wp d tb_137 0 [.ref 9, .int x1] [] σ Q) : Cw (d + 1) 137 [.ref 9, .int x1] σ Q := Cw.of (nL := 2) (y := yX9_put) (cc := cX9_put) (rt := some .int) rfl (Nat.le_of_ble_eq_true rfl) h
theorem b138_0 {d : Nat} {Q : Option Value → px_S → Prop} {σ : px_S} {x1 : Int32} (h : Cw d 130 [.long (x1).toInt64, .long (-1 : Int64), .long ((σ.1 9 1)).toInt64] σ (fun r τ => Wp d tb_138 13 [.ref 9, .int x1] (r.toList ++ []) τ Q)) : Wp d tb_138 0 [.ref 9, .int x1] [] σ Q := by
  refine Wp.adv (pc' := 10) (ls' := [.ref 9, .int x1]) (st' := [.long ((σ.1 9 1)).toInt64, .long (-1 : Int64), .long (x1).toInt64]) (σ' := σ) 6 rfl ?_
  exact Wp.call (q := (130, 3, 0, 13)) rfl (Nat.le_of_ble_eq_true rfl) rfl h
theorem b138_13 {d : Nat} {Q : Option Value → px_S → Prop} {σ : px_S} {x1 s0 : Int32} (ht : ¬ s0 = 0 → Wp d tb_138 20 [.ref 9, .int x1] [] σ Q) (hf : ¬ (¬ s0 = 0) → Wp d tb_138 16 [.ref 9, .int x1] [] σ Q) : Wp d tb_138 13 [.ref 9, .int x1] [.int s0] σ Q := by
  exact Wp.if_ rfl ht hf
theorem b138_16 {d : Nat} {Q : Option Value → px_S → Prop} {σ : px_S} {x1 : Int32} (h : Q (some (.int (-1002 : Int32))) σ) : Wp d tb_138 16 [.ref 9, .int x1] [] σ Q := by
  refine Wp.adv (pc' := 19) (ls' := [.ref 9, .int x1]) (st' := [.int (-1002 : Int32)]) (σ' := σ) 1 rfl ?_
  exact Wp.ret rfl rfl h
theorem b138_20 {d : Nat} {Q : Option Value → px_S → Prop} {σ : px_S} {x1 : Int32} (h : Wp d tb_138 25 [.ref 9, .int x1] [] (px_uI σ 9 12 x1) Q) : Wp d tb_138 20 [.ref 9, .int x1] [] σ Q := by
  refine Wp.adv (pc' := 22) (ls' := [.ref 9, .int x1]) (st' := [.int x1, .ref 9]) (σ' := σ) 2 rfl ?_
  refine Wp.step (q := (25, [.ref 9, .int x1], [], (px_uI σ 9 12 x1))) rfl rfl ?_
  exact h
theorem b138_25 {d : Nat} {Q : Option Value → px_S → Prop} {σ : px_S} {x1 : Int32} (h : Q (some (.int x1)) σ) : Wp d tb_138 25 [.ref 9, .int x1] [] σ Q := by
  refine Wp.adv (pc' := 26) (ls' := [.ref 9, .int x1]) (st' := [.int x1]) (σ' := σ) 1 rfl ?_
  exact Wp.ret rfl rfl h
theorem e138 {d : Nat} {Q : Option Value → px_S → Prop} {σ : px_S} {x1 : Int32} (h : Wp d tb_138 0 [.ref 9, .int x1] [] σ Q) : Cw (d + 1) 138 [.ref 9, .int x1] σ Q := Cw.of (nL := 2) (y := yX9_known) (cc := cX9_known) (rt := some .int) rfl (Nat.le_of_ble_eq_true rfl) h
theorem b139_0 {d : Nat} {Q : Option Value → px_S → Prop} {σ : px_S} {x1 x2 x3 x4 : Int32} (h : Cw d 140 [.ref 9, .int x1, .int x2] σ (fun r τ => Wp d tb_139 6 [.ref 9, .int x1, .int x2, .int x3, .int x4] (r.toList ++ []) τ Q)) : Wp d tb_139 0 [.ref 9, .int x1, .int x2, .int x3, .int x4] [] σ Q := by
  refine Wp.adv (pc' := 3) (ls' := [.ref 9, .int x1, .int x2, .int x3, .int x4]) (st' := [.int x2, .int x1, .ref 9]) (σ' := σ) 3 rfl ?_
  exact Wp.call (q := (140, 3, 9, 6)) rfl (Nat.le_of_ble_eq_true rfl) rfl h
theorem b139_6 {d : Nat} {Q : Option Value → px_S → Prop} {σ : px_S} {x1 x2 x3 x4 s0 : Int32} (ht : ¬ s0 = 0 → Wp d tb_139 19 [.ref 9, .int x1, .int x2, .int x3, .int x4] [] σ Q) (hf : ¬ (¬ s0 = 0) → Wp d tb_139 9 [.ref 9, .int x1, .int x2, .int x3, .int x4] [] σ Q) : Wp d tb_139 6 [.ref 9, .int x1, .int x2, .int x3, .int x4] [.int s0] σ Q := by
  exact Wp.if_ rfl ht hf
theorem b139_9 {d : Nat} {Q : Option Value → px_S → Prop} {σ : px_S} {x1 x2 x3 x4 : Int32} (h : Cw d 140 [.ref 9, .int x3, .int x4] σ (fun r τ => Wp d tb_139 16 [.ref 9, .int x1, .int x2, .int x3, .int x4] (r.toList ++ []) τ Q)) : Wp d tb_139 9 [.ref 9, .int x1, .int x2, .int x3, .int x4] [] σ Q := by
  refine Wp.adv (pc' := 13) (ls' := [.ref 9, .int x1, .int x2, .int x3, .int x4]) (st' := [.int x4, .int x3, .ref 9]) (σ' := σ) 3 rfl ?_
  exact Wp.call (q := (140, 3, 9, 16)) rfl (Nat.le_of_ble_eq_true rfl) rfl h
theorem b139_16 {d : Nat} {Q : Option Value → px_S → Prop} {σ : px_S} {x1 x2 x3 x4 s0 : Int32} (ht : s0 = 0 → Wp d tb_139 25 [.ref 9, .int x1, .int x2, .int x3, .int x4] [] σ Q) (hf : ¬ (s0 = 0) → Wp d tb_139 19 [.ref 9, .int x1, .int x2, .int x3, .int x4] [] σ Q) : Wp d tb_139 16 [.ref 9, .int x1, .int x2, .int x3, .int x4] [.int s0] σ Q := by
  exact Wp.if_ rfl ht hf
theorem b139_19 {d : Nat} {Q : Option Value → px_S → Prop} {σ : px_S} {x1 x2 x3 x4 : Int32} (h : Wp d tb_139 42 [.ref 9, .int x1, .int x2, .int x3, .int x4] [.int (-1001 : Int32)] σ Q) : Wp d tb_139 19 [.ref 9, .int x1, .int x2, .int x3, .int x4] [] σ Q := by
  refine Wp.adv (pc' := 42) (ls' := [.ref 9, .int x1, .int x2, .int x3, .int x4]) (st' := [.int (-1001 : Int32)]) (σ' := σ) 2 rfl ?_
  exact h
theorem b139_25 {d : Nat} {Q : Option Value → px_S → Prop} {σ : px_S} {x1 x2 x3 x4 : Int32} (h : Cw d 141 [.ref 9, .int (((14 : Int32) * x1) + x2), .int (((14 : Int32) * x3) + x4)] σ (fun r τ => Wp d tb_139 42 [.ref 9, .int x1, .int x2, .int x3, .int x4] (r.toList ++ []) τ Q)) : Wp d tb_139 25 [.ref 9, .int x1, .int x2, .int x3, .int x4] [] σ Q := by
  refine Wp.adv (pc' := 39) (ls' := [.ref 9, .int x1, .int x2, .int x3, .int x4]) (st' := [.int (((14 : Int32) * x3) + x4), .int (((14 : Int32) * x1) + x2), .ref 9]) (σ' := σ) 11 rfl ?_
  exact Wp.call (q := (141, 3, 9, 42)) rfl (Nat.le_of_ble_eq_true rfl) rfl h
theorem b139_42 {d : Nat} {Q : Option Value → px_S → Prop} {σ : px_S} {x1 x2 x3 x4 s0 : Int32} (h : Q (some (.int s0)) σ) : Wp d tb_139 42 [.ref 9, .int x1, .int x2, .int x3, .int x4] [.int s0] σ Q := by
  exact Wp.ret rfl rfl h
theorem e139 {d : Nat} {Q : Option Value → px_S → Prop} {σ : px_S} {x1 x2 x3 x4 : Int32} (h : Wp d tb_139 0 [.ref 9, .int x1, .int x2, .int x3, .int x4] [] σ Q) : Cw (d + 1) 139 [.ref 9, .int x1, .int x2, .int x3, .int x4] σ Q := Cw.of (nL := 5) (y := yX9_differ) (cc := cX9_differ) (rt := some .int) rfl (Nat.le_of_ble_eq_true rfl) h
theorem b140_0 {d : Nat} {Q : Option Value → px_S → Prop} {σ : px_S} {x1 x2 : Int32} (h : Cw d 132 [.ref 9, .int x1] σ (fun r τ => Wp d tb_140 5 [.ref 9, .int x1, .int x2] (r.toList ++ []) τ Q)) : Wp d tb_140 0 [.ref 9, .int x1, .int x2] [] σ Q := by
  refine Wp.adv (pc' := 2) (ls' := [.ref 9, .int x1, .int x2]) (st' := [.int x1, .ref 9]) (σ' := σ) 2 rfl ?_
  exact Wp.call (q := (132, 2, 9, 5)) rfl (Nat.le_of_ble_eq_true rfl) rfl h
theorem b140_5 {d : Nat} {Q : Option Value → px_S → Prop} {σ : px_S} {x1 x2 s0 : Int32} (ht : ¬ s0 = 0 → Wp d tb_140 26 [.ref 9, .int x1, .int x2] [] σ Q) (hf : ¬ (¬ s0 = 0) → Wp d tb_140 8 [.ref 9, .int x1, .int x2] [] σ Q) : Wp d tb_140 5 [.ref 9, .int x1, .int x2] [.int s0] σ Q := by
  exact Wp.if_ rfl ht hf
theorem b140_8 {d : Nat} {Q : Option Value → px_S → Prop} {σ : px_S} {x1 x2 : Int32} (c1 : vp_in x1 40) (h : Cw d 130 [.long (x2).toInt64, .long (0 : Int64), .long (((σ.1 41 (x1).toNatClampNeg) - (1 : Int32))).toInt64] σ (fun r τ => Wp d tb_140 23 [.ref 9, .int x1, .int x2] (r.toList ++ []) τ Q)) : Wp d tb_140 8 [.ref 9, .int x1, .int x2] [] σ Q := by
  refine Wp.adv (pc' := 16) (ls' := [.ref 9, .int x1, .int x2]) (st' := [.int x1, .ref 41, .long (0 : Int64), .long (x2).toInt64]) (σ' := σ) 6 rfl ?_
  refine Wp.iald (N := 40) rfl rfl c1 ?_
  refine Wp.adv (pc' := 20) (ls' := [.ref 9, .int x1, .int x2]) (st' := [.long (((σ.1 41 (x1).toNatClampNeg) - (1 : Int32))).toInt64, .long (0 : Int64), .long (x2).toInt64]) (σ' := σ) 3 rfl ?_
  exact Wp.call (q := (130, 3, 0, 23)) rfl (Nat.le_of_ble_eq_true rfl) rfl h
theorem b140_23 {d : Nat} {Q : Option Value → px_S → Prop} {σ : px_S} {x1 x2 s0 : Int32} (ht : ¬ s0 = 0 → Wp d tb_140 30 [.ref 9, .int x1, .int x2] [] σ Q) (hf : ¬ (¬ s0 = 0) → Wp d tb_140 26 [.ref 9, .int x1, .int x2] [] σ Q) : Wp d tb_140 23 [.ref 9, .int x1, .int x2] [.int s0] σ Q := by
  exact Wp.if_ rfl ht hf
theorem b140_26 {d : Nat} {Q : Option Value → px_S → Prop} {σ : px_S} {x1 x2 : Int32} (h : Wp d tb_140 31 [.ref 9, .int x1, .int x2] [.int (1 : Int32)] σ Q) : Wp d tb_140 26 [.ref 9, .int x1, .int x2] [] σ Q := by
  refine Wp.adv (pc' := 31) (ls' := [.ref 9, .int x1, .int x2]) (st' := [.int (1 : Int32)]) (σ' := σ) 2 rfl ?_
  exact h
theorem b140_30 {d : Nat} {Q : Option Value → px_S → Prop} {σ : px_S} {x1 x2 : Int32} (h : Wp d tb_140 31 [.ref 9, .int x1, .int x2] [.int (0 : Int32)] σ Q) : Wp d tb_140 30 [.ref 9, .int x1, .int x2] [] σ Q := by
  refine Wp.adv (pc' := 31) (ls' := [.ref 9, .int x1, .int x2]) (st' := [.int (0 : Int32)]) (σ' := σ) 1 rfl ?_
  exact h
theorem b140_31 {d : Nat} {Q : Option Value → px_S → Prop} {σ : px_S} {x1 x2 s0 : Int32} (c1 : s0 = 0 ∨ s0 = 1) (h : Q (some (.int s0)) σ) : Wp d tb_140 31 [.ref 9, .int x1, .int x2] [.int s0] σ Q := by
  exact Wp.zret rfl c1 h
theorem e140 {d : Nat} {Q : Option Value → px_S → Prop} {σ : px_S} {x1 x2 : Int32} (h : Wp d tb_140 0 [.ref 9, .int x1, .int x2] [] σ Q) : Cw (d + 1) 140 [.ref 9, .int x1, .int x2] σ Q := Cw.of (nL := 3) (y := yX9_noLine) (cc := cX9_noLine) (rt := some .boolean) rfl (Nat.le_of_ble_eq_true rfl) h
theorem b141_0 {d : Nat} {Q : Option Value → px_S → Prop} {σ : px_S} {x1 x2 : Int32} (h : Wp d tb_141 2 [.ref 9, .int x1, .int x2, .int (0 : Int32), .null, .null, .null, .null, .null] [] σ Q) : Wp d tb_141 0 [.ref 9, .int x1, .int x2, .null, .null, .null, .null, .null, .null] [] σ Q := by
  refine Wp.adv (pc' := 2) (ls' := [.ref 9, .int x1, .int x2, .int (0 : Int32), .null, .null, .null, .null, .null]) (st' := []) (σ' := σ) 2 rfl ?_
  exact h
theorem b141_2 {d : Nat} {Q : Option Value → px_S → Prop} {σ : px_S} {x1 x2 x3 : Int32} {v4 v5 v6 v7 v8 : Value} (c1 : vp_in x1 560) (ht : (σ.1 44 (x1).toNatClampNeg) < x3 → Wp d tb_141 192 [.ref 9, .int x1, .int x2, .int x3, v4, v5, v6, v7, v8] [] σ Q) (hf : ¬ ((σ.1 44 (x1).toNatClampNeg) < x3) → Wp d tb_141 12 [.ref 9, .int x1, .int x2, .int x3, v4, v5, v6, v7, v8] [] σ Q) : Wp d tb_141 2 [.ref 9, .int x1, .int x2, .int x3, v4, v5, v6, v7, v8] [] σ Q := by
  refine Wp.adv (pc' := 8) (ls' := [.ref 9, .int x1, .int x2, .int x3, v4, v5, v6, v7, v8]) (st' := [.int x1, .ref 44, .int x3]) (σ' := σ) 4 rfl ?_
  refine Wp.iald (N := 560) rfl rfl c1 ?_
  exact Wp.icmp rfl ht hf
theorem b141_12 {d : Nat} {Q : Option Value → px_S → Prop} {σ : px_S} {x1 x2 x3 : Int32} {v4 v5 v6 v7 v8 : Value} (h : Wp d tb_141 15 [.ref 9, .int x1, .int x2, .int x3, .int (0 : Int32), v5, v6, v7, v8] [] σ Q) : Wp d tb_141 12 [.ref 9, .int x1, .int x2, .int x3, v4, v5, v6, v7, v8] [] σ Q := by
  refine Wp.adv (pc' := 15) (ls' := [.ref 9, .int x1, .int x2, .int x3, .int (0 : Int32), v5, v6, v7, v8]) (st' := []) (σ' := σ) 2 rfl ?_
  exact h
theorem b141_15 {d : Nat} {Q : Option Value → px_S → Prop} {σ : px_S} {x1 x2 x3 x4 : Int32} {v5 v6 v7 v8 : Value} (c1 : vp_in x2 560) (ht : (σ.1 44 (x2).toNatClampNeg) < x4 → Wp d tb_141 186 [.ref 9, .int x1, .int x2, .int x3, .int x4, v5, v6, v7, v8] [] σ Q) (hf : ¬ ((σ.1 44 (x2).toNatClampNeg) < x4) → Wp d tb_141 26 [.ref 9, .int x1, .int x2, .int x3, .int x4, v5, v6, v7, v8] [] σ Q) : Wp d tb_141 15 [.ref 9, .int x1, .int x2, .int x3, .int x4, v5, v6, v7, v8] [] σ Q := by
  refine Wp.adv (pc' := 22) (ls' := [.ref 9, .int x1, .int x2, .int x3, .int x4, v5, v6, v7, v8]) (st' := [.int x2, .ref 44, .int x4]) (σ' := σ) 4 rfl ?_
  refine Wp.iald (N := 560) rfl rfl c1 ?_
  exact Wp.icmp rfl ht hf
theorem b141_26 {d : Nat} {Q : Option Value → px_S → Prop} {σ : px_S} {x1 x2 x3 x4 : Int32} {v5 v6 v7 v8 : Value} (ht : x3 ≤ 0 → Wp d tb_141 166 [.ref 9, .int x1, .int x2, .int x3, .int x4, .int (x3 + x4), v6, v7, v8] [] σ Q) (hf : ¬ (x3 ≤ 0) → Wp d tb_141 36 [.ref 9, .int x1, .int x2, .int x3, .int x4, .int (x3 + x4), v6, v7, v8] [] σ Q) : Wp d tb_141 26 [.ref 9, .int x1, .int x2, .int x3, .int x4, v5, v6, v7, v8] [] σ Q := by
  refine Wp.adv (pc' := 33) (ls' := [.ref 9, .int x1, .int x2, .int x3, .int x4, .int (x3 + x4), v6, v7, v8]) (st' := [.int x3]) (σ' := σ) 5 rfl ?_
  exact Wp.if_ rfl ht hf
theorem b141_36 {d : Nat} {Q : Option Value → px_S → Prop} {σ : px_S} {x1 x2 x3 x4 x5 : Int32} {v6 v7 v8 : Value} (ht : x4 ≤ 0 → Wp d tb_141 166 [.ref 9, .int x1, .int x2, .int x3, .int x4, .int x5, v6, v7, v8] [] σ Q) (hf : ¬ (x4 ≤ 0) → Wp d tb_141 41 [.ref 9, .int x1, .int x2, .int x3, .int x4, .int x5, v6, v7, v8] [] σ Q) : Wp d tb_141 36 [.ref 9, .int x1, .int x2, .int x3, .int x4, .int x5, v6, v7, v8] [] σ Q := by
  refine Wp.adv (pc' := 38) (ls' := [.ref 9, .int x1, .int x2, .int x3, .int x4, .int x5, v6, v7, v8]) (st' := [.int x4]) (σ' := σ) 1 rfl ?_
  exact Wp.if_ rfl ht hf
theorem b141_41 {d : Nat} {Q : Option Value → px_S → Prop} {σ : px_S} {x1 x2 x3 x4 x5 : Int32} {v6 v7 v8 : Value} (c1 : vp_in (((9 : Int32) * (x3 - (1 : Int32))) + x4) 81) (c2 : vp_in ((((9 : Int32) * x3) + x4) - (1 : Int32)) 81) (c3 : vp_in ((((9 : Int32) * (x3 - (1 : Int32))) + x4) - (1 : Int32)) 81) (c4 : vp_in ((((8 : Int32) * x1) + x3) - (1 : Int32)) 4480) (c5 : vp_in ((((8 : Int32) * x2) + x4) - (1 : Int32)) 4480) (ht : (σ.1 45 (((((8 : Int32) * x1) + x3) - (1 : Int32))).toNatClampNeg) = (σ.1 45 (((((8 : Int32) * x2) + x4) - (1 : Int32))).toNatClampNeg) → Wp d tb_141 127 [.ref 9, .int x1, .int x2, .int x3, .int x4, .int x5, .int ((σ.1 47 ((((9 : Int32) * (x3 - (1 : Int32))) + x4)).toNatClampNeg) + (1 : Int32)), .int ((σ.1 47 (((((9 : Int32) * x3) + x4) - (1 : Int32))).toNatClampNeg) + (1 : Int32)), v8] [.int (σ.1 47 (((((9 : Int32) * (x3 - (1 : Int32))) + x4) - (1 : Int32))).toNatClampNeg)] σ Q) (hf : ¬ ((σ.1 45 (((((8 : Int32) * x1) + x3) - (1 : Int32))).toNatClampNeg) = (σ.1 45 (((((8 : Int32) * x2) + x4) - (1 : Int32))).toNatClampNeg)) → Wp d tb_141 123 [.ref 9, .int x1, .int x2, .int x3, .int x4, .int x5, .int ((σ.1 47 ((((9 : Int32) * (x3 - (1 : Int32))) + x4)).toNatClampNeg) + (1 : Int32)), .int ((σ.1 47 (((((9 : Int32) * x3) + x4) - (1 : Int32))).toNatClampNeg) + (1 : Int32)), v8] [.int (σ.1 47 (((((9 : Int32) * (x3 - (1 : Int32))) + x4) - (1 : Int32))).toNatClampNeg)] σ Q) : Wp d tb_141 41 [.ref 9, .int x1, .int x2, .int x3, .int x4, .int x5, v6, v7, v8] [] σ Q := by
  refine Wp.adv (pc' := 54) (ls' := [.ref 9, .int x1, .int x2, .int x3, .int x4, .int x5, v6, v7, v8]) (st' := [.int (((9 : Int32) * (x3 - (1 : Int32))) + x4), .ref 47]) (σ' := σ) 9 rfl ?_
  refine Wp.iald (N := 81) rfl rfl c1 ?_
  refine Wp.adv (pc' := 72) (ls' := [.ref 9, .int x1, .int x2, .int x3, .int x4, .int x5, .int ((σ.1 47 ((((9 : Int32) * (x3 - (1 : Int32))) + x4)).toNatClampNeg) + (1 : Int32)), v7, v8]) (st' := [.int ((((9 : Int32) * x3) + x4) - (1 : Int32)), .ref 47]) (σ' := σ) 12 rfl ?_
  refine Wp.iald (N := 81) rfl rfl c2 ?_
  refine Wp.adv (pc' := 92) (ls' := [.ref 9, .int x1, .int x2, .int x3, .int x4, .int x5, .int ((σ.1 47 ((((9 : Int32) * (x3 - (1 : Int32))) + x4)).toNatClampNeg) + (1 : Int32)), .int ((σ.1 47 (((((9 : Int32) * x3) + x4) - (1 : Int32))).toNatClampNeg) + (1 : Int32)), v8]) (st' := [.int ((((9 : Int32) * (x3 - (1 : Int32))) + x4) - (1 : Int32)), .ref 47]) (σ' := σ) 14 rfl ?_
  refine Wp.iald (N := 81) rfl rfl c3 ?_
  refine Wp.adv (pc' := 105) (ls' := [.ref 9, .int x1, .int x2, .int x3, .int x4, .int x5, .int ((σ.1 47 ((((9 : Int32) * (x3 - (1 : Int32))) + x4)).toNatClampNeg) + (1 : Int32)), .int ((σ.1 47 (((((9 : Int32) * x3) + x4) - (1 : Int32))).toNatClampNeg) + (1 : Int32)), v8]) (st' := [.int ((((8 : Int32) * x1) + x3) - (1 : Int32)), .ref 45, .int (σ.1 47 (((((9 : Int32) * (x3 - (1 : Int32))) + x4) - (1 : Int32))).toNatClampNeg)]) (σ' := σ) 9 rfl ?_
  refine Wp.iald (N := 4480) rfl rfl c4 ?_
  refine Wp.adv (pc' := 119) (ls' := [.ref 9, .int x1, .int x2, .int x3, .int x4, .int x5, .int ((σ.1 47 ((((9 : Int32) * (x3 - (1 : Int32))) + x4)).toNatClampNeg) + (1 : Int32)), .int ((σ.1 47 (((((9 : Int32) * x3) + x4) - (1 : Int32))).toNatClampNeg) + (1 : Int32)), v8]) (st' := [.int ((((8 : Int32) * x2) + x4) - (1 : Int32)), .ref 45, .int (σ.1 45 (((((8 : Int32) * x1) + x3) - (1 : Int32))).toNatClampNeg), .int (σ.1 47 (((((9 : Int32) * (x3 - (1 : Int32))) + x4) - (1 : Int32))).toNatClampNeg)]) (σ' := σ) 9 rfl ?_
  refine Wp.iald (N := 4480) rfl rfl c5 ?_
  exact Wp.icmp rfl ht hf
theorem b141_123 {d : Nat} {Q : Option Value → px_S → Prop} {σ : px_S} {x1 x2 x3 x4 x5 x6 x7 s0 : Int32} {v8 : Value} (h : Wp d tb_141 128 [.ref 9, .int x1, .int x2, .int x3, .int x4, .int x5, .int x6, .int x7, v8] [.int (1 : Int32), .int s0] σ Q) : Wp d tb_141 123 [.ref 9, .int x1, .int x2, .int x3, .int x4, .int x5, .int x6, .int x7, v8] [.int s0] σ Q := by
  refine Wp.adv (pc' := 128) (ls' := [.ref 9, .int x1, .int x2, .int x3, .int x4, .int x5, .int x6, .int x7, v8]) (st' := [.int (1 : Int32), .int s0]) (σ' := σ) 2 rfl ?_
  exact h
theorem b141_127 {d : Nat} {Q : Option Value → px_S → Prop} {σ : px_S} {x1 x2 x3 x4 x5 x6 x7 s0 : Int32} {v8 : Value} (h : Wp d tb_141 128 [.ref 9, .int x1, .int x2, .int x3, .int x4, .int x5, .int x6, .int x7, v8] [.int (0 : Int32), .int s0] σ Q) : Wp d tb_141 127 [.ref 9, .int x1, .int x2, .int x3, .int x4, .int x5, .int x6, .int x7, v8] [.int s0] σ Q := by
  refine Wp.adv (pc' := 128) (ls' := [.ref 9, .int x1, .int x2, .int x3, .int x4, .int x5, .int x6, .int x7, v8]) (st' := [.int (0 : Int32), .int s0]) (σ' := σ) 1 rfl ?_
  exact h
theorem b141_128 {d : Nat} {Q : Option Value → px_S → Prop} {σ : px_S} {x1 x2 x3 x4 x5 x6 x7 s0 s1 : Int32} {v8 : Value} (nv8 : px_nc v8 = true) (h : Cw d 135 [.int s0] σ (fun r τ => Wp d tb_141 131 [.ref 9, .int x1, .int x2, .int x3, .int x4, .int x5, .int x6, .int x7, v8] (r.toList ++ [.int s1]) τ Q)) : Wp d tb_141 128 [.ref 9, .int x1, .int x2, .int x3, .int x4, .int x5, .int x6, .int x7, v8] [.int s0, .int s1] σ Q := by
  exact Wp.call (q := (135, 1, 0, 131)) rfl (Nat.le_of_ble_eq_true rfl) (px_okc_mk rfl rfl rfl (by simp only [List.all_cons, List.all_nil, nv8]; rfl)) h
theorem b141_131 {d : Nat} {Q : Option Value → px_S → Prop} {σ : px_S} {x1 x2 x3 x4 x5 x6 x7 s0 s1 : Int32} {v8 : Value} (ht : x7 ≤ x6 → Wp d tb_141 146 [.ref 9, .int x1, .int x2, .int x3, .int x4, .int x5, .int x6, .int x7, .int (s1 + s0)] [] σ Q) (hf : ¬ (x7 ≤ x6) → Wp d tb_141 141 [.ref 9, .int x1, .int x2, .int x3, .int x4, .int x5, .int x6, .int x7, .int (s1 + s0)] [] σ Q) : Wp d tb_141 131 [.ref 9, .int x1, .int x2, .int x3, .int x4, .int x5, .int x6, .int x7, v8] [.int s0, .int s1] σ Q := by
  refine Wp.adv (pc' := 138) (ls' := [.ref 9, .int x1, .int x2, .int x3, .int x4, .int x5, .int x6, .int x7, .int (s1 + s0)]) (st' := [.int x7, .int x6]) (σ' := σ) 4 rfl ?_
  exact Wp.icmp rfl ht hf
theorem b141_141 {d : Nat} {Q : Option Value → px_S → Prop} {σ : px_S} {x1 x2 x3 x4 x5 x6 x7 x8 : Int32} (h : Wp d tb_141 148 [.ref 9, .int x1, .int x2, .int x3, .int x4, .int x5, .int x6, .int x7, .int x8] [.int x6] σ Q) : Wp d tb_141 141 [.ref 9, .int x1, .int x2, .int x3, .int x4, .int x5, .int x6, .int x7, .int x8] [] σ Q := by
  refine Wp.adv (pc' := 148) (ls' := [.ref 9, .int x1, .int x2, .int x3, .int x4, .int x5, .int x6, .int x7, .int x8]) (st' := [.int x6]) (σ' := σ) 2 rfl ?_
  exact h
theorem b141_146 {d : Nat} {Q : Option Value → px_S → Prop} {σ : px_S} {x1 x2 x3 x4 x5 x6 x7 x8 : Int32} (h : Wp d tb_141 148 [.ref 9, .int x1, .int x2, .int x3, .int x4, .int x5, .int x6, .int x7, .int x8] [.int x7] σ Q) : Wp d tb_141 146 [.ref 9, .int x1, .int x2, .int x3, .int x4, .int x5, .int x6, .int x7, .int x8] [] σ Q := by
  refine Wp.adv (pc' := 148) (ls' := [.ref 9, .int x1, .int x2, .int x3, .int x4, .int x5, .int x6, .int x7, .int x8]) (st' := [.int x7]) (σ' := σ) 1 rfl ?_
  exact h
theorem b141_148 {d : Nat} {Q : Option Value → px_S → Prop} {σ : px_S} {x1 x2 x3 x4 x5 x6 x7 x8 s0 : Int32} (ht : s0 ≤ x8 → Wp d tb_141 162 [.ref 9, .int x1, .int x2, .int x3, .int x4, .int s0, .int x6, .int x7, .int x8] [] σ Q) (hf : ¬ (s0 ≤ x8) → Wp d tb_141 157 [.ref 9, .int x1, .int x2, .int x3, .int x4, .int s0, .int x6, .int x7, .int x8] [] σ Q) : Wp d tb_141 148 [.ref 9, .int x1, .int x2, .int x3, .int x4, .int x5, .int x6, .int x7, .int x8] [.int s0] σ Q := by
  refine Wp.adv (pc' := 154) (ls' := [.ref 9, .int x1, .int x2, .int x3, .int x4, .int s0, .int x6, .int x7, .int x8]) (st' := [.int s0, .int x8]) (σ' := σ) 3 rfl ?_
  exact Wp.icmp rfl ht hf
theorem b141_157 {d : Nat} {Q : Option Value → px_S → Prop} {σ : px_S} {x1 x2 x3 x4 x5 x6 x7 x8 : Int32} (h : Wp d tb_141 164 [.ref 9, .int x1, .int x2, .int x3, .int x4, .int x5, .int x6, .int x7, .int x8] [.int x8] σ Q) : Wp d tb_141 157 [.ref 9, .int x1, .int x2, .int x3, .int x4, .int x5, .int x6, .int x7, .int x8] [] σ Q := by
  refine Wp.adv (pc' := 164) (ls' := [.ref 9, .int x1, .int x2, .int x3, .int x4, .int x5, .int x6, .int x7, .int x8]) (st' := [.int x8]) (σ' := σ) 2 rfl ?_
  exact h
theorem b141_162 {d : Nat} {Q : Option Value → px_S → Prop} {σ : px_S} {x1 x2 x3 x4 x5 x6 x7 x8 : Int32} (h : Wp d tb_141 164 [.ref 9, .int x1, .int x2, .int x3, .int x4, .int x5, .int x6, .int x7, .int x8] [.int x5] σ Q) : Wp d tb_141 162 [.ref 9, .int x1, .int x2, .int x3, .int x4, .int x5, .int x6, .int x7, .int x8] [] σ Q := by
  refine Wp.adv (pc' := 164) (ls' := [.ref 9, .int x1, .int x2, .int x3, .int x4, .int x5, .int x6, .int x7, .int x8]) (st' := [.int x5]) (σ' := σ) 1 rfl ?_
  exact h
theorem b141_164 {d : Nat} {Q : Option Value → px_S → Prop} {σ : px_S} {x1 x2 x3 x4 x5 x6 x7 x8 s0 : Int32} (h : Wp d tb_141 166 [.ref 9, .int x1, .int x2, .int x3, .int x4, .int s0, .int x6, .int x7, .int x8] [] σ Q) : Wp d tb_141 164 [.ref 9, .int x1, .int x2, .int x3, .int x4, .int x5, .int x6, .int x7, .int x8] [.int s0] σ Q := by
  refine Wp.adv (pc' := 166) (ls' := [.ref 9, .int x1, .int x2, .int x3, .int x4, .int s0, .int x6, .int x7, .int x8]) (st' := []) (σ' := σ) 1 rfl ?_
  exact h
theorem b141_166 {d : Nat} {Q : Option Value → px_S → Prop} {σ : px_S} {x1 x2 x3 x4 x5 : Int32} {v6 v7 v8 : Value} (c1 : vp_in (((9 : Int32) * x3) + x4) 81) (h : Wp d tb_141 180 [.ref 9, .int x1, .int x2, .int x3, .int x4, .int x5, v6, v7, v8] [] (px_uI σ 47 ((((9 : Int32) * x3) + x4)).toNatClampNeg x5) Q) : Wp d tb_141 166 [.ref 9, .int x1, .int x2, .int x3, .int x4, .int x5, v6, v7, v8] [] σ Q := by
  refine Wp.adv (pc' := 179) (ls' := [.ref 9, .int x1, .int x2, .int x3, .int x4, .int x5, v6, v7, v8]) (st' := [.int x5, .int (((9 : Int32) * x3) + x4), .ref 47]) (σ' := σ) 8 rfl ?_
  refine Wp.iast (N := 81) rfl rfl c1 ?_
  exact h
theorem b141_180 {d : Nat} {Q : Option Value → px_S → Prop} {σ : px_S} {x1 x2 x3 x4 x5 : Int32} {v6 v7 v8 : Value} (h : Wp d tb_141 15 [.ref 9, .int x1, .int x2, .int x3, .int (x4 + 1), .int x5, v6, v7, v8] [] σ Q) : Wp d tb_141 180 [.ref 9, .int x1, .int x2, .int x3, .int x4, .int x5, v6, v7, v8] [] σ Q := by
  refine Wp.adv (pc' := 15) (ls' := [.ref 9, .int x1, .int x2, .int x3, .int (x4 + 1), .int x5, v6, v7, v8]) (st' := []) (σ' := σ) 2 rfl ?_
  exact h
theorem b141_186 {d : Nat} {Q : Option Value → px_S → Prop} {σ : px_S} {x1 x2 x3 x4 : Int32} {v5 v6 v7 v8 : Value} (h : Wp d tb_141 2 [.ref 9, .int x1, .int x2, .int (x3 + 1), .int x4, v5, v6, v7, v8] [] σ Q) : Wp d tb_141 186 [.ref 9, .int x1, .int x2, .int x3, .int x4, v5, v6, v7, v8] [] σ Q := by
  refine Wp.adv (pc' := 2) (ls' := [.ref 9, .int x1, .int x2, .int (x3 + 1), .int x4, v5, v6, v7, v8]) (st' := []) (σ' := σ) 2 rfl ?_
  exact h
theorem b141_192 {d : Nat} {Q : Option Value → px_S → Prop} {σ : px_S} {x1 x2 x3 : Int32} {v4 v5 v6 v7 v8 : Value} (c1 : vp_in x1 560) (c2 : vp_in x2 560) (c3 : vp_in (((9 : Int32) * (σ.1 44 (x1).toNatClampNeg)) + (σ.1 44 (x2).toNatClampNeg)) 81) (h : Q (some (.int (σ.1 47 ((((9 : Int32) * (σ.1 44 (x1).toNatClampNeg)) + (σ.1 44 (x2).toNatClampNeg))).toNatClampNeg))) σ) : Wp d tb_141 192 [.ref 9, .int x1, .int x2, .int x3, v4, v5, v6, v7, v8] [] σ Q := by
  refine Wp.adv (pc' := 203) (ls' := [.ref 9, .int x1, .int x2, .int x3, v4, v5, v6, v7, v8]) (st' := [.int x1, .ref 44, .int (9 : Int32), .ref 47]) (σ' := σ) 6 rfl ?_
  refine Wp.iald (N := 560) rfl rfl c1 ?_
  refine Wp.adv (pc' := 210) (ls' := [.ref 9, .int x1, .int x2, .int x3, v4, v5, v6, v7, v8]) (st' := [.int x2, .ref 44, .int ((9 : Int32) * (σ.1 44 (x1).toNatClampNeg)), .ref 47]) (σ' := σ) 4 rfl ?_
  refine Wp.iald (N := 560) rfl rfl c2 ?_
  refine Wp.adv (pc' := 212) (ls' := [.ref 9, .int x1, .int x2, .int x3, v4, v5, v6, v7, v8]) (st' := [.int (((9 : Int32) * (σ.1 44 (x1).toNatClampNeg)) + (σ.1 44 (x2).toNatClampNeg)), .ref 47]) (σ' := σ) 1 rfl ?_
  refine Wp.iald (N := 81) rfl rfl c3 ?_
  exact Wp.ret rfl rfl h
theorem e141 {d : Nat} {Q : Option Value → px_S → Prop} {σ : px_S} {x1 x2 : Int32} (h : Wp d tb_141 0 [.ref 9, .int x1, .int x2, .null, .null, .null, .null, .null, .null] [] σ Q) : Cw (d + 1) 141 [.ref 9, .int x1, .int x2] σ Q := Cw.of (nL := 9) (y := yX9_differBy) (cc := cX9_differBy) (rt := some .int) rfl (Nat.le_of_ble_eq_true rfl) h
theorem b142_0 {d : Nat} {Q : Option Value → px_S → Prop} {σ : px_S} {x1 x2 : Int32} (h : Cw d 132 [.ref 9, .int x1] σ (fun r τ => Wp d tb_142 5 [.ref 9, .int x1, .int x2] (r.toList ++ []) τ Q)) : Wp d tb_142 0 [.ref 9, .int x1, .int x2] [] σ Q := by
  refine Wp.adv (pc' := 2) (ls' := [.ref 9, .int x1, .int x2]) (st' := [.int x1, .ref 9]) (σ' := σ) 2 rfl ?_
  exact Wp.call (q := (132, 2, 9, 5)) rfl (Nat.le_of_ble_eq_true rfl) rfl h
theorem b142_5 {d : Nat} {Q : Option Value → px_S → Prop} {σ : px_S} {x1 x2 s0 : Int32} (ht : ¬ s0 = 0 → Wp d tb_142 16 [.ref 9, .int x1, .int x2] [] σ Q) (hf : ¬ (¬ s0 = 0) → Wp d tb_142 8 [.ref 9, .int x1, .int x2] [] σ Q) : Wp d tb_142 5 [.ref 9, .int x1, .int x2] [.int s0] σ Q := by
  exact Wp.if_ rfl ht hf
theorem b142_8 {d : Nat} {Q : Option Value → px_S → Prop} {σ : px_S} {x1 x2 : Int32} (h : Cw d 132 [.ref 9, .int x2] σ (fun r τ => Wp d tb_142 13 [.ref 9, .int x1, .int x2] (r.toList ++ []) τ Q)) : Wp d tb_142 8 [.ref 9, .int x1, .int x2] [] σ Q := by
  refine Wp.adv (pc' := 10) (ls' := [.ref 9, .int x1, .int x2]) (st' := [.int x2, .ref 9]) (σ' := σ) 2 rfl ?_
  exact Wp.call (q := (132, 2, 9, 13)) rfl (Nat.le_of_ble_eq_true rfl) rfl h
theorem b142_13 {d : Nat} {Q : Option Value → px_S → Prop} {σ : px_S} {x1 x2 s0 : Int32} (ht : s0 = 0 → Wp d tb_142 20 [.ref 9, .int x1, .int x2] [] σ Q) (hf : ¬ (s0 = 0) → Wp d tb_142 16 [.ref 9, .int x1, .int x2] [] σ Q) : Wp d tb_142 13 [.ref 9, .int x1, .int x2] [.int s0] σ Q := by
  exact Wp.if_ rfl ht hf
theorem b142_16 {d : Nat} {Q : Option Value → px_S → Prop} {σ : px_S} {x1 x2 : Int32} (h : Q (some (.int (-1001 : Int32))) σ) : Wp d tb_142 16 [.ref 9, .int x1, .int x2] [] σ Q := by
  refine Wp.adv (pc' := 19) (ls' := [.ref 9, .int x1, .int x2]) (st' := [.int (-1001 : Int32)]) (σ' := σ) 1 rfl ?_
  exact Wp.ret rfl rfl h
theorem b142_20 {d : Nat} {Q : Option Value → px_S → Prop} {σ : px_S} {x1 x2 : Int32} (ht : x1 = x2 → Wp d tb_142 41 [.ref 9, .int x1, .int x2] [] σ Q) (hf : ¬ (x1 = x2) → Wp d tb_142 25 [.ref 9, .int x1, .int x2] [] σ Q) : Wp d tb_142 20 [.ref 9, .int x1, .int x2] [] σ Q := by
  refine Wp.adv (pc' := 22) (ls' := [.ref 9, .int x1, .int x2]) (st' := [.int x2, .int x1]) (σ' := σ) 2 rfl ?_
  exact Wp.icmp rfl ht hf
theorem b142_25 {d : Nat} {Q : Option Value → px_S → Prop} {σ : px_S} {x1 x2 : Int32} (h : Cw d 143 [.ref 9, .int x1] σ (fun r τ => Wp d tb_142 30 [.ref 9, .int x1, .int x2] (r.toList ++ []) τ Q)) : Wp d tb_142 25 [.ref 9, .int x1, .int x2] [] σ Q := by
  refine Wp.adv (pc' := 27) (ls' := [.ref 9, .int x1, .int x2]) (st' := [.int x1, .ref 9]) (σ' := σ) 2 rfl ?_
  exact Wp.call (q := (143, 2, 9, 30)) rfl (Nat.le_of_ble_eq_true rfl) rfl h
theorem b142_30 {d : Nat} {Q : Option Value → px_S → Prop} {σ : px_S} {x1 x2 s0 : Int32} (ht : s0 = 0 → Wp d tb_142 41 [.ref 9, .int x1, .int x2] [] σ Q) (hf : ¬ (s0 = 0) → Wp d tb_142 33 [.ref 9, .int x1, .int x2] [] σ Q) : Wp d tb_142 30 [.ref 9, .int x1, .int x2] [.int s0] σ Q := by
  exact Wp.if_ rfl ht hf
theorem b142_33 {d : Nat} {Q : Option Value → px_S → Prop} {σ : px_S} {x1 x2 : Int32} (h : Cw d 143 [.ref 9, .int x2] σ (fun r τ => Wp d tb_142 38 [.ref 9, .int x1, .int x2] (r.toList ++ []) τ Q)) : Wp d tb_142 33 [.ref 9, .int x1, .int x2] [] σ Q := by
  refine Wp.adv (pc' := 35) (ls' := [.ref 9, .int x1, .int x2]) (st' := [.int x2, .ref 9]) (σ' := σ) 2 rfl ?_
  exact Wp.call (q := (143, 2, 9, 38)) rfl (Nat.le_of_ble_eq_true rfl) rfl h
theorem b142_38 {d : Nat} {Q : Option Value → px_S → Prop} {σ : px_S} {x1 x2 s0 : Int32} (ht : ¬ s0 = 0 → Wp d tb_142 47 [.ref 9, .int x1, .int x2] [] σ Q) (hf : ¬ (¬ s0 = 0) → Wp d tb_142 41 [.ref 9, .int x1, .int x2] [] σ Q) : Wp d tb_142 38 [.ref 9, .int x1, .int x2] [.int s0] σ Q := by
  exact Wp.if_ rfl ht hf
theorem b142_41 {d : Nat} {Q : Option Value → px_S → Prop} {σ : px_S} {x1 x2 : Int32} (h : Wp d tb_142 53 [.ref 9, .int x1, .int x2] [.int (-1003 : Int32)] σ Q) : Wp d tb_142 41 [.ref 9, .int x1, .int x2] [] σ Q := by
  refine Wp.adv (pc' := 53) (ls' := [.ref 9, .int x1, .int x2]) (st' := [.int (-1003 : Int32)]) (σ' := σ) 2 rfl ?_
  exact h
theorem b142_47 {d : Nat} {Q : Option Value → px_S → Prop} {σ : px_S} {x1 x2 : Int32} (h : Cw d 144 [.ref 9, .int x1, .int x2] σ (fun r τ => Wp d tb_142 53 [.ref 9, .int x1, .int x2] (r.toList ++ []) τ Q)) : Wp d tb_142 47 [.ref 9, .int x1, .int x2] [] σ Q := by
  refine Wp.adv (pc' := 50) (ls' := [.ref 9, .int x1, .int x2]) (st' := [.int x2, .int x1, .ref 9]) (σ' := σ) 3 rfl ?_
  exact Wp.call (q := (144, 3, 9, 53)) rfl (Nat.le_of_ble_eq_true rfl) rfl h
theorem b142_53 {d : Nat} {Q : Option Value → px_S → Prop} {σ : px_S} {x1 x2 s0 : Int32} (h : Q (some (.int s0)) σ) : Wp d tb_142 53 [.ref 9, .int x1, .int x2] [.int s0] σ Q := by
  exact Wp.ret rfl rfl h
theorem e142 {d : Nat} {Q : Option Value → px_S → Prop} {σ : px_S} {x1 x2 : Int32} (h : Wp d tb_142 0 [.ref 9, .int x1, .int x2] [] σ Q) : Cw (d + 1) 142 [.ref 9, .int x1, .int x2] σ Q := Cw.of (nL := 3) (y := yX9_fit) (cc := cX9_fit) (rt := some .int) rfl (Nat.le_of_ble_eq_true rfl) h
theorem b143_0 {d : Nat} {Q : Option Value → px_S → Prop} {σ : px_S} {x1 : Int32} (ht : (σ.1 9 12) < 0 → Wp d tb_143 15 [.ref 9, .int x1] [] σ Q) (hf : ¬ ((σ.1 9 12) < 0) → Wp d tb_143 7 [.ref 9, .int x1] [] σ Q) : Wp d tb_143 0 [.ref 9, .int x1] [] σ Q := by
  refine Wp.adv (pc' := 4) (ls' := [.ref 9, .int x1]) (st' := [.int (σ.1 9 12)]) (σ' := σ) 2 rfl ?_
  exact Wp.if_ rfl ht hf
theorem b143_7 {d : Nat} {Q : Option Value → px_S → Prop} {σ : px_S} {x1 : Int32} (ht : (σ.1 9 12) ≤ x1 → Wp d tb_143 36 [.ref 9, .int x1] [] σ Q) (hf : ¬ ((σ.1 9 12) ≤ x1) → Wp d tb_143 15 [.ref 9, .int x1] [] σ Q) : Wp d tb_143 7 [.ref 9, .int x1] [] σ Q := by
  refine Wp.adv (pc' := 12) (ls' := [.ref 9, .int x1]) (st' := [.int (σ.1 9 12), .int x1]) (σ' := σ) 3 rfl ?_
  exact Wp.icmp rfl ht hf
theorem b143_15 {d : Nat} {Q : Option Value → px_S → Prop} {σ : px_S} {x1 : Int32} (c1 : vp_in x1 40) (ht : (σ.1 42 (x1).toNatClampNeg) = 0 → Wp d tb_143 32 [.ref 9, .int x1] [] σ Q) (hf : ¬ ((σ.1 42 (x1).toNatClampNeg) = 0) → Wp d tb_143 24 [.ref 9, .int x1] [] σ Q) : Wp d tb_143 15 [.ref 9, .int x1] [] σ Q := by
  refine Wp.adv (pc' := 20) (ls' := [.ref 9, .int x1]) (st' := [.int x1, .ref 42]) (σ' := σ) 3 rfl ?_
  refine Wp.zald (N := 40) rfl rfl c1 ?_
  exact Wp.if_ rfl ht hf
theorem b143_24 {d : Nat} {Q : Option Value → px_S → Prop} {σ : px_S} {x1 : Int32} (ht : ¬ x1 = (σ.1 9 13) → Wp d tb_143 36 [.ref 9, .int x1] [] σ Q) (hf : ¬ (¬ x1 = (σ.1 9 13)) → Wp d tb_143 32 [.ref 9, .int x1] [] σ Q) : Wp d tb_143 24 [.ref 9, .int x1] [] σ Q := by
  refine Wp.adv (pc' := 29) (ls' := [.ref 9, .int x1]) (st' := [.int (σ.1 9 13), .int x1]) (σ' := σ) 3 rfl ?_
  exact Wp.icmp rfl ht hf
theorem b143_32 {d : Nat} {Q : Option Value → px_S → Prop} {σ : px_S} {x1 : Int32} (h : Wp d tb_143 37 [.ref 9, .int x1] [.int (1 : Int32)] σ Q) : Wp d tb_143 32 [.ref 9, .int x1] [] σ Q := by
  refine Wp.adv (pc' := 37) (ls' := [.ref 9, .int x1]) (st' := [.int (1 : Int32)]) (σ' := σ) 2 rfl ?_
  exact h
theorem b143_36 {d : Nat} {Q : Option Value → px_S → Prop} {σ : px_S} {x1 : Int32} (h : Wp d tb_143 37 [.ref 9, .int x1] [.int (0 : Int32)] σ Q) : Wp d tb_143 36 [.ref 9, .int x1] [] σ Q := by
  refine Wp.adv (pc' := 37) (ls' := [.ref 9, .int x1]) (st' := [.int (0 : Int32)]) (σ' := σ) 1 rfl ?_
  exact h
theorem b143_37 {d : Nat} {Q : Option Value → px_S → Prop} {σ : px_S} {x1 s0 : Int32} (c1 : s0 = 0 ∨ s0 = 1) (h : Q (some (.int s0)) σ) : Wp d tb_143 37 [.ref 9, .int x1] [.int s0] σ Q := by
  exact Wp.zret rfl c1 h
theorem e143 {d : Nat} {Q : Option Value → px_S → Prop} {σ : px_S} {x1 : Int32} (h : Wp d tb_143 0 [.ref 9, .int x1] [] σ Q) : Cw (d + 1) 143 [.ref 9, .int x1] σ Q := Cw.of (nL := 2) (y := yX9_isSeen) (cc := cX9_isSeen) (rt := some .boolean) rfl (Nat.le_of_ble_eq_true rfl) h
theorem b144_0 {d : Nat} {Q : Option Value → px_S → Prop} {σ : px_S} {x1 x2 : Int32} (h : Wp d tb_144 2 [.ref 9, .int x1, .int x2, .int (0 : Int32), .null, .null, .null, .null, .null] [] σ Q) : Wp d tb_144 0 [.ref 9, .int x1, .int x2, .null, .null, .null, .null, .null, .null] [] σ Q := by
  refine Wp.adv (pc' := 2) (ls' := [.ref 9, .int x1, .int x2, .int (0 : Int32), .null, .null, .null, .null, .null]) (st' := []) (σ' := σ) 2 rfl ?_
  exact h
theorem b144_2 {d : Nat} {Q : Option Value → px_S → Prop} {σ : px_S} {x1 x2 x3 : Int32} {v4 v5 v6 v7 v8 : Value} (c1 : vp_in x1 40) (ht : (σ.1 41 (x1).toNatClampNeg) < x3 → Wp d tb_144 171 [.ref 9, .int x1, .int x2, .int x3, v4, v5, v6, v7, v8] [] σ Q) (hf : ¬ ((σ.1 41 (x1).toNatClampNeg) < x3) → Wp d tb_144 12 [.ref 9, .int x1, .int x2, .int x3, v4, v5, v6, v7, v8] [] σ Q) : Wp d tb_144 2 [.ref 9, .int x1, .int x2, .int x3, v4, v5, v6, v7, v8] [] σ Q := by
  refine Wp.adv (pc' := 8) (ls' := [.ref 9, .int x1, .int x2, .int x3, v4, v5, v6, v7, v8]) (st' := [.int x1, .ref 41, .int x3]) (σ' := σ) 4 rfl ?_
  refine Wp.iald (N := 40) rfl rfl c1 ?_
  exact Wp.icmp rfl ht hf
theorem b144_12 {d : Nat} {Q : Option Value → px_S → Prop} {σ : px_S} {x1 x2 x3 : Int32} {v4 v5 v6 v7 v8 : Value} (h : Wp d tb_144 15 [.ref 9, .int x1, .int x2, .int x3, .int (0 : Int32), v5, v6, v7, v8] [] σ Q) : Wp d tb_144 12 [.ref 9, .int x1, .int x2, .int x3, v4, v5, v6, v7, v8] [] σ Q := by
  refine Wp.adv (pc' := 15) (ls' := [.ref 9, .int x1, .int x2, .int x3, .int (0 : Int32), v5, v6, v7, v8]) (st' := []) (σ' := σ) 2 rfl ?_
  exact h
theorem b144_15 {d : Nat} {Q : Option Value → px_S → Prop} {σ : px_S} {x1 x2 x3 x4 : Int32} {v5 v6 v7 v8 : Value} (c1 : vp_in x2 40) (ht : (σ.1 41 (x2).toNatClampNeg) < x4 → Wp d tb_144 165 [.ref 9, .int x1, .int x2, .int x3, .int x4, v5, v6, v7, v8] [] σ Q) (hf : ¬ ((σ.1 41 (x2).toNatClampNeg) < x4) → Wp d tb_144 26 [.ref 9, .int x1, .int x2, .int x3, .int x4, v5, v6, v7, v8] [] σ Q) : Wp d tb_144 15 [.ref 9, .int x1, .int x2, .int x3, .int x4, v5, v6, v7, v8] [] σ Q := by
  refine Wp.adv (pc' := 22) (ls' := [.ref 9, .int x1, .int x2, .int x3, .int x4, v5, v6, v7, v8]) (st' := [.int x2, .ref 41, .int x4]) (σ' := σ) 4 rfl ?_
  refine Wp.iald (N := 40) rfl rfl c1 ?_
  exact Wp.icmp rfl ht hf
theorem b144_26 {d : Nat} {Q : Option Value → px_S → Prop} {σ : px_S} {x1 x2 x3 x4 : Int32} {v5 v6 v7 v8 : Value} (ht : x3 ≤ 0 → Wp d tb_144 145 [.ref 9, .int x1, .int x2, .int x3, .int x4, .int (0 : Int32), v6, v7, v8] [] σ Q) (hf : ¬ (x3 ≤ 0) → Wp d tb_144 33 [.ref 9, .int x1, .int x2, .int x3, .int x4, .int (0 : Int32), v6, v7, v8] [] σ Q) : Wp d tb_144 26 [.ref 9, .int x1, .int x2, .int x3, .int x4, v5, v6, v7, v8] [] σ Q := by
  refine Wp.adv (pc' := 30) (ls' := [.ref 9, .int x1, .int x2, .int x3, .int x4, .int (0 : Int32), v6, v7, v8]) (st' := [.int x3]) (σ' := σ) 3 rfl ?_
  exact Wp.if_ rfl ht hf
theorem b144_33 {d : Nat} {Q : Option Value → px_S → Prop} {σ : px_S} {x1 x2 x3 x4 x5 : Int32} {v6 v7 v8 : Value} (ht : x4 ≤ 0 → Wp d tb_144 145 [.ref 9, .int x1, .int x2, .int x3, .int x4, .int x5, v6, v7, v8] [] σ Q) (hf : ¬ (x4 ≤ 0) → Wp d tb_144 38 [.ref 9, .int x1, .int x2, .int x3, .int x4, .int x5, v6, v7, v8] [] σ Q) : Wp d tb_144 33 [.ref 9, .int x1, .int x2, .int x3, .int x4, .int x5, v6, v7, v8] [] σ Q := by
  refine Wp.adv (pc' := 35) (ls' := [.ref 9, .int x1, .int x2, .int x3, .int x4, .int x5, v6, v7, v8]) (st' := [.int x4]) (σ' := σ) 1 rfl ?_
  exact Wp.if_ rfl ht hf
theorem b144_38 {d : Nat} {Q : Option Value → px_S → Prop} {σ : px_S} {x1 x2 x3 x4 x5 : Int32} {v6 v7 v8 : Value} (c1 : vp_in (((15 : Int32) * (x3 - (1 : Int32))) + x4) 225) (c2 : vp_in ((((15 : Int32) * x3) + x4) - (1 : Int32)) 225) (ht : (σ.1 48 ((((15 : Int32) * (x3 - (1 : Int32))) + x4)).toNatClampNeg) ≤ (σ.1 48 (((((15 : Int32) * x3) + x4) - (1 : Int32))).toNatClampNeg) → Wp d tb_144 82 [.ref 9, .int x1, .int x2, .int x3, .int x4, .int x5, .int (σ.1 48 ((((15 : Int32) * (x3 - (1 : Int32))) + x4)).toNatClampNeg), .int (σ.1 48 (((((15 : Int32) * x3) + x4) - (1 : Int32))).toNatClampNeg), v8] [] σ Q) (hf : ¬ ((σ.1 48 ((((15 : Int32) * (x3 - (1 : Int32))) + x4)).toNatClampNeg) ≤ (σ.1 48 (((((15 : Int32) * x3) + x4) - (1 : Int32))).toNatClampNeg)) → Wp d tb_144 77 [.ref 9, .int x1, .int x2, .int x3, .int x4, .int x5, .int (σ.1 48 ((((15 : Int32) * (x3 - (1 : Int32))) + x4)).toNatClampNeg), .int (σ.1 48 (((((15 : Int32) * x3) + x4) - (1 : Int32))).toNatClampNeg), v8] [] σ Q) : Wp d tb_144 38 [.ref 9, .int x1, .int x2, .int x3, .int x4, .int x5, v6, v7, v8] [] σ Q := by
  refine Wp.adv (pc' := 51) (ls' := [.ref 9, .int x1, .int x2, .int x3, .int x4, .int x5, v6, v7, v8]) (st' := [.int (((15 : Int32) * (x3 - (1 : Int32))) + x4), .ref 48]) (σ' := σ) 9 rfl ?_
  refine Wp.iald (N := 225) rfl rfl c1 ?_
  refine Wp.adv (pc' := 67) (ls' := [.ref 9, .int x1, .int x2, .int x3, .int x4, .int x5, .int (σ.1 48 ((((15 : Int32) * (x3 - (1 : Int32))) + x4)).toNatClampNeg), v7, v8]) (st' := [.int ((((15 : Int32) * x3) + x4) - (1 : Int32)), .ref 48]) (σ' := σ) 10 rfl ?_
  refine Wp.iald (N := 225) rfl rfl c2 ?_
  refine Wp.adv (pc' := 74) (ls' := [.ref 9, .int x1, .int x2, .int x3, .int x4, .int x5, .int (σ.1 48 ((((15 : Int32) * (x3 - (1 : Int32))) + x4)).toNatClampNeg), .int (σ.1 48 (((((15 : Int32) * x3) + x4) - (1 : Int32))).toNatClampNeg), v8]) (st' := [.int (σ.1 48 (((((15 : Int32) * x3) + x4) - (1 : Int32))).toNatClampNeg), .int (σ.1 48 ((((15 : Int32) * (x3 - (1 : Int32))) + x4)).toNatClampNeg)]) (σ' := σ) 3 rfl ?_
  exact Wp.icmp rfl ht hf
theorem b144_77 {d : Nat} {Q : Option Value → px_S → Prop} {σ : px_S} {x1 x2 x3 x4 x5 x6 x7 : Int32} {v8 : Value} (h : Wp d tb_144 84 [.ref 9, .int x1, .int x2, .int x3, .int x4, .int x5, .int x6, .int x7, v8] [.int x6] σ Q) : Wp d tb_144 77 [.ref 9, .int x1, .int x2, .int x3, .int x4, .int x5, .int x6, .int x7, v8] [] σ Q := by
  refine Wp.adv (pc' := 84) (ls' := [.ref 9, .int x1, .int x2, .int x3, .int x4, .int x5, .int x6, .int x7, v8]) (st' := [.int x6]) (σ' := σ) 2 rfl ?_
  exact h
theorem b144_82 {d : Nat} {Q : Option Value → px_S → Prop} {σ : px_S} {x1 x2 x3 x4 x5 x6 x7 : Int32} {v8 : Value} (h : Wp d tb_144 84 [.ref 9, .int x1, .int x2, .int x3, .int x4, .int x5, .int x6, .int x7, v8] [.int x7] σ Q) : Wp d tb_144 82 [.ref 9, .int x1, .int x2, .int x3, .int x4, .int x5, .int x6, .int x7, v8] [] σ Q := by
  refine Wp.adv (pc' := 84) (ls' := [.ref 9, .int x1, .int x2, .int x3, .int x4, .int x5, .int x6, .int x7, v8]) (st' := [.int x7]) (σ' := σ) 1 rfl ?_
  exact h
theorem b144_84 {d : Nat} {Q : Option Value → px_S → Prop} {σ : px_S} {x1 x2 x3 x4 x5 x6 x7 s0 : Int32} {v8 : Value} (c1 : vp_in ((((15 : Int32) * (x3 - (1 : Int32))) + x4) - (1 : Int32)) 225) (nv8 : px_nc v8 = true) (h : Cw d 145 [.ref 9, .int ((((14 : Int32) * x1) + x3) - (1 : Int32)), .int ((((14 : Int32) * x2) + x4) - (1 : Int32))] σ (fun r τ => Wp d tb_144 123 [.ref 9, .int x1, .int x2, .int x3, .int x4, .int s0, .int x6, .int x7, v8] (r.toList ++ [.int (σ.1 48 (((((15 : Int32) * (x3 - (1 : Int32))) + x4) - (1 : Int32))).toNatClampNeg)]) τ Q)) : Wp d tb_144 84 [.ref 9, .int x1, .int x2, .int x3, .int x4, .int x5, .int x6, .int x7, v8] [.int s0] σ Q := by
  refine Wp.adv (pc' := 101) (ls' := [.ref 9, .int x1, .int x2, .int x3, .int x4, .int s0, .int x6, .int x7, v8]) (st' := [.int ((((15 : Int32) * (x3 - (1 : Int32))) + x4) - (1 : Int32)), .ref 48]) (σ' := σ) 12 rfl ?_
  refine Wp.iald (N := 225) rfl rfl c1 ?_
  refine Wp.adv (pc' := 120) (ls' := [.ref 9, .int x1, .int x2, .int x3, .int x4, .int s0, .int x6, .int x7, v8]) (st' := [.int ((((14 : Int32) * x2) + x4) - (1 : Int32)), .int ((((14 : Int32) * x1) + x3) - (1 : Int32)), .ref 9, .int (σ.1 48 (((((15 : Int32) * (x3 - (1 : Int32))) + x4) - (1 : Int32))).toNatClampNeg)]) (σ' := σ) 15 rfl ?_
  exact Wp.call (q := (145, 3, 9, 123)) rfl (Nat.le_of_ble_eq_true rfl) (px_okc_mk rfl rfl rfl (by simp only [List.all_cons, List.all_nil, nv8]; rfl)) h
theorem b144_123 {d : Nat} {Q : Option Value → px_S → Prop} {σ : px_S} {x1 x2 x3 x4 x5 x6 x7 s0 s1 : Int32} {v8 : Value} (nv8 : px_nc v8 = true) (h : Cw d 135 [.int s0] σ (fun r τ => Wp d tb_144 126 [.ref 9, .int x1, .int x2, .int x3, .int x4, .int x5, .int x6, .int x7, v8] (r.toList ++ [.int s1]) τ Q)) : Wp d tb_144 123 [.ref 9, .int x1, .int x2, .int x3, .int x4, .int x5, .int x6, .int x7, v8] [.int s0, .int s1] σ Q := by
  exact Wp.call (q := (135, 1, 0, 126)) rfl (Nat.le_of_ble_eq_true rfl) (px_okc_mk rfl rfl rfl (by simp only [List.all_cons, List.all_nil, nv8]; rfl)) h
theorem b144_126 {d : Nat} {Q : Option Value → px_S → Prop} {σ : px_S} {x1 x2 x3 x4 x5 x6 x7 s0 s1 : Int32} {v8 : Value} (ht : (s1 + s0) ≤ x5 → Wp d tb_144 141 [.ref 9, .int x1, .int x2, .int x3, .int x4, .int x5, .int x6, .int x7, .int (s1 + s0)] [] σ Q) (hf : ¬ ((s1 + s0) ≤ x5) → Wp d tb_144 136 [.ref 9, .int x1, .int x2, .int x3, .int x4, .int x5, .int x6, .int x7, .int (s1 + s0)] [] σ Q) : Wp d tb_144 126 [.ref 9, .int x1, .int x2, .int x3, .int x4, .int x5, .int x6, .int x7, v8] [.int s0, .int s1] σ Q := by
  refine Wp.adv (pc' := 133) (ls' := [.ref 9, .int x1, .int x2, .int x3, .int x4, .int x5, .int x6, .int x7, .int (s1 + s0)]) (st' := [.int x5, .int (s1 + s0)]) (σ' := σ) 4 rfl ?_
  exact Wp.icmp rfl ht hf
theorem b144_136 {d : Nat} {Q : Option Value → px_S → Prop} {σ : px_S} {x1 x2 x3 x4 x5 x6 x7 x8 : Int32} (h : Wp d tb_144 143 [.ref 9, .int x1, .int x2, .int x3, .int x4, .int x5, .int x6, .int x7, .int x8] [.int x8] σ Q) : Wp d tb_144 136 [.ref 9, .int x1, .int x2, .int x3, .int x4, .int x5, .int x6, .int x7, .int x8] [] σ Q := by
  refine Wp.adv (pc' := 143) (ls' := [.ref 9, .int x1, .int x2, .int x3, .int x4, .int x5, .int x6, .int x7, .int x8]) (st' := [.int x8]) (σ' := σ) 2 rfl ?_
  exact h
theorem b144_141 {d : Nat} {Q : Option Value → px_S → Prop} {σ : px_S} {x1 x2 x3 x4 x5 x6 x7 x8 : Int32} (h : Wp d tb_144 143 [.ref 9, .int x1, .int x2, .int x3, .int x4, .int x5, .int x6, .int x7, .int x8] [.int x5] σ Q) : Wp d tb_144 141 [.ref 9, .int x1, .int x2, .int x3, .int x4, .int x5, .int x6, .int x7, .int x8] [] σ Q := by
  refine Wp.adv (pc' := 143) (ls' := [.ref 9, .int x1, .int x2, .int x3, .int x4, .int x5, .int x6, .int x7, .int x8]) (st' := [.int x5]) (σ' := σ) 1 rfl ?_
  exact h
theorem b144_143 {d : Nat} {Q : Option Value → px_S → Prop} {σ : px_S} {x1 x2 x3 x4 x5 x6 x7 x8 s0 : Int32} (h : Wp d tb_144 145 [.ref 9, .int x1, .int x2, .int x3, .int x4, .int s0, .int x6, .int x7, .int x8] [] σ Q) : Wp d tb_144 143 [.ref 9, .int x1, .int x2, .int x3, .int x4, .int x5, .int x6, .int x7, .int x8] [.int s0] σ Q := by
  refine Wp.adv (pc' := 145) (ls' := [.ref 9, .int x1, .int x2, .int x3, .int x4, .int s0, .int x6, .int x7, .int x8]) (st' := []) (σ' := σ) 1 rfl ?_
  exact h
theorem b144_145 {d : Nat} {Q : Option Value → px_S → Prop} {σ : px_S} {x1 x2 x3 x4 x5 : Int32} {v6 v7 v8 : Value} (c1 : vp_in (((15 : Int32) * x3) + x4) 225) (h : Wp d tb_144 159 [.ref 9, .int x1, .int x2, .int x3, .int x4, .int x5, v6, v7, v8] [] (px_uI σ 48 ((((15 : Int32) * x3) + x4)).toNatClampNeg x5) Q) : Wp d tb_144 145 [.ref 9, .int x1, .int x2, .int x3, .int x4, .int x5, v6, v7, v8] [] σ Q := by
  refine Wp.adv (pc' := 158) (ls' := [.ref 9, .int x1, .int x2, .int x3, .int x4, .int x5, v6, v7, v8]) (st' := [.int x5, .int (((15 : Int32) * x3) + x4), .ref 48]) (σ' := σ) 8 rfl ?_
  refine Wp.iast (N := 225) rfl rfl c1 ?_
  exact h
theorem b144_159 {d : Nat} {Q : Option Value → px_S → Prop} {σ : px_S} {x1 x2 x3 x4 x5 : Int32} {v6 v7 v8 : Value} (h : Wp d tb_144 15 [.ref 9, .int x1, .int x2, .int x3, .int (x4 + 1), .int x5, v6, v7, v8] [] σ Q) : Wp d tb_144 159 [.ref 9, .int x1, .int x2, .int x3, .int x4, .int x5, v6, v7, v8] [] σ Q := by
  refine Wp.adv (pc' := 15) (ls' := [.ref 9, .int x1, .int x2, .int x3, .int (x4 + 1), .int x5, v6, v7, v8]) (st' := []) (σ' := σ) 2 rfl ?_
  exact h
theorem b144_165 {d : Nat} {Q : Option Value → px_S → Prop} {σ : px_S} {x1 x2 x3 x4 : Int32} {v5 v6 v7 v8 : Value} (h : Wp d tb_144 2 [.ref 9, .int x1, .int x2, .int (x3 + 1), .int x4, v5, v6, v7, v8] [] σ Q) : Wp d tb_144 165 [.ref 9, .int x1, .int x2, .int x3, .int x4, v5, v6, v7, v8] [] σ Q := by
  refine Wp.adv (pc' := 2) (ls' := [.ref 9, .int x1, .int x2, .int (x3 + 1), .int x4, v5, v6, v7, v8]) (st' := []) (σ' := σ) 2 rfl ?_
  exact h
theorem b144_171 {d : Nat} {Q : Option Value → px_S → Prop} {σ : px_S} {x1 x2 x3 : Int32} {v4 v5 v6 v7 v8 : Value} (c1 : vp_in x1 40) (c2 : vp_in x2 40) (c3 : vp_in (((15 : Int32) * (σ.1 41 (x1).toNatClampNeg)) + (σ.1 41 (x2).toNatClampNeg)) 225) (h : Q (some (.int (σ.1 48 ((((15 : Int32) * (σ.1 41 (x1).toNatClampNeg)) + (σ.1 41 (x2).toNatClampNeg))).toNatClampNeg))) σ) : Wp d tb_144 171 [.ref 9, .int x1, .int x2, .int x3, v4, v5, v6, v7, v8] [] σ Q := by
  refine Wp.adv (pc' := 182) (ls' := [.ref 9, .int x1, .int x2, .int x3, v4, v5, v6, v7, v8]) (st' := [.int x1, .ref 41, .int (15 : Int32), .ref 48]) (σ' := σ) 6 rfl ?_
  refine Wp.iald (N := 40) rfl rfl c1 ?_
  refine Wp.adv (pc' := 189) (ls' := [.ref 9, .int x1, .int x2, .int x3, v4, v5, v6, v7, v8]) (st' := [.int x2, .ref 41, .int ((15 : Int32) * (σ.1 41 (x1).toNatClampNeg)), .ref 48]) (σ' := σ) 4 rfl ?_
  refine Wp.iald (N := 40) rfl rfl c2 ?_
  refine Wp.adv (pc' := 191) (ls' := [.ref 9, .int x1, .int x2, .int x3, v4, v5, v6, v7, v8]) (st' := [.int (((15 : Int32) * (σ.1 41 (x1).toNatClampNeg)) + (σ.1 41 (x2).toNatClampNeg)), .ref 48]) (σ' := σ) 1 rfl ?_
  refine Wp.iald (N := 225) rfl rfl c3 ?_
  exact Wp.ret rfl rfl h
theorem e144 {d : Nat} {Q : Option Value → px_S → Prop} {σ : px_S} {x1 x2 : Int32} (h : Wp d tb_144 0 [.ref 9, .int x1, .int x2, .null, .null, .null, .null, .null, .null] [] σ Q) : Cw (d + 1) 144 [.ref 9, .int x1, .int x2] σ Q := Cw.of (nL := 9) (y := yX9_fitOf) (cc := cX9_fitOf) (rt := some .int) rfl (Nat.le_of_ble_eq_true rfl) h
theorem b145_0 {d : Nat} {Q : Option Value → px_S → Prop} {σ : px_S} {x1 x2 : Int32} (c1 : vp_in x1 560) (ht : (σ.1 43 (x1).toNatClampNeg) ≤ 0 → Wp d tb_145 45 [.ref 9, .int x1, .int x2] [] σ Q) (hf : ¬ ((σ.1 43 (x1).toNatClampNeg) ≤ 0) → Wp d tb_145 9 [.ref 9, .int x1, .int x2] [] σ Q) : Wp d tb_145 0 [.ref 9, .int x1, .int x2] [] σ Q := by
  refine Wp.adv (pc' := 5) (ls' := [.ref 9, .int x1, .int x2]) (st' := [.int x1, .ref 43]) (σ' := σ) 3 rfl ?_
  refine Wp.iald (N := 560) rfl rfl c1 ?_
  exact Wp.if_ rfl ht hf
theorem b145_9 {d : Nat} {Q : Option Value → px_S → Prop} {σ : px_S} {x1 x2 : Int32} (c1 : vp_in x2 560) (c2 : vp_in x1 560) (ht : ¬ (σ.1 43 (x2).toNatClampNeg) = ((σ.1 43 (x1).toNatClampNeg) - (1 : Int32)) → Wp d tb_145 45 [.ref 9, .int x1, .int x2] [] σ Q) (hf : ¬ (¬ (σ.1 43 (x2).toNatClampNeg) = ((σ.1 43 (x1).toNatClampNeg) - (1 : Int32))) → Wp d tb_145 26 [.ref 9, .int x1, .int x2] [] σ Q) : Wp d tb_145 9 [.ref 9, .int x1, .int x2] [] σ Q := by
  refine Wp.adv (pc' := 14) (ls' := [.ref 9, .int x1, .int x2]) (st' := [.int x2, .ref 43]) (σ' := σ) 3 rfl ?_
  refine Wp.iald (N := 560) rfl rfl c1 ?_
  refine Wp.adv (pc' := 20) (ls' := [.ref 9, .int x1, .int x2]) (st' := [.int x1, .ref 43, .int (σ.1 43 (x2).toNatClampNeg)]) (σ' := σ) 3 rfl ?_
  refine Wp.iald (N := 560) rfl rfl c2 ?_
  refine Wp.adv (pc' := 23) (ls' := [.ref 9, .int x1, .int x2]) (st' := [.int ((σ.1 43 (x1).toNatClampNeg) - (1 : Int32)), .int (σ.1 43 (x2).toNatClampNeg)]) (σ' := σ) 2 rfl ?_
  exact Wp.icmp rfl ht hf
theorem b145_26 {d : Nat} {Q : Option Value → px_S → Prop} {σ : px_S} {x1 x2 : Int32} (h : Cw d 141 [.ref 9, .int x1, .int x2] σ (fun r τ => Wp d tb_145 32 [.ref 9, .int x1, .int x2] (r.toList ++ []) τ Q)) : Wp d tb_145 26 [.ref 9, .int x1, .int x2] [] σ Q := by
  refine Wp.adv (pc' := 29) (ls' := [.ref 9, .int x1, .int x2]) (st' := [.int x2, .int x1, .ref 9]) (σ' := σ) 3 rfl ?_
  exact Wp.call (q := (141, 3, 9, 32)) rfl (Nat.le_of_ble_eq_true rfl) rfl h
theorem b145_32 {d : Nat} {Q : Option Value → px_S → Prop} {σ : px_S} {x1 x2 s0 : Int32} (c1 : vp_in (0 : Int32) 5) (ht : (σ.1 37 ((0 : Int32)).toNatClampNeg) < s0 → Wp d tb_145 45 [.ref 9, .int x1, .int x2] [] σ Q) (hf : ¬ ((σ.1 37 ((0 : Int32)).toNatClampNeg) < s0) → Wp d tb_145 41 [.ref 9, .int x1, .int x2] [] σ Q) : Wp d tb_145 32 [.ref 9, .int x1, .int x2] [.int s0] σ Q := by
  refine Wp.adv (pc' := 37) (ls' := [.ref 9, .int x1, .int x2]) (st' := [.int (0 : Int32), .ref 37, .int s0]) (σ' := σ) 3 rfl ?_
  refine Wp.iald (N := 5) rfl rfl c1 ?_
  exact Wp.icmp rfl ht hf
theorem b145_41 {d : Nat} {Q : Option Value → px_S → Prop} {σ : px_S} {x1 x2 : Int32} (h : Wp d tb_145 46 [.ref 9, .int x1, .int x2] [.int (1 : Int32)] σ Q) : Wp d tb_145 41 [.ref 9, .int x1, .int x2] [] σ Q := by
  refine Wp.adv (pc' := 46) (ls' := [.ref 9, .int x1, .int x2]) (st' := [.int (1 : Int32)]) (σ' := σ) 2 rfl ?_
  exact h
theorem b145_45 {d : Nat} {Q : Option Value → px_S → Prop} {σ : px_S} {x1 x2 : Int32} (h : Wp d tb_145 46 [.ref 9, .int x1, .int x2] [.int (0 : Int32)] σ Q) : Wp d tb_145 45 [.ref 9, .int x1, .int x2] [] σ Q := by
  refine Wp.adv (pc' := 46) (ls' := [.ref 9, .int x1, .int x2]) (st' := [.int (0 : Int32)]) (σ' := σ) 1 rfl ?_
  exact h
theorem b145_46 {d : Nat} {Q : Option Value → px_S → Prop} {σ : px_S} {x1 x2 s0 : Int32} (c1 : s0 = 0 ∨ s0 = 1) (h : Q (some (.int s0)) σ) : Wp d tb_145 46 [.ref 9, .int x1, .int x2] [.int s0] σ Q := by
  exact Wp.zret rfl c1 h
theorem e145 {d : Nat} {Q : Option Value → px_S → Prop} {σ : px_S} {x1 x2 : Int32} (h : Wp d tb_145 0 [.ref 9, .int x1, .int x2] [] σ Q) : Cw (d + 1) 145 [.ref 9, .int x1, .int x2] σ Q := Cw.of (nL := 3) (y := yX9_isLike) (cc := cX9_isLike) (rt := some .boolean) rfl (Nat.le_of_ble_eq_true rfl) h
theorem b146_0 {d : Nat} {Q : Option Value → px_S → Prop} {σ : px_S} {x1 x2 : Int32} (h : Cw d 132 [.ref 9, .int x1] σ (fun r τ => Wp d tb_146 5 [.ref 9, .int x1, .int x2, .null, .null, .null] (r.toList ++ []) τ Q)) : Wp d tb_146 0 [.ref 9, .int x1, .int x2, .null, .null, .null] [] σ Q := by
  refine Wp.adv (pc' := 2) (ls' := [.ref 9, .int x1, .int x2, .null, .null, .null]) (st' := [.int x1, .ref 9]) (σ' := σ) 2 rfl ?_
  exact Wp.call (q := (132, 2, 9, 5)) rfl (Nat.le_of_ble_eq_true rfl) rfl h
theorem b146_5 {d : Nat} {Q : Option Value → px_S → Prop} {σ : px_S} {x1 x2 s0 : Int32} (ht : s0 = 0 → Wp d tb_146 12 [.ref 9, .int x1, .int x2, .null, .null, .null] [] σ Q) (hf : ¬ (s0 = 0) → Wp d tb_146 8 [.ref 9, .int x1, .int x2, .null, .null, .null] [] σ Q) : Wp d tb_146 5 [.ref 9, .int x1, .int x2, .null, .null, .null] [.int s0] σ Q := by
  exact Wp.if_ rfl ht hf
theorem b146_8 {d : Nat} {Q : Option Value → px_S → Prop} {σ : px_S} {x1 x2 : Int32} (h : Q (some (.int (-1001 : Int32))) σ) : Wp d tb_146 8 [.ref 9, .int x1, .int x2, .null, .null, .null] [] σ Q := by
  refine Wp.adv (pc' := 11) (ls' := [.ref 9, .int x1, .int x2, .null, .null, .null]) (st' := [.int (-1001 : Int32)]) (σ' := σ) 1 rfl ?_
  exact Wp.ret rfl rfl h
theorem b146_12 {d : Nat} {Q : Option Value → px_S → Prop} {σ : px_S} {x1 x2 : Int32} (h : Cw d 130 [.long (x2).toInt64, .long (0 : Int64), .long (11 : Int64)] σ (fun r τ => Wp d tb_146 21 [.ref 9, .int x1, .int x2, .null, .null, .null] (r.toList ++ []) τ Q)) : Wp d tb_146 12 [.ref 9, .int x1, .int x2, .null, .null, .null] [] σ Q := by
  refine Wp.adv (pc' := 18) (ls' := [.ref 9, .int x1, .int x2, .null, .null, .null]) (st' := [.long (11 : Int64), .long (0 : Int64), .long (x2).toInt64]) (σ' := σ) 4 rfl ?_
  exact Wp.call (q := (130, 3, 0, 21)) rfl (Nat.le_of_ble_eq_true rfl) rfl h
theorem b146_21 {d : Nat} {Q : Option Value → px_S → Prop} {σ : px_S} {x1 x2 s0 : Int32} (ht : ¬ s0 = 0 → Wp d tb_146 28 [.ref 9, .int x1, .int x2, .null, .null, .null] [] σ Q) (hf : ¬ (¬ s0 = 0) → Wp d tb_146 24 [.ref 9, .int x1, .int x2, .null, .null, .null] [] σ Q) : Wp d tb_146 21 [.ref 9, .int x1, .int x2, .null, .null, .null] [.int s0] σ Q := by
  exact Wp.if_ rfl ht hf
theorem b146_24 {d : Nat} {Q : Option Value → px_S → Prop} {σ : px_S} {x1 x2 : Int32} (h : Q (some (.int (-1002 : Int32))) σ) : Wp d tb_146 24 [.ref 9, .int x1, .int x2, .null, .null, .null] [] σ Q := by
  refine Wp.adv (pc' := 27) (ls' := [.ref 9, .int x1, .int x2, .null, .null, .null]) (st' := [.int (-1002 : Int32)]) (σ' := σ) 1 rfl ?_
  exact Wp.ret rfl rfl h
theorem b146_28 {d : Nat} {Q : Option Value → px_S → Prop} {σ : px_S} {x1 x2 : Int32} (ht : (6 : Int32) ≤ x2 → Wp d tb_146 111 [.ref 9, .int x1, .int x2, .null, .null, .null] [] σ Q) (hf : ¬ ((6 : Int32) ≤ x2) → Wp d tb_146 34 [.ref 9, .int x1, .int x2, .null, .null, .null] [] σ Q) : Wp d tb_146 28 [.ref 9, .int x1, .int x2, .null, .null, .null] [] σ Q := by
  refine Wp.adv (pc' := 31) (ls' := [.ref 9, .int x1, .int x2, .null, .null, .null]) (st' := [.int (6 : Int32), .int x2]) (σ' := σ) 2 rfl ?_
  exact Wp.icmp rfl ht hf
theorem b146_34 {d : Nat} {Q : Option Value → px_S → Prop} {σ : px_S} {x1 x2 : Int32} (ht : ¬ x2 = 0 → Wp d tb_146 47 [.ref 9, .int x1, .int x2, .null, .null, .null] [] σ Q) (hf : ¬ (¬ x2 = 0) → Wp d tb_146 38 [.ref 9, .int x1, .int x2, .null, .null, .null] [] σ Q) : Wp d tb_146 34 [.ref 9, .int x1, .int x2, .null, .null, .null] [] σ Q := by
  refine Wp.adv (pc' := 35) (ls' := [.ref 9, .int x1, .int x2, .null, .null, .null]) (st' := [.int x2]) (σ' := σ) 1 rfl ?_
  exact Wp.if_ rfl ht hf
theorem b146_38 {d : Nat} {Q : Option Value → px_S → Prop} {σ : px_S} {x1 x2 : Int32} (c1 : vp_in x1 40) (h : Wp d tb_146 110 [.ref 9, .int x1, .int x2, .null, .null, .null] [.int (σ.1 38 (x1).toNatClampNeg)] σ Q) : Wp d tb_146 38 [.ref 9, .int x1, .int x2, .null, .null, .null] [] σ Q := by
  refine Wp.adv (pc' := 43) (ls' := [.ref 9, .int x1, .int x2, .null, .null, .null]) (st' := [.int x1, .ref 38]) (σ' := σ) 3 rfl ?_
  refine Wp.iald (N := 40) rfl rfl c1 ?_
  refine Wp.adv (pc' := 110) (ls' := [.ref 9, .int x1, .int x2, .null, .null, .null]) (st' := [.int (σ.1 38 (x1).toNatClampNeg)]) (σ' := σ) 1 rfl ?_
  exact h
theorem b146_47 {d : Nat} {Q : Option Value → px_S → Prop} {σ : px_S} {x1 x2 : Int32} (ht : ¬ x2 = (1 : Int32) → Wp d tb_146 61 [.ref 9, .int x1, .int x2, .null, .null, .null] [] σ Q) (hf : ¬ (¬ x2 = (1 : Int32)) → Wp d tb_146 52 [.ref 9, .int x1, .int x2, .null, .null, .null] [] σ Q) : Wp d tb_146 47 [.ref 9, .int x1, .int x2, .null, .null, .null] [] σ Q := by
  refine Wp.adv (pc' := 49) (ls' := [.ref 9, .int x1, .int x2, .null, .null, .null]) (st' := [.int (1 : Int32), .int x2]) (σ' := σ) 2 rfl ?_
  exact Wp.icmp rfl ht hf
theorem b146_52 {d : Nat} {Q : Option Value → px_S → Prop} {σ : px_S} {x1 x2 : Int32} (c1 : vp_in x1 40) (h : Wp d tb_146 110 [.ref 9, .int x1, .int x2, .null, .null, .null] [.int (σ.1 39 (x1).toNatClampNeg)] σ Q) : Wp d tb_146 52 [.ref 9, .int x1, .int x2, .null, .null, .null] [] σ Q := by
  refine Wp.adv (pc' := 57) (ls' := [.ref 9, .int x1, .int x2, .null, .null, .null]) (st' := [.int x1, .ref 39]) (σ' := σ) 3 rfl ?_
  refine Wp.iald (N := 40) rfl rfl c1 ?_
  refine Wp.adv (pc' := 110) (ls' := [.ref 9, .int x1, .int x2, .null, .null, .null]) (st' := [.int (σ.1 39 (x1).toNatClampNeg)]) (σ' := σ) 1 rfl ?_
  exact h
theorem b146_61 {d : Nat} {Q : Option Value → px_S → Prop} {σ : px_S} {x1 x2 : Int32} (ht : ¬ x2 = (2 : Int32) → Wp d tb_146 75 [.ref 9, .int x1, .int x2, .null, .null, .null] [] σ Q) (hf : ¬ (¬ x2 = (2 : Int32)) → Wp d tb_146 66 [.ref 9, .int x1, .int x2, .null, .null, .null] [] σ Q) : Wp d tb_146 61 [.ref 9, .int x1, .int x2, .null, .null, .null] [] σ Q := by
  refine Wp.adv (pc' := 63) (ls' := [.ref 9, .int x1, .int x2, .null, .null, .null]) (st' := [.int (2 : Int32), .int x2]) (σ' := σ) 2 rfl ?_
  exact Wp.icmp rfl ht hf
theorem b146_66 {d : Nat} {Q : Option Value → px_S → Prop} {σ : px_S} {x1 x2 : Int32} (c1 : vp_in x1 40) (h : Wp d tb_146 110 [.ref 9, .int x1, .int x2, .null, .null, .null] [.int (σ.1 40 (x1).toNatClampNeg)] σ Q) : Wp d tb_146 66 [.ref 9, .int x1, .int x2, .null, .null, .null] [] σ Q := by
  refine Wp.adv (pc' := 71) (ls' := [.ref 9, .int x1, .int x2, .null, .null, .null]) (st' := [.int x1, .ref 40]) (σ' := σ) 3 rfl ?_
  refine Wp.iald (N := 40) rfl rfl c1 ?_
  refine Wp.adv (pc' := 110) (ls' := [.ref 9, .int x1, .int x2, .null, .null, .null]) (st' := [.int (σ.1 40 (x1).toNatClampNeg)]) (σ' := σ) 1 rfl ?_
  exact h
theorem b146_75 {d : Nat} {Q : Option Value → px_S → Prop} {σ : px_S} {x1 x2 : Int32} (ht : ¬ x2 = (3 : Int32) → Wp d tb_146 89 [.ref 9, .int x1, .int x2, .null, .null, .null] [] σ Q) (hf : ¬ (¬ x2 = (3 : Int32)) → Wp d tb_146 80 [.ref 9, .int x1, .int x2, .null, .null, .null] [] σ Q) : Wp d tb_146 75 [.ref 9, .int x1, .int x2, .null, .null, .null] [] σ Q := by
  refine Wp.adv (pc' := 77) (ls' := [.ref 9, .int x1, .int x2, .null, .null, .null]) (st' := [.int (3 : Int32), .int x2]) (σ' := σ) 2 rfl ?_
  exact Wp.icmp rfl ht hf
theorem b146_80 {d : Nat} {Q : Option Value → px_S → Prop} {σ : px_S} {x1 x2 : Int32} (c1 : vp_in x1 40) (h : Wp d tb_146 110 [.ref 9, .int x1, .int x2, .null, .null, .null] [.int (σ.1 41 (x1).toNatClampNeg)] σ Q) : Wp d tb_146 80 [.ref 9, .int x1, .int x2, .null, .null, .null] [] σ Q := by
  refine Wp.adv (pc' := 85) (ls' := [.ref 9, .int x1, .int x2, .null, .null, .null]) (st' := [.int x1, .ref 41]) (σ' := σ) 3 rfl ?_
  refine Wp.iald (N := 40) rfl rfl c1 ?_
  refine Wp.adv (pc' := 110) (ls' := [.ref 9, .int x1, .int x2, .null, .null, .null]) (st' := [.int (σ.1 41 (x1).toNatClampNeg)]) (σ' := σ) 1 rfl ?_
  exact h
theorem b146_89 {d : Nat} {Q : Option Value → px_S → Prop} {σ : px_S} {x1 x2 : Int32} (ht : ¬ x2 = (4 : Int32) → Wp d tb_146 102 [.ref 9, .int x1, .int x2, .null, .null, .null] [] σ Q) (hf : ¬ (¬ x2 = (4 : Int32)) → Wp d tb_146 94 [.ref 9, .int x1, .int x2, .null, .null, .null] [] σ Q) : Wp d tb_146 89 [.ref 9, .int x1, .int x2, .null, .null, .null] [] σ Q := by
  refine Wp.adv (pc' := 91) (ls' := [.ref 9, .int x1, .int x2, .null, .null, .null]) (st' := [.int (4 : Int32), .int x2]) (σ' := σ) 2 rfl ?_
  exact Wp.icmp rfl ht hf
theorem b146_94 {d : Nat} {Q : Option Value → px_S → Prop} {σ : px_S} {x1 x2 : Int32} (h : Cw d 147 [.ref 9, .int x1] σ (fun r τ => Wp d tb_146 99 [.ref 9, .int x1, .int x2, .null, .null, .null] (r.toList ++ []) τ Q)) : Wp d tb_146 94 [.ref 9, .int x1, .int x2, .null, .null, .null] [] σ Q := by
  refine Wp.adv (pc' := 96) (ls' := [.ref 9, .int x1, .int x2, .null, .null, .null]) (st' := [.int x1, .ref 9]) (σ' := σ) 2 rfl ?_
  exact Wp.call (q := (147, 2, 9, 99)) rfl (Nat.le_of_ble_eq_true rfl) rfl h
theorem b146_99 {d : Nat} {Q : Option Value → px_S → Prop} {σ : px_S} {x1 x2 s0 : Int32} (h : Wp d tb_146 110 [.ref 9, .int x1, .int x2, .null, .null, .null] [.int s0] σ Q) : Wp d tb_146 99 [.ref 9, .int x1, .int x2, .null, .null, .null] [.int s0] σ Q := by
  refine Wp.adv (pc' := 110) (ls' := [.ref 9, .int x1, .int x2, .null, .null, .null]) (st' := [.int s0]) (σ' := σ) 1 rfl ?_
  exact h
theorem b146_102 {d : Nat} {Q : Option Value → px_S → Prop} {σ : px_S} {x1 x2 : Int32} (h : Cw d 143 [.ref 9, .int x1] σ (fun r τ => Wp d tb_146 107 [.ref 9, .int x1, .int x2, .null, .null, .null] (r.toList ++ []) τ Q)) : Wp d tb_146 102 [.ref 9, .int x1, .int x2, .null, .null, .null] [] σ Q := by
  refine Wp.adv (pc' := 104) (ls' := [.ref 9, .int x1, .int x2, .null, .null, .null]) (st' := [.int x1, .ref 9]) (σ' := σ) 2 rfl ?_
  exact Wp.call (q := (143, 2, 9, 107)) rfl (Nat.le_of_ble_eq_true rfl) rfl h
theorem b146_107 {d : Nat} {Q : Option Value → px_S → Prop} {σ : px_S} {x1 x2 s0 : Int32} (h : Cw d 135 [.int s0] σ (fun r τ => Wp d tb_146 110 [.ref 9, .int x1, .int x2, .null, .null, .null] (r.toList ++ []) τ Q)) : Wp d tb_146 107 [.ref 9, .int x1, .int x2, .null, .null, .null] [.int s0] σ Q := by
  exact Wp.call (q := (135, 1, 0, 110)) rfl (Nat.le_of_ble_eq_true rfl) rfl h
theorem b146_110 {d : Nat} {Q : Option Value → px_S → Prop} {σ : px_S} {x1 x2 s0 : Int32} (h : Q (some (.int s0)) σ) : Wp d tb_146 110 [.ref 9, .int x1, .int x2, .null, .null, .null] [.int s0] σ Q := by
  exact Wp.ret rfl rfl h
theorem b146_111 {d : Nat} {Q : Option Value → px_S → Prop} {σ : px_S} {x1 x2 : Int32} (h : Cw d 148 [.ref 9] σ (fun r τ => Wp d tb_146 115 [.ref 9, .int x1, .int x2, .null, .null, .null] (r.toList ++ []) τ Q)) : Wp d tb_146 111 [.ref 9, .int x1, .int x2, .null, .null, .null] [] σ Q := by
  refine Wp.adv (pc' := 112) (ls' := [.ref 9, .int x1, .int x2, .null, .null, .null]) (st' := [.ref 9]) (σ' := σ) 1 rfl ?_
  exact Wp.call (q := (148, 1, 9, 115)) rfl (Nat.le_of_ble_eq_true rfl) rfl h
theorem b146_115 {d : Nat} {Q : Option Value → px_S → Prop} {σ : px_S} {x1 x2 : Int32} (h : Cw d 143 [.ref 9, .int x1] σ (fun r τ => Wp d tb_146 120 [.ref 9, .int x1, .int x2, .null, .null, .null] (r.toList ++ []) τ Q)) : Wp d tb_146 115 [.ref 9, .int x1, .int x2, .null, .null, .null] [] σ Q := by
  refine Wp.adv (pc' := 117) (ls' := [.ref 9, .int x1, .int x2, .null, .null, .null]) (st' := [.int x1, .ref 9]) (σ' := σ) 2 rfl ?_
  exact Wp.call (q := (143, 2, 9, 120)) rfl (Nat.le_of_ble_eq_true rfl) rfl h
theorem b146_120 {d : Nat} {Q : Option Value → px_S → Prop} {σ : px_S} {x1 x2 s0 : Int32} (ht : ¬ s0 = 0 → Wp d tb_146 125 [.ref 9, .int x1, .int x2, .null, .null, .null] [] σ Q) (hf : ¬ (¬ s0 = 0) → Wp d tb_146 123 [.ref 9, .int x1, .int x2, .null, .null, .null] [] σ Q) : Wp d tb_146 120 [.ref 9, .int x1, .int x2, .null, .null, .null] [.int s0] σ Q := by
  exact Wp.if_ rfl ht hf
theorem b146_123 {d : Nat} {Q : Option Value → px_S → Prop} {σ : px_S} {x1 x2 : Int32} (h : Q (some (.int (-1 : Int32))) σ) : Wp d tb_146 123 [.ref 9, .int x1, .int x2, .null, .null, .null] [] σ Q := by
  refine Wp.adv (pc' := 124) (ls' := [.ref 9, .int x1, .int x2, .null, .null, .null]) (st' := [.int (-1 : Int32)]) (σ' := σ) 1 rfl ?_
  exact Wp.ret rfl rfl h
theorem b146_125 {d : Nat} {Q : Option Value → px_S → Prop} {σ : px_S} {x1 x2 : Int32} (h : Wp d tb_146 133 [.ref 9, .int x1, .int x2, .int (0 : Int32), .int (0 : Int32), .int (0 : Int32)] [] σ Q) : Wp d tb_146 125 [.ref 9, .int x1, .int x2, .null, .null, .null] [] σ Q := by
  refine Wp.adv (pc' := 133) (ls' := [.ref 9, .int x1, .int x2, .int (0 : Int32), .int (0 : Int32), .int (0 : Int32)]) (st' := []) (σ' := σ) 6 rfl ?_
  exact h
theorem b146_133 {d : Nat} {Q : Option Value → px_S → Prop} {σ : px_S} {x1 x2 x3 x4 x5 : Int32} (ht : (σ.1 9 1) ≤ x5 → Wp d tb_146 206 [.ref 9, .int x1, .int x2, .int x3, .int x4, .int x5] [] σ Q) (hf : ¬ ((σ.1 9 1) ≤ x5) → Wp d tb_146 142 [.ref 9, .int x1, .int x2, .int x3, .int x4, .int x5] [] σ Q) : Wp d tb_146 133 [.ref 9, .int x1, .int x2, .int x3, .int x4, .int x5] [] σ Q := by
  refine Wp.adv (pc' := 139) (ls' := [.ref 9, .int x1, .int x2, .int x3, .int x4, .int x5]) (st' := [.int (σ.1 9 1), .int x5]) (σ' := σ) 3 rfl ?_
  exact Wp.icmp rfl ht hf
theorem b146_142 {d : Nat} {Q : Option Value → px_S → Prop} {σ : px_S} {x1 x2 x3 x4 x5 : Int32} (c1 : vp_in x5 40) (ht : ¬ (σ.1 49 (x5).toNatClampNeg) = x1 → Wp d tb_146 158 [.ref 9, .int x1, .int x2, .int x3, .int x4, .int x5] [.int x3] σ Q) (hf : ¬ (¬ (σ.1 49 (x5).toNatClampNeg) = x1) → Wp d tb_146 154 [.ref 9, .int x1, .int x2, .int x3, .int x4, .int x5] [.int x3] σ Q) : Wp d tb_146 142 [.ref 9, .int x1, .int x2, .int x3, .int x4, .int x5] [] σ Q := by
  refine Wp.adv (pc' := 149) (ls' := [.ref 9, .int x1, .int x2, .int x3, .int x4, .int x5]) (st' := [.int x5, .ref 49, .int x3]) (σ' := σ) 4 rfl ?_
  refine Wp.iald (N := 40) rfl rfl c1 ?_
  refine Wp.adv (pc' := 151) (ls' := [.ref 9, .int x1, .int x2, .int x3, .int x4, .int x5]) (st' := [.int x1, .int (σ.1 49 (x5).toNatClampNeg), .int x3]) (σ' := σ) 1 rfl ?_
  exact Wp.icmp rfl ht hf
theorem b146_154 {d : Nat} {Q : Option Value → px_S → Prop} {σ : px_S} {x1 x2 x3 x4 x5 s0 : Int32} (h : Wp d tb_146 159 [.ref 9, .int x1, .int x2, .int x3, .int x4, .int x5] [.int (1 : Int32), .int s0] σ Q) : Wp d tb_146 154 [.ref 9, .int x1, .int x2, .int x3, .int x4, .int x5] [.int s0] σ Q := by
  refine Wp.adv (pc' := 159) (ls' := [.ref 9, .int x1, .int x2, .int x3, .int x4, .int x5]) (st' := [.int (1 : Int32), .int s0]) (σ' := σ) 2 rfl ?_
  exact h
theorem b146_158 {d : Nat} {Q : Option Value → px_S → Prop} {σ : px_S} {x1 x2 x3 x4 x5 s0 : Int32} (h : Wp d tb_146 159 [.ref 9, .int x1, .int x2, .int x3, .int x4, .int x5] [.int (0 : Int32), .int s0] σ Q) : Wp d tb_146 158 [.ref 9, .int x1, .int x2, .int x3, .int x4, .int x5] [.int s0] σ Q := by
  refine Wp.adv (pc' := 159) (ls' := [.ref 9, .int x1, .int x2, .int x3, .int x4, .int x5]) (st' := [.int (0 : Int32), .int s0]) (σ' := σ) 1 rfl ?_
  exact h
theorem b146_159 {d : Nat} {Q : Option Value → px_S → Prop} {σ : px_S} {x1 x2 x3 x4 x5 s0 s1 : Int32} (h : Cw d 135 [.int s0] σ (fun r τ => Wp d tb_146 162 [.ref 9, .int x1, .int x2, .int x3, .int x4, .int x5] (r.toList ++ [.int s1]) τ Q)) : Wp d tb_146 159 [.ref 9, .int x1, .int x2, .int x3, .int x4, .int x5] [.int s0, .int s1] σ Q := by
  exact Wp.call (q := (135, 1, 0, 162)) rfl (Nat.le_of_ble_eq_true rfl) rfl h
theorem b146_162 {d : Nat} {Q : Option Value → px_S → Prop} {σ : px_S} {x1 x2 x3 x4 x5 s0 s1 : Int32} (h : Cw d 143 [.ref 9, .int x5] σ (fun r τ => Wp d tb_146 172 [.ref 9, .int x1, .int x2, .int (s1 + s0), .int x4, .int x5] (r.toList ++ [.int x4]) τ Q)) : Wp d tb_146 162 [.ref 9, .int x1, .int x2, .int x3, .int x4, .int x5] [.int s0, .int s1] σ Q := by
  refine Wp.adv (pc' := 169) (ls' := [.ref 9, .int x1, .int x2, .int (s1 + s0), .int x4, .int x5]) (st' := [.int x5, .ref 9, .int x4]) (σ' := σ) 5 rfl ?_
  exact Wp.call (q := (143, 2, 9, 172)) rfl (Nat.le_of_ble_eq_true rfl) rfl h
theorem b146_172 {d : Nat} {Q : Option Value → px_S → Prop} {σ : px_S} {x1 x2 x3 x4 x5 s0 s1 : Int32} (ht : s0 = 0 → Wp d tb_146 193 [.ref 9, .int x1, .int x2, .int x3, .int x4, .int x5] [.int s1] σ Q) (hf : ¬ (s0 = 0) → Wp d tb_146 175 [.ref 9, .int x1, .int x2, .int x3, .int x4, .int x5] [.int s1] σ Q) : Wp d tb_146 172 [.ref 9, .int x1, .int x2, .int x3, .int x4, .int x5] [.int s0, .int s1] σ Q := by
  exact Wp.if_ rfl ht hf
theorem b146_175 {d : Nat} {Q : Option Value → px_S → Prop} {σ : px_S} {x1 x2 x3 x4 x5 s0 : Int32} (h : Cw d 151 [.ref 9, .int x5] σ (fun r τ => Wp d tb_146 181 [.ref 9, .int x1, .int x2, .int x3, .int x4, .int x5] (r.toList ++ [.int s0]) τ Q)) : Wp d tb_146 175 [.ref 9, .int x1, .int x2, .int x3, .int x4, .int x5] [.int s0] σ Q := by
  refine Wp.adv (pc' := 178) (ls' := [.ref 9, .int x1, .int x2, .int x3, .int x4, .int x5]) (st' := [.int x5, .ref 9, .int s0]) (σ' := σ) 2 rfl ?_
  exact Wp.call (q := (151, 2, 9, 181)) rfl (Nat.le_of_ble_eq_true rfl) rfl h
theorem b146_181 {d : Nat} {Q : Option Value → px_S → Prop} {σ : px_S} {x1 x2 x3 x4 x5 s0 s1 : Int32} (h : Cw d 151 [.ref 9, .int x1] σ (fun r τ => Wp d tb_146 186 [.ref 9, .int x1, .int x2, .int x3, .int x4, .int x5] (r.toList ++ [.int s0, .int s1]) τ Q)) : Wp d tb_146 181 [.ref 9, .int x1, .int x2, .int x3, .int x4, .int x5] [.int s0, .int s1] σ Q := by
  refine Wp.adv (pc' := 183) (ls' := [.ref 9, .int x1, .int x2, .int x3, .int x4, .int x5]) (st' := [.int x1, .ref 9, .int s0, .int s1]) (σ' := σ) 2 rfl ?_
  exact Wp.call (q := (151, 2, 9, 186)) rfl (Nat.le_of_ble_eq_true rfl) rfl h
theorem b146_186 {d : Nat} {Q : Option Value → px_S → Prop} {σ : px_S} {x1 x2 x3 x4 x5 s0 s1 s2 : Int32} (ht : ¬ s1 = s0 → Wp d tb_146 193 [.ref 9, .int x1, .int x2, .int x3, .int x4, .int x5] [.int s2] σ Q) (hf : ¬ (¬ s1 = s0) → Wp d tb_146 189 [.ref 9, .int x1, .int x2, .int x3, .int x4, .int x5] [.int s2] σ Q) : Wp d tb_146 186 [.ref 9, .int x1, .int x2, .int x3, .int x4, .int x5] [.int s0, .int s1, .int s2] σ Q := by
  exact Wp.icmp rfl ht hf
theorem b146_189 {d : Nat} {Q : Option Value → px_S → Prop} {σ : px_S} {x1 x2 x3 x4 x5 s0 : Int32} (h : Wp d tb_146 194 [.ref 9, .int x1, .int x2, .int x3, .int x4, .int x5] [.int (1 : Int32), .int s0] σ Q) : Wp d tb_146 189 [.ref 9, .int x1, .int x2, .int x3, .int x4, .int x5] [.int s0] σ Q := by
  refine Wp.adv (pc' := 194) (ls' := [.ref 9, .int x1, .int x2, .int x3, .int x4, .int x5]) (st' := [.int (1 : Int32), .int s0]) (σ' := σ) 2 rfl ?_
  exact h
theorem b146_193 {d : Nat} {Q : Option Value → px_S → Prop} {σ : px_S} {x1 x2 x3 x4 x5 s0 : Int32} (h : Wp d tb_146 194 [.ref 9, .int x1, .int x2, .int x3, .int x4, .int x5] [.int (0 : Int32), .int s0] σ Q) : Wp d tb_146 193 [.ref 9, .int x1, .int x2, .int x3, .int x4, .int x5] [.int s0] σ Q := by
  refine Wp.adv (pc' := 194) (ls' := [.ref 9, .int x1, .int x2, .int x3, .int x4, .int x5]) (st' := [.int (0 : Int32), .int s0]) (σ' := σ) 1 rfl ?_
  exact h
theorem b146_194 {d : Nat} {Q : Option Value → px_S → Prop} {σ : px_S} {x1 x2 x3 x4 x5 s0 s1 : Int32} (h : Cw d 135 [.int s0] σ (fun r τ => Wp d tb_146 197 [.ref 9, .int x1, .int x2, .int x3, .int x4, .int x5] (r.toList ++ [.int s1]) τ Q)) : Wp d tb_146 194 [.ref 9, .int x1, .int x2, .int x3, .int x4, .int x5] [.int s0, .int s1] σ Q := by
  exact Wp.call (q := (135, 1, 0, 197)) rfl (Nat.le_of_ble_eq_true rfl) rfl h
theorem b146_197 {d : Nat} {Q : Option Value → px_S → Prop} {σ : px_S} {x1 x2 x3 x4 x5 s0 s1 : Int32} (h : Wp d tb_146 133 [.ref 9, .int x1, .int x2, .int x3, .int (s1 + s0), .int (x5 + 1)] [] σ Q) : Wp d tb_146 197 [.ref 9, .int x1, .int x2, .int x3, .int x4, .int x5] [.int s0, .int s1] σ Q := by
  refine Wp.adv (pc' := 133) (ls' := [.ref 9, .int x1, .int x2, .int x3, .int (s1 + s0), .int (x5 + 1)]) (st' := []) (σ' := σ) 4 rfl ?_
  exact h
theorem b146_206 {d : Nat} {Q : Option Value → px_S → Prop} {σ : px_S} {x1 x2 x3 x4 x5 : Int32} (hd : (x2).toInt < 6 ∨ 10 < (x2).toInt → Wp d tb_146 264 [.ref 9, .int x1, .int x2, .int x3, .int x4, .int x5] [] σ Q) (hs : ∀ (j t : Nat), ([240, 247, 253, 259, 261] : List Nat)[j]? = some t → (x2).toInt = 6 + (j : Int) → Wp d tb_146 t [.ref 9, .int x1, .int x2, .int x3, .int x4, .int x5] [] σ Q) : Wp d tb_146 206 [.ref 9, .int x1, .int x2, .int x3, .int x4, .int x5] [] σ Q := by
  refine Wp.adv (pc' := 207) (ls' := [.ref 9, .int x1, .int x2, .int x3, .int x4, .int x5]) (st' := [.int x2]) (σ' := σ) 1 rfl ?_
  exact Wp.tsw rfl rfl hd hs
theorem b146_240 {d : Nat} {Q : Option Value → px_S → Prop} {σ : px_S} {x1 x2 x3 x4 x5 : Int32} (c1 : vp_in x1 40) (h : Q (some (.int (σ.1 49 (x1).toNatClampNeg))) σ) : Wp d tb_146 240 [.ref 9, .int x1, .int x2, .int x3, .int x4, .int x5] [] σ Q := by
  refine Wp.adv (pc' := 245) (ls' := [.ref 9, .int x1, .int x2, .int x3, .int x4, .int x5]) (st' := [.int x1, .ref 49]) (σ' := σ) 3 rfl ?_
  refine Wp.iald (N := 40) rfl rfl c1 ?_
  exact Wp.ret rfl rfl h
theorem b146_247 {d : Nat} {Q : Option Value → px_S → Prop} {σ : px_S} {x1 x2 x3 x4 x5 : Int32} (h : Cw d 151 [.ref 9, .int x1] σ (fun r τ => Wp d tb_146 252 [.ref 9, .int x1, .int x2, .int x3, .int x4, .int x5] (r.toList ++ []) τ Q)) : Wp d tb_146 247 [.ref 9, .int x1, .int x2, .int x3, .int x4, .int x5] [] σ Q := by
  refine Wp.adv (pc' := 249) (ls' := [.ref 9, .int x1, .int x2, .int x3, .int x4, .int x5]) (st' := [.int x1, .ref 9]) (σ' := σ) 2 rfl ?_
  exact Wp.call (q := (151, 2, 9, 252)) rfl (Nat.le_of_ble_eq_true rfl) rfl h
theorem b146_252 {d : Nat} {Q : Option Value → px_S → Prop} {σ : px_S} {x1 x2 x3 x4 x5 s0 : Int32} (h : Q (some (.int s0)) σ) : Wp d tb_146 252 [.ref 9, .int x1, .int x2, .int x3, .int x4, .int x5] [.int s0] σ Q := by
  exact Wp.ret rfl rfl h
theorem b146_253 {d : Nat} {Q : Option Value → px_S → Prop} {σ : px_S} {x1 x2 x3 x4 x5 : Int32} (h : Cw d 152 [.ref 9, .int x1] σ (fun r τ => Wp d tb_146 258 [.ref 9, .int x1, .int x2, .int x3, .int x4, .int x5] (r.toList ++ []) τ Q)) : Wp d tb_146 253 [.ref 9, .int x1, .int x2, .int x3, .int x4, .int x5] [] σ Q := by
  refine Wp.adv (pc' := 255) (ls' := [.ref 9, .int x1, .int x2, .int x3, .int x4, .int x5]) (st' := [.int x1, .ref 9]) (σ' := σ) 2 rfl ?_
  exact Wp.call (q := (152, 2, 9, 258)) rfl (Nat.le_of_ble_eq_true rfl) rfl h
theorem b146_258 {d : Nat} {Q : Option Value → px_S → Prop} {σ : px_S} {x1 x2 x3 x4 x5 s0 : Int32} (h : Q (some (.int s0)) σ) : Wp d tb_146 258 [.ref 9, .int x1, .int x2, .int x3, .int x4, .int x5] [.int s0] σ Q := by
  exact Wp.ret rfl rfl h
theorem b146_259 {d : Nat} {Q : Option Value → px_S → Prop} {σ : px_S} {x1 x2 x3 x4 x5 : Int32} (h : Q (some (.int x3)) σ) : Wp d tb_146 259 [.ref 9, .int x1, .int x2, .int x3, .int x4, .int x5] [] σ Q := by
  refine Wp.adv (pc' := 260) (ls' := [.ref 9, .int x1, .int x2, .int x3, .int x4, .int x5]) (st' := [.int x3]) (σ' := σ) 1 rfl ?_
  exact Wp.ret rfl rfl h
theorem b146_261 {d : Nat} {Q : Option Value → px_S → Prop} {σ : px_S} {x1 x2 x3 x4 x5 : Int32} (h : Q (some (.int x4)) σ) : Wp d tb_146 261 [.ref 9, .int x1, .int x2, .int x3, .int x4, .int x5] [] σ Q := by
  refine Wp.adv (pc' := 263) (ls' := [.ref 9, .int x1, .int x2, .int x3, .int x4, .int x5]) (st' := [.int x4]) (σ' := σ) 1 rfl ?_
  exact Wp.ret rfl rfl h
theorem b146_264 {d : Nat} {Q : Option Value → px_S → Prop} {σ : px_S} {x1 x2 x3 x4 x5 : Int32} (c1 : vp_in x1 40) (ht : 0 ≤ (σ.1 49 (x1).toNatClampNeg) → Wp d tb_146 277 [.ref 9, .int x1, .int x2, .int x3, .int x4, .int x5] [] σ Q) (hf : ¬ (0 ≤ (σ.1 49 (x1).toNatClampNeg)) → Wp d tb_146 273 [.ref 9, .int x1, .int x2, .int x3, .int x4, .int x5] [] σ Q) : Wp d tb_146 264 [.ref 9, .int x1, .int x2, .int x3, .int x4, .int x5] [] σ Q := by
  refine Wp.adv (pc' := 269) (ls' := [.ref 9, .int x1, .int x2, .int x3, .int x4, .int x5]) (st' := [.int x1, .ref 49]) (σ' := σ) 3 rfl ?_
  refine Wp.iald (N := 40) rfl rfl c1 ?_
  exact Wp.if_ rfl ht hf
theorem b146_273 {d : Nat} {Q : Option Value → px_S → Prop} {σ : px_S} {x1 x2 x3 x4 x5 : Int32} (h : Wp d tb_146 288 [.ref 9, .int x1, .int x2, .int x3, .int x4, .int x5] [.int (-1 : Int32)] σ Q) : Wp d tb_146 273 [.ref 9, .int x1, .int x2, .int x3, .int x4, .int x5] [] σ Q := by
  refine Wp.adv (pc' := 288) (ls' := [.ref 9, .int x1, .int x2, .int x3, .int x4, .int x5]) (st' := [.int (-1 : Int32)]) (σ' := σ) 2 rfl ?_
  exact h
theorem b146_277 {d : Nat} {Q : Option Value → px_S → Prop} {σ : px_S} {x1 x2 x3 x4 x5 : Int32} (c1 : vp_in x1 40) (h : Cw d 144 [.ref 9, .int x1, .int (σ.1 49 (x1).toNatClampNeg)] σ (fun r τ => Wp d tb_146 288 [.ref 9, .int x1, .int x2, .int x3, .int x4, .int x5] (r.toList ++ []) τ Q)) : Wp d tb_146 277 [.ref 9, .int x1, .int x2, .int x3, .int x4, .int x5] [] σ Q := by
  refine Wp.adv (pc' := 284) (ls' := [.ref 9, .int x1, .int x2, .int x3, .int x4, .int x5]) (st' := [.int x1, .ref 49, .int x1, .ref 9]) (σ' := σ) 5 rfl ?_
  refine Wp.iald (N := 40) rfl rfl c1 ?_
  exact Wp.call (q := (144, 3, 9, 288)) rfl (Nat.le_of_ble_eq_true rfl) rfl h
theorem b146_288 {d : Nat} {Q : Option Value → px_S → Prop} {σ : px_S} {x1 x2 x3 x4 x5 s0 : Int32} (h : Q (some (.int s0)) σ) : Wp d tb_146 288 [.ref 9, .int x1, .int x2, .int x3, .int x4, .int x5] [.int s0] σ Q := by
  exact Wp.ret rfl rfl h
theorem e146 {d : Nat} {Q : Option Value → px_S → Prop} {σ : px_S} {x1 x2 : Int32} (h : Wp d tb_146 0 [.ref 9, .int x1, .int x2, .null, .null, .null] [] σ Q) : Cw (d + 1) 146 [.ref 9, .int x1, .int x2] σ Q := Cw.of (nL := 6) (y := yX9_about) (cc := cX9_about) (rt := some .int) rfl (Nat.le_of_ble_eq_true rfl) h
theorem b147_0 {d : Nat} {Q : Option Value → px_S → Prop} {σ : px_S} {x1 : Int32} (h : Wp d tb_147 4 [.ref 9, .int x1, .int (0 : Int32), .int (0 : Int32)] [] σ Q) : Wp d tb_147 0 [.ref 9, .int x1, .null, .null] [] σ Q := by
  refine Wp.adv (pc' := 4) (ls' := [.ref 9, .int x1, .int (0 : Int32), .int (0 : Int32)]) (st' := []) (σ' := σ) 4 rfl ?_
  exact h
theorem b147_4 {d : Nat} {Q : Option Value → px_S → Prop} {σ : px_S} {x1 x2 x3 : Int32} (c1 : vp_in x1 40) (ht : (σ.1 41 (x1).toNatClampNeg) ≤ x3 → Wp d tb_147 45 [.ref 9, .int x1, .int x2, .int x3] [] σ Q) (hf : ¬ ((σ.1 41 (x1).toNatClampNeg) ≤ x3) → Wp d tb_147 14 [.ref 9, .int x1, .int x2, .int x3] [] σ Q) : Wp d tb_147 4 [.ref 9, .int x1, .int x2, .int x3] [] σ Q := by
  refine Wp.adv (pc' := 10) (ls' := [.ref 9, .int x1, .int x2, .int x3]) (st' := [.int x1, .ref 41, .int x3]) (σ' := σ) 4 rfl ?_
  refine Wp.iald (N := 40) rfl rfl c1 ?_
  exact Wp.icmp rfl ht hf
theorem b147_14 {d : Nat} {Q : Option Value → px_S → Prop} {σ : px_S} {x1 x2 x3 : Int32} (c1 : vp_in (((14 : Int32) * x1) + x3) 560) (ht : (σ.1 43 ((((14 : Int32) * x1) + x3)).toNatClampNeg) ≤ 0 → Wp d tb_147 33 [.ref 9, .int x1, .int x2, .int x3] [.int x2] σ Q) (hf : ¬ ((σ.1 43 ((((14 : Int32) * x1) + x3)).toNatClampNeg) ≤ 0) → Wp d tb_147 29 [.ref 9, .int x1, .int x2, .int x3] [.int x2] σ Q) : Wp d tb_147 14 [.ref 9, .int x1, .int x2, .int x3] [] σ Q := by
  refine Wp.adv (pc' := 25) (ls' := [.ref 9, .int x1, .int x2, .int x3]) (st' := [.int (((14 : Int32) * x1) + x3), .ref 43, .int x2]) (σ' := σ) 8 rfl ?_
  refine Wp.iald (N := 560) rfl rfl c1 ?_
  exact Wp.if_ rfl ht hf
theorem b147_29 {d : Nat} {Q : Option Value → px_S → Prop} {σ : px_S} {x1 x2 x3 s0 : Int32} (h : Wp d tb_147 34 [.ref 9, .int x1, .int x2, .int x3] [.int (1 : Int32), .int s0] σ Q) : Wp d tb_147 29 [.ref 9, .int x1, .int x2, .int x3] [.int s0] σ Q := by
  refine Wp.adv (pc' := 34) (ls' := [.ref 9, .int x1, .int x2, .int x3]) (st' := [.int (1 : Int32), .int s0]) (σ' := σ) 2 rfl ?_
  exact h
theorem b147_33 {d : Nat} {Q : Option Value → px_S → Prop} {σ : px_S} {x1 x2 x3 s0 : Int32} (h : Wp d tb_147 34 [.ref 9, .int x1, .int x2, .int x3] [.int (0 : Int32), .int s0] σ Q) : Wp d tb_147 33 [.ref 9, .int x1, .int x2, .int x3] [.int s0] σ Q := by
  refine Wp.adv (pc' := 34) (ls' := [.ref 9, .int x1, .int x2, .int x3]) (st' := [.int (0 : Int32), .int s0]) (σ' := σ) 1 rfl ?_
  exact h
theorem b147_34 {d : Nat} {Q : Option Value → px_S → Prop} {σ : px_S} {x1 x2 x3 s0 s1 : Int32} (h : Cw d 135 [.int s0] σ (fun r τ => Wp d tb_147 37 [.ref 9, .int x1, .int x2, .int x3] (r.toList ++ [.int s1]) τ Q)) : Wp d tb_147 34 [.ref 9, .int x1, .int x2, .int x3] [.int s0, .int s1] σ Q := by
  exact Wp.call (q := (135, 1, 0, 37)) rfl (Nat.le_of_ble_eq_true rfl) rfl h
theorem b147_37 {d : Nat} {Q : Option Value → px_S → Prop} {σ : px_S} {x1 x2 x3 s0 s1 : Int32} (h : Wp d tb_147 4 [.ref 9, .int x1, .int (s1 + s0), .int (x3 + 1)] [] σ Q) : Wp d tb_147 37 [.ref 9, .int x1, .int x2, .int x3] [.int s0, .int s1] σ Q := by
  refine Wp.adv (pc' := 4) (ls' := [.ref 9, .int x1, .int (s1 + s0), .int (x3 + 1)]) (st' := []) (σ' := σ) 4 rfl ?_
  exact h
theorem b147_45 {d : Nat} {Q : Option Value → px_S → Prop} {σ : px_S} {x1 x2 x3 : Int32} (h : Q (some (.int x2)) σ) : Wp d tb_147 45 [.ref 9, .int x1, .int x2, .int x3] [] σ Q := by
  refine Wp.adv (pc' := 46) (ls' := [.ref 9, .int x1, .int x2, .int x3]) (st' := [.int x2]) (σ' := σ) 1 rfl ?_
  exact Wp.ret rfl rfl h
theorem e147 {d : Nat} {Q : Option Value → px_S → Prop} {σ : px_S} {x1 : Int32} (h : Wp d tb_147 0 [.ref 9, .int x1, .null, .null] [] σ Q) : Cw (d + 1) 147 [.ref 9, .int x1] σ Q := Cw.of (nL := 4) (y := yX9_quoted) (cc := cX9_quoted) (rt := some .int) rfl (Nat.le_of_ble_eq_true rfl) h
theorem b148_0 {d : Nat} {Q : Option Value → px_S → Prop} {σ : px_S}  (h : Wp d tb_148 2 [.ref 9, .int (0 : Int32), .null, .null] [] σ Q) : Wp d tb_148 0 [.ref 9, .null, .null, .null] [] σ Q := by
  refine Wp.adv (pc' := 2) (ls' := [.ref 9, .int (0 : Int32), .null, .null]) (st' := []) (σ' := σ) 2 rfl ?_
  exact h
theorem b148_2 {d : Nat} {Q : Option Value → px_S → Prop} {σ : px_S} {x1 : Int32} (ht : (σ.1 9 1) ≤ x1 → Wp d tb_148 23 [.ref 9, .int x1, .null, .null] [] σ Q) (hf : ¬ ((σ.1 9 1) ≤ x1) → Wp d tb_148 10 [.ref 9, .int x1, .null, .null] [] σ Q) : Wp d tb_148 2 [.ref 9, .int x1, .null, .null] [] σ Q := by
  refine Wp.adv (pc' := 7) (ls' := [.ref 9, .int x1, .null, .null]) (st' := [.int (σ.1 9 1), .int x1]) (σ' := σ) 3 rfl ?_
  exact Wp.icmp rfl ht hf
theorem b148_10 {d : Nat} {Q : Option Value → px_S → Prop} {σ : px_S} {x1 : Int32} (c1 : vp_in x1 40) (h : Wp d tb_148 17 [.ref 9, .int x1, .null, .null] [] (px_uI σ 49 (x1).toNatClampNeg (-1 : Int32)) Q) : Wp d tb_148 10 [.ref 9, .int x1, .null, .null] [] σ Q := by
  refine Wp.adv (pc' := 16) (ls' := [.ref 9, .int x1, .null, .null]) (st' := [.int (-1 : Int32), .int x1, .ref 49]) (σ' := σ) 4 rfl ?_
  refine Wp.iast (N := 40) rfl rfl c1 ?_
  exact h
theorem b148_17 {d : Nat} {Q : Option Value → px_S → Prop} {σ : px_S} {x1 : Int32} (h : Wp d tb_148 2 [.ref 9, .int (x1 + 1), .null, .null] [] σ Q) : Wp d tb_148 17 [.ref 9, .int x1, .null, .null] [] σ Q := by
  refine Wp.adv (pc' := 2) (ls' := [.ref 9, .int (x1 + 1), .null, .null]) (st' := []) (σ' := σ) 2 rfl ?_
  exact h
theorem b148_23 {d : Nat} {Q : Option Value → px_S → Prop} {σ : px_S} {x1 : Int32} (h : Wp d tb_148 25 [.ref 9, .int (0 : Int32), .null, .null] [] σ Q) : Wp d tb_148 23 [.ref 9, .int x1, .null, .null] [] σ Q := by
  refine Wp.adv (pc' := 25) (ls' := [.ref 9, .int (0 : Int32), .null, .null]) (st' := []) (σ' := σ) 2 rfl ?_
  exact h
theorem b148_25 {d : Nat} {Q : Option Value → px_S → Prop} {σ : px_S} {x1 : Int32} {v2 v3 : Value} (ht : (σ.1 9 1) ≤ x1 → Wp d tb_148 110 [.ref 9, .int x1, v2, v3] [] σ Q) (hf : ¬ ((σ.1 9 1) ≤ x1) → Wp d tb_148 33 [.ref 9, .int x1, v2, v3] [] σ Q) : Wp d tb_148 25 [.ref 9, .int x1, v2, v3] [] σ Q := by
  refine Wp.adv (pc' := 30) (ls' := [.ref 9, .int x1, v2, v3]) (st' := [.int (σ.1 9 1), .int x1]) (σ' := σ) 3 rfl ?_
  exact Wp.icmp rfl ht hf
theorem b148_33 {d : Nat} {Q : Option Value → px_S → Prop} {σ : px_S} {x1 : Int32} {v2 v3 : Value} (nv2 : px_nc v2 = true) (nv3 : px_nc v3 = true) (h : Cw d 143 [.ref 9, .int x1] σ (fun r τ => Wp d tb_148 38 [.ref 9, .int x1, v2, v3] (r.toList ++ []) τ Q)) : Wp d tb_148 33 [.ref 9, .int x1, v2, v3] [] σ Q := by
  refine Wp.adv (pc' := 35) (ls' := [.ref 9, .int x1, v2, v3]) (st' := [.int x1, .ref 9]) (σ' := σ) 2 rfl ?_
  exact Wp.call (q := (143, 2, 9, 38)) rfl (Nat.le_of_ble_eq_true rfl) (px_okc_mk rfl rfl rfl (by simp only [List.all_cons, List.all_nil, nv2, nv3]; rfl)) h
theorem b148_38 {d : Nat} {Q : Option Value → px_S → Prop} {σ : px_S} {x1 s0 : Int32} {v2 v3 : Value} (ht : s0 = 0 → Wp d tb_148 104 [.ref 9, .int x1, v2, v3] [] σ Q) (hf : ¬ (s0 = 0) → Wp d tb_148 41 [.ref 9, .int x1, v2, v3] [] σ Q) : Wp d tb_148 38 [.ref 9, .int x1, v2, v3] [.int s0] σ Q := by
  exact Wp.if_ rfl ht hf
theorem b148_41 {d : Nat} {Q : Option Value → px_S → Prop} {σ : px_S} {x1 : Int32} {v2 v3 : Value} (c1 : vp_in x1 40) (ht : (σ.1 40 (x1).toNatClampNeg) < 0 → Wp d tb_148 83 [.ref 9, .int x1, .int (σ.1 40 (x1).toNatClampNeg), v3] [] σ Q) (hf : ¬ ((σ.1 40 (x1).toNatClampNeg) < 0) → Wp d tb_148 52 [.ref 9, .int x1, .int (σ.1 40 (x1).toNatClampNeg), v3] [] σ Q) : Wp d tb_148 41 [.ref 9, .int x1, v2, v3] [] σ Q := by
  refine Wp.adv (pc' := 46) (ls' := [.ref 9, .int x1, v2, v3]) (st' := [.int x1, .ref 40]) (σ' := σ) 3 rfl ?_
  refine Wp.iald (N := 40) rfl rfl c1 ?_
  refine Wp.adv (pc' := 49) (ls' := [.ref 9, .int x1, .int (σ.1 40 (x1).toNatClampNeg), v3]) (st' := [.int (σ.1 40 (x1).toNatClampNeg)]) (σ' := σ) 2 rfl ?_
  exact Wp.if_ rfl ht hf
theorem b148_52 {d : Nat} {Q : Option Value → px_S → Prop} {σ : px_S} {x1 x2 : Int32} {v3 : Value} (c1 : vp_in (2 : Int32) 5) (ht : ¬ (σ.1 37 ((2 : Int32)).toNatClampNeg) = (1 : Int32) → Wp d tb_148 83 [.ref 9, .int x1, .int x2, v3] [] σ Q) (hf : ¬ (¬ (σ.1 37 ((2 : Int32)).toNatClampNeg) = (1 : Int32)) → Wp d tb_148 62 [.ref 9, .int x1, .int x2, v3] [] σ Q) : Wp d tb_148 52 [.ref 9, .int x1, .int x2, v3] [] σ Q := by
  refine Wp.adv (pc' := 57) (ls' := [.ref 9, .int x1, .int x2, v3]) (st' := [.int (2 : Int32), .ref 37]) (σ' := σ) 3 rfl ?_
  refine Wp.iald (N := 5) rfl rfl c1 ?_
  refine Wp.adv (pc' := 59) (ls' := [.ref 9, .int x1, .int x2, v3]) (st' := [.int (1 : Int32), .int (σ.1 37 ((2 : Int32)).toNatClampNeg)]) (σ' := σ) 1 rfl ?_
  exact Wp.icmp rfl ht hf
theorem b148_62 {d : Nat} {Q : Option Value → px_S → Prop} {σ : px_S} {x1 x2 : Int32} {v3 : Value} (nv3 : px_nc v3 = true) (h : Cw d 143 [.ref 9, .int x2] σ (fun r τ => Wp d tb_148 67 [.ref 9, .int x1, .int x2, v3] (r.toList ++ []) τ Q)) : Wp d tb_148 62 [.ref 9, .int x1, .int x2, v3] [] σ Q := by
  refine Wp.adv (pc' := 64) (ls' := [.ref 9, .int x1, .int x2, v3]) (st' := [.int x2, .ref 9]) (σ' := σ) 2 rfl ?_
  exact Wp.call (q := (143, 2, 9, 67)) rfl (Nat.le_of_ble_eq_true rfl) (px_okc_mk rfl rfl rfl (by simp only [List.all_cons, List.all_nil, nv3]; rfl)) h
theorem b148_67 {d : Nat} {Q : Option Value → px_S → Prop} {σ : px_S} {x1 x2 s0 : Int32} {v3 : Value} (ht : s0 = 0 → Wp d tb_148 83 [.ref 9, .int x1, .int x2, v3] [] σ Q) (hf : ¬ (s0 = 0) → Wp d tb_148 70 [.ref 9, .int x1, .int x2, v3] [] σ Q) : Wp d tb_148 67 [.ref 9, .int x1, .int x2, v3] [.int s0] σ Q := by
  exact Wp.if_ rfl ht hf
theorem b148_70 {d : Nat} {Q : Option Value → px_S → Prop} {σ : px_S} {x1 x2 : Int32} {v3 : Value} (nv3 : px_nc v3 = true) (h : Cw d 149 [.ref 9, .int x2, .int x1] σ (fun r τ => Wp d tb_148 76 [.ref 9, .int x1, .int x2, v3] (r.toList ++ []) τ Q)) : Wp d tb_148 70 [.ref 9, .int x1, .int x2, v3] [] σ Q := by
  refine Wp.adv (pc' := 73) (ls' := [.ref 9, .int x1, .int x2, v3]) (st' := [.int x1, .int x2, .ref 9]) (σ' := σ) 3 rfl ?_
  exact Wp.call (q := (149, 3, 9, 76)) rfl (Nat.le_of_ble_eq_true rfl) (px_okc_mk rfl rfl rfl (by simp only [List.all_cons, List.all_nil, nv3]; rfl)) h
theorem b148_76 {d : Nat} {Q : Option Value → px_S → Prop} {σ : px_S} {x1 x2 s0 : Int32} {v3 : Value} (ht : ¬ s0 = 0 → Wp d tb_148 83 [.ref 9, .int x1, .int x2, v3] [] σ Q) (hf : ¬ (¬ s0 = 0) → Wp d tb_148 79 [.ref 9, .int x1, .int x2, v3] [] σ Q) : Wp d tb_148 76 [.ref 9, .int x1, .int x2, v3] [.int s0] σ Q := by
  exact Wp.if_ rfl ht hf
theorem b148_79 {d : Nat} {Q : Option Value → px_S → Prop} {σ : px_S} {x1 x2 : Int32} {v3 : Value} (h : Wp d tb_148 84 [.ref 9, .int x1, .int x2, v3] [.int (1 : Int32)] σ Q) : Wp d tb_148 79 [.ref 9, .int x1, .int x2, v3] [] σ Q := by
  refine Wp.adv (pc' := 84) (ls' := [.ref 9, .int x1, .int x2, v3]) (st' := [.int (1 : Int32)]) (σ' := σ) 2 rfl ?_
  exact h
theorem b148_83 {d : Nat} {Q : Option Value → px_S → Prop} {σ : px_S} {x1 x2 : Int32} {v3 : Value} (h : Wp d tb_148 84 [.ref 9, .int x1, .int x2, v3] [.int (0 : Int32)] σ Q) : Wp d tb_148 83 [.ref 9, .int x1, .int x2, v3] [] σ Q := by
  refine Wp.adv (pc' := 84) (ls' := [.ref 9, .int x1, .int x2, v3]) (st' := [.int (0 : Int32)]) (σ' := σ) 1 rfl ?_
  exact h
theorem b148_84 {d : Nat} {Q : Option Value → px_S → Prop} {σ : px_S} {x1 x2 s0 : Int32} {v3 : Value} (ht : s0 = 0 → Wp d tb_148 98 [.ref 9, .int x1, .int x2, .int s0] [.int x1, .ref 49] σ Q) (hf : ¬ (s0 = 0) → Wp d tb_148 94 [.ref 9, .int x1, .int x2, .int s0] [.int x1, .ref 49] σ Q) : Wp d tb_148 84 [.ref 9, .int x1, .int x2, v3] [.int s0] σ Q := by
  refine Wp.adv (pc' := 91) (ls' := [.ref 9, .int x1, .int x2, .int s0]) (st' := [.int s0, .int x1, .ref 49]) (σ' := σ) 5 rfl ?_
  exact Wp.if_ rfl ht hf
theorem b148_94 {d : Nat} {Q : Option Value → px_S → Prop} {σ : px_S} {x1 x2 x3 s0 : Int32} (h : Wp d tb_148 103 [.ref 9, .int x1, .int x2, .int x3] [.int x2, .int s0, .ref 49] σ Q) : Wp d tb_148 94 [.ref 9, .int x1, .int x2, .int x3] [.int s0, .ref 49] σ Q := by
  refine Wp.adv (pc' := 103) (ls' := [.ref 9, .int x1, .int x2, .int x3]) (st' := [.int x2, .int s0, .ref 49]) (σ' := σ) 2 rfl ?_
  exact h
theorem b148_98 {d : Nat} {Q : Option Value → px_S → Prop} {σ : px_S} {x1 x2 x3 s0 : Int32} (h : Cw d 150 [.ref 9, .int x1] σ (fun r τ => Wp d tb_148 103 [.ref 9, .int x1, .int x2, .int x3] (r.toList ++ [.int s0, .ref 49]) τ Q)) : Wp d tb_148 98 [.ref 9, .int x1, .int x2, .int x3] [.int s0, .ref 49] σ Q := by
  refine Wp.adv (pc' := 100) (ls' := [.ref 9, .int x1, .int x2, .int x3]) (st' := [.int x1, .ref 9, .int s0, .ref 49]) (σ' := σ) 2 rfl ?_
  exact Wp.call (q := (150, 2, 9, 103)) rfl (Nat.le_of_ble_eq_true rfl) rfl h
theorem b148_103 {d : Nat} {Q : Option Value → px_S → Prop} {σ : px_S} {x1 x2 x3 s0 s1 : Int32} (c1 : vp_in s1 40) (h : Wp d tb_148 104 [.ref 9, .int x1, .int x2, .int x3] [] (px_uI σ 49 (s1).toNatClampNeg s0) Q) : Wp d tb_148 103 [.ref 9, .int x1, .int x2, .int x3] [.int s0, .int s1, .ref 49] σ Q := by
  refine Wp.iast (N := 40) rfl rfl c1 ?_
  exact h
theorem b148_104 {d : Nat} {Q : Option Value → px_S → Prop} {σ : px_S} {x1 : Int32} {v2 v3 : Value} (h : Wp d tb_148 25 [.ref 9, .int (x1 + 1), v2, v3] [] σ Q) : Wp d tb_148 104 [.ref 9, .int x1, v2, v3] [] σ Q := by
  refine Wp.adv (pc' := 25) (ls' := [.ref 9, .int (x1 + 1), v2, v3]) (st' := []) (σ' := σ) 2 rfl ?_
  exact h
theorem b148_110 {d : Nat} {Q : Option Value → px_S → Prop} {σ : px_S} {x1 : Int32} {v2 v3 : Value} (h : Q none σ) : Wp d tb_148 110 [.ref 9, .int x1, v2, v3] [] σ Q := by
  exact Wp.ret rfl rfl h
theorem e148 {d : Nat} {Q : Option Value → px_S → Prop} {σ : px_S}  (h : Wp d tb_148 0 [.ref 9, .null, .null, .null] [] σ Q) : Cw (d + 1) 148 [.ref 9] σ Q := Cw.of (nL := 4) (y := yX9_findParents) (cc := cX9_findParents) (rt := none) rfl (Nat.le_of_ble_eq_true rfl) h
theorem b149_0 {d : Nat} {Q : Option Value → px_S → Prop} {σ : px_S} {x1 x2 : Int32} (h : Wp d tb_149 2 [.ref 9, .int x1, .int x2, .int x1] [] σ Q) : Wp d tb_149 0 [.ref 9, .int x1, .int x2, .null] [] σ Q := by
  refine Wp.adv (pc' := 2) (ls' := [.ref 9, .int x1, .int x2, .int x1]) (st' := []) (σ' := σ) 2 rfl ?_
  exact h
theorem b149_2 {d : Nat} {Q : Option Value → px_S → Prop} {σ : px_S} {x1 x2 x3 : Int32} (ht : x3 < 0 → Wp d tb_149 21 [.ref 9, .int x1, .int x2, .int x3] [] σ Q) (hf : ¬ (x3 < 0) → Wp d tb_149 6 [.ref 9, .int x1, .int x2, .int x3] [] σ Q) : Wp d tb_149 2 [.ref 9, .int x1, .int x2, .int x3] [] σ Q := by
  refine Wp.adv (pc' := 3) (ls' := [.ref 9, .int x1, .int x2, .int x3]) (st' := [.int x3]) (σ' := σ) 1 rfl ?_
  exact Wp.if_ rfl ht hf
theorem b149_6 {d : Nat} {Q : Option Value → px_S → Prop} {σ : px_S} {x1 x2 x3 : Int32} (ht : x3 = x2 → Wp d tb_149 21 [.ref 9, .int x1, .int x2, .int x3] [] σ Q) (hf : ¬ (x3 = x2) → Wp d tb_149 11 [.ref 9, .int x1, .int x2, .int x3] [] σ Q) : Wp d tb_149 6 [.ref 9, .int x1, .int x2, .int x3] [] σ Q := by
  refine Wp.adv (pc' := 8) (ls' := [.ref 9, .int x1, .int x2, .int x3]) (st' := [.int x2, .int x3]) (σ' := σ) 2 rfl ?_
  exact Wp.icmp rfl ht hf
theorem b149_11 {d : Nat} {Q : Option Value → px_S → Prop} {σ : px_S} {x1 x2 x3 : Int32} (c1 : vp_in x3 40) (h : Wp d tb_149 2 [.ref 9, .int x1, .int x2, .int (σ.1 49 (x3).toNatClampNeg)] [] σ Q) : Wp d tb_149 11 [.ref 9, .int x1, .int x2, .int x3] [] σ Q := by
  refine Wp.adv (pc' := 16) (ls' := [.ref 9, .int x1, .int x2, .int x3]) (st' := [.int x3, .ref 49]) (σ' := σ) 3 rfl ?_
  refine Wp.iald (N := 40) rfl rfl c1 ?_
  refine Wp.adv (pc' := 2) (ls' := [.ref 9, .int x1, .int x2, .int (σ.1 49 (x3).toNatClampNeg)]) (st' := []) (σ' := σ) 2 rfl ?_
  exact h
theorem b149_21 {d : Nat} {Q : Option Value → px_S → Prop} {σ : px_S} {x1 x2 x3 : Int32} (ht : ¬ x3 = x2 → Wp d tb_149 30 [.ref 9, .int x1, .int x2, .int x3] [] σ Q) (hf : ¬ (¬ x3 = x2) → Wp d tb_149 26 [.ref 9, .int x1, .int x2, .int x3] [] σ Q) : Wp d tb_149 21 [.ref 9, .int x1, .int x2, .int x3] [] σ Q := by
  refine Wp.adv (pc' := 23) (ls' := [.ref 9, .int x1, .int x2, .int x3]) (st' := [.int x2, .int x3]) (σ' := σ) 2 rfl ?_
  exact Wp.icmp rfl ht hf
theorem b149_26 {d : Nat} {Q : Option Value → px_S → Prop} {σ : px_S} {x1 x2 x3 : Int32} (h : Wp d tb_149 31 [.ref 9, .int x1, .int x2, .int x3] [.int (1 : Int32)] σ Q) : Wp d tb_149 26 [.ref 9, .int x1, .int x2, .int x3] [] σ Q := by
  refine Wp.adv (pc' := 31) (ls' := [.ref 9, .int x1, .int x2, .int x3]) (st' := [.int (1 : Int32)]) (σ' := σ) 2 rfl ?_
  exact h
theorem b149_30 {d : Nat} {Q : Option Value → px_S → Prop} {σ : px_S} {x1 x2 x3 : Int32} (h : Wp d tb_149 31 [.ref 9, .int x1, .int x2, .int x3] [.int (0 : Int32)] σ Q) : Wp d tb_149 30 [.ref 9, .int x1, .int x2, .int x3] [] σ Q := by
  refine Wp.adv (pc' := 31) (ls' := [.ref 9, .int x1, .int x2, .int x3]) (st' := [.int (0 : Int32)]) (σ' := σ) 1 rfl ?_
  exact h
theorem b149_31 {d : Nat} {Q : Option Value → px_S → Prop} {σ : px_S} {x1 x2 x3 s0 : Int32} (c1 : s0 = 0 ∨ s0 = 1) (h : Q (some (.int s0)) σ) : Wp d tb_149 31 [.ref 9, .int x1, .int x2, .int x3] [.int s0] σ Q := by
  exact Wp.zret rfl c1 h
theorem e149 {d : Nat} {Q : Option Value → px_S → Prop} {σ : px_S} {x1 x2 : Int32} (h : Wp d tb_149 0 [.ref 9, .int x1, .int x2, .null] [] σ Q) : Cw (d + 1) 149 [.ref 9, .int x1, .int x2] σ Q := Cw.of (nL := 4) (y := yX9_comesTo) (cc := cX9_comesTo) (rt := some .boolean) rfl (Nat.le_of_ble_eq_true rfl) h
theorem b150_0 {d : Nat} {Q : Option Value → px_S → Prop} {σ : px_S} {x1 : Int32} (h : Cw d 147 [.ref 9, .int x1] σ (fun r τ => Wp d tb_150 9 [.ref 9, .int x1, .int (-1 : Int32), .int (0 : Int32), .null, .null, .null, .null] (r.toList ++ []) τ Q)) : Wp d tb_150 0 [.ref 9, .int x1, .null, .null, .null, .null, .null, .null] [] σ Q := by
  refine Wp.adv (pc' := 6) (ls' := [.ref 9, .int x1, .int (-1 : Int32), .int (0 : Int32), .null, .null, .null, .null]) (st' := [.int x1, .ref 9]) (σ' := σ) 6 rfl ?_
  exact Wp.call (q := (147, 2, 9, 9)) rfl (Nat.le_of_ble_eq_true rfl) rfl h
theorem b150_9 {d : Nat} {Q : Option Value → px_S → Prop} {σ : px_S} {x1 x2 x3 s0 : Int32} (h : Wp d tb_150 14 [.ref 9, .int x1, .int x2, .int x3, .int s0, .int (0 : Int32), .null, .null] [] σ Q) : Wp d tb_150 9 [.ref 9, .int x1, .int x2, .int x3, .null, .null, .null, .null] [.int s0] σ Q := by
  refine Wp.adv (pc' := 14) (ls' := [.ref 9, .int x1, .int x2, .int x3, .int s0, .int (0 : Int32), .null, .null]) (st' := []) (σ' := σ) 3 rfl ?_
  exact h
theorem b150_14 {d : Nat} {Q : Option Value → px_S → Prop} {σ : px_S} {x1 x2 x3 x4 x5 : Int32} {v6 v7 : Value} (ht : (σ.1 9 1) ≤ x5 → Wp d tb_150 135 [.ref 9, .int x1, .int x2, .int x3, .int x4, .int x5, v6, v7] [] σ Q) (hf : ¬ ((σ.1 9 1) ≤ x5) → Wp d tb_150 23 [.ref 9, .int x1, .int x2, .int x3, .int x4, .int x5, v6, v7] [] σ Q) : Wp d tb_150 14 [.ref 9, .int x1, .int x2, .int x3, .int x4, .int x5, v6, v7] [] σ Q := by
  refine Wp.adv (pc' := 20) (ls' := [.ref 9, .int x1, .int x2, .int x3, .int x4, .int x5, v6, v7]) (st' := [.int (σ.1 9 1), .int x5]) (σ' := σ) 3 rfl ?_
  exact Wp.icmp rfl ht hf
theorem b150_23 {d : Nat} {Q : Option Value → px_S → Prop} {σ : px_S} {x1 x2 x3 x4 x5 : Int32} {v6 v7 : Value} (ht : x5 = x1 → Wp d tb_150 58 [.ref 9, .int x1, .int x2, .int x3, .int x4, .int x5, v6, v7] [] σ Q) (hf : ¬ (x5 = x1) → Wp d tb_150 29 [.ref 9, .int x1, .int x2, .int x3, .int x4, .int x5, v6, v7] [] σ Q) : Wp d tb_150 23 [.ref 9, .int x1, .int x2, .int x3, .int x4, .int x5, v6, v7] [] σ Q := by
  refine Wp.adv (pc' := 26) (ls' := [.ref 9, .int x1, .int x2, .int x3, .int x4, .int x5, v6, v7]) (st' := [.int x1, .int x5]) (σ' := σ) 2 rfl ?_
  exact Wp.icmp rfl ht hf
theorem b150_29 {d : Nat} {Q : Option Value → px_S → Prop} {σ : px_S} {x1 x2 x3 x4 x5 : Int32} {v6 v7 : Value} (c1 : vp_in x1 40) (ht : (σ.1 39 (x1).toNatClampNeg) < 0 → Wp d tb_150 58 [.ref 9, .int x1, .int x2, .int x3, .int x4, .int x5, v6, v7] [] σ Q) (hf : ¬ ((σ.1 39 (x1).toNatClampNeg) < 0) → Wp d tb_150 38 [.ref 9, .int x1, .int x2, .int x3, .int x4, .int x5, v6, v7] [] σ Q) : Wp d tb_150 29 [.ref 9, .int x1, .int x2, .int x3, .int x4, .int x5, v6, v7] [] σ Q := by
  refine Wp.adv (pc' := 34) (ls' := [.ref 9, .int x1, .int x2, .int x3, .int x4, .int x5, v6, v7]) (st' := [.int x1, .ref 39]) (σ' := σ) 3 rfl ?_
  refine Wp.iald (N := 40) rfl rfl c1 ?_
  exact Wp.if_ rfl ht hf
theorem b150_38 {d : Nat} {Q : Option Value → px_S → Prop} {σ : px_S} {x1 x2 x3 x4 x5 : Int32} {v6 v7 : Value} (c1 : vp_in x5 40) (c2 : vp_in x1 40) (ht : (σ.1 39 (x5).toNatClampNeg) ≤ (σ.1 39 (x1).toNatClampNeg) → Wp d tb_150 58 [.ref 9, .int x1, .int x2, .int x3, .int x4, .int x5, v6, v7] [] σ Q) (hf : ¬ ((σ.1 39 (x5).toNatClampNeg) ≤ (σ.1 39 (x1).toNatClampNeg)) → Wp d tb_150 54 [.ref 9, .int x1, .int x2, .int x3, .int x4, .int x5, v6, v7] [] σ Q) : Wp d tb_150 38 [.ref 9, .int x1, .int x2, .int x3, .int x4, .int x5, v6, v7] [] σ Q := by
  refine Wp.adv (pc' := 44) (ls' := [.ref 9, .int x1, .int x2, .int x3, .int x4, .int x5, v6, v7]) (st' := [.int x5, .ref 39]) (σ' := σ) 3 rfl ?_
  refine Wp.iald (N := 40) rfl rfl c1 ?_
  refine Wp.adv (pc' := 50) (ls' := [.ref 9, .int x1, .int x2, .int x3, .int x4, .int x5, v6, v7]) (st' := [.int x1, .ref 39, .int (σ.1 39 (x5).toNatClampNeg)]) (σ' := σ) 3 rfl ?_
  refine Wp.iald (N := 40) rfl rfl c2 ?_
  exact Wp.icmp rfl ht hf
theorem b150_54 {d : Nat} {Q : Option Value → px_S → Prop} {σ : px_S} {x1 x2 x3 x4 x5 : Int32} {v6 v7 : Value} (h : Wp d tb_150 59 [.ref 9, .int x1, .int x2, .int x3, .int x4, .int x5, v6, v7] [.int (1 : Int32)] σ Q) : Wp d tb_150 54 [.ref 9, .int x1, .int x2, .int x3, .int x4, .int x5, v6, v7] [] σ Q := by
  refine Wp.adv (pc' := 59) (ls' := [.ref 9, .int x1, .int x2, .int x3, .int x4, .int x5, v6, v7]) (st' := [.int (1 : Int32)]) (σ' := σ) 2 rfl ?_
  exact h
theorem b150_58 {d : Nat} {Q : Option Value → px_S → Prop} {σ : px_S} {x1 x2 x3 x4 x5 : Int32} {v6 v7 : Value} (h : Wp d tb_150 59 [.ref 9, .int x1, .int x2, .int x3, .int x4, .int x5, v6, v7] [.int (0 : Int32)] σ Q) : Wp d tb_150 58 [.ref 9, .int x1, .int x2, .int x3, .int x4, .int x5, v6, v7] [] σ Q := by
  refine Wp.adv (pc' := 59) (ls' := [.ref 9, .int x1, .int x2, .int x3, .int x4, .int x5, v6, v7]) (st' := [.int (0 : Int32)]) (σ' := σ) 1 rfl ?_
  exact h
theorem b150_59 {d : Nat} {Q : Option Value → px_S → Prop} {σ : px_S} {x1 x2 x3 x4 x5 s0 : Int32} {v6 v7 : Value} (ht : x5 = x1 → Wp d tb_150 129 [.ref 9, .int x1, .int x2, .int x3, .int x4, .int x5, .int s0, v7] [] σ Q) (hf : ¬ (x5 = x1) → Wp d tb_150 67 [.ref 9, .int x1, .int x2, .int x3, .int x4, .int x5, .int s0, v7] [] σ Q) : Wp d tb_150 59 [.ref 9, .int x1, .int x2, .int x3, .int x4, .int x5, v6, v7] [.int s0] σ Q := by
  refine Wp.adv (pc' := 64) (ls' := [.ref 9, .int x1, .int x2, .int x3, .int x4, .int x5, .int s0, v7]) (st' := [.int x1, .int x5]) (σ' := σ) 3 rfl ?_
  exact Wp.icmp rfl ht hf
theorem b150_67 {d : Nat} {Q : Option Value → px_S → Prop} {σ : px_S} {x1 x2 x3 x4 x5 x6 : Int32} {v7 : Value} (nv7 : px_nc v7 = true) (h : Cw d 143 [.ref 9, .int x5] σ (fun r τ => Wp d tb_150 73 [.ref 9, .int x1, .int x2, .int x3, .int x4, .int x5, .int x6, v7] (r.toList ++ []) τ Q)) : Wp d tb_150 67 [.ref 9, .int x1, .int x2, .int x3, .int x4, .int x5, .int x6, v7] [] σ Q := by
  refine Wp.adv (pc' := 70) (ls' := [.ref 9, .int x1, .int x2, .int x3, .int x4, .int x5, .int x6, v7]) (st' := [.int x5, .ref 9]) (σ' := σ) 2 rfl ?_
  exact Wp.call (q := (143, 2, 9, 73)) rfl (Nat.le_of_ble_eq_true rfl) (px_okc_mk rfl rfl rfl (by simp only [List.all_cons, List.all_nil, nv7]; rfl)) h
theorem b150_73 {d : Nat} {Q : Option Value → px_S → Prop} {σ : px_S} {x1 x2 x3 x4 x5 x6 s0 : Int32} {v7 : Value} (ht : s0 = 0 → Wp d tb_150 129 [.ref 9, .int x1, .int x2, .int x3, .int x4, .int x5, .int x6, v7] [] σ Q) (hf : ¬ (s0 = 0) → Wp d tb_150 76 [.ref 9, .int x1, .int x2, .int x3, .int x4, .int x5, .int x6, v7] [] σ Q) : Wp d tb_150 73 [.ref 9, .int x1, .int x2, .int x3, .int x4, .int x5, .int x6, v7] [.int s0] σ Q := by
  exact Wp.if_ rfl ht hf
theorem b150_76 {d : Nat} {Q : Option Value → px_S → Prop} {σ : px_S} {x1 x2 x3 x4 x5 x6 : Int32} {v7 : Value} (ht : ¬ x6 = 0 → Wp d tb_150 129 [.ref 9, .int x1, .int x2, .int x3, .int x4, .int x5, .int x6, v7] [] σ Q) (hf : ¬ (¬ x6 = 0) → Wp d tb_150 81 [.ref 9, .int x1, .int x2, .int x3, .int x4, .int x5, .int x6, v7] [] σ Q) : Wp d tb_150 76 [.ref 9, .int x1, .int x2, .int x3, .int x4, .int x5, .int x6, v7] [] σ Q := by
  refine Wp.adv (pc' := 78) (ls' := [.ref 9, .int x1, .int x2, .int x3, .int x4, .int x5, .int x6, v7]) (st' := [.int x6]) (σ' := σ) 1 rfl ?_
  exact Wp.if_ rfl ht hf
theorem b150_81 {d : Nat} {Q : Option Value → px_S → Prop} {σ : px_S} {x1 x2 x3 x4 x5 x6 : Int32} {v7 : Value} (nv7 : px_nc v7 = true) (h : Cw d 149 [.ref 9, .int x5, .int x1] σ (fun r τ => Wp d tb_150 88 [.ref 9, .int x1, .int x2, .int x3, .int x4, .int x5, .int x6, v7] (r.toList ++ []) τ Q)) : Wp d tb_150 81 [.ref 9, .int x1, .int x2, .int x3, .int x4, .int x5, .int x6, v7] [] σ Q := by
  refine Wp.adv (pc' := 85) (ls' := [.ref 9, .int x1, .int x2, .int x3, .int x4, .int x5, .int x6, v7]) (st' := [.int x1, .int x5, .ref 9]) (σ' := σ) 3 rfl ?_
  exact Wp.call (q := (149, 3, 9, 88)) rfl (Nat.le_of_ble_eq_true rfl) (px_okc_mk rfl rfl rfl (by simp only [List.all_cons, List.all_nil, nv7]; rfl)) h
theorem b150_88 {d : Nat} {Q : Option Value → px_S → Prop} {σ : px_S} {x1 x2 x3 x4 x5 x6 s0 : Int32} {v7 : Value} (ht : ¬ s0 = 0 → Wp d tb_150 129 [.ref 9, .int x1, .int x2, .int x3, .int x4, .int x5, .int x6, v7] [] σ Q) (hf : ¬ (¬ s0 = 0) → Wp d tb_150 91 [.ref 9, .int x1, .int x2, .int x3, .int x4, .int x5, .int x6, v7] [] σ Q) : Wp d tb_150 88 [.ref 9, .int x1, .int x2, .int x3, .int x4, .int x5, .int x6, v7] [.int s0] σ Q := by
  exact Wp.if_ rfl ht hf
theorem b150_91 {d : Nat} {Q : Option Value → px_S → Prop} {σ : px_S} {x1 x2 x3 x4 x5 x6 : Int32} {v7 : Value} (nv7 : px_nc v7 = true) (h : Cw d 144 [.ref 9, .int x1, .int x5] σ (fun r τ => Wp d tb_150 98 [.ref 9, .int x1, .int x2, .int x3, .int x4, .int x5, .int x6, v7] (r.toList ++ []) τ Q)) : Wp d tb_150 91 [.ref 9, .int x1, .int x2, .int x3, .int x4, .int x5, .int x6, v7] [] σ Q := by
  refine Wp.adv (pc' := 95) (ls' := [.ref 9, .int x1, .int x2, .int x3, .int x4, .int x5, .int x6, v7]) (st' := [.int x5, .int x1, .ref 9]) (σ' := σ) 3 rfl ?_
  exact Wp.call (q := (144, 3, 9, 98)) rfl (Nat.le_of_ble_eq_true rfl) (px_okc_mk rfl rfl rfl (by simp only [List.all_cons, List.all_nil, nv7]; rfl)) h
theorem b150_98 {d : Nat} {Q : Option Value → px_S → Prop} {σ : px_S} {x1 x2 x3 x4 x5 x6 s0 : Int32} {v7 : Value} (ht : s0 ≤ x3 → Wp d tb_150 129 [.ref 9, .int x1, .int x2, .int x3, .int x4, .int x5, .int x6, .int s0] [] σ Q) (hf : ¬ (s0 ≤ x3) → Wp d tb_150 106 [.ref 9, .int x1, .int x2, .int x3, .int x4, .int x5, .int x6, .int s0] [] σ Q) : Wp d tb_150 98 [.ref 9, .int x1, .int x2, .int x3, .int x4, .int x5, .int x6, v7] [.int s0] σ Q := by
  refine Wp.adv (pc' := 103) (ls' := [.ref 9, .int x1, .int x2, .int x3, .int x4, .int x5, .int x6, .int s0]) (st' := [.int x3, .int s0]) (σ' := σ) 3 rfl ?_
  exact Wp.icmp rfl ht hf
theorem b150_106 {d : Nat} {Q : Option Value → px_S → Prop} {σ : px_S} {x1 x2 x3 x4 x5 x6 x7 : Int32} (c1 : vp_in (1 : Int32) 5) (ht : ((100 : Int32) * x7) < ((σ.1 37 ((1 : Int32)).toNatClampNeg) * x4) → Wp d tb_150 129 [.ref 9, .int x1, .int x2, .int x3, .int x4, .int x5, .int x6, .int x7] [] σ Q) (hf : ¬ (((100 : Int32) * x7) < ((σ.1 37 ((1 : Int32)).toNatClampNeg) * x4)) → Wp d tb_150 123 [.ref 9, .int x1, .int x2, .int x3, .int x4, .int x5, .int x6, .int x7] [] σ Q) : Wp d tb_150 106 [.ref 9, .int x1, .int x2, .int x3, .int x4, .int x5, .int x6, .int x7] [] σ Q := by
  refine Wp.adv (pc' := 116) (ls' := [.ref 9, .int x1, .int x2, .int x3, .int x4, .int x5, .int x6, .int x7]) (st' := [.int (1 : Int32), .ref 37, .int ((100 : Int32) * x7)]) (σ' := σ) 6 rfl ?_
  refine Wp.iald (N := 5) rfl rfl c1 ?_
  refine Wp.adv (pc' := 120) (ls' := [.ref 9, .int x1, .int x2, .int x3, .int x4, .int x5, .int x6, .int x7]) (st' := [.int ((σ.1 37 ((1 : Int32)).toNatClampNeg) * x4), .int ((100 : Int32) * x7)]) (σ' := σ) 2 rfl ?_
  exact Wp.icmp rfl ht hf
theorem b150_123 {d : Nat} {Q : Option Value → px_S → Prop} {σ : px_S} {x1 x2 x3 x4 x5 x6 x7 : Int32} (h : Wp d tb_150 129 [.ref 9, .int x1, .int x5, .int x7, .int x4, .int x5, .int x6, .int x7] [] σ Q) : Wp d tb_150 123 [.ref 9, .int x1, .int x2, .int x3, .int x4, .int x5, .int x6, .int x7] [] σ Q := by
  refine Wp.adv (pc' := 129) (ls' := [.ref 9, .int x1, .int x5, .int x7, .int x4, .int x5, .int x6, .int x7]) (st' := []) (σ' := σ) 4 rfl ?_
  exact h
theorem b150_129 {d : Nat} {Q : Option Value → px_S → Prop} {σ : px_S} {x1 x2 x3 x4 x5 x6 : Int32} {v7 : Value} (h : Wp d tb_150 14 [.ref 9, .int x1, .int x2, .int x3, .int x4, .int (x5 + 1), .int x6, v7] [] σ Q) : Wp d tb_150 129 [.ref 9, .int x1, .int x2, .int x3, .int x4, .int x5, .int x6, v7] [] σ Q := by
  refine Wp.adv (pc' := 14) (ls' := [.ref 9, .int x1, .int x2, .int x3, .int x4, .int (x5 + 1), .int x6, v7]) (st' := []) (σ' := σ) 2 rfl ?_
  exact h
theorem b150_135 {d : Nat} {Q : Option Value → px_S → Prop} {σ : px_S} {x1 x2 x3 x4 x5 : Int32} {v6 v7 : Value} (h : Q (some (.int x2)) σ) : Wp d tb_150 135 [.ref 9, .int x1, .int x2, .int x3, .int x4, .int x5, v6, v7] [] σ Q := by
  refine Wp.adv (pc' := 136) (ls' := [.ref 9, .int x1, .int x2, .int x3, .int x4, .int x5, v6, v7]) (st' := [.int x2]) (σ' := σ) 1 rfl ?_
  exact Wp.ret rfl rfl h
theorem e150 {d : Nat} {Q : Option Value → px_S → Prop} {σ : px_S} {x1 : Int32} (h : Wp d tb_150 0 [.ref 9, .int x1, .null, .null, .null, .null, .null, .null] [] σ Q) : Cw (d + 1) 150 [.ref 9, .int x1] σ Q := Cw.of (nL := 8) (y := yX9_fitting) (cc := cX9_fitting) (rt := some .int) rfl (Nat.le_of_ble_eq_true rfl) h
theorem b151_0 {d : Nat} {Q : Option Value → px_S → Prop} {σ : px_S} {x1 : Int32} (h : Wp d tb_151 2 [.ref 9, .int x1, .int x1] [] σ Q) : Wp d tb_151 0 [.ref 9, .int x1, .null] [] σ Q := by
  refine Wp.adv (pc' := 2) (ls' := [.ref 9, .int x1, .int x1]) (st' := []) (σ' := σ) 2 rfl ?_
  exact h
theorem b151_2 {d : Nat} {Q : Option Value → px_S → Prop} {σ : px_S} {x1 x2 : Int32} (c1 : vp_in x2 40) (ht : (σ.1 49 (x2).toNatClampNeg) < 0 → Wp d tb_151 21 [.ref 9, .int x1, .int x2] [] σ Q) (hf : ¬ ((σ.1 49 (x2).toNatClampNeg) < 0) → Wp d tb_151 11 [.ref 9, .int x1, .int x2] [] σ Q) : Wp d tb_151 2 [.ref 9, .int x1, .int x2] [] σ Q := by
  refine Wp.adv (pc' := 7) (ls' := [.ref 9, .int x1, .int x2]) (st' := [.int x2, .ref 49]) (σ' := σ) 3 rfl ?_
  refine Wp.iald (N := 40) rfl rfl c1 ?_
  exact Wp.if_ rfl ht hf
theorem b151_11 {d : Nat} {Q : Option Value → px_S → Prop} {σ : px_S} {x1 x2 : Int32} (c1 : vp_in x2 40) (h : Wp d tb_151 2 [.ref 9, .int x1, .int (σ.1 49 (x2).toNatClampNeg)] [] σ Q) : Wp d tb_151 11 [.ref 9, .int x1, .int x2] [] σ Q := by
  refine Wp.adv (pc' := 16) (ls' := [.ref 9, .int x1, .int x2]) (st' := [.int x2, .ref 49]) (σ' := σ) 3 rfl ?_
  refine Wp.iald (N := 40) rfl rfl c1 ?_
  refine Wp.adv (pc' := 2) (ls' := [.ref 9, .int x1, .int (σ.1 49 (x2).toNatClampNeg)]) (st' := []) (σ' := σ) 2 rfl ?_
  exact h
theorem b151_21 {d : Nat} {Q : Option Value → px_S → Prop} {σ : px_S} {x1 x2 : Int32} (h : Q (some (.int x2)) σ) : Wp d tb_151 21 [.ref 9, .int x1, .int x2] [] σ Q := by
  refine Wp.adv (pc' := 22) (ls' := [.ref 9, .int x1, .int x2]) (st' := [.int x2]) (σ' := σ) 1 rfl ?_
  exact Wp.ret rfl rfl h
theorem e151 {d : Nat} {Q : Option Value → px_S → Prop} {σ : px_S} {x1 : Int32} (h : Wp d tb_151 0 [.ref 9, .int x1, .null] [] σ Q) : Cw (d + 1) 151 [.ref 9, .int x1] σ Q := Cw.of (nL := 3) (y := yX9_rootOf) (cc := cX9_rootOf) (rt := some .int) rfl (Nat.le_of_ble_eq_true rfl) h
theorem b152_0 {d : Nat} {Q : Option Value → px_S → Prop} {σ : px_S} {x1 : Int32} (h : Wp d tb_152 4 [.ref 9, .int x1, .int (0 : Int32), .int x1] [] σ Q) : Wp d tb_152 0 [.ref 9, .int x1, .null, .null] [] σ Q := by
  refine Wp.adv (pc' := 4) (ls' := [.ref 9, .int x1, .int (0 : Int32), .int x1]) (st' := []) (σ' := σ) 4 rfl ?_
  exact h
theorem b152_4 {d : Nat} {Q : Option Value → px_S → Prop} {σ : px_S} {x1 x2 x3 : Int32} (c1 : vp_in x3 40) (ht : (σ.1 49 (x3).toNatClampNeg) < 0 → Wp d tb_152 26 [.ref 9, .int x1, .int x2, .int x3] [] σ Q) (hf : ¬ ((σ.1 49 (x3).toNatClampNeg) < 0) → Wp d tb_152 13 [.ref 9, .int x1, .int x2, .int x3] [] σ Q) : Wp d tb_152 4 [.ref 9, .int x1, .int x2, .int x3] [] σ Q := by
  refine Wp.adv (pc' := 9) (ls' := [.ref 9, .int x1, .int x2, .int x3]) (st' := [.int x3, .ref 49]) (σ' := σ) 3 rfl ?_
  refine Wp.iald (N := 40) rfl rfl c1 ?_
  exact Wp.if_ rfl ht hf
theorem b152_13 {d : Nat} {Q : Option Value → px_S → Prop} {σ : px_S} {x1 x2 x3 : Int32} (c1 : vp_in x3 40) (h : Wp d tb_152 4 [.ref 9, .int x1, .int (x2 + 1), .int (σ.1 49 (x3).toNatClampNeg)] [] σ Q) : Wp d tb_152 13 [.ref 9, .int x1, .int x2, .int x3] [] σ Q := by
  refine Wp.adv (pc' := 21) (ls' := [.ref 9, .int x1, .int (x2 + 1), .int x3]) (st' := [.int x3, .ref 49]) (σ' := σ) 4 rfl ?_
  refine Wp.iald (N := 40) rfl rfl c1 ?_
  refine Wp.adv (pc' := 4) (ls' := [.ref 9, .int x1, .int (x2 + 1), .int (σ.1 49 (x3).toNatClampNeg)]) (st' := []) (σ' := σ) 2 rfl ?_
  exact h
theorem b152_26 {d : Nat} {Q : Option Value → px_S → Prop} {σ : px_S} {x1 x2 x3 : Int32} (h : Q (some (.int x2)) σ) : Wp d tb_152 26 [.ref 9, .int x1, .int x2, .int x3] [] σ Q := by
  refine Wp.adv (pc' := 27) (ls' := [.ref 9, .int x1, .int x2, .int x3]) (st' := [.int x2]) (σ' := σ) 1 rfl ?_
  exact Wp.ret rfl rfl h
theorem e152 {d : Nat} {Q : Option Value → px_S → Prop} {σ : px_S} {x1 : Int32} (h : Wp d tb_152 0 [.ref 9, .int x1, .null, .null] [] σ Q) : Cw (d + 1) 152 [.ref 9, .int x1] σ Q := Cw.of (nL := 4) (y := yX9_stepsOf) (cc := cX9_stepsOf) (rt := some .int) rfl (Nat.le_of_ble_eq_true rfl) h
