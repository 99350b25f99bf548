/-! ===== basic blocks, 7 ===== -/
theorem b186_122 {d : Nat} {Q : Option Value → px_S → Prop} {σ : px_S} {x1 x2 x3 : Int32} (h : Wp d tb_186 125 [.ref 9, .int (x1 + 1), .int x2, .int x3] [] σ Q) : Wp d tb_186 122 [.ref 9, .int x1, .int x2, .int x3] [] σ Q := by
  refine Wp.adv (pc' := 125) (ls' := [.ref 9, .int (x1 + 1), .int x2, .int x3]) (st' := []) (σ' := σ) 1 rfl ?_
  exact h
theorem b186_125 {d : Nat} {Q : Option Value → px_S → Prop} {σ : px_S} {x1 x2 x3 : Int32} (h : Wp d tb_186 42 [.ref 9, .int x1, .int x2, .int x3] [] σ Q) : Wp d tb_186 125 [.ref 9, .int x1, .int x2, .int x3] [] σ Q := by
  refine Wp.adv (pc' := 42) (ls' := [.ref 9, .int x1, .int x2, .int x3]) (st' := []) (σ' := σ) 1 rfl ?_
  exact h
theorem b186_128 {d : Nat} {Q : Option Value → px_S → Prop} {σ : px_S} {x1 x2 : Int32} {v3 : Value} (h : Wp d tb_186 133 [.ref 9, .int x1, .int x2, v3] [] (px_uI σ 9 29 (0 : Int32)) Q) : Wp d tb_186 128 [.ref 9, .int x1, .int x2, v3] [] σ Q := by
  refine Wp.adv (pc' := 130) (ls' := [.ref 9, .int x1, .int x2, v3]) (st' := [.int (0 : Int32), .ref 9]) (σ' := σ) 2 rfl ?_
  refine Wp.step (q := (133, [.ref 9, .int x1, .int x2, v3], [], (px_uI σ 9 29 (0 : Int32)))) rfl rfl ?_
  exact h
theorem b186_133 {d : Nat} {Q : Option Value → px_S → Prop} {σ : px_S} {x1 x2 : Int32} {v3 : Value} (ht : (σ.1 9 31) ≤ 0 → Wp d tb_186 148 [.ref 9, .int x1, .int x2, v3] [] σ Q) (hf : ¬ ((σ.1 9 31) ≤ 0) → Wp d tb_186 140 [.ref 9, .int x1, .int x2, v3] [] σ Q) : Wp d tb_186 133 [.ref 9, .int x1, .int x2, v3] [] σ Q := by
  refine Wp.adv (pc' := 137) (ls' := [.ref 9, .int x1, .int x2, v3]) (st' := [.int (σ.1 9 31)]) (σ' := σ) 2 rfl ?_
  exact Wp.if_ rfl ht hf
theorem b186_140 {d : Nat} {Q : Option Value → px_S → Prop} {σ : px_S} {x1 x2 : Int32} {v3 : Value} (h : Q (some (.int ((-10 : Int32) - (σ.1 9 31)))) σ) : Wp d tb_186 140 [.ref 9, .int x1, .int x2, v3] [] σ Q := by
  refine Wp.adv (pc' := 147) (ls' := [.ref 9, .int x1, .int x2, v3]) (st' := [.int ((-10 : Int32) - (σ.1 9 31))]) (σ' := σ) 4 rfl ?_
  exact Wp.ret rfl rfl h
theorem b186_148 {d : Nat} {Q : Option Value → px_S → Prop} {σ : px_S} {x1 x2 : Int32} {v3 : Value} (h : Wp d tb_186 150 [.ref 9, .int x1, .int x2, .int (0 : Int32)] [] σ Q) : Wp d tb_186 148 [.ref 9, .int x1, .int x2, v3] [] σ Q := by
  refine Wp.adv (pc' := 150) (ls' := [.ref 9, .int x1, .int x2, .int (0 : Int32)]) (st' := []) (σ' := σ) 2 rfl ?_
  exact h
theorem b186_150 {d : Nat} {Q : Option Value → px_S → Prop} {σ : px_S} {x1 x2 x3 : Int32} (ht : (5 : Int32) ≤ x3 → Wp d tb_186 173 [.ref 9, .int x1, .int x2, .int x3] [] σ Q) (hf : ¬ ((5 : Int32) ≤ x3) → Wp d tb_186 155 [.ref 9, .int x1, .int x2, .int x3] [] σ Q) : Wp d tb_186 150 [.ref 9, .int x1, .int x2, .int x3] [] σ Q := by
  refine Wp.adv (pc' := 152) (ls' := [.ref 9, .int x1, .int x2, .int x3]) (st' := [.int (5 : Int32), .int x3]) (σ' := σ) 2 rfl ?_
  exact Wp.icmp rfl ht hf
theorem b186_155 {d : Nat} {Q : Option Value → px_S → Prop} {σ : px_S} {x1 x2 x3 : Int32} (c1 : vp_in x3 5) (c2 : vp_in x3 5) (h : Wp d tb_186 167 [.ref 9, .int x1, .int x2, .int x3] [] (px_uI σ 37 (x3).toNatClampNeg (σ.1 58 (x3).toNatClampNeg)) Q) : Wp d tb_186 155 [.ref 9, .int x1, .int x2, .int x3] [] σ Q := by
  refine Wp.adv (pc' := 165) (ls' := [.ref 9, .int x1, .int x2, .int x3]) (st' := [.int x3, .ref 58, .int x3, .ref 37]) (σ' := σ) 6 rfl ?_
  refine Wp.iald (N := 5) rfl rfl c1 ?_
  refine Wp.iast (N := 5) rfl rfl c2 ?_
  exact h
theorem b186_167 {d : Nat} {Q : Option Value → px_S → Prop} {σ : px_S} {x1 x2 x3 : Int32} (h : Wp d tb_186 150 [.ref 9, .int x1, .int x2, .int (x3 + 1)] [] σ Q) : Wp d tb_186 167 [.ref 9, .int x1, .int x2, .int x3] [] σ Q := by
  refine Wp.adv (pc' := 150) (ls' := [.ref 9, .int x1, .int x2, .int (x3 + 1)]) (st' := []) (σ' := σ) 2 rfl ?_
  exact h
theorem b186_173 {d : Nat} {Q : Option Value → px_S → Prop} {σ : px_S} {x1 x2 x3 : Int32} (h : Q (some (.int x1)) σ) : Wp d tb_186 173 [.ref 9, .int x1, .int x2, .int x3] [] σ Q := by
  refine Wp.adv (pc' := 174) (ls' := [.ref 9, .int x1, .int x2, .int x3]) (st' := [.int x1]) (σ' := σ) 1 rfl ?_
  exact Wp.ret rfl rfl h
theorem e186 {d : Nat} {Q : Option Value → px_S → Prop} {σ : px_S}  (h : Wp d tb_186 0 [.ref 9, .null, .null, .null] [] σ Q) : Cw (d + 1) 186 [.ref 9] σ Q := Cw.of (nL := 4) (y := yX9_read) (cc := cX9_read) (rt := some .int) rfl (Nat.le_of_ble_eq_true rfl) h
theorem b187_0 {d : Nat} {Q : Option Value → px_S → Prop} {σ : px_S}  (ht : (σ.1 9 29) ≤ (σ.1 9 30) → Wp d tb_187 38 [.ref 9] [] σ Q) (hf : ¬ ((σ.1 9 29) ≤ (σ.1 9 30)) → Wp d tb_187 11 [.ref 9] [] σ Q) : Wp d tb_187 0 [.ref 9] [] σ Q := by
  refine Wp.adv (pc' := 8) (ls' := [.ref 9]) (st' := [.int (σ.1 9 29), .int (σ.1 9 30)]) (σ' := σ) 4 rfl ?_
  exact Wp.icmp rfl ht hf
theorem b187_11 {d : Nat} {Q : Option Value → px_S → Prop} {σ : px_S}  (c1 : vp_in (σ.1 9 30) 120) (ht : ¬ (σ.1 57 ((σ.1 9 30)).toNatClampNeg) = (32 : Int32) → Wp d tb_187 38 [.ref 9] [] σ Q) (hf : ¬ (¬ (σ.1 57 ((σ.1 9 30)).toNatClampNeg) = (32 : Int32)) → Wp d tb_187 25 [.ref 9] [] σ Q) : Wp d tb_187 11 [.ref 9] [] σ Q := by
  refine Wp.adv (pc' := 19) (ls' := [.ref 9]) (st' := [.int (σ.1 9 30), .ref 57]) (σ' := σ) 4 rfl ?_
  refine Wp.iald (N := 120) rfl rfl c1 ?_
  refine Wp.adv (pc' := 22) (ls' := [.ref 9]) (st' := [.int (32 : Int32), .int (σ.1 57 ((σ.1 9 30)).toNatClampNeg)]) (σ' := σ) 1 rfl ?_
  exact Wp.icmp rfl ht hf
theorem b187_25 {d : Nat} {Q : Option Value → px_S → Prop} {σ : px_S}  (h : Wp d tb_187 35 [.ref 9] [] (px_uI σ 9 30 ((σ.1 9 30) + (1 : Int32))) Q) : Wp d tb_187 25 [.ref 9] [] σ Q := by
  refine Wp.adv (pc' := 32) (ls' := [.ref 9]) (st' := [.int ((σ.1 9 30) + (1 : Int32)), .ref 9]) (σ' := σ) 5 rfl ?_
  refine Wp.step (q := (35, [.ref 9], [], (px_uI σ 9 30 ((σ.1 9 30) + (1 : Int32))))) rfl rfl ?_
  exact h
theorem b187_35 {d : Nat} {Q : Option Value → px_S → Prop} {σ : px_S}  (h : Wp d tb_187 0 [.ref 9] [] σ Q) : Wp d tb_187 35 [.ref 9] [] σ Q := by
  refine Wp.adv (pc' := 0) (ls' := [.ref 9]) (st' := []) (σ' := σ) 1 rfl ?_
  exact h
theorem b187_38 {d : Nat} {Q : Option Value → px_S → Prop} {σ : px_S}  (ht : (σ.1 9 29) ≤ (σ.1 9 30) → Wp d tb_187 61 [.ref 9] [] σ Q) (hf : ¬ ((σ.1 9 29) ≤ (σ.1 9 30)) → Wp d tb_187 49 [.ref 9] [] σ Q) : Wp d tb_187 38 [.ref 9] [] σ Q := by
  refine Wp.adv (pc' := 46) (ls' := [.ref 9]) (st' := [.int (σ.1 9 29), .int (σ.1 9 30)]) (σ' := σ) 4 rfl ?_
  exact Wp.icmp rfl ht hf
theorem b187_49 {d : Nat} {Q : Option Value → px_S → Prop} {σ : px_S}  (c1 : vp_in (σ.1 9 30) 120) (h : Wp d tb_187 62 [.ref 9] [.int (σ.1 57 ((σ.1 9 30)).toNatClampNeg)] σ Q) : Wp d tb_187 49 [.ref 9] [] σ Q := by
  refine Wp.adv (pc' := 57) (ls' := [.ref 9]) (st' := [.int (σ.1 9 30), .ref 57]) (σ' := σ) 4 rfl ?_
  refine Wp.iald (N := 120) rfl rfl c1 ?_
  refine Wp.adv (pc' := 62) (ls' := [.ref 9]) (st' := [.int (σ.1 57 ((σ.1 9 30)).toNatClampNeg)]) (σ' := σ) 1 rfl ?_
  exact h
theorem b187_61 {d : Nat} {Q : Option Value → px_S → Prop} {σ : px_S}  (h : Wp d tb_187 62 [.ref 9] [.int (-1 : Int32)] σ Q) : Wp d tb_187 61 [.ref 9] [] σ Q := by
  refine Wp.adv (pc' := 62) (ls' := [.ref 9]) (st' := [.int (-1 : Int32)]) (σ' := σ) 1 rfl ?_
  exact h
theorem b187_62 {d : Nat} {Q : Option Value → px_S → Prop} {σ : px_S} {s0 : Int32} (h : Q (some (.int s0)) σ) : Wp d tb_187 62 [.ref 9] [.int s0] σ Q := by
  exact Wp.ret rfl rfl h
theorem e187 {d : Nat} {Q : Option Value → px_S → Prop} {σ : px_S}  (h : Wp d tb_187 0 [.ref 9] [] σ Q) : Cw (d + 1) 187 [.ref 9] σ Q := Cw.of (nL := 1) (y := yX9_look) (cc := cX9_look) (rt := some .int) rfl (Nat.le_of_ble_eq_true rfl) h
theorem b188_0 {d : Nat} {Q : Option Value → px_S → Prop} {σ : px_S}  (h : Cw d 187 [.ref 9] σ (fun r τ => Wp d tb_188 4 [.ref 9, .null] (r.toList ++ []) τ Q)) : Wp d tb_188 0 [.ref 9, .null] [] σ Q := by
  refine Wp.adv (pc' := 1) (ls' := [.ref 9, .null]) (st' := [.ref 9]) (σ' := σ) 1 rfl ?_
  exact Wp.call (q := (187, 1, 9, 4)) rfl (Nat.le_of_ble_eq_true rfl) rfl h
theorem b188_4 {d : Nat} {Q : Option Value → px_S → Prop} {σ : px_S} {s0 : Int32} (h : Wp d tb_188 13 [.ref 9, .int s0] [] (px_uI σ 9 33 (σ.1 9 30)) Q) : Wp d tb_188 4 [.ref 9, .null] [.int s0] σ Q := by
  refine Wp.adv (pc' := 10) (ls' := [.ref 9, .int s0]) (st' := [.int (σ.1 9 30), .ref 9]) (σ' := σ) 4 rfl ?_
  refine Wp.step (q := (13, [.ref 9, .int s0], [], (px_uI σ 9 33 (σ.1 9 30)))) rfl rfl ?_
  exact h
theorem b188_13 {d : Nat} {Q : Option Value → px_S → Prop} {σ : px_S} {x1 : Int32} (ht : (σ.1 9 29) ≤ (σ.1 9 30) → Wp d tb_188 59 [.ref 9, .int x1] [] σ Q) (hf : ¬ ((σ.1 9 29) ≤ (σ.1 9 30)) → Wp d tb_188 24 [.ref 9, .int x1] [] σ Q) : Wp d tb_188 13 [.ref 9, .int x1] [] σ Q := by
  refine Wp.adv (pc' := 21) (ls' := [.ref 9, .int x1]) (st' := [.int (σ.1 9 29), .int (σ.1 9 30)]) (σ' := σ) 4 rfl ?_
  exact Wp.icmp rfl ht hf
theorem b188_24 {d : Nat} {Q : Option Value → px_S → Prop} {σ : px_S} {x1 : Int32} (c1 : vp_in (σ.1 9 30) 120) (h : Cw d 130 [.long ((σ.1 57 ((σ.1 9 30)).toNatClampNeg)).toInt64, .long (97 : Int64), .long (122 : Int64)] σ (fun r τ => Wp d tb_188 43 [.ref 9, .int x1] (r.toList ++ []) τ Q)) : Wp d tb_188 24 [.ref 9, .int x1] [] σ Q := by
  refine Wp.adv (pc' := 32) (ls' := [.ref 9, .int x1]) (st' := [.int (σ.1 9 30), .ref 57]) (σ' := σ) 4 rfl ?_
  refine Wp.iald (N := 120) rfl rfl c1 ?_
  refine Wp.adv (pc' := 40) (ls' := [.ref 9, .int x1]) (st' := [.long (122 : Int64), .long (97 : Int64), .long ((σ.1 57 ((σ.1 9 30)).toNatClampNeg)).toInt64]) (σ' := σ) 3 rfl ?_
  exact Wp.call (q := (130, 3, 0, 43)) rfl (Nat.le_of_ble_eq_true rfl) rfl h
theorem b188_43 {d : Nat} {Q : Option Value → px_S → Prop} {σ : px_S} {x1 s0 : Int32} (ht : s0 = 0 → Wp d tb_188 59 [.ref 9, .int x1] [] σ Q) (hf : ¬ (s0 = 0) → Wp d tb_188 46 [.ref 9, .int x1] [] σ Q) : Wp d tb_188 43 [.ref 9, .int x1] [.int s0] σ Q := by
  exact Wp.if_ rfl ht hf
theorem b188_46 {d : Nat} {Q : Option Value → px_S → Prop} {σ : px_S} {x1 : Int32} (h : Wp d tb_188 56 [.ref 9, .int x1] [] (px_uI σ 9 30 ((σ.1 9 30) + (1 : Int32))) Q) : Wp d tb_188 46 [.ref 9, .int x1] [] σ Q := by
  refine Wp.adv (pc' := 53) (ls' := [.ref 9, .int x1]) (st' := [.int ((σ.1 9 30) + (1 : Int32)), .ref 9]) (σ' := σ) 5 rfl ?_
  refine Wp.step (q := (56, [.ref 9, .int x1], [], (px_uI σ 9 30 ((σ.1 9 30) + (1 : Int32))))) rfl rfl ?_
  exact h
theorem b188_56 {d : Nat} {Q : Option Value → px_S → Prop} {σ : px_S} {x1 : Int32} (h : Wp d tb_188 13 [.ref 9, .int x1] [] σ Q) : Wp d tb_188 56 [.ref 9, .int x1] [] σ Q := by
  refine Wp.adv (pc' := 13) (ls' := [.ref 9, .int x1]) (st' := []) (σ' := σ) 1 rfl ?_
  exact h
theorem b188_59 {d : Nat} {Q : Option Value → px_S → Prop} {σ : px_S} {x1 : Int32} (h : Wp d tb_188 72 [.ref 9, .int x1] [] (px_uI σ 9 34 ((σ.1 9 30) - (σ.1 9 33))) Q) : Wp d tb_188 59 [.ref 9, .int x1] [] σ Q := by
  refine Wp.adv (pc' := 69) (ls' := [.ref 9, .int x1]) (st' := [.int ((σ.1 9 30) - (σ.1 9 33)), .ref 9]) (σ' := σ) 6 rfl ?_
  refine Wp.step (q := (72, [.ref 9, .int x1], [], (px_uI σ 9 34 ((σ.1 9 30) - (σ.1 9 33))))) rfl rfl ?_
  exact h
theorem b188_72 {d : Nat} {Q : Option Value → px_S → Prop} {σ : px_S} {x1 : Int32} (h : Q none σ) : Wp d tb_188 72 [.ref 9, .int x1] [] σ Q := by
  exact Wp.ret rfl rfl h
theorem e188 {d : Nat} {Q : Option Value → px_S → Prop} {σ : px_S}  (h : Wp d tb_188 0 [.ref 9, .null] [] σ Q) : Cw (d + 1) 188 [.ref 9] σ Q := Cw.of (nL := 2) (y := yX9_takeWord) (cc := cX9_takeWord) (rt := none) rfl (Nat.le_of_ble_eq_true rfl) h
theorem b189_0 {d : Nat} {Q : Option Value → px_S → Prop} {σ : px_S}  (h : Cw d 190 [.ref 9, .int (4 : Int32), .int (110 : Int32), .int (101 : Int32), .int (97 : Int32), .int (114 : Int32), .int (0 : Int32)] σ (fun r τ => Wp d tb_189 14 [.ref 9] (r.toList ++ []) τ Q)) : Wp d tb_189 0 [.ref 9] [] σ Q := by
  refine Wp.adv (pc' := 11) (ls' := [.ref 9]) (st' := [.int (0 : Int32), .int (114 : Int32), .int (97 : Int32), .int (101 : Int32), .int (110 : Int32), .int (4 : Int32), .ref 9]) (σ' := σ) 7 rfl ?_
  exact Wp.call (q := (190, 7, 9, 14)) rfl (Nat.le_of_ble_eq_true rfl) rfl h
theorem b189_14 {d : Nat} {Q : Option Value → px_S → Prop} {σ : px_S} {s0 : Int32} (ht : s0 = 0 → Wp d tb_189 19 [.ref 9] [] σ Q) (hf : ¬ (s0 = 0) → Wp d tb_189 17 [.ref 9] [] σ Q) : Wp d tb_189 14 [.ref 9] [.int s0] σ Q := by
  exact Wp.if_ rfl ht hf
theorem b189_17 {d : Nat} {Q : Option Value → px_S → Prop} {σ : px_S}  (h : Q (some (.int (0 : Int32))) σ) : Wp d tb_189 17 [.ref 9] [] σ Q := by
  refine Wp.adv (pc' := 18) (ls' := [.ref 9]) (st' := [.int (0 : Int32)]) (σ' := σ) 1 rfl ?_
  exact Wp.ret rfl rfl h
theorem b189_19 {d : Nat} {Q : Option Value → px_S → Prop} {σ : px_S}  (h : Cw d 190 [.ref 9, .int (3 : Int32), .int (102 : Int32), .int (105 : Int32), .int (116 : Int32), .int (0 : Int32), .int (0 : Int32)] σ (fun r τ => Wp d tb_189 32 [.ref 9] (r.toList ++ []) τ Q)) : Wp d tb_189 19 [.ref 9] [] σ Q := by
  refine Wp.adv (pc' := 29) (ls' := [.ref 9]) (st' := [.int (0 : Int32), .int (0 : Int32), .int (116 : Int32), .int (105 : Int32), .int (102 : Int32), .int (3 : Int32), .ref 9]) (σ' := σ) 7 rfl ?_
  exact Wp.call (q := (190, 7, 9, 32)) rfl (Nat.le_of_ble_eq_true rfl) rfl h
theorem b189_32 {d : Nat} {Q : Option Value → px_S → Prop} {σ : px_S} {s0 : Int32} (ht : s0 = 0 → Wp d tb_189 37 [.ref 9] [] σ Q) (hf : ¬ (s0 = 0) → Wp d tb_189 35 [.ref 9] [] σ Q) : Wp d tb_189 32 [.ref 9] [.int s0] σ Q := by
  exact Wp.if_ rfl ht hf
theorem b189_35 {d : Nat} {Q : Option Value → px_S → Prop} {σ : px_S}  (h : Q (some (.int (1 : Int32))) σ) : Wp d tb_189 35 [.ref 9] [] σ Q := by
  refine Wp.adv (pc' := 36) (ls' := [.ref 9]) (st' := [.int (1 : Int32)]) (σ' := σ) 1 rfl ?_
  exact Wp.ret rfl rfl h
theorem b189_37 {d : Nat} {Q : Option Value → px_S → Prop} {σ : px_S}  (h : Cw d 190 [.ref 9, .int (5 : Int32), .int (116 : Int32), .int (114 : Int32), .int (117 : Int32), .int (115 : Int32), .int (116 : Int32)] σ (fun r τ => Wp d tb_189 52 [.ref 9] (r.toList ++ []) τ Q)) : Wp d tb_189 37 [.ref 9] [] σ Q := by
  refine Wp.adv (pc' := 49) (ls' := [.ref 9]) (st' := [.int (116 : Int32), .int (115 : Int32), .int (117 : Int32), .int (114 : Int32), .int (116 : Int32), .int (5 : Int32), .ref 9]) (σ' := σ) 7 rfl ?_
  exact Wp.call (q := (190, 7, 9, 52)) rfl (Nat.le_of_ble_eq_true rfl) rfl h
theorem b189_52 {d : Nat} {Q : Option Value → px_S → Prop} {σ : px_S} {s0 : Int32} (ht : s0 = 0 → Wp d tb_189 57 [.ref 9] [] σ Q) (hf : ¬ (s0 = 0) → Wp d tb_189 55 [.ref 9] [] σ Q) : Wp d tb_189 52 [.ref 9] [.int s0] σ Q := by
  exact Wp.if_ rfl ht hf
theorem b189_55 {d : Nat} {Q : Option Value → px_S → Prop} {σ : px_S}  (h : Q (some (.int (2 : Int32))) σ) : Wp d tb_189 55 [.ref 9] [] σ Q := by
  refine Wp.adv (pc' := 56) (ls' := [.ref 9]) (st' := [.int (2 : Int32)]) (σ' := σ) 1 rfl ?_
  exact Wp.ret rfl rfl h
theorem b189_57 {d : Nat} {Q : Option Value → px_S → Prop} {σ : px_S}  (h : Cw d 190 [.ref 9, .int (4 : Int32), .int (107 : Int32), .int (101 : Int32), .int (101 : Int32), .int (112 : Int32), .int (0 : Int32)] σ (fun r τ => Wp d tb_189 71 [.ref 9] (r.toList ++ []) τ Q)) : Wp d tb_189 57 [.ref 9] [] σ Q := by
  refine Wp.adv (pc' := 68) (ls' := [.ref 9]) (st' := [.int (0 : Int32), .int (112 : Int32), .int (101 : Int32), .int (101 : Int32), .int (107 : Int32), .int (4 : Int32), .ref 9]) (σ' := σ) 7 rfl ?_
  exact Wp.call (q := (190, 7, 9, 71)) rfl (Nat.le_of_ble_eq_true rfl) rfl h
theorem b189_71 {d : Nat} {Q : Option Value → px_S → Prop} {σ : px_S} {s0 : Int32} (ht : s0 = 0 → Wp d tb_189 76 [.ref 9] [] σ Q) (hf : ¬ (s0 = 0) → Wp d tb_189 74 [.ref 9] [] σ Q) : Wp d tb_189 71 [.ref 9] [.int s0] σ Q := by
  exact Wp.if_ rfl ht hf
theorem b189_74 {d : Nat} {Q : Option Value → px_S → Prop} {σ : px_S}  (h : Q (some (.int (3 : Int32))) σ) : Wp d tb_189 74 [.ref 9] [] σ Q := by
  refine Wp.adv (pc' := 75) (ls' := [.ref 9]) (st' := [.int (3 : Int32)]) (σ' := σ) 1 rfl ?_
  exact Wp.ret rfl rfl h
theorem b189_76 {d : Nat} {Q : Option Value → px_S → Prop} {σ : px_S}  (h : Cw d 190 [.ref 9, .int (4 : Int32), .int (100 : Int32), .int (101 : Int32), .int (101 : Int32), .int (112 : Int32), .int (0 : Int32)] σ (fun r τ => Wp d tb_189 90 [.ref 9] (r.toList ++ []) τ Q)) : Wp d tb_189 76 [.ref 9] [] σ Q := by
  refine Wp.adv (pc' := 87) (ls' := [.ref 9]) (st' := [.int (0 : Int32), .int (112 : Int32), .int (101 : Int32), .int (101 : Int32), .int (100 : Int32), .int (4 : Int32), .ref 9]) (σ' := σ) 7 rfl ?_
  exact Wp.call (q := (190, 7, 9, 90)) rfl (Nat.le_of_ble_eq_true rfl) rfl h
theorem b189_90 {d : Nat} {Q : Option Value → px_S → Prop} {σ : px_S} {s0 : Int32} (ht : s0 = 0 → Wp d tb_189 97 [.ref 9] [] σ Q) (hf : ¬ (s0 = 0) → Wp d tb_189 93 [.ref 9] [] σ Q) : Wp d tb_189 90 [.ref 9] [.int s0] σ Q := by
  exact Wp.if_ rfl ht hf
theorem b189_93 {d : Nat} {Q : Option Value → px_S → Prop} {σ : px_S}  (h : Wp d tb_189 98 [.ref 9] [.int (4 : Int32)] σ Q) : Wp d tb_189 93 [.ref 9] [] σ Q := by
  refine Wp.adv (pc' := 98) (ls' := [.ref 9]) (st' := [.int (4 : Int32)]) (σ' := σ) 2 rfl ?_
  exact h
theorem b189_97 {d : Nat} {Q : Option Value → px_S → Prop} {σ : px_S}  (h : Wp d tb_189 98 [.ref 9] [.int (-1 : Int32)] σ Q) : Wp d tb_189 97 [.ref 9] [] σ Q := by
  refine Wp.adv (pc' := 98) (ls' := [.ref 9]) (st' := [.int (-1 : Int32)]) (σ' := σ) 1 rfl ?_
  exact h
theorem b189_98 {d : Nat} {Q : Option Value → px_S → Prop} {σ : px_S} {s0 : Int32} (h : Q (some (.int s0)) σ) : Wp d tb_189 98 [.ref 9] [.int s0] σ Q := by
  exact Wp.ret rfl rfl h
theorem e189 {d : Nat} {Q : Option Value → px_S → Prop} {σ : px_S}  (h : Wp d tb_189 0 [.ref 9] [] σ Q) : Cw (d + 1) 189 [.ref 9] σ Q := Cw.of (nL := 1) (y := yX9_kindOf) (cc := cX9_kindOf) (rt := some .int) rfl (Nat.le_of_ble_eq_true rfl) h
theorem b190_0 {d : Nat} {Q : Option Value → px_S → Prop} {σ : px_S} {x1 x2 x3 x4 x5 x6 : Int32} (ht : ¬ (σ.1 9 34) = x1 → Wp d tb_190 12 [.ref 9, .int x1, .int x2, .int x3, .int x4, .int x5, .int x6, .null, .null] [] σ Q) (hf : ¬ (¬ (σ.1 9 34) = x1) → Wp d tb_190 8 [.ref 9, .int x1, .int x2, .int x3, .int x4, .int x5, .int x6, .null, .null] [] σ Q) : Wp d tb_190 0 [.ref 9, .int x1, .int x2, .int x3, .int x4, .int x5, .int x6, .null, .null] [] σ Q := by
  refine Wp.adv (pc' := 5) (ls' := [.ref 9, .int x1, .int x2, .int x3, .int x4, .int x5, .int x6, .null, .null]) (st' := [.int x1, .int (σ.1 9 34)]) (σ' := σ) 3 rfl ?_
  exact Wp.icmp rfl ht hf
theorem b190_8 {d : Nat} {Q : Option Value → px_S → Prop} {σ : px_S} {x1 x2 x3 x4 x5 x6 : Int32} (h : Wp d tb_190 13 [.ref 9, .int x1, .int x2, .int x3, .int x4, .int x5, .int x6, .null, .null] [.int (1 : Int32)] σ Q) : Wp d tb_190 8 [.ref 9, .int x1, .int x2, .int x3, .int x4, .int x5, .int x6, .null, .null] [] σ Q := by
  refine Wp.adv (pc' := 13) (ls' := [.ref 9, .int x1, .int x2, .int x3, .int x4, .int x5, .int x6, .null, .null]) (st' := [.int (1 : Int32)]) (σ' := σ) 2 rfl ?_
  exact h
theorem b190_12 {d : Nat} {Q : Option Value → px_S → Prop} {σ : px_S} {x1 x2 x3 x4 x5 x6 : Int32} (h : Wp d tb_190 13 [.ref 9, .int x1, .int x2, .int x3, .int x4, .int x5, .int x6, .null, .null] [.int (0 : Int32)] σ Q) : Wp d tb_190 12 [.ref 9, .int x1, .int x2, .int x3, .int x4, .int x5, .int x6, .null, .null] [] σ Q := by
  refine Wp.adv (pc' := 13) (ls' := [.ref 9, .int x1, .int x2, .int x3, .int x4, .int x5, .int x6, .null, .null]) (st' := [.int (0 : Int32)]) (σ' := σ) 1 rfl ?_
  exact h
theorem b190_13 {d : Nat} {Q : Option Value → px_S → Prop} {σ : px_S} {x1 x2 x3 x4 x5 x6 s0 : Int32} (h : Wp d tb_190 18 [.ref 9, .int x1, .int x2, .int x3, .int x4, .int x5, .int x6, .int s0, .int (0 : Int32)] [] σ Q) : Wp d tb_190 13 [.ref 9, .int x1, .int x2, .int x3, .int x4, .int x5, .int x6, .null, .null] [.int s0] σ Q := by
  refine Wp.adv (pc' := 18) (ls' := [.ref 9, .int x1, .int x2, .int x3, .int x4, .int x5, .int x6, .int s0, .int (0 : Int32)]) (st' := []) (σ' := σ) 3 rfl ?_
  exact h
theorem b190_18 {d : Nat} {Q : Option Value → px_S → Prop} {σ : px_S} {x1 x2 x3 x4 x5 x6 x7 x8 : Int32} (ht : x1 ≤ x8 → Wp d tb_190 100 [.ref 9, .int x1, .int x2, .int x3, .int x4, .int x5, .int x6, .int x7, .int x8] [] σ Q) (hf : ¬ (x1 ≤ x8) → Wp d tb_190 24 [.ref 9, .int x1, .int x2, .int x3, .int x4, .int x5, .int x6, .int x7, .int x8] [] σ Q) : Wp d tb_190 18 [.ref 9, .int x1, .int x2, .int x3, .int x4, .int x5, .int x6, .int x7, .int x8] [] σ Q := by
  refine Wp.adv (pc' := 21) (ls' := [.ref 9, .int x1, .int x2, .int x3, .int x4, .int x5, .int x6, .int x7, .int x8]) (st' := [.int x1, .int x8]) (σ' := σ) 2 rfl ?_
  exact Wp.icmp rfl ht hf
theorem b190_24 {d : Nat} {Q : Option Value → px_S → Prop} {σ : px_S} {x1 x2 x3 x4 x5 x6 x7 x8 : Int32} (ht : x7 = 0 → Wp d tb_190 100 [.ref 9, .int x1, .int x2, .int x3, .int x4, .int x5, .int x6, .int x7, .int x8] [] σ Q) (hf : ¬ (x7 = 0) → Wp d tb_190 29 [.ref 9, .int x1, .int x2, .int x3, .int x4, .int x5, .int x6, .int x7, .int x8] [] σ Q) : Wp d tb_190 24 [.ref 9, .int x1, .int x2, .int x3, .int x4, .int x5, .int x6, .int x7, .int x8] [] σ Q := by
  refine Wp.adv (pc' := 26) (ls' := [.ref 9, .int x1, .int x2, .int x3, .int x4, .int x5, .int x6, .int x7, .int x8]) (st' := [.int x7]) (σ' := σ) 1 rfl ?_
  exact Wp.if_ rfl ht hf
theorem b190_29 {d : Nat} {Q : Option Value → px_S → Prop} {σ : px_S} {x1 x2 x3 x4 x5 x6 x7 x8 : Int32} (c1 : vp_in ((σ.1 9 33) + x8) 120) (ht : ¬ x8 = 0 → Wp d tb_190 50 [.ref 9, .int x1, .int x2, .int x3, .int x4, .int x5, .int x6, .int x7, .int x8] [.int (σ.1 57 (((σ.1 9 33) + x8)).toNatClampNeg)] σ Q) (hf : ¬ (¬ x8 = 0) → Wp d tb_190 46 [.ref 9, .int x1, .int x2, .int x3, .int x4, .int x5, .int x6, .int x7, .int x8] [.int (σ.1 57 (((σ.1 9 33) + x8)).toNatClampNeg)] σ Q) : Wp d tb_190 29 [.ref 9, .int x1, .int x2, .int x3, .int x4, .int x5, .int x6, .int x7, .int x8] [] σ Q := by
  refine Wp.adv (pc' := 40) (ls' := [.ref 9, .int x1, .int x2, .int x3, .int x4, .int x5, .int x6, .int x7, .int x8]) (st' := [.int ((σ.1 9 33) + x8), .ref 57]) (σ' := σ) 6 rfl ?_
  refine Wp.iald (N := 120) rfl rfl c1 ?_
  refine Wp.adv (pc' := 43) (ls' := [.ref 9, .int x1, .int x2, .int x3, .int x4, .int x5, .int x6, .int x7, .int x8]) (st' := [.int x8, .int (σ.1 57 (((σ.1 9 33) + x8)).toNatClampNeg)]) (σ' := σ) 1 rfl ?_
  exact Wp.if_ rfl ht hf
theorem b190_46 {d : Nat} {Q : Option Value → px_S → Prop} {σ : px_S} {x1 x2 x3 x4 x5 x6 x7 x8 s0 : Int32} (h : Wp d tb_190 84 [.ref 9, .int x1, .int x2, .int x3, .int x4, .int x5, .int x6, .int x7, .int x8] [.int x2, .int s0] σ Q) : Wp d tb_190 46 [.ref 9, .int x1, .int x2, .int x3, .int x4, .int x5, .int x6, .int x7, .int x8] [.int s0] σ Q := by
  refine Wp.adv (pc' := 84) (ls' := [.ref 9, .int x1, .int x2, .int x3, .int x4, .int x5, .int x6, .int x7, .int x8]) (st' := [.int x2, .int s0]) (σ' := σ) 2 rfl ?_
  exact h
theorem b190_50 {d : Nat} {Q : Option Value → px_S → Prop} {σ : px_S} {x1 x2 x3 x4 x5 x6 x7 x8 s0 : Int32} (ht : ¬ x8 = (1 : Int32) → Wp d tb_190 60 [.ref 9, .int x1, .int x2, .int x3, .int x4, .int x5, .int x6, .int x7, .int x8] [.int s0] σ Q) (hf : ¬ (¬ x8 = (1 : Int32)) → Wp d tb_190 56 [.ref 9, .int x1, .int x2, .int x3, .int x4, .int x5, .int x6, .int x7, .int x8] [.int s0] σ Q) : Wp d tb_190 50 [.ref 9, .int x1, .int x2, .int x3, .int x4, .int x5, .int x6, .int x7, .int x8] [.int s0] σ Q := by
  refine Wp.adv (pc' := 53) (ls' := [.ref 9, .int x1, .int x2, .int x3, .int x4, .int x5, .int x6, .int x7, .int x8]) (st' := [.int (1 : Int32), .int x8, .int s0]) (σ' := σ) 2 rfl ?_
  exact Wp.icmp rfl ht hf
theorem b190_56 {d : Nat} {Q : Option Value → px_S → Prop} {σ : px_S} {x1 x2 x3 x4 x5 x6 x7 x8 s0 : Int32} (h : Wp d tb_190 84 [.ref 9, .int x1, .int x2, .int x3, .int x4, .int x5, .int x6, .int x7, .int x8] [.int x3, .int s0] σ Q) : Wp d tb_190 56 [.ref 9, .int x1, .int x2, .int x3, .int x4, .int x5, .int x6, .int x7, .int x8] [.int s0] σ Q := by
  refine Wp.adv (pc' := 84) (ls' := [.ref 9, .int x1, .int x2, .int x3, .int x4, .int x5, .int x6, .int x7, .int x8]) (st' := [.int x3, .int s0]) (σ' := σ) 2 rfl ?_
  exact h
theorem b190_60 {d : Nat} {Q : Option Value → px_S → Prop} {σ : px_S} {x1 x2 x3 x4 x5 x6 x7 x8 s0 : Int32} (ht : ¬ x8 = (2 : Int32) → Wp d tb_190 71 [.ref 9, .int x1, .int x2, .int x3, .int x4, .int x5, .int x6, .int x7, .int x8] [.int s0] σ Q) (hf : ¬ (¬ x8 = (2 : Int32)) → Wp d tb_190 66 [.ref 9, .int x1, .int x2, .int x3, .int x4, .int x5, .int x6, .int x7, .int x8] [.int s0] σ Q) : Wp d tb_190 60 [.ref 9, .int x1, .int x2, .int x3, .int x4, .int x5, .int x6, .int x7, .int x8] [.int s0] σ Q := by
  refine Wp.adv (pc' := 63) (ls' := [.ref 9, .int x1, .int x2, .int x3, .int x4, .int x5, .int x6, .int x7, .int x8]) (st' := [.int (2 : Int32), .int x8, .int s0]) (σ' := σ) 2 rfl ?_
  exact Wp.icmp rfl ht hf
theorem b190_66 {d : Nat} {Q : Option Value → px_S → Prop} {σ : px_S} {x1 x2 x3 x4 x5 x6 x7 x8 s0 : Int32} (h : Wp d tb_190 84 [.ref 9, .int x1, .int x2, .int x3, .int x4, .int x5, .int x6, .int x7, .int x8] [.int x4, .int s0] σ Q) : Wp d tb_190 66 [.ref 9, .int x1, .int x2, .int x3, .int x4, .int x5, .int x6, .int x7, .int x8] [.int s0] σ Q := by
  refine Wp.adv (pc' := 84) (ls' := [.ref 9, .int x1, .int x2, .int x3, .int x4, .int x5, .int x6, .int x7, .int x8]) (st' := [.int x4, .int s0]) (σ' := σ) 2 rfl ?_
  exact h
theorem b190_71 {d : Nat} {Q : Option Value → px_S → Prop} {σ : px_S} {x1 x2 x3 x4 x5 x6 x7 x8 s0 : Int32} (ht : ¬ x8 = (3 : Int32) → Wp d tb_190 82 [.ref 9, .int x1, .int x2, .int x3, .int x4, .int x5, .int x6, .int x7, .int x8] [.int s0] σ Q) (hf : ¬ (¬ x8 = (3 : Int32)) → Wp d tb_190 77 [.ref 9, .int x1, .int x2, .int x3, .int x4, .int x5, .int x6, .int x7, .int x8] [.int s0] σ Q) : Wp d tb_190 71 [.ref 9, .int x1, .int x2, .int x3, .int x4, .int x5, .int x6, .int x7, .int x8] [.int s0] σ Q := by
  refine Wp.adv (pc' := 74) (ls' := [.ref 9, .int x1, .int x2, .int x3, .int x4, .int x5, .int x6, .int x7, .int x8]) (st' := [.int (3 : Int32), .int x8, .int s0]) (σ' := σ) 2 rfl ?_
  exact Wp.icmp rfl ht hf
theorem b190_77 {d : Nat} {Q : Option Value → px_S → Prop} {σ : px_S} {x1 x2 x3 x4 x5 x6 x7 x8 s0 : Int32} (h : Wp d tb_190 84 [.ref 9, .int x1, .int x2, .int x3, .int x4, .int x5, .int x6, .int x7, .int x8] [.int x5, .int s0] σ Q) : Wp d tb_190 77 [.ref 9, .int x1, .int x2, .int x3, .int x4, .int x5, .int x6, .int x7, .int x8] [.int s0] σ Q := by
  refine Wp.adv (pc' := 84) (ls' := [.ref 9, .int x1, .int x2, .int x3, .int x4, .int x5, .int x6, .int x7, .int x8]) (st' := [.int x5, .int s0]) (σ' := σ) 2 rfl ?_
  exact h
theorem b190_82 {d : Nat} {Q : Option Value → px_S → Prop} {σ : px_S} {x1 x2 x3 x4 x5 x6 x7 x8 s0 : Int32} (h : Wp d tb_190 84 [.ref 9, .int x1, .int x2, .int x3, .int x4, .int x5, .int x6, .int x7, .int x8] [.int x6, .int s0] σ Q) : Wp d tb_190 82 [.ref 9, .int x1, .int x2, .int x3, .int x4, .int x5, .int x6, .int x7, .int x8] [.int s0] σ Q := by
  refine Wp.adv (pc' := 84) (ls' := [.ref 9, .int x1, .int x2, .int x3, .int x4, .int x5, .int x6, .int x7, .int x8]) (st' := [.int x6, .int s0]) (σ' := σ) 1 rfl ?_
  exact h
theorem b190_84 {d : Nat} {Q : Option Value → px_S → Prop} {σ : px_S} {x1 x2 x3 x4 x5 x6 x7 x8 s0 s1 : Int32} (ht : ¬ s1 = s0 → Wp d tb_190 91 [.ref 9, .int x1, .int x2, .int x3, .int x4, .int x5, .int x6, .int x7, .int x8] [] σ Q) (hf : ¬ (¬ s1 = s0) → Wp d tb_190 87 [.ref 9, .int x1, .int x2, .int x3, .int x4, .int x5, .int x6, .int x7, .int x8] [] σ Q) : Wp d tb_190 84 [.ref 9, .int x1, .int x2, .int x3, .int x4, .int x5, .int x6, .int x7, .int x8] [.int s0, .int s1] σ Q := by
  exact Wp.icmp rfl ht hf
theorem b190_87 {d : Nat} {Q : Option Value → px_S → Prop} {σ : px_S} {x1 x2 x3 x4 x5 x6 x7 x8 : Int32} (h : Wp d tb_190 92 [.ref 9, .int x1, .int x2, .int x3, .int x4, .int x5, .int x6, .int x7, .int x8] [.int (1 : Int32)] σ Q) : Wp d tb_190 87 [.ref 9, .int x1, .int x2, .int x3, .int x4, .int x5, .int x6, .int x7, .int x8] [] σ Q := by
  refine Wp.adv (pc' := 92) (ls' := [.ref 9, .int x1, .int x2, .int x3, .int x4, .int x5, .int x6, .int x7, .int x8]) (st' := [.int (1 : Int32)]) (σ' := σ) 2 rfl ?_
  exact h
theorem b190_91 {d : Nat} {Q : Option Value → px_S → Prop} {σ : px_S} {x1 x2 x3 x4 x5 x6 x7 x8 : Int32} (h : Wp d tb_190 92 [.ref 9, .int x1, .int x2, .int x3, .int x4, .int x5, .int x6, .int x7, .int x8] [.int (0 : Int32)] σ Q) : Wp d tb_190 91 [.ref 9, .int x1, .int x2, .int x3, .int x4, .int x5, .int x6, .int x7, .int x8] [] σ Q := by
  refine Wp.adv (pc' := 92) (ls' := [.ref 9, .int x1, .int x2, .int x3, .int x4, .int x5, .int x6, .int x7, .int x8]) (st' := [.int (0 : Int32)]) (σ' := σ) 1 rfl ?_
  exact h
theorem b190_92 {d : Nat} {Q : Option Value → px_S → Prop} {σ : px_S} {x1 x2 x3 x4 x5 x6 x7 x8 s0 : Int32} (h : Wp d tb_190 18 [.ref 9, .int x1, .int x2, .int x3, .int x4, .int x5, .int x6, .int s0, .int (x8 + 1)] [] σ Q) : Wp d tb_190 92 [.ref 9, .int x1, .int x2, .int x3, .int x4, .int x5, .int x6, .int x7, .int x8] [.int s0] σ Q := by
  refine Wp.adv (pc' := 18) (ls' := [.ref 9, .int x1, .int x2, .int x3, .int x4, .int x5, .int x6, .int s0, .int (x8 + 1)]) (st' := []) (σ' := σ) 3 rfl ?_
  exact h
theorem b190_100 {d : Nat} {Q : Option Value → px_S → Prop} {σ : px_S} {x1 x2 x3 x4 x5 x6 x7 x8 : Int32} (c1 : x7 = 0 ∨ x7 = 1) (h : Q (some (.int x7)) σ) : Wp d tb_190 100 [.ref 9, .int x1, .int x2, .int x3, .int x4, .int x5, .int x6, .int x7, .int x8] [] σ Q := by
  refine Wp.adv (pc' := 102) (ls' := [.ref 9, .int x1, .int x2, .int x3, .int x4, .int x5, .int x6, .int x7, .int x8]) (st' := [.int x7]) (σ' := σ) 1 rfl ?_
  exact Wp.zret rfl c1 h
theorem e190 {d : Nat} {Q : Option Value → px_S → Prop} {σ : px_S} {x1 x2 x3 x4 x5 x6 : Int32} (h : Wp d tb_190 0 [.ref 9, .int x1, .int x2, .int x3, .int x4, .int x5, .int x6, .null, .null] [] σ Q) : Cw (d + 1) 190 [.ref 9, .int x1, .int x2, .int x3, .int x4, .int x5, .int x6] σ Q := Cw.of (nL := 9) (y := yX9_isWord) (cc := cX9_isWord) (rt := some .boolean) rfl (Nat.le_of_ble_eq_true rfl) h
theorem b191_0 {d : Nat} {Q : Option Value → px_S → Prop} {σ : px_S} {x1 x2 x3 : Int32} (ht : ¬ x1 = 0 → Wp d tb_191 21 [.ref 9, .int x1, .int x2, .int x3] [] σ Q) (hf : ¬ (¬ x1 = 0) → Wp d tb_191 4 [.ref 9, .int x1, .int x2, .int x3] [] σ Q) : Wp d tb_191 0 [.ref 9, .int x1, .int x2, .int x3] [] σ Q := by
  refine Wp.adv (pc' := 1) (ls' := [.ref 9, .int x1, .int x2, .int x3]) (st' := [.int x1]) (σ' := σ) 1 rfl ?_
  exact Wp.if_ rfl ht hf
theorem b191_4 {d : Nat} {Q : Option Value → px_S → Prop} {σ : px_S} {x1 x2 x3 : Int32} (ht : ¬ (σ.1 9 31) = 0 → Wp d tb_191 21 [.ref 9, .int x1, .int x2, .int x3] [] σ Q) (hf : ¬ (¬ (σ.1 9 31) = 0) → Wp d tb_191 11 [.ref 9, .int x1, .int x2, .int x3] [] σ Q) : Wp d tb_191 4 [.ref 9, .int x1, .int x2, .int x3] [] σ Q := by
  refine Wp.adv (pc' := 8) (ls' := [.ref 9, .int x1, .int x2, .int x3]) (st' := [.int (σ.1 9 31)]) (σ' := σ) 2 rfl ?_
  exact Wp.if_ rfl ht hf
theorem b191_11 {d : Nat} {Q : Option Value → px_S → Prop} {σ : px_S} {x1 x2 x3 : Int32} (h : Wp d tb_191 16 [.ref 9, .int x1, .int x2, .int x3] [] (px_uI σ 9 31 x2) Q) : Wp d tb_191 11 [.ref 9, .int x1, .int x2, .int x3] [] σ Q := by
  refine Wp.adv (pc' := 13) (ls' := [.ref 9, .int x1, .int x2, .int x3]) (st' := [.int x2, .ref 9]) (σ' := σ) 2 rfl ?_
  refine Wp.step (q := (16, [.ref 9, .int x1, .int x2, .int x3], [], (px_uI σ 9 31 x2))) rfl rfl ?_
  exact h
theorem b191_16 {d : Nat} {Q : Option Value → px_S → Prop} {σ : px_S} {x1 x2 x3 : Int32} (h : Wp d tb_191 21 [.ref 9, .int x1, .int x2, .int x3] [] (px_uI σ 9 32 x3) Q) : Wp d tb_191 16 [.ref 9, .int x1, .int x2, .int x3] [] σ Q := by
  refine Wp.adv (pc' := 18) (ls' := [.ref 9, .int x1, .int x2, .int x3]) (st' := [.int x3, .ref 9]) (σ' := σ) 2 rfl ?_
  refine Wp.step (q := (21, [.ref 9, .int x1, .int x2, .int x3], [], (px_uI σ 9 32 x3))) rfl rfl ?_
  exact h
theorem b191_21 {d : Nat} {Q : Option Value → px_S → Prop} {σ : px_S} {x1 x2 x3 : Int32} (ht : ¬ (σ.1 9 31) = 0 → Wp d tb_191 32 [.ref 9, .int x1, .int x2, .int x3] [] σ Q) (hf : ¬ (¬ (σ.1 9 31) = 0) → Wp d tb_191 28 [.ref 9, .int x1, .int x2, .int x3] [] σ Q) : Wp d tb_191 21 [.ref 9, .int x1, .int x2, .int x3] [] σ Q := by
  refine Wp.adv (pc' := 25) (ls' := [.ref 9, .int x1, .int x2, .int x3]) (st' := [.int (σ.1 9 31)]) (σ' := σ) 2 rfl ?_
  exact Wp.if_ rfl ht hf
theorem b191_28 {d : Nat} {Q : Option Value → px_S → Prop} {σ : px_S} {x1 x2 x3 : Int32} (h : Wp d tb_191 33 [.ref 9, .int x1, .int x2, .int x3] [.int (1 : Int32)] σ Q) : Wp d tb_191 28 [.ref 9, .int x1, .int x2, .int x3] [] σ Q := by
  refine Wp.adv (pc' := 33) (ls' := [.ref 9, .int x1, .int x2, .int x3]) (st' := [.int (1 : Int32)]) (σ' := σ) 2 rfl ?_
  exact h
theorem b191_32 {d : Nat} {Q : Option Value → px_S → Prop} {σ : px_S} {x1 x2 x3 : Int32} (h : Wp d tb_191 33 [.ref 9, .int x1, .int x2, .int x3] [.int (0 : Int32)] σ Q) : Wp d tb_191 32 [.ref 9, .int x1, .int x2, .int x3] [] σ Q := by
  refine Wp.adv (pc' := 33) (ls' := [.ref 9, .int x1, .int x2, .int x3]) (st' := [.int (0 : Int32)]) (σ' := σ) 1 rfl ?_
  exact h
theorem b191_33 {d : Nat} {Q : Option Value → px_S → Prop} {σ : px_S} {x1 x2 x3 s0 : Int32} (c1 : s0 = 0 ∨ s0 = 1) (h : Q (some (.int s0)) σ) : Wp d tb_191 33 [.ref 9, .int x1, .int x2, .int x3] [.int s0] σ Q := by
  exact Wp.zret rfl c1 h
theorem e191 {d : Nat} {Q : Option Value → px_S → Prop} {σ : px_S} {x1 x2 x3 : Int32} (h : Wp d tb_191 0 [.ref 9, .int x1, .int x2, .int x3] [] σ Q) : Cw (d + 1) 191 [.ref 9, .int x1, .int x2, .int x3] σ Q := Cw.of (nL := 4) (y := yX9_want) (cc := cX9_want) (rt := some .boolean) rfl (Nat.le_of_ble_eq_true rfl) h
theorem b192_0 {d : Nat} {Q : Option Value → px_S → Prop} {σ : px_S} {x1 : Int32} (ht : ¬ x1 = (2 : Int32) → Wp d tb_192 70 [.ref 9, .int x1, .null, .null] [] σ Q) (hf : ¬ (¬ x1 = (2 : Int32)) → Wp d tb_192 5 [.ref 9, .int x1, .null, .null] [] σ Q) : Wp d tb_192 0 [.ref 9, .int x1, .null, .null] [] σ Q := by
  refine Wp.adv (pc' := 2) (ls' := [.ref 9, .int x1, .null, .null]) (st' := [.int (2 : Int32), .int x1]) (σ' := σ) 2 rfl ?_
  exact Wp.icmp rfl ht hf
theorem b192_5 {d : Nat} {Q : Option Value → px_S → Prop} {σ : px_S} {x1 : Int32} (h : Cw d 188 [.ref 9] σ (fun r τ => Wp d tb_192 9 [.ref 9, .int x1, .null, .null] (r.toList ++ []) τ Q)) : Wp d tb_192 5 [.ref 9, .int x1, .null, .null] [] σ Q := by
  refine Wp.adv (pc' := 6) (ls' := [.ref 9, .int x1, .null, .null]) (st' := [.ref 9]) (σ' := σ) 1 rfl ?_
  exact Wp.call (q := (188, 1, 9, 9)) rfl (Nat.le_of_ble_eq_true rfl) rfl h
theorem b192_9 {d : Nat} {Q : Option Value → px_S → Prop} {σ : px_S} {x1 : Int32} (h : Cw d 190 [.ref 9, .int (3 : Int32), .int (121 : Int32), .int (101 : Int32), .int (115 : Int32), .int (0 : Int32), .int (0 : Int32)] σ (fun r τ => Wp d tb_192 22 [.ref 9, .int x1, .null, .null] (r.toList ++ []) τ Q)) : Wp d tb_192 9 [.ref 9, .int x1, .null, .null] [] σ Q := by
  refine Wp.adv (pc' := 19) (ls' := [.ref 9, .int x1, .null, .null]) (st' := [.int (0 : Int32), .int (0 : Int32), .int (115 : Int32), .int (101 : Int32), .int (121 : Int32), .int (3 : Int32), .ref 9]) (σ' := σ) 7 rfl ?_
  exact Wp.call (q := (190, 7, 9, 22)) rfl (Nat.le_of_ble_eq_true rfl) rfl h
theorem b192_22 {d : Nat} {Q : Option Value → px_S → Prop} {σ : px_S} {x1 s0 : Int32} (ht : ¬ s0 = 0 → Wp d tb_192 43 [.ref 9, .int x1, .int s0, .null] [.ref 9] σ Q) (hf : ¬ (¬ s0 = 0) → Wp d tb_192 28 [.ref 9, .int x1, .int s0, .null] [.ref 9] σ Q) : Wp d tb_192 22 [.ref 9, .int x1, .null, .null] [.int s0] σ Q := by
  refine Wp.adv (pc' := 25) (ls' := [.ref 9, .int x1, .int s0, .null]) (st' := [.int s0, .ref 9]) (σ' := σ) 3 rfl ?_
  exact Wp.if_ rfl ht hf
theorem b192_28 {d : Nat} {Q : Option Value → px_S → Prop} {σ : px_S} {x1 x2 : Int32} (h : Cw d 190 [.ref 9, .int (2 : Int32), .int (110 : Int32), .int (111 : Int32), .int (0 : Int32), .int (0 : Int32), .int (0 : Int32)] σ (fun r τ => Wp d tb_192 40 [.ref 9, .int x1, .int x2, .null] (r.toList ++ [.ref 9]) τ Q)) : Wp d tb_192 28 [.ref 9, .int x1, .int x2, .null] [.ref 9] σ Q := by
  refine Wp.adv (pc' := 37) (ls' := [.ref 9, .int x1, .int x2, .null]) (st' := [.int (0 : Int32), .int (0 : Int32), .int (0 : Int32), .int (111 : Int32), .int (110 : Int32), .int (2 : Int32), .ref 9, .ref 9]) (σ' := σ) 7 rfl ?_
  exact Wp.call (q := (190, 7, 9, 40)) rfl (Nat.le_of_ble_eq_true rfl) rfl h
theorem b192_40 {d : Nat} {Q : Option Value → px_S → Prop} {σ : px_S} {x1 x2 s0 : Int32} (ht : s0 = 0 → Wp d tb_192 47 [.ref 9, .int x1, .int x2, .null] [.ref 9] σ Q) (hf : ¬ (s0 = 0) → Wp d tb_192 43 [.ref 9, .int x1, .int x2, .null] [.ref 9] σ Q) : Wp d tb_192 40 [.ref 9, .int x1, .int x2, .null] [.int s0, .ref 9] σ Q := by
  exact Wp.if_ rfl ht hf
theorem b192_43 {d : Nat} {Q : Option Value → px_S → Prop} {σ : px_S} {x1 x2 : Int32} (h : Wp d tb_192 48 [.ref 9, .int x1, .int x2, .null] [.int (1 : Int32), .ref 9] σ Q) : Wp d tb_192 43 [.ref 9, .int x1, .int x2, .null] [.ref 9] σ Q := by
  refine Wp.adv (pc' := 48) (ls' := [.ref 9, .int x1, .int x2, .null]) (st' := [.int (1 : Int32), .ref 9]) (σ' := σ) 2 rfl ?_
  exact h
theorem b192_47 {d : Nat} {Q : Option Value → px_S → Prop} {σ : px_S} {x1 x2 : Int32} (h : Wp d tb_192 48 [.ref 9, .int x1, .int x2, .null] [.int (0 : Int32), .ref 9] σ Q) : Wp d tb_192 47 [.ref 9, .int x1, .int x2, .null] [.ref 9] σ Q := by
  refine Wp.adv (pc' := 48) (ls' := [.ref 9, .int x1, .int x2, .null]) (st' := [.int (0 : Int32), .ref 9]) (σ' := σ) 1 rfl ?_
  exact h
theorem b192_48 {d : Nat} {Q : Option Value → px_S → Prop} {σ : px_S} {x1 x2 s0 : Int32} (h : Cw d 191 [.ref 9, .int s0, .int (1 : Int32), .int (σ.1 9 33)] σ (fun r τ => Wp d tb_192 56 [.ref 9, .int x1, .int x2, .null] (r.toList ++ []) τ Q)) : Wp d tb_192 48 [.ref 9, .int x1, .int x2, .null] [.int s0, .ref 9] σ Q := by
  refine Wp.adv (pc' := 53) (ls' := [.ref 9, .int x1, .int x2, .null]) (st' := [.int (σ.1 9 33), .int (1 : Int32), .int s0, .ref 9]) (σ' := σ) 3 rfl ?_
  exact Wp.call (q := (191, 4, 9, 56)) rfl (Nat.le_of_ble_eq_true rfl) rfl h
theorem b192_56 {d : Nat} {Q : Option Value → px_S → Prop} {σ : px_S} {x1 x2 s0 : Int32} (h : Cw d 135 [.int x2] σ (fun r τ => Wp d tb_192 66 [.ref 9, .int x1, .int x2, .int s0] (r.toList ++ [.int x1, .ref 58]) τ Q)) : Wp d tb_192 56 [.ref 9, .int x1, .int x2, .null] [.int s0] σ Q := by
  refine Wp.adv (pc' := 63) (ls' := [.ref 9, .int x1, .int x2, .int s0]) (st' := [.int x2, .int x1, .ref 58]) (σ' := σ) 5 rfl ?_
  exact Wp.call (q := (135, 1, 0, 66)) rfl (Nat.le_of_ble_eq_true rfl) rfl h
theorem b192_66 {d : Nat} {Q : Option Value → px_S → Prop} {σ : px_S} {x1 x2 x3 s0 s1 : Int32} (c1 : vp_in s1 5) (h : Wp d tb_192 67 [.ref 9, .int x1, .int x2, .int x3] [] (px_uI σ 58 (s1).toNatClampNeg s0) Q) : Wp d tb_192 66 [.ref 9, .int x1, .int x2, .int x3] [.int s0, .int s1, .ref 58] σ Q := by
  refine Wp.iast (N := 5) rfl rfl c1 ?_
  exact h
theorem b192_67 {d : Nat} {Q : Option Value → px_S → Prop} {σ : px_S} {x1 x2 x3 : Int32} (h : Wp d tb_192 109 [.ref 9, .int x1, .int x2, .int x3] [] σ Q) : Wp d tb_192 67 [.ref 9, .int x1, .int x2, .int x3] [] σ Q := by
  refine Wp.adv (pc' := 109) (ls' := [.ref 9, .int x1, .int x2, .int x3]) (st' := []) (σ' := σ) 1 rfl ?_
  exact h
theorem b192_70 {d : Nat} {Q : Option Value → px_S → Prop} {σ : px_S} {x1 : Int32} (ht : ¬ x1 = 0 → Wp d tb_192 84 [.ref 9, .int x1, .null, .null] [.ref 9, .int x1, .ref 58] σ Q) (hf : ¬ (¬ x1 = 0) → Wp d tb_192 80 [.ref 9, .int x1, .null, .null] [.ref 9, .int x1, .ref 58] σ Q) : Wp d tb_192 70 [.ref 9, .int x1, .null, .null] [] σ Q := by
  refine Wp.adv (pc' := 77) (ls' := [.ref 9, .int x1, .null, .null]) (st' := [.int x1, .ref 9, .int x1, .ref 58]) (σ' := σ) 5 rfl ?_
  exact Wp.if_ rfl ht hf
theorem b192_80 {d : Nat} {Q : Option Value → px_S → Prop} {σ : px_S} {x1 s1 : Int32} (h : Wp d tb_192 105 [.ref 9, .int x1, .null, .null] [.int (2 : Int32), .ref 9, .int s1, .ref 58] σ Q) : Wp d tb_192 80 [.ref 9, .int x1, .null, .null] [.ref 9, .int s1, .ref 58] σ Q := by
  refine Wp.adv (pc' := 105) (ls' := [.ref 9, .int x1, .null, .null]) (st' := [.int (2 : Int32), .ref 9, .int s1, .ref 58]) (σ' := σ) 2 rfl ?_
  exact h
theorem b192_84 {d : Nat} {Q : Option Value → px_S → Prop} {σ : px_S} {x1 s1 : Int32} (ht : ¬ x1 = (1 : Int32) → Wp d tb_192 94 [.ref 9, .int x1, .null, .null] [.ref 9, .int s1, .ref 58] σ Q) (hf : ¬ (¬ x1 = (1 : Int32)) → Wp d tb_192 89 [.ref 9, .int x1, .null, .null] [.ref 9, .int s1, .ref 58] σ Q) : Wp d tb_192 84 [.ref 9, .int x1, .null, .null] [.ref 9, .int s1, .ref 58] σ Q := by
  refine Wp.adv (pc' := 86) (ls' := [.ref 9, .int x1, .null, .null]) (st' := [.int (1 : Int32), .int x1, .ref 9, .int s1, .ref 58]) (σ' := σ) 2 rfl ?_
  exact Wp.icmp rfl ht hf
theorem b192_89 {d : Nat} {Q : Option Value → px_S → Prop} {σ : px_S} {x1 s1 : Int32} (h : Wp d tb_192 105 [.ref 9, .int x1, .null, .null] [.int (100 : Int32), .ref 9, .int s1, .ref 58] σ Q) : Wp d tb_192 89 [.ref 9, .int x1, .null, .null] [.ref 9, .int s1, .ref 58] σ Q := by
  refine Wp.adv (pc' := 105) (ls' := [.ref 9, .int x1, .null, .null]) (st' := [.int (100 : Int32), .ref 9, .int s1, .ref 58]) (σ' := σ) 2 rfl ?_
  exact h
theorem b192_94 {d : Nat} {Q : Option Value → px_S → Prop} {σ : px_S} {x1 s1 : Int32} (ht : ¬ x1 = (3 : Int32) → Wp d tb_192 104 [.ref 9, .int x1, .null, .null] [.ref 9, .int s1, .ref 58] σ Q) (hf : ¬ (¬ x1 = (3 : Int32)) → Wp d tb_192 99 [.ref 9, .int x1, .null, .null] [.ref 9, .int s1, .ref 58] σ Q) : Wp d tb_192 94 [.ref 9, .int x1, .null, .null] [.ref 9, .int s1, .ref 58] σ Q := by
  refine Wp.adv (pc' := 96) (ls' := [.ref 9, .int x1, .null, .null]) (st' := [.int (3 : Int32), .int x1, .ref 9, .int s1, .ref 58]) (σ' := σ) 2 rfl ?_
  exact Wp.icmp rfl ht hf
theorem b192_99 {d : Nat} {Q : Option Value → px_S → Prop} {σ : px_S} {x1 s1 : Int32} (h : Wp d tb_192 105 [.ref 9, .int x1, .null, .null] [.int (14 : Int32), .ref 9, .int s1, .ref 58] σ Q) : Wp d tb_192 99 [.ref 9, .int x1, .null, .null] [.ref 9, .int s1, .ref 58] σ Q := by
  refine Wp.adv (pc' := 105) (ls' := [.ref 9, .int x1, .null, .null]) (st' := [.int (14 : Int32), .ref 9, .int s1, .ref 58]) (σ' := σ) 2 rfl ?_
  exact h
theorem b192_104 {d : Nat} {Q : Option Value → px_S → Prop} {σ : px_S} {x1 s1 : Int32} (h : Wp d tb_192 105 [.ref 9, .int x1, .null, .null] [.int (5 : Int32), .ref 9, .int s1, .ref 58] σ Q) : Wp d tb_192 104 [.ref 9, .int x1, .null, .null] [.ref 9, .int s1, .ref 58] σ Q := by
  refine Wp.adv (pc' := 105) (ls' := [.ref 9, .int x1, .null, .null]) (st' := [.int (5 : Int32), .ref 9, .int s1, .ref 58]) (σ' := σ) 1 rfl ?_
  exact h
theorem b192_105 {d : Nat} {Q : Option Value → px_S → Prop} {σ : px_S} {x1 s0 s2 : Int32} (h : Cw d 193 [.ref 9, .int s0] σ (fun r τ => Wp d tb_192 108 [.ref 9, .int x1, .null, .null] (r.toList ++ [.int s2, .ref 58]) τ Q)) : Wp d tb_192 105 [.ref 9, .int x1, .null, .null] [.int s0, .ref 9, .int s2, .ref 58] σ Q := by
  exact Wp.call (q := (193, 2, 9, 108)) rfl (Nat.le_of_ble_eq_true rfl) rfl h
theorem b192_108 {d : Nat} {Q : Option Value → px_S → Prop} {σ : px_S} {x1 s0 s1 : Int32} (c1 : vp_in s1 5) (h : Wp d tb_192 109 [.ref 9, .int x1, .null, .null] [] (px_uI σ 58 (s1).toNatClampNeg s0) Q) : Wp d tb_192 108 [.ref 9, .int x1, .null, .null] [.int s0, .int s1, .ref 58] σ Q := by
  refine Wp.iast (N := 5) rfl rfl c1 ?_
  exact h
theorem b192_109 {d : Nat} {Q : Option Value → px_S → Prop} {σ : px_S} {x1 : Int32} {v2 v3 : Value} (ht : ¬ (σ.1 9 31) = 0 → Wp d tb_192 153 [.ref 9, .int x1, v2, v3] [] σ Q) (hf : ¬ (¬ (σ.1 9 31) = 0) → Wp d tb_192 116 [.ref 9, .int x1, v2, v3] [] σ Q) : Wp d tb_192 109 [.ref 9, .int x1, v2, v3] [] σ Q := by
  refine Wp.adv (pc' := 113) (ls' := [.ref 9, .int x1, v2, v3]) (st' := [.int (σ.1 9 31)]) (σ' := σ) 2 rfl ?_
  exact Wp.if_ rfl ht hf
theorem b192_116 {d : Nat} {Q : Option Value → px_S → Prop} {σ : px_S} {x1 : Int32} {v2 v3 : Value} (nv2 : px_nc v2 = true) (nv3 : px_nc v3 = true) (h : Cw d 187 [.ref 9] σ (fun r τ => Wp d tb_192 120 [.ref 9, .int x1, v2, v3] (r.toList ++ []) τ Q)) : Wp d tb_192 116 [.ref 9, .int x1, v2, v3] [] σ Q := by
  refine Wp.adv (pc' := 117) (ls' := [.ref 9, .int x1, v2, v3]) (st' := [.ref 9]) (σ' := σ) 1 rfl ?_
  exact Wp.call (q := (187, 1, 9, 120)) rfl (Nat.le_of_ble_eq_true rfl) (px_okc_mk rfl rfl rfl (by simp only [List.all_cons, List.all_nil, nv2, nv3]; rfl)) h
theorem b192_120 {d : Nat} {Q : Option Value → px_S → Prop} {σ : px_S} {x1 s0 : Int32} {v2 v3 : Value} (ht : ¬ s0 = (59 : Int32) → Wp d tb_192 137 [.ref 9, .int x1, .int s0, v3] [.ref 9, .int (σ.1 9 30), .ref 9] σ Q) (hf : ¬ (¬ s0 = (59 : Int32)) → Wp d tb_192 133 [.ref 9, .int x1, .int s0, v3] [.ref 9, .int (σ.1 9 30), .ref 9] σ Q) : Wp d tb_192 120 [.ref 9, .int x1, v2, v3] [.int s0] σ Q := by
  refine Wp.adv (pc' := 130) (ls' := [.ref 9, .int x1, .int s0, v3]) (st' := [.int (59 : Int32), .int s0, .ref 9, .int (σ.1 9 30), .ref 9]) (σ' := σ) 7 rfl ?_
  exact Wp.icmp rfl ht hf
theorem b192_133 {d : Nat} {Q : Option Value → px_S → Prop} {σ : px_S} {x1 x2 s1 : Int32} {v3 : Value} (h : Wp d tb_192 138 [.ref 9, .int x1, .int x2, v3] [.int (1 : Int32), .ref 9, .int s1, .ref 9] σ Q) : Wp d tb_192 133 [.ref 9, .int x1, .int x2, v3] [.ref 9, .int s1, .ref 9] σ Q := by
  refine Wp.adv (pc' := 138) (ls' := [.ref 9, .int x1, .int x2, v3]) (st' := [.int (1 : Int32), .ref 9, .int s1, .ref 9]) (σ' := σ) 2 rfl ?_
  exact h
theorem b192_137 {d : Nat} {Q : Option Value → px_S → Prop} {σ : px_S} {x1 x2 s1 : Int32} {v3 : Value} (h : Wp d tb_192 138 [.ref 9, .int x1, .int x2, v3] [.int (0 : Int32), .ref 9, .int s1, .ref 9] σ Q) : Wp d tb_192 137 [.ref 9, .int x1, .int x2, v3] [.ref 9, .int s1, .ref 9] σ Q := by
  refine Wp.adv (pc' := 138) (ls' := [.ref 9, .int x1, .int x2, v3]) (st' := [.int (0 : Int32), .ref 9, .int s1, .ref 9]) (σ' := σ) 1 rfl ?_
  exact h
theorem b192_138 {d : Nat} {Q : Option Value → px_S → Prop} {σ : px_S} {x1 x2 s0 s2 : Int32} {v3 : Value} (nv3 : px_nc v3 = true) (h : Cw d 191 [.ref 9, .int s0, .int (1 : Int32), .int (σ.1 9 30)] σ (fun r τ => Wp d tb_192 146 [.ref 9, .int x1, .int x2, v3] (r.toList ++ [.int s2, .ref 9]) τ Q)) : Wp d tb_192 138 [.ref 9, .int x1, .int x2, v3] [.int s0, .ref 9, .int s2, .ref 9] σ Q := by
  refine Wp.adv (pc' := 143) (ls' := [.ref 9, .int x1, .int x2, v3]) (st' := [.int (σ.1 9 30), .int (1 : Int32), .int s0, .ref 9, .int s2, .ref 9]) (σ' := σ) 3 rfl ?_
  exact Wp.call (q := (191, 4, 9, 146)) rfl (Nat.le_of_ble_eq_true rfl) (px_okc_mk rfl rfl rfl (by simp only [List.all_cons, List.all_nil, nv3]; rfl)) h
theorem b192_146 {d : Nat} {Q : Option Value → px_S → Prop} {σ : px_S} {x1 x2 s0 s1 : Int32} {v3 : Value} (nv3 : px_nc v3 = true) (h : Cw d 135 [.int s0] σ (fun r τ => Wp d tb_192 149 [.ref 9, .int x1, .int x2, v3] (r.toList ++ [.int s1, .ref 9]) τ Q)) : Wp d tb_192 146 [.ref 9, .int x1, .int x2, v3] [.int s0, .int s1, .ref 9] σ Q := by
  exact Wp.call (q := (135, 1, 0, 149)) rfl (Nat.le_of_ble_eq_true rfl) (px_okc_mk rfl rfl rfl (by simp only [List.all_cons, List.all_nil, nv3]; rfl)) h
theorem b192_149 {d : Nat} {Q : Option Value → px_S → Prop} {σ : px_S} {x1 x2 s0 s1 : Int32} {v3 : Value} (h : Wp d tb_192 153 [.ref 9, .int x1, .int x2, v3] [] (px_uI σ 9 30 (s1 + s0)) Q) : Wp d tb_192 149 [.ref 9, .int x1, .int x2, v3] [.int s0, .int s1, .ref 9] σ Q := by
  refine Wp.adv (pc' := 150) (ls' := [.ref 9, .int x1, .int x2, v3]) (st' := [.int (s1 + s0), .ref 9]) (σ' := σ) 1 rfl ?_
  refine Wp.step (q := (153, [.ref 9, .int x1, .int x2, v3], [], (px_uI σ 9 30 (s1 + s0)))) rfl rfl ?_
  exact h
theorem b192_153 {d : Nat} {Q : Option Value → px_S → Prop} {σ : px_S} {x1 : Int32} {v2 v3 : Value} (h : Q none σ) : Wp d tb_192 153 [.ref 9, .int x1, v2, v3] [] σ Q := by
  exact Wp.ret rfl rfl h
theorem e192 {d : Nat} {Q : Option Value → px_S → Prop} {σ : px_S} {x1 : Int32} (h : Wp d tb_192 0 [.ref 9, .int x1, .null, .null] [] σ Q) : Cw (d + 1) 192 [.ref 9, .int x1] σ Q := Cw.of (nL := 4) (y := yX9_readClause) (cc := cX9_readClause) (rt := none) rfl (Nat.le_of_ble_eq_true rfl) h
theorem b193_0 {d : Nat} {Q : Option Value → px_S → Prop} {σ : px_S} {x1 : Int32} (h : Cw d 187 [.ref 9] σ (fun r τ => Wp d tb_193 4 [.ref 9, .int x1, .null, .null, .null, .null] (r.toList ++ []) τ Q)) : Wp d tb_193 0 [.ref 9, .int x1, .null, .null, .null, .null] [] σ Q := by
  refine Wp.adv (pc' := 1) (ls' := [.ref 9, .int x1, .null, .null, .null, .null]) (st' := [.ref 9]) (σ' := σ) 1 rfl ?_
  exact Wp.call (q := (187, 1, 9, 4)) rfl (Nat.le_of_ble_eq_true rfl) rfl h
theorem b193_4 {d : Nat} {Q : Option Value → px_S → Prop} {σ : px_S} {x1 s0 : Int32} (h : Cw d 130 [.long (s0).toInt64, .long (48 : Int64), .long (57 : Int64)] σ (fun r τ => Wp d tb_193 22 [.ref 9, .int x1, .int s0, .int (σ.1 9 30), .null, .null] (r.toList ++ [.ref 9]) τ Q)) : Wp d tb_193 4 [.ref 9, .int x1, .null, .null, .null, .null] [.int s0] σ Q := by
  refine Wp.adv (pc' := 19) (ls' := [.ref 9, .int x1, .int s0, .int (σ.1 9 30), .null, .null]) (st' := [.long (57 : Int64), .long (48 : Int64), .long (s0).toInt64, .ref 9]) (σ' := σ) 9 rfl ?_
  exact Wp.call (q := (130, 3, 0, 22)) rfl (Nat.le_of_ble_eq_true rfl) rfl h
theorem b193_22 {d : Nat} {Q : Option Value → px_S → Prop} {σ : px_S} {x1 x2 x3 s0 : Int32} (h : Cw d 191 [.ref 9, .int s0, .int (1 : Int32), .int (σ.1 9 30)] σ (fun r τ => Wp d tb_193 30 [.ref 9, .int x1, .int x2, .int x3, .null, .null] (r.toList ++ []) τ Q)) : Wp d tb_193 22 [.ref 9, .int x1, .int x2, .int x3, .null, .null] [.int s0, .ref 9] σ Q := by
  refine Wp.adv (pc' := 27) (ls' := [.ref 9, .int x1, .int x2, .int x3, .null, .null]) (st' := [.int (σ.1 9 30), .int (1 : Int32), .int s0, .ref 9]) (σ' := σ) 3 rfl ?_
  exact Wp.call (q := (191, 4, 9, 30)) rfl (Nat.le_of_ble_eq_true rfl) rfl h
theorem b193_30 {d : Nat} {Q : Option Value → px_S → Prop} {σ : px_S} {x1 x2 x3 s0 : Int32} (ht : ¬ s0 = 0 → Wp d tb_193 35 [.ref 9, .int x1, .int x2, .int x3, .null, .null] [] σ Q) (hf : ¬ (¬ s0 = 0) → Wp d tb_193 33 [.ref 9, .int x1, .int x2, .int x3, .null, .null] [] σ Q) : Wp d tb_193 30 [.ref 9, .int x1, .int x2, .int x3, .null, .null] [.int s0] σ Q := by
  exact Wp.if_ rfl ht hf
theorem b193_33 {d : Nat} {Q : Option Value → px_S → Prop} {σ : px_S} {x1 x2 x3 : Int32} (h : Q (some (.int (0 : Int32))) σ) : Wp d tb_193 33 [.ref 9, .int x1, .int x2, .int x3, .null, .null] [] σ Q := by
  refine Wp.adv (pc' := 34) (ls' := [.ref 9, .int x1, .int x2, .int x3, .null, .null]) (st' := [.int (0 : Int32)]) (σ' := σ) 1 rfl ?_
  exact Wp.ret rfl rfl h
theorem b193_35 {d : Nat} {Q : Option Value → px_S → Prop} {σ : px_S} {x1 x2 x3 : Int32} (h : Wp d tb_193 38 [.ref 9, .int x1, .int x2, .int x3, .int (0 : Int32), .null] [] σ Q) : Wp d tb_193 35 [.ref 9, .int x1, .int x2, .int x3, .null, .null] [] σ Q := by
  refine Wp.adv (pc' := 38) (ls' := [.ref 9, .int x1, .int x2, .int x3, .int (0 : Int32), .null]) (st' := []) (σ' := σ) 2 rfl ?_
  exact h
theorem b193_38 {d : Nat} {Q : Option Value → px_S → Prop} {σ : px_S} {x1 x2 x3 x4 : Int32} (ht : (σ.1 9 29) ≤ (σ.1 9 30) → Wp d tb_193 117 [.ref 9, .int x1, .int x2, .int x3, .int x4, .null] [] σ Q) (hf : ¬ ((σ.1 9 29) ≤ (σ.1 9 30)) → Wp d tb_193 49 [.ref 9, .int x1, .int x2, .int x3, .int x4, .null] [] σ Q) : Wp d tb_193 38 [.ref 9, .int x1, .int x2, .int x3, .int x4, .null] [] σ Q := by
  refine Wp.adv (pc' := 46) (ls' := [.ref 9, .int x1, .int x2, .int x3, .int x4, .null]) (st' := [.int (σ.1 9 29), .int (σ.1 9 30)]) (σ' := σ) 4 rfl ?_
  exact Wp.icmp rfl ht hf
theorem b193_49 {d : Nat} {Q : Option Value → px_S → Prop} {σ : px_S} {x1 x2 x3 x4 : Int32} (c1 : vp_in (σ.1 9 30) 120) (h : Cw d 130 [.long ((σ.1 57 ((σ.1 9 30)).toNatClampNeg)).toInt64, .long (48 : Int64), .long (57 : Int64)] σ (fun r τ => Wp d tb_193 68 [.ref 9, .int x1, .int x2, .int x3, .int x4, .null] (r.toList ++ []) τ Q)) : Wp d tb_193 49 [.ref 9, .int x1, .int x2, .int x3, .int x4, .null] [] σ Q := by
  refine Wp.adv (pc' := 57) (ls' := [.ref 9, .int x1, .int x2, .int x3, .int x4, .null]) (st' := [.int (σ.1 9 30), .ref 57]) (σ' := σ) 4 rfl ?_
  refine Wp.iald (N := 120) rfl rfl c1 ?_
  refine Wp.adv (pc' := 65) (ls' := [.ref 9, .int x1, .int x2, .int x3, .int x4, .null]) (st' := [.long (57 : Int64), .long (48 : Int64), .long ((σ.1 57 ((σ.1 9 30)).toNatClampNeg)).toInt64]) (σ' := σ) 3 rfl ?_
  exact Wp.call (q := (130, 3, 0, 68)) rfl (Nat.le_of_ble_eq_true rfl) rfl h
theorem b193_68 {d : Nat} {Q : Option Value → px_S → Prop} {σ : px_S} {x1 x2 x3 x4 s0 : Int32} (ht : s0 = 0 → Wp d tb_193 117 [.ref 9, .int x1, .int x2, .int x3, .int x4, .null] [] σ Q) (hf : ¬ (s0 = 0) → Wp d tb_193 71 [.ref 9, .int x1, .int x2, .int x3, .int x4, .null] [] σ Q) : Wp d tb_193 68 [.ref 9, .int x1, .int x2, .int x3, .int x4, .null] [.int s0] σ Q := by
  exact Wp.if_ rfl ht hf
theorem b193_71 {d : Nat} {Q : Option Value → px_S → Prop} {σ : px_S} {x1 x2 x3 x4 : Int32} (ht : x4 ≤ (999 : Int32) → Wp d tb_193 84 [.ref 9, .int x1, .int x2, .int x3, .int x4, .null] [] σ Q) (hf : ¬ (x4 ≤ (999 : Int32)) → Wp d tb_193 79 [.ref 9, .int x1, .int x2, .int x3, .int x4, .null] [] σ Q) : Wp d tb_193 71 [.ref 9, .int x1, .int x2, .int x3, .int x4, .null] [] σ Q := by
  refine Wp.adv (pc' := 76) (ls' := [.ref 9, .int x1, .int x2, .int x3, .int x4, .null]) (st' := [.int (999 : Int32), .int x4]) (σ' := σ) 2 rfl ?_
  exact Wp.icmp rfl ht hf
theorem b193_79 {d : Nat} {Q : Option Value → px_S → Prop} {σ : px_S} {x1 x2 x3 x4 : Int32} (h : Wp d tb_193 102 [.ref 9, .int x1, .int x2, .int x3, .int x4, .null] [.int x4] σ Q) : Wp d tb_193 79 [.ref 9, .int x1, .int x2, .int x3, .int x4, .null] [] σ Q := by
  refine Wp.adv (pc' := 102) (ls' := [.ref 9, .int x1, .int x2, .int x3, .int x4, .null]) (st' := [.int x4]) (σ' := σ) 2 rfl ?_
  exact h
theorem b193_84 {d : Nat} {Q : Option Value → px_S → Prop} {σ : px_S} {x1 x2 x3 x4 : Int32} (c1 : vp_in (σ.1 9 30) 120) (h : Wp d tb_193 102 [.ref 9, .int x1, .int x2, .int x3, .int x4, .null] [.int ((((10 : Int32) * x4) + (σ.1 57 ((σ.1 9 30)).toNatClampNeg)) - (48 : Int32))] σ Q) : Wp d tb_193 84 [.ref 9, .int x1, .int x2, .int x3, .int x4, .null] [] σ Q := by
  refine Wp.adv (pc' := 97) (ls' := [.ref 9, .int x1, .int x2, .int x3, .int x4, .null]) (st' := [.int (σ.1 9 30), .ref 57, .int ((10 : Int32) * x4)]) (σ' := σ) 7 rfl ?_
  refine Wp.iald (N := 120) rfl rfl c1 ?_
  refine Wp.adv (pc' := 102) (ls' := [.ref 9, .int x1, .int x2, .int x3, .int x4, .null]) (st' := [.int ((((10 : Int32) * x4) + (σ.1 57 ((σ.1 9 30)).toNatClampNeg)) - (48 : Int32))]) (σ' := σ) 3 rfl ?_
  exact h
theorem b193_102 {d : Nat} {Q : Option Value → px_S → Prop} {σ : px_S} {x1 x2 x3 x4 s0 : Int32} (h : Wp d tb_193 114 [.ref 9, .int x1, .int x2, .int x3, .int s0, .null] [] (px_uI σ 9 30 ((σ.1 9 30) + (1 : Int32))) Q) : Wp d tb_193 102 [.ref 9, .int x1, .int x2, .int x3, .int x4, .null] [.int s0] σ Q := by
  refine Wp.adv (pc' := 111) (ls' := [.ref 9, .int x1, .int x2, .int x3, .int s0, .null]) (st' := [.int ((σ.1 9 30) + (1 : Int32)), .ref 9]) (σ' := σ) 6 rfl ?_
  refine Wp.step (q := (114, [.ref 9, .int x1, .int x2, .int x3, .int s0, .null], [], (px_uI σ 9 30 ((σ.1 9 30) + (1 : Int32))))) rfl rfl ?_
  exact h
theorem b193_114 {d : Nat} {Q : Option Value → px_S → Prop} {σ : px_S} {x1 x2 x3 x4 : Int32} (h : Wp d tb_193 38 [.ref 9, .int x1, .int x2, .int x3, .int x4, .null] [] σ Q) : Wp d tb_193 114 [.ref 9, .int x1, .int x2, .int x3, .int x4, .null] [] σ Q := by
  refine Wp.adv (pc' := 38) (ls' := [.ref 9, .int x1, .int x2, .int x3, .int x4, .null]) (st' := []) (σ' := σ) 1 rfl ?_
  exact h
theorem b193_117 {d : Nat} {Q : Option Value → px_S → Prop} {σ : px_S} {x1 x2 x3 x4 : Int32} (ht : (4 : Int32) ≤ ((σ.1 9 30) - x3) → Wp d tb_193 138 [.ref 9, .int x1, .int x2, .int x3, .int x4, .null] [.ref 9] σ Q) (hf : ¬ ((4 : Int32) ≤ ((σ.1 9 30) - x3)) → Wp d tb_193 128 [.ref 9, .int x1, .int x2, .int x3, .int x4, .null] [.ref 9] σ Q) : Wp d tb_193 117 [.ref 9, .int x1, .int x2, .int x3, .int x4, .null] [] σ Q := by
  refine Wp.adv (pc' := 125) (ls' := [.ref 9, .int x1, .int x2, .int x3, .int x4, .null]) (st' := [.int (4 : Int32), .int ((σ.1 9 30) - x3), .ref 9]) (σ' := σ) 6 rfl ?_
  exact Wp.icmp rfl ht hf
theorem b193_128 {d : Nat} {Q : Option Value → px_S → Prop} {σ : px_S} {x1 x2 x3 x4 : Int32} (ht : x1 < x4 → Wp d tb_193 138 [.ref 9, .int x1, .int x2, .int x3, .int x4, .null] [.ref 9] σ Q) (hf : ¬ (x1 < x4) → Wp d tb_193 134 [.ref 9, .int x1, .int x2, .int x3, .int x4, .null] [.ref 9] σ Q) : Wp d tb_193 128 [.ref 9, .int x1, .int x2, .int x3, .int x4, .null] [.ref 9] σ Q := by
  refine Wp.adv (pc' := 131) (ls' := [.ref 9, .int x1, .int x2, .int x3, .int x4, .null]) (st' := [.int x1, .int x4, .ref 9]) (σ' := σ) 2 rfl ?_
  exact Wp.icmp rfl ht hf
theorem b193_134 {d : Nat} {Q : Option Value → px_S → Prop} {σ : px_S} {x1 x2 x3 x4 : Int32} (h : Wp d tb_193 139 [.ref 9, .int x1, .int x2, .int x3, .int x4, .null] [.int (1 : Int32), .ref 9] σ Q) : Wp d tb_193 134 [.ref 9, .int x1, .int x2, .int x3, .int x4, .null] [.ref 9] σ Q := by
  refine Wp.adv (pc' := 139) (ls' := [.ref 9, .int x1, .int x2, .int x3, .int x4, .null]) (st' := [.int (1 : Int32), .ref 9]) (σ' := σ) 2 rfl ?_
  exact h
theorem b193_138 {d : Nat} {Q : Option Value → px_S → Prop} {σ : px_S} {x1 x2 x3 x4 : Int32} (h : Wp d tb_193 139 [.ref 9, .int x1, .int x2, .int x3, .int x4, .null] [.int (0 : Int32), .ref 9] σ Q) : Wp d tb_193 138 [.ref 9, .int x1, .int x2, .int x3, .int x4, .null] [.ref 9] σ Q := by
  refine Wp.adv (pc' := 139) (ls' := [.ref 9, .int x1, .int x2, .int x3, .int x4, .null]) (st' := [.int (0 : Int32), .ref 9]) (σ' := σ) 1 rfl ?_
  exact h
theorem b193_139 {d : Nat} {Q : Option Value → px_S → Prop} {σ : px_S} {x1 x2 x3 x4 s0 : Int32} (h : Cw d 191 [.ref 9, .int s0, .int (2 : Int32), .int x3] σ (fun r τ => Wp d tb_193 144 [.ref 9, .int x1, .int x2, .int x3, .int x4, .null] (r.toList ++ []) τ Q)) : Wp d tb_193 139 [.ref 9, .int x1, .int x2, .int x3, .int x4, .null] [.int s0, .ref 9] σ Q := by
  refine Wp.adv (pc' := 141) (ls' := [.ref 9, .int x1, .int x2, .int x3, .int x4, .null]) (st' := [.int x3, .int (2 : Int32), .int s0, .ref 9]) (σ' := σ) 2 rfl ?_
  exact Wp.call (q := (191, 4, 9, 144)) rfl (Nat.le_of_ble_eq_true rfl) rfl h
theorem b193_144 {d : Nat} {Q : Option Value → px_S → Prop} {σ : px_S} {x1 x2 x3 x4 s0 : Int32} (h : Q (some (.int x4)) σ) : Wp d tb_193 144 [.ref 9, .int x1, .int x2, .int x3, .int x4, .null] [.int s0] σ Q := by
  refine Wp.adv (pc' := 148) (ls' := [.ref 9, .int x1, .int x2, .int x3, .int x4, .int s0]) (st' := [.int x4]) (σ' := σ) 2 rfl ?_
  exact Wp.ret rfl rfl h
theorem e193 {d : Nat} {Q : Option Value → px_S → Prop} {σ : px_S} {x1 : Int32} (h : Wp d tb_193 0 [.ref 9, .int x1, .null, .null, .null, .null] [] σ Q) : Cw (d + 1) 193 [.ref 9, .int x1] σ Q := Cw.of (nL := 6) (y := yX9_takeNumber) (cc := cX9_takeNumber) (rt := some .int) rfl (Nat.le_of_ble_eq_true rfl) h
theorem b194_0 {d : Nat} {Q : Option Value → px_S → Prop} {σ : px_S}  (h : Q (some (.int (σ.1 9 32))) σ) : Wp d tb_194 0 [.ref 9] [] σ Q := by
  refine Wp.adv (pc' := 4) (ls' := [.ref 9]) (st' := [.int (σ.1 9 32)]) (σ' := σ) 2 rfl ?_
  exact Wp.ret rfl rfl h
theorem e194 {d : Nat} {Q : Option Value → px_S → Prop} {σ : px_S}  (h : Wp d tb_194 0 [.ref 9] [] σ Q) : Cw (d + 1) 194 [.ref 9] σ Q := Cw.of (nL := 1) (y := yX9_fault) (cc := cX9_fault) (rt := some .int) rfl (Nat.le_of_ble_eq_true rfl) h
theorem b195_0 {d : Nat} {Q : Option Value → px_S → Prop} {σ : px_S} {x1 : Int32} (h : Cw d 130 [.long (x1).toInt64, .long (0 : Int64), .long (4 : Int64)] σ (fun r τ => Wp d tb_195 9 [.ref 9, .int x1] (r.toList ++ []) τ Q)) : Wp d tb_195 0 [.ref 9, .int x1] [] σ Q := by
  refine Wp.adv (pc' := 6) (ls' := [.ref 9, .int x1]) (st' := [.long (4 : Int64), .long (0 : Int64), .long (x1).toInt64]) (σ' := σ) 4 rfl ?_
  exact Wp.call (q := (130, 3, 0, 9)) rfl (Nat.le_of_ble_eq_true rfl) rfl h
theorem b195_9 {d : Nat} {Q : Option Value → px_S → Prop} {σ : px_S} {x1 s0 : Int32} (ht : s0 = 0 → Wp d tb_195 21 [.ref 9, .int x1] [] σ Q) (hf : ¬ (s0 = 0) → Wp d tb_195 12 [.ref 9, .int x1] [] σ Q) : Wp d tb_195 9 [.ref 9, .int x1] [.int s0] σ Q := by
  exact Wp.if_ rfl ht hf
theorem b195_12 {d : Nat} {Q : Option Value → px_S → Prop} {σ : px_S} {x1 : Int32} (c1 : vp_in x1 5) (h : Wp d tb_195 24 [.ref 9, .int x1] [.int (σ.1 37 (x1).toNatClampNeg)] σ Q) : Wp d tb_195 12 [.ref 9, .int x1] [] σ Q := by
  refine Wp.adv (pc' := 17) (ls' := [.ref 9, .int x1]) (st' := [.int x1, .ref 37]) (σ' := σ) 3 rfl ?_
  refine Wp.iald (N := 5) rfl rfl c1 ?_
  refine Wp.adv (pc' := 24) (ls' := [.ref 9, .int x1]) (st' := [.int (σ.1 37 (x1).toNatClampNeg)]) (σ' := σ) 1 rfl ?_
  exact h
theorem b195_21 {d : Nat} {Q : Option Value → px_S → Prop} {σ : px_S} {x1 : Int32} (h : Wp d tb_195 24 [.ref 9, .int x1] [.int (-1002 : Int32)] σ Q) : Wp d tb_195 21 [.ref 9, .int x1] [] σ Q := by
  refine Wp.adv (pc' := 24) (ls' := [.ref 9, .int x1]) (st' := [.int (-1002 : Int32)]) (σ' := σ) 1 rfl ?_
  exact h
theorem b195_24 {d : Nat} {Q : Option Value → px_S → Prop} {σ : px_S} {x1 s0 : Int32} (h : Q (some (.int s0)) σ) : Wp d tb_195 24 [.ref 9, .int x1] [.int s0] σ Q := by
  exact Wp.ret rfl rfl h
theorem e195 {d : Nat} {Q : Option Value → px_S → Prop} {σ : px_S} {x1 : Int32} (h : Wp d tb_195 0 [.ref 9, .int x1] [] σ Q) : Cw (d + 1) 195 [.ref 9, .int x1] σ Q := Cw.of (nL := 2) (y := yX9_rule) (cc := cX9_rule) (rt := some .int) rfl (Nat.le_of_ble_eq_true rfl) h
