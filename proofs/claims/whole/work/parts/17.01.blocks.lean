/-! ===== basic blocks, 1 ===== -/
theorem b32_15 {d : Nat} {Q : Option Value → px_S → Prop} {σ : px_S} {x5 x6 x7 : Int32} {y1 y3 : Int64} (ht : x6 < x7 → Wp d tb_32 37 [.ref 2, .long y1, .null, .long y3, .null, .int x5, .int x6, .int x7, .null, .null, .null, .null] [] σ Q) (hf : ¬ (x6 < x7) → Wp d tb_32 22 [.ref 2, .long y1, .null, .long y3, .null, .int x5, .int x6, .int x7, .null, .null, .null, .null] [] σ Q) : Wp d tb_32 15 [.ref 2, .long y1, .null, .long y3, .null, .int x5, .int x6, .int x7, .null, .null, .null, .null] [] σ Q := by
  refine Wp.adv (pc' := 19) (ls' := [.ref 2, .long y1, .null, .long y3, .null, .int x5, .int x6, .int x7, .null, .null, .null, .null]) (st' := [.int x6, .int x7]) (σ' := σ) 2 rfl ?_
  exact Wp.icmp rfl ht hf
theorem b32_22 {d : Nat} {Q : Option Value → px_S → Prop} {σ : px_S} {x5 x6 x7 : Int32} {y1 y3 : Int64} (c1 : vp_in x7 9) (h : Wp d tb_32 31 [.ref 2, .long y1, .null, .long y3, .null, .int x5, .int x6, .int x7, .null, .null, .null, .null] [] (px_uI σ 20 (x7).toNatClampNeg x7) Q) : Wp d tb_32 22 [.ref 2, .long y1, .null, .long y3, .null, .int x5, .int x6, .int x7, .null, .null, .null, .null] [] σ Q := by
  refine Wp.adv (pc' := 30) (ls' := [.ref 2, .long y1, .null, .long y3, .null, .int x5, .int x6, .int x7, .null, .null, .null, .null]) (st' := [.int x7, .int x7, .ref 20]) (σ' := σ) 4 rfl ?_
  refine Wp.iast (N := 9) rfl rfl c1 ?_
  exact h
theorem b32_31 {d : Nat} {Q : Option Value → px_S → Prop} {σ : px_S} {x5 x6 x7 : Int32} {y1 y3 : Int64} (h : Wp d tb_32 15 [.ref 2, .long y1, .null, .long y3, .null, .int x5, .int x6, .int (x7 + 1), .null, .null, .null, .null] [] σ Q) : Wp d tb_32 31 [.ref 2, .long y1, .null, .long y3, .null, .int x5, .int x6, .int x7, .null, .null, .null, .null] [] σ Q := by
  refine Wp.adv (pc' := 15) (ls' := [.ref 2, .long y1, .null, .long y3, .null, .int x5, .int x6, .int (x7 + 1), .null, .null, .null, .null]) (st' := []) (σ' := σ) 2 rfl ?_
  exact h
theorem b32_37 {d : Nat} {Q : Option Value → px_S → Prop} {σ : px_S} {x5 x6 x7 : Int32} {y1 y3 : Int64} (h : Wp d tb_32 40 [.ref 2, .long y1, .null, .long y3, .null, .int x5, .int x6, .int (1 : Int32), .null, .null, .null, .null] [] σ Q) : Wp d tb_32 37 [.ref 2, .long y1, .null, .long y3, .null, .int x5, .int x6, .int x7, .null, .null, .null, .null] [] σ Q := by
  refine Wp.adv (pc' := 40) (ls' := [.ref 2, .long y1, .null, .long y3, .null, .int x5, .int x6, .int (1 : Int32), .null, .null, .null, .null]) (st' := []) (σ' := σ) 2 rfl ?_
  exact h
theorem b32_40 {d : Nat} {Q : Option Value → px_S → Prop} {σ : px_S} {x5 x6 x7 : Int32} {y1 y3 : Int64} {v8 v9 v10 v11 : Value} (ht : x5 < x7 → Wp d tb_32 164 [.ref 2, .long y1, .null, .long y3, .null, .int x5, .int x6, .int x7, v8, v9, v10, v11] [] σ Q) (hf : ¬ (x5 < x7) → Wp d tb_32 47 [.ref 2, .long y1, .null, .long y3, .null, .int x5, .int x6, .int x7, v8, v9, v10, v11] [] σ Q) : Wp d tb_32 40 [.ref 2, .long y1, .null, .long y3, .null, .int x5, .int x6, .int x7, v8, v9, v10, v11] [] σ Q := by
  refine Wp.adv (pc' := 44) (ls' := [.ref 2, .long y1, .null, .long y3, .null, .int x5, .int x6, .int x7, v8, v9, v10, v11]) (st' := [.int x5, .int x7]) (σ' := σ) 2 rfl ?_
  exact Wp.icmp rfl ht hf
theorem b32_47 {d : Nat} {Q : Option Value → px_S → Prop} {σ : px_S} {x5 x6 x7 : Int32} {y1 y3 : Int64} {v8 v9 v10 v11 : Value} (c1 : vp_in (0 : Int32) 9) (c2 : vp_in (0 : Int32) 9) (h : Wp d tb_32 63 [.ref 2, .long y1, .null, .long y3, .null, .int x5, .int x6, .int x7, .int (σ.1 20 ((0 : Int32)).toNatClampNeg), v9, v10, v11] [] (px_uI σ 20 ((0 : Int32)).toNatClampNeg x7) Q) : Wp d tb_32 47 [.ref 2, .long y1, .null, .long y3, .null, .int x5, .int x6, .int x7, v8, v9, v10, v11] [] σ Q := by
  refine Wp.adv (pc' := 52) (ls' := [.ref 2, .long y1, .null, .long y3, .null, .int x5, .int x6, .int x7, v8, v9, v10, v11]) (st' := [.int (0 : Int32), .ref 20]) (σ' := σ) 3 rfl ?_
  refine Wp.iald (N := 9) rfl rfl c1 ?_
  refine Wp.adv (pc' := 62) (ls' := [.ref 2, .long y1, .null, .long y3, .null, .int x5, .int x6, .int x7, .int (σ.1 20 ((0 : Int32)).toNatClampNeg), v9, v10, v11]) (st' := [.int x7, .int (0 : Int32), .ref 20]) (σ' := σ) 5 rfl ?_
  refine Wp.iast (N := 9) rfl rfl c2 ?_
  exact h
theorem b32_63 {d : Nat} {Q : Option Value → px_S → Prop} {σ : px_S} {x5 x6 x7 x8 : Int32} {y1 y3 : Int64} {v9 v10 v11 : Value} (h : Wp d tb_32 66 [.ref 2, .long y1, .null, .long y3, .null, .int x5, .int x6, .int x7, .int x8, .int (1 : Int32), v10, v11] [] σ Q) : Wp d tb_32 63 [.ref 2, .long y1, .null, .long y3, .null, .int x5, .int x6, .int x7, .int x8, v9, v10, v11] [] σ Q := by
  refine Wp.adv (pc' := 66) (ls' := [.ref 2, .long y1, .null, .long y3, .null, .int x5, .int x6, .int x7, .int x8, .int (1 : Int32), v10, v11]) (st' := []) (σ' := σ) 2 rfl ?_
  exact h
theorem b32_66 {d : Nat} {Q : Option Value → px_S → Prop} {σ : px_S} {x5 x6 x7 x8 x9 : Int32} {y1 y3 : Int64} {v10 v11 : Value} (ht : x6 < x9 → Wp d tb_32 158 [.ref 2, .long y1, .null, .long y3, .null, .int x5, .int x6, .int x7, .int x8, .int x9, v10, v11] [] σ Q) (hf : ¬ (x6 < x9) → Wp d tb_32 73 [.ref 2, .long y1, .null, .long y3, .null, .int x5, .int x6, .int x7, .int x8, .int x9, v10, v11] [] σ Q) : Wp d tb_32 66 [.ref 2, .long y1, .null, .long y3, .null, .int x5, .int x6, .int x7, .int x8, .int x9, v10, v11] [] σ Q := by
  refine Wp.adv (pc' := 70) (ls' := [.ref 2, .long y1, .null, .long y3, .null, .int x5, .int x6, .int x7, .int x8, .int x9, v10, v11]) (st' := [.int x6, .int x9]) (σ' := σ) 2 rfl ?_
  exact Wp.icmp rfl ht hf
theorem b32_73 {d : Nat} {Q : Option Value → px_S → Prop} {σ : px_S} {x5 x6 x7 x8 x9 : Int32} {y1 y3 : Int64} {v10 v11 : Value} (nv10 : px_nc v10 = true) (nv11 : px_nc v11 = true) (h : Cw d 34 [.long y1, .int (x7 - (1 : Int32))] σ (fun r τ => Wp d tb_32 81 [.ref 2, .long y1, .null, .long y3, .null, .int x5, .int x6, .int x7, .int x8, .int x9, v10, v11] (r.toList ++ []) τ Q)) : Wp d tb_32 73 [.ref 2, .long y1, .null, .long y3, .null, .int x5, .int x6, .int x7, .int x8, .int x9, v10, v11] [] σ Q := by
  refine Wp.adv (pc' := 78) (ls' := [.ref 2, .long y1, .null, .long y3, .null, .int x5, .int x6, .int x7, .int x8, .int x9, v10, v11]) (st' := [.int (x7 - (1 : Int32)), .long y1]) (σ' := σ) 4 rfl ?_
  exact Wp.call (q := (34, 2, 0, 81)) rfl (Nat.le_of_ble_eq_true rfl) (px_okc_mk rfl rfl rfl (by simp only [List.all_cons, List.all_nil, nv10, nv11]; rfl)) h
theorem b32_81 {d : Nat} {Q : Option Value → px_S → Prop} {σ : px_S} {x5 x6 x7 x8 x9 s0 : Int32} {y1 y3 : Int64} {v10 v11 : Value} (nv10 : px_nc v10 = true) (nv11 : px_nc v11 = true) (h : Cw d 34 [.long y3, .int (x9 - (1 : Int32))] σ (fun r τ => Wp d tb_32 89 [.ref 2, .long y1, .null, .long y3, .null, .int x5, .int x6, .int x7, .int x8, .int x9, v10, v11] (r.toList ++ [.int s0]) τ Q)) : Wp d tb_32 81 [.ref 2, .long y1, .null, .long y3, .null, .int x5, .int x6, .int x7, .int x8, .int x9, v10, v11] [.int s0] σ Q := by
  refine Wp.adv (pc' := 86) (ls' := [.ref 2, .long y1, .null, .long y3, .null, .int x5, .int x6, .int x7, .int x8, .int x9, v10, v11]) (st' := [.int (x9 - (1 : Int32)), .long y3, .int s0]) (σ' := σ) 4 rfl ?_
  exact Wp.call (q := (34, 2, 0, 89)) rfl (Nat.le_of_ble_eq_true rfl) (px_okc_mk rfl rfl rfl (by simp only [List.all_cons, List.all_nil, nv10, nv11]; rfl)) h
theorem b32_89 {d : Nat} {Q : Option Value → px_S → Prop} {σ : px_S} {x5 x6 x7 x8 x9 s0 s1 : Int32} {y1 y3 : Int64} {v10 v11 : Value} (ht : ¬ s1 = s0 → Wp d tb_32 96 [.ref 2, .long y1, .null, .long y3, .null, .int x5, .int x6, .int x7, .int x8, .int x9, v10, v11] [] σ Q) (hf : ¬ (¬ s1 = s0) → Wp d tb_32 92 [.ref 2, .long y1, .null, .long y3, .null, .int x5, .int x6, .int x7, .int x8, .int x9, v10, v11] [] σ Q) : Wp d tb_32 89 [.ref 2, .long y1, .null, .long y3, .null, .int x5, .int x6, .int x7, .int x8, .int x9, v10, v11] [.int s0, .int s1] σ Q := by
  exact Wp.icmp rfl ht hf
theorem b32_92 {d : Nat} {Q : Option Value → px_S → Prop} {σ : px_S} {x5 x6 x7 x8 x9 : Int32} {y1 y3 : Int64} {v10 v11 : Value} (h : Wp d tb_32 97 [.ref 2, .long y1, .null, .long y3, .null, .int x5, .int x6, .int x7, .int x8, .int x9, v10, v11] [.int (1 : Int32)] σ Q) : Wp d tb_32 92 [.ref 2, .long y1, .null, .long y3, .null, .int x5, .int x6, .int x7, .int x8, .int x9, v10, v11] [] σ Q := by
  refine Wp.adv (pc' := 97) (ls' := [.ref 2, .long y1, .null, .long y3, .null, .int x5, .int x6, .int x7, .int x8, .int x9, v10, v11]) (st' := [.int (1 : Int32)]) (σ' := σ) 2 rfl ?_
  exact h
theorem b32_96 {d : Nat} {Q : Option Value → px_S → Prop} {σ : px_S} {x5 x6 x7 x8 x9 : Int32} {y1 y3 : Int64} {v10 v11 : Value} (h : Wp d tb_32 97 [.ref 2, .long y1, .null, .long y3, .null, .int x5, .int x6, .int x7, .int x8, .int x9, v10, v11] [.int (0 : Int32)] σ Q) : Wp d tb_32 96 [.ref 2, .long y1, .null, .long y3, .null, .int x5, .int x6, .int x7, .int x8, .int x9, v10, v11] [] σ Q := by
  refine Wp.adv (pc' := 97) (ls' := [.ref 2, .long y1, .null, .long y3, .null, .int x5, .int x6, .int x7, .int x8, .int x9, v10, v11]) (st' := [.int (0 : Int32)]) (σ' := σ) 1 rfl ?_
  exact h
theorem b32_97 {d : Nat} {Q : Option Value → px_S → Prop} {σ : px_S} {x5 x6 x7 x8 x9 s0 : Int32} {y1 y3 : Int64} {v10 v11 : Value} (ht : s0 = 0 → Wp d tb_32 109 [.ref 2, .long y1, .null, .long y3, .null, .int x5, .int x6, .int x7, .int x8, .int x9, .int s0, v11] [] σ Q) (hf : ¬ (s0 = 0) → Wp d tb_32 104 [.ref 2, .long y1, .null, .long y3, .null, .int x5, .int x6, .int x7, .int x8, .int x9, .int s0, v11] [] σ Q) : Wp d tb_32 97 [.ref 2, .long y1, .null, .long y3, .null, .int x5, .int x6, .int x7, .int x8, .int x9, v10, v11] [.int s0] σ Q := by
  refine Wp.adv (pc' := 101) (ls' := [.ref 2, .long y1, .null, .long y3, .null, .int x5, .int x6, .int x7, .int x8, .int x9, .int s0, v11]) (st' := [.int s0]) (σ' := σ) 2 rfl ?_
  exact Wp.if_ rfl ht hf
theorem b32_104 {d : Nat} {Q : Option Value → px_S → Prop} {σ : px_S} {x5 x6 x7 x8 x9 x10 : Int32} {y1 y3 : Int64} {v11 : Value} (h : Wp d tb_32 113 [.ref 2, .long y1, .null, .long y3, .null, .int x5, .int x6, .int x7, .int x8, .int x9, .int x10, v11] [.int x8] σ Q) : Wp d tb_32 104 [.ref 2, .long y1, .null, .long y3, .null, .int x5, .int x6, .int x7, .int x8, .int x9, .int x10, v11] [] σ Q := by
  refine Wp.adv (pc' := 113) (ls' := [.ref 2, .long y1, .null, .long y3, .null, .int x5, .int x6, .int x7, .int x8, .int x9, .int x10, v11]) (st' := [.int x8]) (σ' := σ) 2 rfl ?_
  exact h
theorem b32_109 {d : Nat} {Q : Option Value → px_S → Prop} {σ : px_S} {x5 x6 x7 x8 x9 x10 : Int32} {y1 y3 : Int64} {v11 : Value} (h : Wp d tb_32 113 [.ref 2, .long y1, .null, .long y3, .null, .int x5, .int x6, .int x7, .int x8, .int x9, .int x10, v11] [.int (x8 + (1 : Int32))] σ Q) : Wp d tb_32 109 [.ref 2, .long y1, .null, .long y3, .null, .int x5, .int x6, .int x7, .int x8, .int x9, .int x10, v11] [] σ Q := by
  refine Wp.adv (pc' := 113) (ls' := [.ref 2, .long y1, .null, .long y3, .null, .int x5, .int x6, .int x7, .int x8, .int x9, .int x10, v11]) (st' := [.int (x8 + (1 : Int32))]) (σ' := σ) 3 rfl ?_
  exact h
theorem b32_113 {d : Nat} {Q : Option Value → px_S → Prop} {σ : px_S} {x5 x6 x7 x8 x9 x10 s0 : Int32} {y1 y3 : Int64} {v11 : Value} (c1 : vp_in x9 9) (c2 : vp_in (x9 - (1 : Int32)) 9) (c3 : vp_in x9 9) (h : Wp d tb_32 152 [.ref 2, .long y1, .null, .long y3, .null, .int x5, .int x6, .int x7, .int (σ.1 20 (x9).toNatClampNeg), .int x9, .int x10, .int s0] [] (px_uI σ 20 (x9).toNatClampNeg (if ((1 : Int32) + (if (σ.1 20 ((x9 - (1 : Int32))).toNatClampNeg) < (σ.1 20 (x9).toNatClampNeg) then (σ.1 20 ((x9 - (1 : Int32))).toNatClampNeg) else (σ.1 20 (x9).toNatClampNeg))) < s0 then ((1 : Int32) + (if (σ.1 20 ((x9 - (1 : Int32))).toNatClampNeg) < (σ.1 20 (x9).toNatClampNeg) then (σ.1 20 ((x9 - (1 : Int32))).toNatClampNeg) else (σ.1 20 (x9).toNatClampNeg))) else s0)) Q) : Wp d tb_32 113 [.ref 2, .long y1, .null, .long y3, .null, .int x5, .int x6, .int x7, .int x8, .int x9, .int x10, v11] [.int s0] σ Q := by
  refine Wp.adv (pc' := 121) (ls' := [.ref 2, .long y1, .null, .long y3, .null, .int x5, .int x6, .int x7, .int x8, .int x9, .int x10, .int s0]) (st' := [.int x9, .ref 20]) (σ' := σ) 4 rfl ?_
  refine Wp.iald (N := 9) rfl rfl c1 ?_
  refine Wp.adv (pc' := 143) (ls' := [.ref 2, .long y1, .null, .long y3, .null, .int x5, .int x6, .int x7, .int (σ.1 20 (x9).toNatClampNeg), .int x9, .int x10, .int s0]) (st' := [.int (x9 - (1 : Int32)), .ref 20, .int (σ.1 20 (x9).toNatClampNeg), .int (1 : Int32), .int s0, .int x9, .ref 20]) (σ' := σ) 12 rfl ?_
  refine Wp.iald (N := 9) rfl rfl c2 ?_
  refine Wp.adv (pc' := 151) (ls' := [.ref 2, .long y1, .null, .long y3, .null, .int x5, .int x6, .int x7, .int (σ.1 20 (x9).toNatClampNeg), .int x9, .int x10, .int s0]) (st' := [.int (if ((1 : Int32) + (if (σ.1 20 ((x9 - (1 : Int32))).toNatClampNeg) < (σ.1 20 (x9).toNatClampNeg) then (σ.1 20 ((x9 - (1 : Int32))).toNatClampNeg) else (σ.1 20 (x9).toNatClampNeg))) < s0 then ((1 : Int32) + (if (σ.1 20 ((x9 - (1 : Int32))).toNatClampNeg) < (σ.1 20 (x9).toNatClampNeg) then (σ.1 20 ((x9 - (1 : Int32))).toNatClampNeg) else (σ.1 20 (x9).toNatClampNeg))) else s0), .int x9, .ref 20]) (σ' := σ) 3 rfl ?_
  refine Wp.iast (N := 9) rfl rfl c3 ?_
  exact h
theorem b32_152 {d : Nat} {Q : Option Value → px_S → Prop} {σ : px_S} {x5 x6 x7 x8 x9 x10 x11 : Int32} {y1 y3 : Int64} (h : Wp d tb_32 66 [.ref 2, .long y1, .null, .long y3, .null, .int x5, .int x6, .int x7, .int x8, .int (x9 + 1), .int x10, .int x11] [] σ Q) : Wp d tb_32 152 [.ref 2, .long y1, .null, .long y3, .null, .int x5, .int x6, .int x7, .int x8, .int x9, .int x10, .int x11] [] σ Q := by
  refine Wp.adv (pc' := 66) (ls' := [.ref 2, .long y1, .null, .long y3, .null, .int x5, .int x6, .int x7, .int x8, .int (x9 + 1), .int x10, .int x11]) (st' := []) (σ' := σ) 2 rfl ?_
  exact h
theorem b32_158 {d : Nat} {Q : Option Value → px_S → Prop} {σ : px_S} {x5 x6 x7 x8 x9 : Int32} {y1 y3 : Int64} {v10 v11 : Value} (h : Wp d tb_32 40 [.ref 2, .long y1, .null, .long y3, .null, .int x5, .int x6, .int (x7 + 1), .int x8, .int x9, v10, v11] [] σ Q) : Wp d tb_32 158 [.ref 2, .long y1, .null, .long y3, .null, .int x5, .int x6, .int x7, .int x8, .int x9, v10, v11] [] σ Q := by
  refine Wp.adv (pc' := 40) (ls' := [.ref 2, .long y1, .null, .long y3, .null, .int x5, .int x6, .int (x7 + 1), .int x8, .int x9, v10, v11]) (st' := []) (σ' := σ) 2 rfl ?_
  exact h
theorem b32_164 {d : Nat} {Q : Option Value → px_S → Prop} {σ : px_S} {x5 x6 x7 : Int32} {y1 y3 : Int64} {v8 v9 v10 v11 : Value} (c1 : vp_in x6 9) (h : Q (some (.int (σ.1 20 (x6).toNatClampNeg))) σ) : Wp d tb_32 164 [.ref 2, .long y1, .null, .long y3, .null, .int x5, .int x6, .int x7, v8, v9, v10, v11] [] σ Q := by
  refine Wp.adv (pc' := 170) (ls' := [.ref 2, .long y1, .null, .long y3, .null, .int x5, .int x6, .int x7, v8, v9, v10, v11]) (st' := [.int x6, .ref 20]) (σ' := σ) 3 rfl ?_
  refine Wp.iald (N := 9) rfl rfl c1 ?_
  exact Wp.ret rfl rfl h
theorem e32 {d : Nat} {Q : Option Value → px_S → Prop} {σ : px_S} {y1 y3 : Int64} (h : Wp d tb_32 0 [.ref 2, .long y1, .null, .long y3, .null, .null, .null, .null, .null, .null, .null, .null] [] σ Q) : Cw (d + 1) 32 [.ref 2, .long y1, .long y3] σ Q := Cw.of (nL := 12) (y := yX0_distance) (cc := cX0_distance) (rt := some .int) rfl (Nat.le_of_ble_eq_true rfl) h
theorem b33_0 {d : Nat} {Q : Option Value → px_S → Prop} {σ : px_S} {y0 : Int64} (h : Wp d tb_33 5 [.long y0, .null, .int (8 : Int32), .long y0, .null] [] σ Q) : Wp d tb_33 0 [.long y0, .null, .null, .null, .null] [] σ Q := by
  refine Wp.adv (pc' := 5) (ls' := [.long y0, .null, .int (8 : Int32), .long y0, .null]) (st' := []) (σ' := σ) 4 rfl ?_
  exact h
theorem b33_5 {d : Nat} {Q : Option Value → px_S → Prop} {σ : px_S} {x2 : Int32} {y0 y3 : Int64} (ht : x2 ≤ 0 → Wp d tb_33 30 [.long y0, .null, .int x2, .long y3, .null] [] σ Q) (hf : ¬ (x2 ≤ 0) → Wp d tb_33 9 [.long y0, .null, .int x2, .long y3, .null] [] σ Q) : Wp d tb_33 5 [.long y0, .null, .int x2, .long y3, .null] [] σ Q := by
  refine Wp.adv (pc' := 6) (ls' := [.long y0, .null, .int x2, .long y3, .null]) (st' := [.int x2]) (σ' := σ) 1 rfl ?_
  exact Wp.if_ rfl ht hf
theorem b33_9 {d : Nat} {Q : Option Value → px_S → Prop} {σ : px_S} {x2 : Int32} {y0 y3 : Int64} (ht : ¬ (lg_cmp (y3 &&& (63 : Int64)) (0 : Int64)) = 0 → Wp d tb_33 30 [.long y0, .null, .int x2, .long y3, .null] [] σ Q) (hf : ¬ (¬ (lg_cmp (y3 &&& (63 : Int64)) (0 : Int64)) = 0) → Wp d tb_33 19 [.long y0, .null, .int x2, .long y3, .null] [] σ Q) : Wp d tb_33 9 [.long y0, .null, .int x2, .long y3, .null] [] σ Q := by
  refine Wp.adv (pc' := 16) (ls' := [.long y0, .null, .int x2, .long y3, .null]) (st' := [.int (lg_cmp (y3 &&& (63 : Int64)) (0 : Int64))]) (σ' := σ) 5 rfl ?_
  exact Wp.if_ rfl ht hf
theorem b33_19 {d : Nat} {Q : Option Value → px_S → Prop} {σ : px_S} {x2 : Int32} {y0 y3 : Int64} (h : Wp d tb_33 5 [.long y0, .null, .int (x2 + (-1)), .long (((y3).toUInt64 >>> (((6 : Int32)).toInt64.toUInt64 &&& Int64.toUInt64 63)).toInt64), .null] [] σ Q) : Wp d tb_33 19 [.long y0, .null, .int x2, .long y3, .null] [] σ Q := by
  refine Wp.adv (pc' := 5) (ls' := [.long y0, .null, .int (x2 + (-1)), .long (((y3).toUInt64 >>> (((6 : Int32)).toInt64.toUInt64 &&& Int64.toUInt64 63)).toInt64), .null]) (st' := []) (σ' := σ) 6 rfl ?_
  exact h
theorem b33_30 {d : Nat} {Q : Option Value → px_S → Prop} {σ : px_S} {x2 : Int32} {y0 y3 : Int64} (h : Q (some (.int x2)) σ) : Wp d tb_33 30 [.long y0, .null, .int x2, .long y3, .null] [] σ Q := by
  refine Wp.adv (pc' := 31) (ls' := [.long y0, .null, .int x2, .long y3, .null]) (st' := [.int x2]) (σ' := σ) 1 rfl ?_
  exact Wp.ret rfl rfl h
theorem e33 {d : Nat} {Q : Option Value → px_S → Prop} {σ : px_S} {y0 : Int64} (h : Wp d tb_33 0 [.long y0, .null, .null, .null, .null] [] σ Q) : Cw (d + 1) 33 [.long y0] σ Q := Cw.of (nL := 5) (y := yX7_wordsIn) (cc := cX7_wordsIn) (rt := some .int) rfl (Nat.le_of_ble_eq_true rfl) h
theorem b34_0 {d : Nat} {Q : Option Value → px_S → Prop} {σ : px_S} {x2 : Int32} {y0 : Int64} (h : Q (some (.int (((((y0).toUInt64 >>> ((((6 : Int32) * ((7 : Int32) - x2))).toInt64.toUInt64 &&& Int64.toUInt64 63)).toInt64)).toInt32 &&& (63 : Int32)))) σ) : Wp d tb_34 0 [.long y0, .null, .int x2] [] σ Q := by
  refine Wp.adv (pc' := 13) (ls' := [.long y0, .null, .int x2]) (st' := [.int (((((y0).toUInt64 >>> ((((6 : Int32) * ((7 : Int32) - x2))).toInt64.toUInt64 &&& Int64.toUInt64 63)).toInt64)).toInt32 &&& (63 : Int32))]) (σ' := σ) 10 rfl ?_
  exact Wp.ret rfl rfl h
theorem e34 {d : Nat} {Q : Option Value → px_S → Prop} {σ : px_S} {x2 : Int32} {y0 : Int64} (h : Wp d tb_34 0 [.long y0, .null, .int x2] [] σ Q) : Cw (d + 1) 34 [.long y0, .int x2] σ Q := Cw.of (nL := 3) (y := yX7_wordAt) (cc := cX7_wordAt) (rt := some .int) rfl (Nat.le_of_ble_eq_true rfl) h
theorem b35_0 {d : Nat} {Q : Option Value → px_S → Prop} {σ : px_S} {x1 : Int32} {k : Nat} (hk : k = 3 ∨ k = 4) (h : Wp d tb_35 2 [.ref k, .int x1, .int (0 : Int32), .null] [] σ Q) : Wp d tb_35 0 [.ref k, .int x1, .null, .null] [] σ Q := by
  rcases hk with rfl | rfl
  · refine Wp.adv (pc' := 2) (ls' := [.ref 3, .int x1, .int (0 : Int32), .null]) (st' := []) (σ' := σ) 2 rfl ?_
    exact h
  · refine Wp.adv (pc' := 2) (ls' := [.ref 4, .int x1, .int (0 : Int32), .null]) (st' := []) (σ' := σ) 2 rfl ?_
    exact h
theorem b35_2 {d : Nat} {Q : Option Value → px_S → Prop} {σ : px_S} {x1 x2 : Int32} {v3 : Value} {k : Nat} (hk : k = 3 ∨ k = 4) (c1 : vp_in x1 40) (ht : (σ.1 14 (x1).toNatClampNeg) ≤ x2 → Wp d tb_35 70 [.ref k, .int x1, .int x2, v3] [] σ Q) (hf : ¬ ((σ.1 14 (x1).toNatClampNeg) ≤ x2) → Wp d tb_35 15 [.ref k, .int x1, .int x2, v3] [] σ Q) : Wp d tb_35 2 [.ref k, .int x1, .int x2, v3] [] σ Q := by
  rcases hk with rfl | rfl
  · refine Wp.adv (pc' := 11) (ls' := [.ref 3, .int x1, .int x2, v3]) (st' := [.int x1, .ref 14, .int x2]) (σ' := σ) 5 rfl ?_
    refine Wp.iald (N := 40) rfl rfl c1 ?_
    exact Wp.icmp rfl ht hf
  · refine Wp.adv (pc' := 11) (ls' := [.ref 4, .int x1, .int x2, v3]) (st' := [.int x1, .ref 14, .int x2]) (σ' := σ) 5 rfl ?_
    refine Wp.iald (N := 40) rfl rfl c1 ?_
    exact Wp.icmp rfl ht hf
theorem b35_15 {d : Nat} {Q : Option Value → px_S → Prop} {σ : px_S} {x1 x2 : Int32} {v3 : Value} {k : Nat} (hk : k = 3 ∨ k = 4) (nv3 : px_nc v3 = true) (h : Cw d 11 [.int x1, .int x2] σ (fun r τ => Wp d tb_35 20 [.ref k, .int x1, .int x2, v3] (r.toList ++ []) τ Q)) : Wp d tb_35 15 [.ref k, .int x1, .int x2, v3] [] σ Q := by
  rcases hk with rfl | rfl
  · refine Wp.adv (pc' := 17) (ls' := [.ref 3, .int x1, .int x2, v3]) (st' := [.int x2, .int x1]) (σ' := σ) 2 rfl ?_
    exact Wp.call (q := (11, 2, 0, 20)) rfl (Nat.le_of_ble_eq_true rfl) (px_okc_mk rfl rfl rfl (by simp only [List.all_cons, List.all_nil, nv3]; rfl)) h
  · refine Wp.adv (pc' := 17) (ls' := [.ref 4, .int x1, .int x2, v3]) (st' := [.int x2, .int x1]) (σ' := σ) 2 rfl ?_
    exact Wp.call (q := (11, 2, 0, 20)) rfl (Nat.le_of_ble_eq_true rfl) (px_okc_mk rfl rfl rfl (by simp only [List.all_cons, List.all_nil, nv3]; rfl)) h
theorem b35_20 {d : Nat} {Q : Option Value → px_S → Prop} {σ : px_S} {x1 x2 s0 : Int32} {v3 : Value} {k : Nat} (hk : k = 3 ∨ k = 4) (c1 : vp_in x1 40) (ht : (σ.1 (2 * k + 15) (x1).toNatClampNeg) = (-1 : Int32) → Wp d tb_35 48 [.ref k, .int x1, .int x2, .int s0] [.int s0, .ref (2 * k + 16)] σ Q) (hf : ¬ ((σ.1 (2 * k + 15) (x1).toNatClampNeg) = (-1 : Int32)) → Wp d tb_35 36 [.ref k, .int x1, .int x2, .int s0] [.int s0, .ref (2 * k + 16)] σ Q) : Wp d tb_35 20 [.ref k, .int x1, .int x2, v3] [.int s0] σ Q := by
  rcases hk with rfl | rfl
  · refine Wp.adv (pc' := 31) (ls' := [.ref 3, .int x1, .int x2, .int s0]) (st' := [.int x1, .ref (2 * 3 + 15), .int s0, .ref (2 * 3 + 16)]) (σ' := σ) 7 rfl ?_
    refine Wp.iald (N := 40) rfl rfl c1 ?_
    refine Wp.adv (pc' := 33) (ls' := [.ref 3, .int x1, .int x2, .int s0]) (st' := [.int (-1 : Int32), .int (σ.1 (2 * 3 + 15) (x1).toNatClampNeg), .int s0, .ref (2 * 3 + 16)]) (σ' := σ) 1 rfl ?_
    exact Wp.icmp rfl ht hf
  · refine Wp.adv (pc' := 31) (ls' := [.ref 4, .int x1, .int x2, .int s0]) (st' := [.int x1, .ref (2 * 4 + 15), .int s0, .ref (2 * 4 + 16)]) (σ' := σ) 7 rfl ?_
    refine Wp.iald (N := 40) rfl rfl c1 ?_
    refine Wp.adv (pc' := 33) (ls' := [.ref 4, .int x1, .int x2, .int s0]) (st' := [.int (-1 : Int32), .int (σ.1 (2 * 4 + 15) (x1).toNatClampNeg), .int s0, .ref (2 * 4 + 16)]) (σ' := σ) 1 rfl ?_
    exact Wp.icmp rfl ht hf
theorem b35_36 {d : Nat} {Q : Option Value → px_S → Prop} {σ : px_S} {x1 x2 x3 s0 : Int32} {k : Nat} (hk : k = 3 ∨ k = 4) (c1 : vp_in x3 560) (ht : ¬ (σ.1 16 (x3).toNatClampNeg) = 0 → Wp d tb_35 52 [.ref k, .int x1, .int x2, .int x3] [.int s0, .ref (2 * k + 16)] σ Q) (hf : ¬ (¬ (σ.1 16 (x3).toNatClampNeg) = 0) → Wp d tb_35 48 [.ref k, .int x1, .int x2, .int x3] [.int s0, .ref (2 * k + 16)] σ Q) : Wp d tb_35 36 [.ref k, .int x1, .int x2, .int x3] [.int s0, .ref (2 * k + 16)] σ Q := by
  rcases hk with rfl | rfl
  · refine Wp.adv (pc' := 44) (ls' := [.ref 3, .int x1, .int x2, .int x3]) (st' := [.int x3, .ref 16, .int s0, .ref (2 * 3 + 16)]) (σ' := σ) 4 rfl ?_
    refine Wp.iald (N := 560) rfl rfl c1 ?_
    exact Wp.if_ rfl ht hf
  · refine Wp.adv (pc' := 44) (ls' := [.ref 4, .int x1, .int x2, .int x3]) (st' := [.int x3, .ref 16, .int s0, .ref (2 * 4 + 16)]) (σ' := σ) 4 rfl ?_
    refine Wp.iald (N := 560) rfl rfl c1 ?_
    exact Wp.if_ rfl ht hf
theorem b35_48 {d : Nat} {Q : Option Value → px_S → Prop} {σ : px_S} {x1 x2 x3 s0 : Int32} {k : Nat} (hk : k = 3 ∨ k = 4) (h : Wp d tb_35 63 [.ref k, .int x1, .int x2, .int x3] [.int (-1 : Int32), .int s0, .ref (2 * k + 16)] σ Q) : Wp d tb_35 48 [.ref k, .int x1, .int x2, .int x3] [.int s0, .ref (2 * k + 16)] σ Q := by
  rcases hk with rfl | rfl
  · refine Wp.adv (pc' := 63) (ls' := [.ref 3, .int x1, .int x2, .int x3]) (st' := [.int (-1 : Int32), .int s0, .ref (2 * 3 + 16)]) (σ' := σ) 2 rfl ?_
    exact h
  · refine Wp.adv (pc' := 63) (ls' := [.ref 4, .int x1, .int x2, .int x3]) (st' := [.int (-1 : Int32), .int s0, .ref (2 * 4 + 16)]) (σ' := σ) 2 rfl ?_
    exact h
theorem b35_52 {d : Nat} {Q : Option Value → px_S → Prop} {σ : px_S} {x1 x2 x3 s0 : Int32} {k : Nat} (hk : k = 3 ∨ k = 4) (c1 : vp_in x1 40) (h : Cw d 36 [.ref k, .int x3, .int (σ.1 (2 * k + 15) (x1).toNatClampNeg)] σ (fun r τ => Wp d tb_35 63 [.ref k, .int x1, .int x2, .int x3] (r.toList ++ [.int s0, .ref (2 * k + 16)]) τ Q)) : Wp d tb_35 52 [.ref k, .int x1, .int x2, .int x3] [.int s0, .ref (2 * k + 16)] σ Q := by
  rcases hk with rfl | rfl
  · refine Wp.adv (pc' := 59) (ls' := [.ref 3, .int x1, .int x2, .int x3]) (st' := [.int x1, .ref (2 * 3 + 15), .int x3, .ref 3, .int s0, .ref (2 * 3 + 16)]) (σ' := σ) 5 rfl ?_
    refine Wp.iald (N := 40) rfl rfl c1 ?_
    exact Wp.call (q := (36, 3, 3, 63)) rfl (Nat.le_of_ble_eq_true rfl) rfl h
  · refine Wp.adv (pc' := 59) (ls' := [.ref 4, .int x1, .int x2, .int x3]) (st' := [.int x1, .ref (2 * 4 + 15), .int x3, .ref 4, .int s0, .ref (2 * 4 + 16)]) (σ' := σ) 5 rfl ?_
    refine Wp.iald (N := 40) rfl rfl c1 ?_
    exact Wp.call (q := (36, 3, 3, 63)) rfl (Nat.le_of_ble_eq_true rfl) rfl h
theorem b35_63 {d : Nat} {Q : Option Value → px_S → Prop} {σ : px_S} {x1 x2 x3 s0 s1 : Int32} {k : Nat} (hk : k = 3 ∨ k = 4) (c1 : vp_in s1 560) (h : Wp d tb_35 64 [.ref k, .int x1, .int x2, .int x3] [] (px_uI σ (2 * k + 16) (s1).toNatClampNeg s0) Q) : Wp d tb_35 63 [.ref k, .int x1, .int x2, .int x3] [.int s0, .int s1, .ref (2 * k + 16)] σ Q := by
  rcases hk with rfl | rfl
  · refine Wp.iast (N := 560) rfl rfl c1 ?_
    exact h
  · refine Wp.iast (N := 560) rfl rfl c1 ?_
    exact h
theorem b35_64 {d : Nat} {Q : Option Value → px_S → Prop} {σ : px_S} {x1 x2 x3 : Int32} {k : Nat} (hk : k = 3 ∨ k = 4) (h : Wp d tb_35 2 [.ref k, .int x1, .int (x2 + 1), .int x3] [] σ Q) : Wp d tb_35 64 [.ref k, .int x1, .int x2, .int x3] [] σ Q := by
  rcases hk with rfl | rfl
  · refine Wp.adv (pc' := 2) (ls' := [.ref 3, .int x1, .int (x2 + 1), .int x3]) (st' := []) (σ' := σ) 2 rfl ?_
    exact h
  · refine Wp.adv (pc' := 2) (ls' := [.ref 4, .int x1, .int (x2 + 1), .int x3]) (st' := []) (σ' := σ) 2 rfl ?_
    exact h
theorem b35_70 {d : Nat} {Q : Option Value → px_S → Prop} {σ : px_S} {x1 x2 : Int32} {v3 : Value} {k : Nat} (hk : k = 3 ∨ k = 4) (h : Q none σ) : Wp d tb_35 70 [.ref k, .int x1, .int x2, v3] [] σ Q := by
  rcases hk with rfl | rfl
  · exact Wp.ret rfl rfl h
  · exact Wp.ret rfl rfl h
theorem e35 {d : Nat} {Q : Option Value → px_S → Prop} {σ : px_S} {x1 : Int32} {k : Nat} (h : Wp d tb_35 0 [.ref k, .int x1, .null, .null] [] σ Q) : Cw (d + 1) 35 [.ref k, .int x1] σ Q := Cw.of (nL := 4) (y := yX2_holdLines) (cc := cX2_holdLines) (rt := none) rfl (Nat.le_of_ble_eq_true rfl) h
theorem b36_0 {d : Nat} {Q : Option Value → px_S → Prop} {σ : px_S} {x1 x2 : Int32} {k : Nat} (hk : k = 3 ∨ k = 4) (h : Wp d tb_36 2 [.ref k, .int x1, .int x2, .int (0 : Int32), .null] [] σ Q) : Wp d tb_36 0 [.ref k, .int x1, .int x2, .null, .null] [] σ Q := by
  rcases hk with rfl | rfl
  · refine Wp.adv (pc' := 2) (ls' := [.ref 3, .int x1, .int x2, .int (0 : Int32), .null]) (st' := []) (σ' := σ) 2 rfl ?_
    exact h
  · refine Wp.adv (pc' := 2) (ls' := [.ref 4, .int x1, .int x2, .int (0 : Int32), .null]) (st' := []) (σ' := σ) 2 rfl ?_
    exact h
theorem b36_2 {d : Nat} {Q : Option Value → px_S → Prop} {σ : px_S} {x1 x2 x3 : Int32} {v4 : Value} {k : Nat} (hk : k = 3 ∨ k = 4) (c1 : vp_in x2 40) (ht : (σ.1 14 (x2).toNatClampNeg) ≤ x3 → Wp d tb_36 78 [.ref k, .int x1, .int x2, .int x3, v4] [] σ Q) (hf : ¬ ((σ.1 14 (x2).toNatClampNeg) ≤ x3) → Wp d tb_36 15 [.ref k, .int x1, .int x2, .int x3, v4] [] σ Q) : Wp d tb_36 2 [.ref k, .int x1, .int x2, .int x3, v4] [] σ Q := by
  rcases hk with rfl | rfl
  · refine Wp.adv (pc' := 11) (ls' := [.ref 3, .int x1, .int x2, .int x3, v4]) (st' := [.int x2, .ref 14, .int x3]) (σ' := σ) 5 rfl ?_
    refine Wp.iald (N := 40) rfl rfl c1 ?_
    exact Wp.icmp rfl ht hf
  · refine Wp.adv (pc' := 11) (ls' := [.ref 4, .int x1, .int x2, .int x3, v4]) (st' := [.int x2, .ref 14, .int x3]) (σ' := σ) 5 rfl ?_
    refine Wp.iald (N := 40) rfl rfl c1 ?_
    exact Wp.icmp rfl ht hf
theorem b36_15 {d : Nat} {Q : Option Value → px_S → Prop} {σ : px_S} {x1 x2 x3 : Int32} {v4 : Value} {k : Nat} (hk : k = 3 ∨ k = 4) (nv4 : px_nc v4 = true) (h : Cw d 11 [.int x2, .int x3] σ (fun r τ => Wp d tb_36 20 [.ref k, .int x1, .int x2, .int x3, v4] (r.toList ++ []) τ Q)) : Wp d tb_36 15 [.ref k, .int x1, .int x2, .int x3, v4] [] σ Q := by
  rcases hk with rfl | rfl
  · refine Wp.adv (pc' := 17) (ls' := [.ref 3, .int x1, .int x2, .int x3, v4]) (st' := [.int x3, .int x2]) (σ' := σ) 2 rfl ?_
    exact Wp.call (q := (11, 2, 0, 20)) rfl (Nat.le_of_ble_eq_true rfl) (px_okc_mk rfl rfl rfl (by simp only [List.all_cons, List.all_nil, nv4]; rfl)) h
  · refine Wp.adv (pc' := 17) (ls' := [.ref 4, .int x1, .int x2, .int x3, v4]) (st' := [.int x3, .int x2]) (σ' := σ) 2 rfl ?_
    exact Wp.call (q := (11, 2, 0, 20)) rfl (Nat.le_of_ble_eq_true rfl) (px_okc_mk rfl rfl rfl (by simp only [List.all_cons, List.all_nil, nv4]; rfl)) h
theorem b36_20 {d : Nat} {Q : Option Value → px_S → Prop} {σ : px_S} {x1 x2 x3 s0 : Int32} {v4 : Value} {k : Nat} (hk : k = 3 ∨ k = 4) (c1 : vp_in s0 560) (c2 : vp_in x1 560) (ht : ¬ (lg_cmp (σ.2.1 17 (s0).toNatClampNeg) (σ.2.1 17 (x1).toNatClampNeg)) = 0 → Wp d tb_36 72 [.ref k, .int x1, .int x2, .int x3, .int s0] [] σ Q) (hf : ¬ (¬ (lg_cmp (σ.2.1 17 (s0).toNatClampNeg) (σ.2.1 17 (x1).toNatClampNeg)) = 0) → Wp d tb_36 45 [.ref k, .int x1, .int x2, .int x3, .int s0] [] σ Q) : Wp d tb_36 20 [.ref k, .int x1, .int x2, .int x3, v4] [.int s0] σ Q := by
  rcases hk with rfl | rfl
  · refine Wp.adv (pc' := 31) (ls' := [.ref 3, .int x1, .int x2, .int x3, .int s0]) (st' := [.int s0, .ref 17]) (σ' := σ) 5 rfl ?_
    refine Wp.lald (N := 560) rfl rfl c1 ?_
    refine Wp.adv (pc' := 40) (ls' := [.ref 3, .int x1, .int x2, .int x3, .int s0]) (st' := [.int x1, .ref 17, .long (σ.2.1 17 (s0).toNatClampNeg)]) (σ' := σ) 4 rfl ?_
    refine Wp.lald (N := 560) rfl rfl c2 ?_
    refine Wp.adv (pc' := 42) (ls' := [.ref 3, .int x1, .int x2, .int x3, .int s0]) (st' := [.int (lg_cmp (σ.2.1 17 (s0).toNatClampNeg) (σ.2.1 17 (x1).toNatClampNeg))]) (σ' := σ) 1 rfl ?_
    exact Wp.if_ rfl ht hf
  · refine Wp.adv (pc' := 31) (ls' := [.ref 4, .int x1, .int x2, .int x3, .int s0]) (st' := [.int s0, .ref 17]) (σ' := σ) 5 rfl ?_
    refine Wp.lald (N := 560) rfl rfl c1 ?_
    refine Wp.adv (pc' := 40) (ls' := [.ref 4, .int x1, .int x2, .int x3, .int s0]) (st' := [.int x1, .ref 17, .long (σ.2.1 17 (s0).toNatClampNeg)]) (σ' := σ) 4 rfl ?_
    refine Wp.lald (N := 560) rfl rfl c2 ?_
    refine Wp.adv (pc' := 42) (ls' := [.ref 4, .int x1, .int x2, .int x3, .int s0]) (st' := [.int (lg_cmp (σ.2.1 17 (s0).toNatClampNeg) (σ.2.1 17 (x1).toNatClampNeg))]) (σ' := σ) 1 rfl ?_
    exact Wp.if_ rfl ht hf
theorem b36_45 {d : Nat} {Q : Option Value → px_S → Prop} {σ : px_S} {x1 x2 x3 x4 : Int32} {k : Nat} (hk : k = 3 ∨ k = 4) (c1 : vp_in x4 560) (c2 : vp_in x1 560) (ht : ¬ (σ.1 16 (x4).toNatClampNeg) = ((σ.1 16 (x1).toNatClampNeg) - (1 : Int32)) → Wp d tb_36 72 [.ref k, .int x1, .int x2, .int x3, .int x4] [] σ Q) (hf : ¬ (¬ (σ.1 16 (x4).toNatClampNeg) = ((σ.1 16 (x1).toNatClampNeg) - (1 : Int32))) → Wp d tb_36 69 [.ref k, .int x1, .int x2, .int x3, .int x4] [] σ Q) : Wp d tb_36 45 [.ref k, .int x1, .int x2, .int x3, .int x4] [] σ Q := by
  rcases hk with rfl | rfl
  · refine Wp.adv (pc' := 54) (ls' := [.ref 3, .int x1, .int x2, .int x3, .int x4]) (st' := [.int x4, .ref 16]) (σ' := σ) 4 rfl ?_
    refine Wp.iald (N := 560) rfl rfl c1 ?_
    refine Wp.adv (pc' := 63) (ls' := [.ref 3, .int x1, .int x2, .int x3, .int x4]) (st' := [.int x1, .ref 16, .int (σ.1 16 (x4).toNatClampNeg)]) (σ' := σ) 4 rfl ?_
    refine Wp.iald (N := 560) rfl rfl c2 ?_
    refine Wp.adv (pc' := 66) (ls' := [.ref 3, .int x1, .int x2, .int x3, .int x4]) (st' := [.int ((σ.1 16 (x1).toNatClampNeg) - (1 : Int32)), .int (σ.1 16 (x4).toNatClampNeg)]) (σ' := σ) 2 rfl ?_
    exact Wp.icmp rfl ht hf
  · refine Wp.adv (pc' := 54) (ls' := [.ref 4, .int x1, .int x2, .int x3, .int x4]) (st' := [.int x4, .ref 16]) (σ' := σ) 4 rfl ?_
    refine Wp.iald (N := 560) rfl rfl c1 ?_
    refine Wp.adv (pc' := 63) (ls' := [.ref 4, .int x1, .int x2, .int x3, .int x4]) (st' := [.int x1, .ref 16, .int (σ.1 16 (x4).toNatClampNeg)]) (σ' := σ) 4 rfl ?_
    refine Wp.iald (N := 560) rfl rfl c2 ?_
    refine Wp.adv (pc' := 66) (ls' := [.ref 4, .int x1, .int x2, .int x3, .int x4]) (st' := [.int ((σ.1 16 (x1).toNatClampNeg) - (1 : Int32)), .int (σ.1 16 (x4).toNatClampNeg)]) (σ' := σ) 2 rfl ?_
    exact Wp.icmp rfl ht hf
theorem b36_69 {d : Nat} {Q : Option Value → px_S → Prop} {σ : px_S} {x1 x2 x3 x4 : Int32} {k : Nat} (hk : k = 3 ∨ k = 4) (h : Q (some (.int x4)) σ) : Wp d tb_36 69 [.ref k, .int x1, .int x2, .int x3, .int x4] [] σ Q := by
  rcases hk with rfl | rfl
  · refine Wp.adv (pc' := 71) (ls' := [.ref 3, .int x1, .int x2, .int x3, .int x4]) (st' := [.int x4]) (σ' := σ) 1 rfl ?_
    exact Wp.ret rfl rfl h
  · refine Wp.adv (pc' := 71) (ls' := [.ref 4, .int x1, .int x2, .int x3, .int x4]) (st' := [.int x4]) (σ' := σ) 1 rfl ?_
    exact Wp.ret rfl rfl h
theorem b36_72 {d : Nat} {Q : Option Value → px_S → Prop} {σ : px_S} {x1 x2 x3 x4 : Int32} {k : Nat} (hk : k = 3 ∨ k = 4) (h : Wp d tb_36 2 [.ref k, .int x1, .int x2, .int (x3 + 1), .int x4] [] σ Q) : Wp d tb_36 72 [.ref k, .int x1, .int x2, .int x3, .int x4] [] σ Q := by
  rcases hk with rfl | rfl
  · refine Wp.adv (pc' := 2) (ls' := [.ref 3, .int x1, .int x2, .int (x3 + 1), .int x4]) (st' := []) (σ' := σ) 2 rfl ?_
    exact h
  · refine Wp.adv (pc' := 2) (ls' := [.ref 4, .int x1, .int x2, .int (x3 + 1), .int x4]) (st' := []) (σ' := σ) 2 rfl ?_
    exact h
theorem b36_78 {d : Nat} {Q : Option Value → px_S → Prop} {σ : px_S} {x1 x2 x3 : Int32} {v4 : Value} {k : Nat} (hk : k = 3 ∨ k = 4) (h : Wp d tb_36 80 [.ref k, .int x1, .int x2, .int (0 : Int32), v4] [] σ Q) : Wp d tb_36 78 [.ref k, .int x1, .int x2, .int x3, v4] [] σ Q := by
  rcases hk with rfl | rfl
  · refine Wp.adv (pc' := 80) (ls' := [.ref 3, .int x1, .int x2, .int (0 : Int32), v4]) (st' := []) (σ' := σ) 2 rfl ?_
    exact h
  · refine Wp.adv (pc' := 80) (ls' := [.ref 4, .int x1, .int x2, .int (0 : Int32), v4]) (st' := []) (σ' := σ) 2 rfl ?_
    exact h
theorem b36_80 {d : Nat} {Q : Option Value → px_S → Prop} {σ : px_S} {x1 x2 x3 : Int32} {v4 : Value} {k : Nat} (hk : k = 3 ∨ k = 4) (c1 : vp_in x2 40) (ht : (σ.1 14 (x2).toNatClampNeg) ≤ x3 → Wp d tb_36 121 [.ref k, .int x1, .int x2, .int x3, v4] [] σ Q) (hf : ¬ ((σ.1 14 (x2).toNatClampNeg) ≤ x3) → Wp d tb_36 93 [.ref k, .int x1, .int x2, .int x3, v4] [] σ Q) : Wp d tb_36 80 [.ref k, .int x1, .int x2, .int x3, v4] [] σ Q := by
  rcases hk with rfl | rfl
  · refine Wp.adv (pc' := 89) (ls' := [.ref 3, .int x1, .int x2, .int x3, v4]) (st' := [.int x2, .ref 14, .int x3]) (σ' := σ) 5 rfl ?_
    refine Wp.iald (N := 40) rfl rfl c1 ?_
    exact Wp.icmp rfl ht hf
  · refine Wp.adv (pc' := 89) (ls' := [.ref 4, .int x1, .int x2, .int x3, v4]) (st' := [.int x2, .ref 14, .int x3]) (σ' := σ) 5 rfl ?_
    refine Wp.iald (N := 40) rfl rfl c1 ?_
    exact Wp.icmp rfl ht hf
theorem b36_93 {d : Nat} {Q : Option Value → px_S → Prop} {σ : px_S} {x1 x2 x3 : Int32} {v4 : Value} {k : Nat} (hk : k = 3 ∨ k = 4) (nv4 : px_nc v4 = true) (h : Cw d 11 [.int x2, .int x3] σ (fun r τ => Wp d tb_36 103 [.ref k, .int x1, .int x2, .int x3, v4] (r.toList ++ [.int x1, .ref 2]) τ Q)) : Wp d tb_36 93 [.ref k, .int x1, .int x2, .int x3, v4] [] σ Q := by
  rcases hk with rfl | rfl
  · refine Wp.adv (pc' := 100) (ls' := [.ref 3, .int x1, .int x2, .int x3, v4]) (st' := [.int x3, .int x2, .int x1, .ref 2]) (σ' := σ) 5 rfl ?_
    exact Wp.call (q := (11, 2, 0, 103)) rfl (Nat.le_of_ble_eq_true rfl) (px_okc_mk rfl rfl rfl (by simp only [List.all_cons, List.all_nil, nv4]; rfl)) h
  · refine Wp.adv (pc' := 100) (ls' := [.ref 4, .int x1, .int x2, .int x3, v4]) (st' := [.int x3, .int x2, .int x1, .ref 2]) (σ' := σ) 5 rfl ?_
    exact Wp.call (q := (11, 2, 0, 103)) rfl (Nat.le_of_ble_eq_true rfl) (px_okc_mk rfl rfl rfl (by simp only [List.all_cons, List.all_nil, nv4]; rfl)) h
theorem b36_103 {d : Nat} {Q : Option Value → px_S → Prop} {σ : px_S} {x1 x2 x3 s0 s1 : Int32} {v4 : Value} {k : Nat} (hk : k = 3 ∨ k = 4) (nv4 : px_nc v4 = true) (h : Cw d 31 [.ref 2, .int s1, .int s0] σ (fun r τ => Wp d tb_36 106 [.ref k, .int x1, .int x2, .int x3, v4] (r.toList ++ []) τ Q)) : Wp d tb_36 103 [.ref k, .int x1, .int x2, .int x3, v4] [.int s0, .int s1, .ref 2] σ Q := by
  rcases hk with rfl | rfl
  · exact Wp.call (q := (31, 3, 1, 106)) rfl (Nat.le_of_ble_eq_true rfl) (px_okc_mk rfl rfl rfl (by simp only [List.all_cons, List.all_nil, nv4]; rfl)) h
  · exact Wp.call (q := (31, 3, 1, 106)) rfl (Nat.le_of_ble_eq_true rfl) (px_okc_mk rfl rfl rfl (by simp only [List.all_cons, List.all_nil, nv4]; rfl)) h
theorem b36_106 {d : Nat} {Q : Option Value → px_S → Prop} {σ : px_S} {x1 x2 x3 s0 : Int32} {v4 : Value} {k : Nat} (hk : k = 3 ∨ k = 4) (ht : s0 = 0 → Wp d tb_36 115 [.ref k, .int x1, .int x2, .int x3, v4] [] σ Q) (hf : ¬ (s0 = 0) → Wp d tb_36 109 [.ref k, .int x1, .int x2, .int x3, v4] [] σ Q) : Wp d tb_36 106 [.ref k, .int x1, .int x2, .int x3, v4] [.int s0] σ Q := by
  rcases hk with rfl | rfl
  · exact Wp.if_ rfl ht hf
  · exact Wp.if_ rfl ht hf
theorem b36_109 {d : Nat} {Q : Option Value → px_S → Prop} {σ : px_S} {x1 x2 x3 : Int32} {v4 : Value} {k : Nat} (hk : k = 3 ∨ k = 4) (nv4 : px_nc v4 = true) (h : Cw d 11 [.int x2, .int x3] σ (fun r τ => Wp d tb_36 114 [.ref k, .int x1, .int x2, .int x3, v4] (r.toList ++ []) τ Q)) : Wp d tb_36 109 [.ref k, .int x1, .int x2, .int x3, v4] [] σ Q := by
  rcases hk with rfl | rfl
  · refine Wp.adv (pc' := 111) (ls' := [.ref 3, .int x1, .int x2, .int x3, v4]) (st' := [.int x3, .int x2]) (σ' := σ) 2 rfl ?_
    exact Wp.call (q := (11, 2, 0, 114)) rfl (Nat.le_of_ble_eq_true rfl) (px_okc_mk rfl rfl rfl (by simp only [List.all_cons, List.all_nil, nv4]; rfl)) h
  · refine Wp.adv (pc' := 111) (ls' := [.ref 4, .int x1, .int x2, .int x3, v4]) (st' := [.int x3, .int x2]) (σ' := σ) 2 rfl ?_
    exact Wp.call (q := (11, 2, 0, 114)) rfl (Nat.le_of_ble_eq_true rfl) (px_okc_mk rfl rfl rfl (by simp only [List.all_cons, List.all_nil, nv4]; rfl)) h
theorem b36_114 {d : Nat} {Q : Option Value → px_S → Prop} {σ : px_S} {x1 x2 x3 s0 : Int32} {v4 : Value} {k : Nat} (hk : k = 3 ∨ k = 4) (h : Q (some (.int s0)) σ) : Wp d tb_36 114 [.ref k, .int x1, .int x2, .int x3, v4] [.int s0] σ Q := by
  rcases hk with rfl | rfl
  · exact Wp.ret rfl rfl h
  · exact Wp.ret rfl rfl h
theorem b36_115 {d : Nat} {Q : Option Value → px_S → Prop} {σ : px_S} {x1 x2 x3 : Int32} {v4 : Value} {k : Nat} (hk : k = 3 ∨ k = 4) (h : Wp d tb_36 80 [.ref k, .int x1, .int x2, .int (x3 + 1), v4] [] σ Q) : Wp d tb_36 115 [.ref k, .int x1, .int x2, .int x3, v4] [] σ Q := by
  rcases hk with rfl | rfl
  · refine Wp.adv (pc' := 80) (ls' := [.ref 3, .int x1, .int x2, .int (x3 + 1), v4]) (st' := []) (σ' := σ) 2 rfl ?_
    exact h
  · refine Wp.adv (pc' := 80) (ls' := [.ref 4, .int x1, .int x2, .int (x3 + 1), v4]) (st' := []) (σ' := σ) 2 rfl ?_
    exact h
theorem b36_121 {d : Nat} {Q : Option Value → px_S → Prop} {σ : px_S} {x1 x2 x3 : Int32} {v4 : Value} {k : Nat} (hk : k = 3 ∨ k = 4) (h : Q (some (.int (-1 : Int32))) σ) : Wp d tb_36 121 [.ref k, .int x1, .int x2, .int x3, v4] [] σ Q := by
  rcases hk with rfl | rfl
  · refine Wp.adv (pc' := 122) (ls' := [.ref 3, .int x1, .int x2, .int x3, v4]) (st' := [.int (-1 : Int32)]) (σ' := σ) 1 rfl ?_
    exact Wp.ret rfl rfl h
  · refine Wp.adv (pc' := 122) (ls' := [.ref 4, .int x1, .int x2, .int x3, v4]) (st' := [.int (-1 : Int32)]) (σ' := σ) 1 rfl ?_
    exact Wp.ret rfl rfl h
theorem e36 {d : Nat} {Q : Option Value → px_S → Prop} {σ : px_S} {x1 x2 : Int32} {k : Nat} (h : Wp d tb_36 0 [.ref k, .int x1, .int x2, .null, .null] [] σ Q) : Cw (d + 1) 36 [.ref k, .int x1, .int x2] σ Q := Cw.of (nL := 5) (y := yX2_findHeld) (cc := cX2_findHeld) (rt := some .int) rfl (Nat.le_of_ble_eq_true rfl) h
theorem b37_0 {d : Nat} {Q : Option Value → px_S → Prop} {σ : px_S} {x1 x2 : Int32} (hd : (x2).toInt < 6 ∨ 10 < (x2).toInt → Wp d tb_37 82 [.ref 0, .int x1, .int x2] [] σ Q) (hs : ∀ (j t : Nat), ([36, 46, 55, 64, 73] : List Nat)[j]? = some t → (x2).toInt = 6 + (j : Int) → Wp d tb_37 t [.ref 0, .int x1, .int x2] [] σ Q) : Wp d tb_37 0 [.ref 0, .int x1, .int x2] [] σ Q := by
  refine Wp.adv (pc' := 1) (ls' := [.ref 0, .int x1, .int x2]) (st' := [.int x2]) (σ' := σ) 1 rfl ?_
  exact Wp.tsw rfl rfl hd hs
theorem b37_36 {d : Nat} {Q : Option Value → px_S → Prop} {σ : px_S} {x1 x2 : Int32} (c1 : vp_in x1 40) (h : Q (some (.int (σ.1 21 (x1).toNatClampNeg))) σ) : Wp d tb_37 36 [.ref 0, .int x1, .int x2] [] σ Q := by
  refine Wp.adv (pc' := 44) (ls' := [.ref 0, .int x1, .int x2]) (st' := [.int x1, .ref 21]) (σ' := σ) 4 rfl ?_
  refine Wp.iald (N := 40) rfl rfl c1 ?_
  exact Wp.ret rfl rfl h
theorem b37_46 {d : Nat} {Q : Option Value → px_S → Prop} {σ : px_S} {x1 x2 : Int32} (h : Cw d 38 [.ref 3, .int x1] σ (fun r τ => Wp d tb_37 54 [.ref 0, .int x1, .int x2] (r.toList ++ []) τ Q)) : Wp d tb_37 46 [.ref 0, .int x1, .int x2] [] σ Q := by
  refine Wp.adv (pc' := 51) (ls' := [.ref 0, .int x1, .int x2]) (st' := [.int x1, .ref 3]) (σ' := σ) 3 rfl ?_
  exact Wp.call (q := (38, 2, 3, 54)) rfl (Nat.le_of_ble_eq_true rfl) rfl h
theorem b37_54 {d : Nat} {Q : Option Value → px_S → Prop} {σ : px_S} {x1 x2 s0 : Int32} (h : Q (some (.int s0)) σ) : Wp d tb_37 54 [.ref 0, .int x1, .int x2] [.int s0] σ Q := by
  exact Wp.ret rfl rfl h
theorem b37_55 {d : Nat} {Q : Option Value → px_S → Prop} {σ : px_S} {x1 x2 : Int32} (h : Cw d 39 [.ref 3, .int x1] σ (fun r τ => Wp d tb_37 63 [.ref 0, .int x1, .int x2] (r.toList ++ []) τ Q)) : Wp d tb_37 55 [.ref 0, .int x1, .int x2] [] σ Q := by
  refine Wp.adv (pc' := 60) (ls' := [.ref 0, .int x1, .int x2]) (st' := [.int x1, .ref 3]) (σ' := σ) 3 rfl ?_
  exact Wp.call (q := (39, 2, 3, 63)) rfl (Nat.le_of_ble_eq_true rfl) rfl h
theorem b37_63 {d : Nat} {Q : Option Value → px_S → Prop} {σ : px_S} {x1 x2 s0 : Int32} (h : Q (some (.int s0)) σ) : Wp d tb_37 63 [.ref 0, .int x1, .int x2] [.int s0] σ Q := by
  exact Wp.ret rfl rfl h
theorem b37_64 {d : Nat} {Q : Option Value → px_S → Prop} {σ : px_S} {x1 x2 : Int32} (h : Cw d 40 [.ref 3, .int x1] σ (fun r τ => Wp d tb_37 72 [.ref 0, .int x1, .int x2] (r.toList ++ []) τ Q)) : Wp d tb_37 64 [.ref 0, .int x1, .int x2] [] σ Q := by
  refine Wp.adv (pc' := 69) (ls' := [.ref 0, .int x1, .int x2]) (st' := [.int x1, .ref 3]) (σ' := σ) 3 rfl ?_
  exact Wp.call (q := (40, 2, 3, 72)) rfl (Nat.le_of_ble_eq_true rfl) rfl h
theorem b37_72 {d : Nat} {Q : Option Value → px_S → Prop} {σ : px_S} {x1 x2 s0 : Int32} (h : Q (some (.int s0)) σ) : Wp d tb_37 72 [.ref 0, .int x1, .int x2] [.int s0] σ Q := by
  exact Wp.ret rfl rfl h
theorem b37_73 {d : Nat} {Q : Option Value → px_S → Prop} {σ : px_S} {x1 x2 : Int32} (h : Cw d 41 [.ref 3, .int x1] σ (fun r τ => Wp d tb_37 81 [.ref 0, .int x1, .int x2] (r.toList ++ []) τ Q)) : Wp d tb_37 73 [.ref 0, .int x1, .int x2] [] σ Q := by
  refine Wp.adv (pc' := 78) (ls' := [.ref 0, .int x1, .int x2]) (st' := [.int x1, .ref 3]) (σ' := σ) 3 rfl ?_
  exact Wp.call (q := (41, 2, 3, 81)) rfl (Nat.le_of_ble_eq_true rfl) rfl h
theorem b37_81 {d : Nat} {Q : Option Value → px_S → Prop} {σ : px_S} {x1 x2 s0 : Int32} (h : Q (some (.int s0)) σ) : Wp d tb_37 81 [.ref 0, .int x1, .int x2] [.int s0] σ Q := by
  exact Wp.ret rfl rfl h
theorem b37_82 {d : Nat} {Q : Option Value → px_S → Prop} {σ : px_S} {x1 x2 : Int32} (c1 : vp_in x1 40) (ht : ¬ (σ.1 21 (x1).toNatClampNeg) = (-1 : Int32) → Wp d tb_37 99 [.ref 0, .int x1, .int x2] [] σ Q) (hf : ¬ (¬ (σ.1 21 (x1).toNatClampNeg) = (-1 : Int32)) → Wp d tb_37 95 [.ref 0, .int x1, .int x2] [] σ Q) : Wp d tb_37 82 [.ref 0, .int x1, .int x2] [] σ Q := by
  refine Wp.adv (pc' := 90) (ls' := [.ref 0, .int x1, .int x2]) (st' := [.int x1, .ref 21]) (σ' := σ) 4 rfl ?_
  refine Wp.iald (N := 40) rfl rfl c1 ?_
  refine Wp.adv (pc' := 92) (ls' := [.ref 0, .int x1, .int x2]) (st' := [.int (-1 : Int32), .int (σ.1 21 (x1).toNatClampNeg)]) (σ' := σ) 1 rfl ?_
  exact Wp.icmp rfl ht hf
theorem b37_95 {d : Nat} {Q : Option Value → px_S → Prop} {σ : px_S} {x1 x2 : Int32} (h : Wp d tb_37 116 [.ref 0, .int x1, .int x2] [.int (-1 : Int32)] σ Q) : Wp d tb_37 95 [.ref 0, .int x1, .int x2] [] σ Q := by
  refine Wp.adv (pc' := 116) (ls' := [.ref 0, .int x1, .int x2]) (st' := [.int (-1 : Int32)]) (σ' := σ) 2 rfl ?_
  exact h
theorem b37_99 {d : Nat} {Q : Option Value → px_S → Prop} {σ : px_S} {x1 x2 : Int32} (c1 : vp_in x1 40) (h : Cw d 29 [.ref 2, .int x1, .int (σ.1 21 (x1).toNatClampNeg)] σ (fun r τ => Wp d tb_37 116 [.ref 0, .int x1, .int x2] (r.toList ++ []) τ Q)) : Wp d tb_37 99 [.ref 0, .int x1, .int x2] [] σ Q := by
  refine Wp.adv (pc' := 112) (ls' := [.ref 0, .int x1, .int x2]) (st' := [.int x1, .ref 21, .int x1, .ref 2]) (σ' := σ) 7 rfl ?_
  refine Wp.iald (N := 40) rfl rfl c1 ?_
  exact Wp.call (q := (29, 3, 1, 116)) rfl (Nat.le_of_ble_eq_true rfl) rfl h
theorem b37_116 {d : Nat} {Q : Option Value → px_S → Prop} {σ : px_S} {x1 x2 s0 : Int32} (h : Q (some (.int s0)) σ) : Wp d tb_37 116 [.ref 0, .int x1, .int x2] [.int s0] σ Q := by
  exact Wp.ret rfl rfl h
theorem e37 {d : Nat} {Q : Option Value → px_S → Prop} {σ : px_S} {x1 x2 : Int32} (h : Wp d tb_37 0 [.ref 0, .int x1, .int x2] [] σ Q) : Cw (d + 1) 37 [.ref 0, .int x1, .int x2] σ Q := Cw.of (nL := 3) (y := yX8_aboutKin) (cc := cX8_aboutKin) (rt := some .int) rfl (Nat.le_of_ble_eq_true rfl) h
theorem b38_0 {d : Nat} {Q : Option Value → px_S → Prop} {σ : px_S} {x1 : Int32} {k : Nat} (hk : k = 3 ∨ k = 4) (h : Wp d tb_38 4 [.ref k, .int x1, .int x1, .int (0 : Int32)] [] σ Q) : Wp d tb_38 0 [.ref k, .int x1, .null, .null] [] σ Q := by
  rcases hk with rfl | rfl
  · refine Wp.adv (pc' := 4) (ls' := [.ref 3, .int x1, .int x1, .int (0 : Int32)]) (st' := []) (σ' := σ) 4 rfl ?_
    exact h
  · refine Wp.adv (pc' := 4) (ls' := [.ref 4, .int x1, .int x1, .int (0 : Int32)]) (st' := []) (σ' := σ) 4 rfl ?_
    exact h
theorem b38_4 {d : Nat} {Q : Option Value → px_S → Prop} {σ : px_S} {x1 x2 x3 : Int32} {k : Nat} (hk : k = 3 ∨ k = 4) (ht : (40 : Int32) ≤ x3 → Wp d tb_38 33 [.ref k, .int x1, .int x2, .int x3] [] σ Q) (hf : ¬ ((40 : Int32) ≤ x3) → Wp d tb_38 10 [.ref k, .int x1, .int x2, .int x3] [] σ Q) : Wp d tb_38 4 [.ref k, .int x1, .int x2, .int x3] [] σ Q := by
  rcases hk with rfl | rfl
  · refine Wp.adv (pc' := 7) (ls' := [.ref 3, .int x1, .int x2, .int x3]) (st' := [.int (40 : Int32), .int x3]) (σ' := σ) 2 rfl ?_
    exact Wp.icmp rfl ht hf
  · refine Wp.adv (pc' := 7) (ls' := [.ref 4, .int x1, .int x2, .int x3]) (st' := [.int (40 : Int32), .int x3]) (σ' := σ) 2 rfl ?_
    exact Wp.icmp rfl ht hf
theorem b38_10 {d : Nat} {Q : Option Value → px_S → Prop} {σ : px_S} {x1 x2 x3 : Int32} {k : Nat} (hk : k = 3 ∨ k = 4) (c1 : vp_in x2 40) (ht : (σ.1 (2 * k + 15) (x2).toNatClampNeg) = (-1 : Int32) → Wp d tb_38 33 [.ref k, .int x1, .int x2, .int x3] [] σ Q) (hf : ¬ ((σ.1 (2 * k + 15) (x2).toNatClampNeg) = (-1 : Int32)) → Wp d tb_38 20 [.ref k, .int x1, .int x2, .int x3] [] σ Q) : Wp d tb_38 10 [.ref k, .int x1, .int x2, .int x3] [] σ Q := by
  rcases hk with rfl | rfl
  · refine Wp.adv (pc' := 15) (ls' := [.ref 3, .int x1, .int x2, .int x3]) (st' := [.int x2, .ref (2 * 3 + 15)]) (σ' := σ) 3 rfl ?_
    refine Wp.iald (N := 40) rfl rfl c1 ?_
    refine Wp.adv (pc' := 17) (ls' := [.ref 3, .int x1, .int x2, .int x3]) (st' := [.int (-1 : Int32), .int (σ.1 (2 * 3 + 15) (x2).toNatClampNeg)]) (σ' := σ) 1 rfl ?_
    exact Wp.icmp rfl ht hf
  · refine Wp.adv (pc' := 15) (ls' := [.ref 4, .int x1, .int x2, .int x3]) (st' := [.int x2, .ref (2 * 4 + 15)]) (σ' := σ) 3 rfl ?_
    refine Wp.iald (N := 40) rfl rfl c1 ?_
    refine Wp.adv (pc' := 17) (ls' := [.ref 4, .int x1, .int x2, .int x3]) (st' := [.int (-1 : Int32), .int (σ.1 (2 * 4 + 15) (x2).toNatClampNeg)]) (σ' := σ) 1 rfl ?_
    exact Wp.icmp rfl ht hf
theorem b38_20 {d : Nat} {Q : Option Value → px_S → Prop} {σ : px_S} {x1 x2 x3 : Int32} {k : Nat} (hk : k = 3 ∨ k = 4) (c1 : vp_in x2 40) (h : Wp d tb_38 4 [.ref k, .int x1, .int (σ.1 (2 * k + 15) (x2).toNatClampNeg), .int (x3 + 1)] [] σ Q) : Wp d tb_38 20 [.ref k, .int x1, .int x2, .int x3] [] σ Q := by
  rcases hk with rfl | rfl
  · refine Wp.adv (pc' := 25) (ls' := [.ref 3, .int x1, .int x2, .int x3]) (st' := [.int x2, .ref (2 * 3 + 15)]) (σ' := σ) 3 rfl ?_
    refine Wp.iald (N := 40) rfl rfl c1 ?_
    refine Wp.adv (pc' := 4) (ls' := [.ref 3, .int x1, .int (σ.1 (2 * 3 + 15) (x2).toNatClampNeg), .int (x3 + 1)]) (st' := []) (σ' := σ) 3 rfl ?_
    exact h
  · refine Wp.adv (pc' := 25) (ls' := [.ref 4, .int x1, .int x2, .int x3]) (st' := [.int x2, .ref (2 * 4 + 15)]) (σ' := σ) 3 rfl ?_
    refine Wp.iald (N := 40) rfl rfl c1 ?_
    refine Wp.adv (pc' := 4) (ls' := [.ref 4, .int x1, .int (σ.1 (2 * 4 + 15) (x2).toNatClampNeg), .int (x3 + 1)]) (st' := []) (σ' := σ) 3 rfl ?_
    exact h
theorem b38_33 {d : Nat} {Q : Option Value → px_S → Prop} {σ : px_S} {x1 x2 x3 : Int32} {k : Nat} (hk : k = 3 ∨ k = 4) (h : Q (some (.int x2)) σ) : Wp d tb_38 33 [.ref k, .int x1, .int x2, .int x3] [] σ Q := by
  rcases hk with rfl | rfl
  · refine Wp.adv (pc' := 34) (ls' := [.ref 3, .int x1, .int x2, .int x3]) (st' := [.int x2]) (σ' := σ) 1 rfl ?_
    exact Wp.ret rfl rfl h
  · refine Wp.adv (pc' := 34) (ls' := [.ref 4, .int x1, .int x2, .int x3]) (st' := [.int x2]) (σ' := σ) 1 rfl ?_
    exact Wp.ret rfl rfl h
theorem e38 {d : Nat} {Q : Option Value → px_S → Prop} {σ : px_S} {x1 : Int32} {k : Nat} (h : Wp d tb_38 0 [.ref k, .int x1, .null, .null] [] σ Q) : Cw (d + 1) 38 [.ref k, .int x1] σ Q := Cw.of (nL := 4) (y := yX2_rootOf) (cc := cX2_rootOf) (rt := some .int) rfl (Nat.le_of_ble_eq_true rfl) h
theorem b39_0 {d : Nat} {Q : Option Value → px_S → Prop} {σ : px_S} {x1 : Int32} {k : Nat} (hk : k = 3 ∨ k = 4) (h : Wp d tb_39 4 [.ref k, .int x1, .int x1, .int (0 : Int32)] [] σ Q) : Wp d tb_39 0 [.ref k, .int x1, .null, .null] [] σ Q := by
  rcases hk with rfl | rfl
  · refine Wp.adv (pc' := 4) (ls' := [.ref 3, .int x1, .int x1, .int (0 : Int32)]) (st' := []) (σ' := σ) 4 rfl ?_
    exact h
  · refine Wp.adv (pc' := 4) (ls' := [.ref 4, .int x1, .int x1, .int (0 : Int32)]) (st' := []) (σ' := σ) 4 rfl ?_
    exact h
theorem b39_4 {d : Nat} {Q : Option Value → px_S → Prop} {σ : px_S} {x1 x2 x3 : Int32} {k : Nat} (hk : k = 3 ∨ k = 4) (ht : (40 : Int32) ≤ x3 → Wp d tb_39 33 [.ref k, .int x1, .int x2, .int x3] [] σ Q) (hf : ¬ ((40 : Int32) ≤ x3) → Wp d tb_39 10 [.ref k, .int x1, .int x2, .int x3] [] σ Q) : Wp d tb_39 4 [.ref k, .int x1, .int x2, .int x3] [] σ Q := by
  rcases hk with rfl | rfl
  · refine Wp.adv (pc' := 7) (ls' := [.ref 3, .int x1, .int x2, .int x3]) (st' := [.int (40 : Int32), .int x3]) (σ' := σ) 2 rfl ?_
    exact Wp.icmp rfl ht hf
  · refine Wp.adv (pc' := 7) (ls' := [.ref 4, .int x1, .int x2, .int x3]) (st' := [.int (40 : Int32), .int x3]) (σ' := σ) 2 rfl ?_
    exact Wp.icmp rfl ht hf
theorem b39_10 {d : Nat} {Q : Option Value → px_S → Prop} {σ : px_S} {x1 x2 x3 : Int32} {k : Nat} (hk : k = 3 ∨ k = 4) (c1 : vp_in x2 40) (ht : (σ.1 (2 * k + 15) (x2).toNatClampNeg) = (-1 : Int32) → Wp d tb_39 33 [.ref k, .int x1, .int x2, .int x3] [] σ Q) (hf : ¬ ((σ.1 (2 * k + 15) (x2).toNatClampNeg) = (-1 : Int32)) → Wp d tb_39 20 [.ref k, .int x1, .int x2, .int x3] [] σ Q) : Wp d tb_39 10 [.ref k, .int x1, .int x2, .int x3] [] σ Q := by
  rcases hk with rfl | rfl
  · refine Wp.adv (pc' := 15) (ls' := [.ref 3, .int x1, .int x2, .int x3]) (st' := [.int x2, .ref (2 * 3 + 15)]) (σ' := σ) 3 rfl ?_
    refine Wp.iald (N := 40) rfl rfl c1 ?_
    refine Wp.adv (pc' := 17) (ls' := [.ref 3, .int x1, .int x2, .int x3]) (st' := [.int (-1 : Int32), .int (σ.1 (2 * 3 + 15) (x2).toNatClampNeg)]) (σ' := σ) 1 rfl ?_
    exact Wp.icmp rfl ht hf
  · refine Wp.adv (pc' := 15) (ls' := [.ref 4, .int x1, .int x2, .int x3]) (st' := [.int x2, .ref (2 * 4 + 15)]) (σ' := σ) 3 rfl ?_
    refine Wp.iald (N := 40) rfl rfl c1 ?_
    refine Wp.adv (pc' := 17) (ls' := [.ref 4, .int x1, .int x2, .int x3]) (st' := [.int (-1 : Int32), .int (σ.1 (2 * 4 + 15) (x2).toNatClampNeg)]) (σ' := σ) 1 rfl ?_
    exact Wp.icmp rfl ht hf
theorem b39_20 {d : Nat} {Q : Option Value → px_S → Prop} {σ : px_S} {x1 x2 x3 : Int32} {k : Nat} (hk : k = 3 ∨ k = 4) (c1 : vp_in x2 40) (h : Wp d tb_39 4 [.ref k, .int x1, .int (σ.1 (2 * k + 15) (x2).toNatClampNeg), .int (x3 + 1)] [] σ Q) : Wp d tb_39 20 [.ref k, .int x1, .int x2, .int x3] [] σ Q := by
  rcases hk with rfl | rfl
  · refine Wp.adv (pc' := 25) (ls' := [.ref 3, .int x1, .int x2, .int x3]) (st' := [.int x2, .ref (2 * 3 + 15)]) (σ' := σ) 3 rfl ?_
    refine Wp.iald (N := 40) rfl rfl c1 ?_
    refine Wp.adv (pc' := 4) (ls' := [.ref 3, .int x1, .int (σ.1 (2 * 3 + 15) (x2).toNatClampNeg), .int (x3 + 1)]) (st' := []) (σ' := σ) 3 rfl ?_
    exact h
  · refine Wp.adv (pc' := 25) (ls' := [.ref 4, .int x1, .int x2, .int x3]) (st' := [.int x2, .ref (2 * 4 + 15)]) (σ' := σ) 3 rfl ?_
    refine Wp.iald (N := 40) rfl rfl c1 ?_
    refine Wp.adv (pc' := 4) (ls' := [.ref 4, .int x1, .int (σ.1 (2 * 4 + 15) (x2).toNatClampNeg), .int (x3 + 1)]) (st' := []) (σ' := σ) 3 rfl ?_
    exact h
theorem b39_33 {d : Nat} {Q : Option Value → px_S → Prop} {σ : px_S} {x1 x2 x3 : Int32} {k : Nat} (hk : k = 3 ∨ k = 4) (h : Q (some (.int x3)) σ) : Wp d tb_39 33 [.ref k, .int x1, .int x2, .int x3] [] σ Q := by
  rcases hk with rfl | rfl
  · refine Wp.adv (pc' := 34) (ls' := [.ref 3, .int x1, .int x2, .int x3]) (st' := [.int x3]) (σ' := σ) 1 rfl ?_
    exact Wp.ret rfl rfl h
  · refine Wp.adv (pc' := 34) (ls' := [.ref 4, .int x1, .int x2, .int x3]) (st' := [.int x3]) (σ' := σ) 1 rfl ?_
    exact Wp.ret rfl rfl h
theorem e39 {d : Nat} {Q : Option Value → px_S → Prop} {σ : px_S} {x1 : Int32} {k : Nat} (h : Wp d tb_39 0 [.ref k, .int x1, .null, .null] [] σ Q) : Cw (d + 1) 39 [.ref k, .int x1] σ Q := Cw.of (nL := 4) (y := yX2_stepsOf) (cc := cX2_stepsOf) (rt := some .int) rfl (Nat.le_of_ble_eq_true rfl) h
theorem b40_0 {d : Nat} {Q : Option Value → px_S → Prop} {σ : px_S} {x1 : Int32} {k : Nat} (hk : k = 3 ∨ k = 4) (h : Wp d tb_40 4 [.ref k, .int x1, .int (0 : Int32), .int (0 : Int32)] [] σ Q) : Wp d tb_40 0 [.ref k, .int x1, .null, .null] [] σ Q := by
  rcases hk with rfl | rfl
  · refine Wp.adv (pc' := 4) (ls' := [.ref 3, .int x1, .int (0 : Int32), .int (0 : Int32)]) (st' := []) (σ' := σ) 4 rfl ?_
    exact h
  · refine Wp.adv (pc' := 4) (ls' := [.ref 4, .int x1, .int (0 : Int32), .int (0 : Int32)]) (st' := []) (σ' := σ) 4 rfl ?_
    exact h
theorem b40_4 {d : Nat} {Q : Option Value → px_S → Prop} {σ : px_S} {x1 x2 x3 : Int32} {k : Nat} (hk : k = 3 ∨ k = 4) (ht : (σ.1 1 7) ≤ x3 → Wp d tb_40 34 [.ref k, .int x1, .int x2, .int x3] [] σ Q) (hf : ¬ ((σ.1 1 7) ≤ x3) → Wp d tb_40 15 [.ref k, .int x1, .int x2, .int x3] [] σ Q) : Wp d tb_40 4 [.ref k, .int x1, .int x2, .int x3] [] σ Q := by
  rcases hk with rfl | rfl
  · refine Wp.adv (pc' := 12) (ls' := [.ref 3, .int x1, .int x2, .int x3]) (st' := [.int (σ.1 1 7), .int x3]) (σ' := σ) 4 rfl ?_
    exact Wp.icmp rfl ht hf
  · refine Wp.adv (pc' := 12) (ls' := [.ref 4, .int x1, .int x2, .int x3]) (st' := [.int (σ.1 1 7), .int x3]) (σ' := σ) 4 rfl ?_
    exact Wp.icmp rfl ht hf
theorem b40_15 {d : Nat} {Q : Option Value → px_S → Prop} {σ : px_S} {x1 x2 x3 : Int32} {k : Nat} (hk : k = 3 ∨ k = 4) (c1 : vp_in x3 40) (ht : ¬ (σ.1 (2 * k + 15) (x3).toNatClampNeg) = x1 → Wp d tb_40 28 [.ref k, .int x1, .int x2, .int x3] [] σ Q) (hf : ¬ (¬ (σ.1 (2 * k + 15) (x3).toNatClampNeg) = x1) → Wp d tb_40 25 [.ref k, .int x1, .int x2, .int x3] [] σ Q) : Wp d tb_40 15 [.ref k, .int x1, .int x2, .int x3] [] σ Q := by
  rcases hk with rfl | rfl
  · refine Wp.adv (pc' := 20) (ls' := [.ref 3, .int x1, .int x2, .int x3]) (st' := [.int x3, .ref (2 * 3 + 15)]) (σ' := σ) 3 rfl ?_
    refine Wp.iald (N := 40) rfl rfl c1 ?_
    refine Wp.adv (pc' := 22) (ls' := [.ref 3, .int x1, .int x2, .int x3]) (st' := [.int x1, .int (σ.1 (2 * 3 + 15) (x3).toNatClampNeg)]) (σ' := σ) 1 rfl ?_
    exact Wp.icmp rfl ht hf
  · refine Wp.adv (pc' := 20) (ls' := [.ref 4, .int x1, .int x2, .int x3]) (st' := [.int x3, .ref (2 * 4 + 15)]) (σ' := σ) 3 rfl ?_
    refine Wp.iald (N := 40) rfl rfl c1 ?_
    refine Wp.adv (pc' := 22) (ls' := [.ref 4, .int x1, .int x2, .int x3]) (st' := [.int x1, .int (σ.1 (2 * 4 + 15) (x3).toNatClampNeg)]) (σ' := σ) 1 rfl ?_
    exact Wp.icmp rfl ht hf
theorem b40_25 {d : Nat} {Q : Option Value → px_S → Prop} {σ : px_S} {x1 x2 x3 : Int32} {k : Nat} (hk : k = 3 ∨ k = 4) (h : Wp d tb_40 28 [.ref k, .int x1, .int (x2 + 1), .int x3] [] σ Q) : Wp d tb_40 25 [.ref k, .int x1, .int x2, .int x3] [] σ Q := by
  rcases hk with rfl | rfl
  · refine Wp.adv (pc' := 28) (ls' := [.ref 3, .int x1, .int (x2 + 1), .int x3]) (st' := []) (σ' := σ) 1 rfl ?_
    exact h
  · refine Wp.adv (pc' := 28) (ls' := [.ref 4, .int x1, .int (x2 + 1), .int x3]) (st' := []) (σ' := σ) 1 rfl ?_
    exact h
theorem b40_28 {d : Nat} {Q : Option Value → px_S → Prop} {σ : px_S} {x1 x2 x3 : Int32} {k : Nat} (hk : k = 3 ∨ k = 4) (h : Wp d tb_40 4 [.ref k, .int x1, .int x2, .int (x3 + 1)] [] σ Q) : Wp d tb_40 28 [.ref k, .int x1, .int x2, .int x3] [] σ Q := by
  rcases hk with rfl | rfl
  · refine Wp.adv (pc' := 4) (ls' := [.ref 3, .int x1, .int x2, .int (x3 + 1)]) (st' := []) (σ' := σ) 2 rfl ?_
    exact h
  · refine Wp.adv (pc' := 4) (ls' := [.ref 4, .int x1, .int x2, .int (x3 + 1)]) (st' := []) (σ' := σ) 2 rfl ?_
    exact h
theorem b40_34 {d : Nat} {Q : Option Value → px_S → Prop} {σ : px_S} {x1 x2 x3 : Int32} {k : Nat} (hk : k = 3 ∨ k = 4) (h : Q (some (.int x2)) σ) : Wp d tb_40 34 [.ref k, .int x1, .int x2, .int x3] [] σ Q := by
  rcases hk with rfl | rfl
  · refine Wp.adv (pc' := 35) (ls' := [.ref 3, .int x1, .int x2, .int x3]) (st' := [.int x2]) (σ' := σ) 1 rfl ?_
    exact Wp.ret rfl rfl h
  · refine Wp.adv (pc' := 35) (ls' := [.ref 4, .int x1, .int x2, .int x3]) (st' := [.int x2]) (σ' := σ) 1 rfl ?_
    exact Wp.ret rfl rfl h
theorem e40 {d : Nat} {Q : Option Value → px_S → Prop} {σ : px_S} {x1 : Int32} {k : Nat} (h : Wp d tb_40 0 [.ref k, .int x1, .null, .null] [] σ Q) : Cw (d + 1) 40 [.ref k, .int x1] σ Q := Cw.of (nL := 4) (y := yX2_childrenOf) (cc := cX2_childrenOf) (rt := some .int) rfl (Nat.le_of_ble_eq_true rfl) h
theorem b41_0 {d : Nat} {Q : Option Value → px_S → Prop} {σ : px_S} {x1 : Int32} {k : Nat} (hk : k = 3 ∨ k = 4) (h : Cw d 38 [.ref k, .int x1] σ (fun r τ => Wp d tb_41 5 [.ref k, .int x1, .null, .null, .null] (r.toList ++ []) τ Q)) : Wp d tb_41 0 [.ref k, .int x1, .null, .null, .null] [] σ Q := by
  rcases hk with rfl | rfl
  · refine Wp.adv (pc' := 2) (ls' := [.ref 3, .int x1, .null, .null, .null]) (st' := [.int x1, .ref 3]) (σ' := σ) 2 rfl ?_
    exact Wp.call (q := (38, 2, 3, 5)) rfl (Nat.le_of_ble_eq_true rfl) rfl h
  · refine Wp.adv (pc' := 2) (ls' := [.ref 4, .int x1, .null, .null, .null]) (st' := [.int x1, .ref 4]) (σ' := σ) 2 rfl ?_
    exact Wp.call (q := (38, 2, 3, 5)) rfl (Nat.le_of_ble_eq_true rfl) rfl h
theorem b41_5 {d : Nat} {Q : Option Value → px_S → Prop} {σ : px_S} {x1 s0 : Int32} {k : Nat} (hk : k = 3 ∨ k = 4) (h : Wp d tb_41 11 [.ref k, .int x1, .int s0, .int (0 : Int32), .int (0 : Int32)] [] σ Q) : Wp d tb_41 5 [.ref k, .int x1, .null, .null, .null] [.int s0] σ Q := by
  rcases hk with rfl | rfl
  · refine Wp.adv (pc' := 11) (ls' := [.ref 3, .int x1, .int s0, .int (0 : Int32), .int (0 : Int32)]) (st' := []) (σ' := σ) 5 rfl ?_
    exact h
  · refine Wp.adv (pc' := 11) (ls' := [.ref 4, .int x1, .int s0, .int (0 : Int32), .int (0 : Int32)]) (st' := []) (σ' := σ) 5 rfl ?_
    exact h
theorem b41_11 {d : Nat} {Q : Option Value → px_S → Prop} {σ : px_S} {x1 x2 x3 x4 : Int32} {k : Nat} (hk : k = 3 ∨ k = 4) (ht : (σ.1 1 7) ≤ x4 → Wp d tb_41 51 [.ref k, .int x1, .int x2, .int x3, .int x4] [] σ Q) (hf : ¬ ((σ.1 1 7) ≤ x4) → Wp d tb_41 23 [.ref k, .int x1, .int x2, .int x3, .int x4] [] σ Q) : Wp d tb_41 11 [.ref k, .int x1, .int x2, .int x3, .int x4] [] σ Q := by
  rcases hk with rfl | rfl
  · refine Wp.adv (pc' := 20) (ls' := [.ref 3, .int x1, .int x2, .int x3, .int x4]) (st' := [.int (σ.1 1 7), .int x4]) (σ' := σ) 4 rfl ?_
    exact Wp.icmp rfl ht hf
  · refine Wp.adv (pc' := 20) (ls' := [.ref 4, .int x1, .int x2, .int x3, .int x4]) (st' := [.int (σ.1 1 7), .int x4]) (σ' := σ) 4 rfl ?_
    exact Wp.icmp rfl ht hf
theorem b41_23 {d : Nat} {Q : Option Value → px_S → Prop} {σ : px_S} {x1 x2 x3 x4 : Int32} {k : Nat} (hk : k = 3 ∨ k = 4) (h : Cw d 24 [.ref k, .int x4] σ (fun r τ => Wp d tb_41 29 [.ref k, .int x1, .int x2, .int x3, .int x4] (r.toList ++ []) τ Q)) : Wp d tb_41 23 [.ref k, .int x1, .int x2, .int x3, .int x4] [] σ Q := by
  rcases hk with rfl | rfl
  · refine Wp.adv (pc' := 26) (ls' := [.ref 3, .int x1, .int x2, .int x3, .int x4]) (st' := [.int x4, .ref 3]) (σ' := σ) 2 rfl ?_
    exact Wp.call (q := (24, 2, 3, 29)) rfl (Nat.le_of_ble_eq_true rfl) rfl h
  · refine Wp.adv (pc' := 26) (ls' := [.ref 4, .int x1, .int x2, .int x3, .int x4]) (st' := [.int x4, .ref 4]) (σ' := σ) 2 rfl ?_
    exact Wp.call (q := (24, 2, 3, 29)) rfl (Nat.le_of_ble_eq_true rfl) rfl h
theorem b41_29 {d : Nat} {Q : Option Value → px_S → Prop} {σ : px_S} {x1 x2 x3 x4 s0 : Int32} {k : Nat} (hk : k = 3 ∨ k = 4) (ht : s0 = 0 → Wp d tb_41 45 [.ref k, .int x1, .int x2, .int x3, .int x4] [] σ Q) (hf : ¬ (s0 = 0) → Wp d tb_41 32 [.ref k, .int x1, .int x2, .int x3, .int x4] [] σ Q) : Wp d tb_41 29 [.ref k, .int x1, .int x2, .int x3, .int x4] [.int s0] σ Q := by
  rcases hk with rfl | rfl
  · exact Wp.if_ rfl ht hf
  · exact Wp.if_ rfl ht hf
theorem b41_32 {d : Nat} {Q : Option Value → px_S → Prop} {σ : px_S} {x1 x2 x3 x4 : Int32} {k : Nat} (hk : k = 3 ∨ k = 4) (h : Cw d 38 [.ref k, .int x4] σ (fun r τ => Wp d tb_41 38 [.ref k, .int x1, .int x2, .int x3, .int x4] (r.toList ++ []) τ Q)) : Wp d tb_41 32 [.ref k, .int x1, .int x2, .int x3, .int x4] [] σ Q := by
  rcases hk with rfl | rfl
  · refine Wp.adv (pc' := 35) (ls' := [.ref 3, .int x1, .int x2, .int x3, .int x4]) (st' := [.int x4, .ref 3]) (σ' := σ) 2 rfl ?_
    exact Wp.call (q := (38, 2, 3, 38)) rfl (Nat.le_of_ble_eq_true rfl) rfl h
  · refine Wp.adv (pc' := 35) (ls' := [.ref 4, .int x1, .int x2, .int x3, .int x4]) (st' := [.int x4, .ref 4]) (σ' := σ) 2 rfl ?_
    exact Wp.call (q := (38, 2, 3, 38)) rfl (Nat.le_of_ble_eq_true rfl) rfl h
theorem b41_38 {d : Nat} {Q : Option Value → px_S → Prop} {σ : px_S} {x1 x2 x3 x4 s0 : Int32} {k : Nat} (hk : k = 3 ∨ k = 4) (ht : ¬ s0 = x2 → Wp d tb_41 45 [.ref k, .int x1, .int x2, .int x3, .int x4] [] σ Q) (hf : ¬ (¬ s0 = x2) → Wp d tb_41 42 [.ref k, .int x1, .int x2, .int x3, .int x4] [] σ Q) : Wp d tb_41 38 [.ref k, .int x1, .int x2, .int x3, .int x4] [.int s0] σ Q := by
  rcases hk with rfl | rfl
  · refine Wp.adv (pc' := 39) (ls' := [.ref 3, .int x1, .int x2, .int x3, .int x4]) (st' := [.int x2, .int s0]) (σ' := σ) 1 rfl ?_
    exact Wp.icmp rfl ht hf
  · refine Wp.adv (pc' := 39) (ls' := [.ref 4, .int x1, .int x2, .int x3, .int x4]) (st' := [.int x2, .int s0]) (σ' := σ) 1 rfl ?_
    exact Wp.icmp rfl ht hf
theorem b41_42 {d : Nat} {Q : Option Value → px_S → Prop} {σ : px_S} {x1 x2 x3 x4 : Int32} {k : Nat} (hk : k = 3 ∨ k = 4) (h : Wp d tb_41 45 [.ref k, .int x1, .int x2, .int (x3 + 1), .int x4] [] σ Q) : Wp d tb_41 42 [.ref k, .int x1, .int x2, .int x3, .int x4] [] σ Q := by
  rcases hk with rfl | rfl
  · refine Wp.adv (pc' := 45) (ls' := [.ref 3, .int x1, .int x2, .int (x3 + 1), .int x4]) (st' := []) (σ' := σ) 1 rfl ?_
    exact h
  · refine Wp.adv (pc' := 45) (ls' := [.ref 4, .int x1, .int x2, .int (x3 + 1), .int x4]) (st' := []) (σ' := σ) 1 rfl ?_
    exact h
theorem b41_45 {d : Nat} {Q : Option Value → px_S → Prop} {σ : px_S} {x1 x2 x3 x4 : Int32} {k : Nat} (hk : k = 3 ∨ k = 4) (h : Wp d tb_41 11 [.ref k, .int x1, .int x2, .int x3, .int (x4 + 1)] [] σ Q) : Wp d tb_41 45 [.ref k, .int x1, .int x2, .int x3, .int x4] [] σ Q := by
  rcases hk with rfl | rfl
  · refine Wp.adv (pc' := 11) (ls' := [.ref 3, .int x1, .int x2, .int x3, .int (x4 + 1)]) (st' := []) (σ' := σ) 2 rfl ?_
    exact h
  · refine Wp.adv (pc' := 11) (ls' := [.ref 4, .int x1, .int x2, .int x3, .int (x4 + 1)]) (st' := []) (σ' := σ) 2 rfl ?_
    exact h
theorem b41_51 {d : Nat} {Q : Option Value → px_S → Prop} {σ : px_S} {x1 x2 x3 x4 : Int32} {k : Nat} (hk : k = 3 ∨ k = 4) (h : Q (some (.int x3)) σ) : Wp d tb_41 51 [.ref k, .int x1, .int x2, .int x3, .int x4] [] σ Q := by
  rcases hk with rfl | rfl
  · refine Wp.adv (pc' := 52) (ls' := [.ref 3, .int x1, .int x2, .int x3, .int x4]) (st' := [.int x3]) (σ' := σ) 1 rfl ?_
    exact Wp.ret rfl rfl h
  · refine Wp.adv (pc' := 52) (ls' := [.ref 4, .int x1, .int x2, .int x3, .int x4]) (st' := [.int x3]) (σ' := σ) 1 rfl ?_
    exact Wp.ret rfl rfl h
theorem e41 {d : Nat} {Q : Option Value → px_S → Prop} {σ : px_S} {x1 : Int32} {k : Nat} (h : Wp d tb_41 0 [.ref k, .int x1, .null, .null, .null] [] σ Q) : Cw (d + 1) 41 [.ref k, .int x1] σ Q := Cw.of (nL := 5) (y := yX2_lettersOfThread) (cc := cX2_lettersOfThread) (rt := some .int) rfl (Nat.le_of_ble_eq_true rfl) h
theorem b42_0 {d : Nat} {Q : Option Value → px_S → Prop} {σ : px_S} {x1 x2 x3 : Int32} (h : Cw d 43 [.ref 1, .int x1, .int x2] σ (fun r τ => Wp d tb_42 9 [.ref 0, .int x1, .int x2, .int x3, .null] (r.toList ++ []) τ Q)) : Wp d tb_42 0 [.ref 0, .int x1, .int x2, .int x3, .null] [] σ Q := by
  refine Wp.adv (pc' := 6) (ls' := [.ref 0, .int x1, .int x2, .int x3, .null]) (st' := [.int x2, .int x1, .ref 1]) (σ' := σ) 4 rfl ?_
  exact Wp.call (q := (43, 3, 2, 9)) rfl (Nat.le_of_ble_eq_true rfl) rfl h
theorem b42_9 {d : Nat} {Q : Option Value → px_S → Prop} {σ : px_S} {x1 x2 x3 s0 : Int32} (ht : ¬ s0 = 0 → Wp d tb_42 16 [.ref 0, .int x1, .int x2, .int x3, .null] [] σ Q) (hf : ¬ (¬ s0 = 0) → Wp d tb_42 12 [.ref 0, .int x1, .int x2, .int x3, .null] [] σ Q) : Wp d tb_42 9 [.ref 0, .int x1, .int x2, .int x3, .null] [.int s0] σ Q := by
  exact Wp.if_ rfl ht hf
theorem b42_12 {d : Nat} {Q : Option Value → px_S → Prop} {σ : px_S} {x1 x2 x3 : Int32} (h : Q (some (.int (-1001 : Int32))) σ) : Wp d tb_42 12 [.ref 0, .int x1, .int x2, .int x3, .null] [] σ Q := by
  refine Wp.adv (pc' := 15) (ls' := [.ref 0, .int x1, .int x2, .int x3, .null]) (st' := [.int (-1001 : Int32)]) (σ' := σ) 1 rfl ?_
  exact Wp.ret rfl rfl h
theorem b42_16 {d : Nat} {Q : Option Value → px_S → Prop} {σ : px_S} {x1 x2 x3 : Int32} (ht : x3 < 0 → Wp d tb_42 26 [.ref 0, .int x1, .int x2, .int x3, .null] [] σ Q) (hf : ¬ (x3 < 0) → Wp d tb_42 20 [.ref 0, .int x1, .int x2, .int x3, .null] [] σ Q) : Wp d tb_42 16 [.ref 0, .int x1, .int x2, .int x3, .null] [] σ Q := by
  refine Wp.adv (pc' := 17) (ls' := [.ref 0, .int x1, .int x2, .int x3, .null]) (st' := [.int x3]) (σ' := σ) 1 rfl ?_
  exact Wp.if_ rfl ht hf
theorem b42_20 {d : Nat} {Q : Option Value → px_S → Prop} {σ : px_S} {x1 x2 x3 : Int32} (ht : x3 ≤ (9 : Int32) → Wp d tb_42 30 [.ref 0, .int x1, .int x2, .int x3, .null] [] σ Q) (hf : ¬ (x3 ≤ (9 : Int32)) → Wp d tb_42 26 [.ref 0, .int x1, .int x2, .int x3, .null] [] σ Q) : Wp d tb_42 20 [.ref 0, .int x1, .int x2, .int x3, .null] [] σ Q := by
  refine Wp.adv (pc' := 23) (ls' := [.ref 0, .int x1, .int x2, .int x3, .null]) (st' := [.int (9 : Int32), .int x3]) (σ' := σ) 2 rfl ?_
  exact Wp.icmp rfl ht hf
theorem b42_26 {d : Nat} {Q : Option Value → px_S → Prop} {σ : px_S} {x1 x2 x3 : Int32} (h : Q (some (.int (-1002 : Int32))) σ) : Wp d tb_42 26 [.ref 0, .int x1, .int x2, .int x3, .null] [] σ Q := by
  refine Wp.adv (pc' := 29) (ls' := [.ref 0, .int x1, .int x2, .int x3, .null]) (st' := [.int (-1002 : Int32)]) (σ' := σ) 1 rfl ?_
  exact Wp.ret rfl rfl h
theorem b42_30 {d : Nat} {Q : Option Value → px_S → Prop} {σ : px_S} {x1 x2 x3 : Int32} (h : Cw d 11 [.int x1, .int x2] σ (fun r τ => Wp d tb_42 35 [.ref 0, .int x1, .int x2, .int x3, .null] (r.toList ++ []) τ Q)) : Wp d tb_42 30 [.ref 0, .int x1, .int x2, .int x3, .null] [] σ Q := by
  refine Wp.adv (pc' := 32) (ls' := [.ref 0, .int x1, .int x2, .int x3, .null]) (st' := [.int x2, .int x1]) (σ' := σ) 2 rfl ?_
  exact Wp.call (q := (11, 2, 0, 35)) rfl (Nat.le_of_ble_eq_true rfl) rfl h
theorem b42_35 {d : Nat} {Q : Option Value → px_S → Prop} {σ : px_S} {x1 x2 x3 s0 : Int32} (ht : ¬ x3 = 0 → Wp d tb_42 52 [.ref 0, .int x1, .int x2, .int x3, .int s0] [] σ Q) (hf : ¬ (¬ x3 = 0) → Wp d tb_42 41 [.ref 0, .int x1, .int x2, .int x3, .int s0] [] σ Q) : Wp d tb_42 35 [.ref 0, .int x1, .int x2, .int x3, .null] [.int s0] σ Q := by
  refine Wp.adv (pc' := 38) (ls' := [.ref 0, .int x1, .int x2, .int x3, .int s0]) (st' := [.int x3]) (σ' := σ) 2 rfl ?_
  exact Wp.if_ rfl ht hf
theorem b42_41 {d : Nat} {Q : Option Value → px_S → Prop} {σ : px_S} {x1 x2 x3 x4 : Int32} (c1 : vp_in x4 560) (h : Q (some (.int (σ.1 16 (x4).toNatClampNeg))) σ) : Wp d tb_42 41 [.ref 0, .int x1, .int x2, .int x3, .int x4] [] σ Q := by
  refine Wp.adv (pc' := 50) (ls' := [.ref 0, .int x1, .int x2, .int x3, .int x4]) (st' := [.int x4, .ref 16]) (σ' := σ) 4 rfl ?_
  refine Wp.iald (N := 560) rfl rfl c1 ?_
  exact Wp.ret rfl rfl h
theorem b42_52 {d : Nat} {Q : Option Value → px_S → Prop} {σ : px_S} {x1 x2 x3 x4 : Int32} (ht : ¬ x3 = (1 : Int32) → Wp d tb_42 71 [.ref 0, .int x1, .int x2, .int x3, .int x4] [] σ Q) (hf : ¬ (¬ x3 = (1 : Int32)) → Wp d tb_42 57 [.ref 0, .int x1, .int x2, .int x3, .int x4] [] σ Q) : Wp d tb_42 52 [.ref 0, .int x1, .int x2, .int x3, .int x4] [] σ Q := by
  refine Wp.adv (pc' := 54) (ls' := [.ref 0, .int x1, .int x2, .int x3, .int x4]) (st' := [.int (1 : Int32), .int x3]) (σ' := σ) 2 rfl ?_
  exact Wp.icmp rfl ht hf
theorem b42_57 {d : Nat} {Q : Option Value → px_S → Prop} {σ : px_S} {x1 x2 x3 x4 : Int32} (c1 : vp_in x4 560) (h : Cw d 33 [.long (σ.2.1 17 (x4).toNatClampNeg)] σ (fun r τ => Wp d tb_42 70 [.ref 0, .int x1, .int x2, .int x3, .int x4] (r.toList ++ []) τ Q)) : Wp d tb_42 57 [.ref 0, .int x1, .int x2, .int x3, .int x4] [] σ Q := by
  refine Wp.adv (pc' := 66) (ls' := [.ref 0, .int x1, .int x2, .int x3, .int x4]) (st' := [.int x4, .ref 17]) (σ' := σ) 4 rfl ?_
  refine Wp.lald (N := 560) rfl rfl c1 ?_
  exact Wp.call (q := (33, 1, 0, 70)) rfl (Nat.le_of_ble_eq_true rfl) rfl h
theorem b42_70 {d : Nat} {Q : Option Value → px_S → Prop} {σ : px_S} {x1 x2 x3 x4 s0 : Int32} (h : Q (some (.int s0)) σ) : Wp d tb_42 70 [.ref 0, .int x1, .int x2, .int x3, .int x4] [.int s0] σ Q := by
  exact Wp.ret rfl rfl h
theorem b42_71 {d : Nat} {Q : Option Value → px_S → Prop} {σ : px_S} {x1 x2 x3 x4 : Int32} (c1 : vp_in x4 560) (h : Cw d 44 [.long (σ.2.1 17 (x4).toNatClampNeg), .int (x3 - (2 : Int32))] σ (fun r τ => Wp d tb_42 87 [.ref 0, .int x1, .int x2, .int x3, .int x4] (r.toList ++ []) τ Q)) : Wp d tb_42 71 [.ref 0, .int x1, .int x2, .int x3, .int x4] [] σ Q := by
  refine Wp.adv (pc' := 80) (ls' := [.ref 0, .int x1, .int x2, .int x3, .int x4]) (st' := [.int x4, .ref 17]) (σ' := σ) 4 rfl ?_
  refine Wp.lald (N := 560) rfl rfl c1 ?_
  refine Wp.adv (pc' := 84) (ls' := [.ref 0, .int x1, .int x2, .int x3, .int x4]) (st' := [.int (x3 - (2 : Int32)), .long (σ.2.1 17 (x4).toNatClampNeg)]) (σ' := σ) 3 rfl ?_
  exact Wp.call (q := (44, 2, 0, 87)) rfl (Nat.le_of_ble_eq_true rfl) rfl h
theorem b42_87 {d : Nat} {Q : Option Value → px_S → Prop} {σ : px_S} {x1 x2 x3 x4 s0 : Int32} (h : Q (some (.int s0)) σ) : Wp d tb_42 87 [.ref 0, .int x1, .int x2, .int x3, .int x4] [.int s0] σ Q := by
  exact Wp.ret rfl rfl h
theorem e42 {d : Nat} {Q : Option Value → px_S → Prop} {σ : px_S} {x1 x2 x3 : Int32} (h : Wp d tb_42 0 [.ref 0, .int x1, .int x2, .int x3, .null] [] σ Q) : Cw (d + 1) 42 [.ref 0, .int x1, .int x2, .int x3] σ Q := Cw.of (nL := 5) (y := yX8_told) (cc := cX8_told) (rt := some .int) rfl (Nat.le_of_ble_eq_true rfl) h
theorem b43_0 {d : Nat} {Q : Option Value → px_S → Prop} {σ : px_S} {x1 x2 : Int32} (h : Cw d 4 [.ref 1, .int x1] σ (fun r τ => Wp d tb_43 5 [.ref 1, .int x1, .int x2] (r.toList ++ []) τ Q)) : Wp d tb_43 0 [.ref 1, .int x1, .int x2] [] σ Q := by
  refine Wp.adv (pc' := 2) (ls' := [.ref 1, .int x1, .int x2]) (st' := [.int x1, .ref 1]) (σ' := σ) 2 rfl ?_
  exact Wp.call (q := (4, 2, 2, 5)) rfl (Nat.le_of_ble_eq_true rfl) rfl h
theorem b43_5 {d : Nat} {Q : Option Value → px_S → Prop} {σ : px_S} {x1 x2 s0 : Int32} (ht : s0 = 0 → Wp d tb_43 26 [.ref 1, .int x1, .int x2] [] σ Q) (hf : ¬ (s0 = 0) → Wp d tb_43 8 [.ref 1, .int x1, .int x2] [] σ Q) : Wp d tb_43 5 [.ref 1, .int x1, .int x2] [.int s0] σ Q := by
  exact Wp.if_ rfl ht hf
theorem b43_8 {d : Nat} {Q : Option Value → px_S → Prop} {σ : px_S} {x1 x2 : Int32} (ht : x2 < 0 → Wp d tb_43 26 [.ref 1, .int x1, .int x2] [] σ Q) (hf : ¬ (x2 < 0) → Wp d tb_43 12 [.ref 1, .int x1, .int x2] [] σ Q) : Wp d tb_43 8 [.ref 1, .int x1, .int x2] [] σ Q := by
  refine Wp.adv (pc' := 9) (ls' := [.ref 1, .int x1, .int x2]) (st' := [.int x2]) (σ' := σ) 1 rfl ?_
  exact Wp.if_ rfl ht hf
theorem b43_12 {d : Nat} {Q : Option Value → px_S → Prop} {σ : px_S} {x1 x2 : Int32} (c1 : vp_in x1 40) (ht : (σ.1 14 (x1).toNatClampNeg) ≤ x2 → Wp d tb_43 26 [.ref 1, .int x1, .int x2] [] σ Q) (hf : ¬ ((σ.1 14 (x1).toNatClampNeg) ≤ x2) → Wp d tb_43 22 [.ref 1, .int x1, .int x2] [] σ Q) : Wp d tb_43 12 [.ref 1, .int x1, .int x2] [] σ Q := by
  refine Wp.adv (pc' := 18) (ls' := [.ref 1, .int x1, .int x2]) (st' := [.int x1, .ref 14, .int x2]) (σ' := σ) 4 rfl ?_
  refine Wp.iald (N := 40) rfl rfl c1 ?_
  exact Wp.icmp rfl ht hf
theorem b43_22 {d : Nat} {Q : Option Value → px_S → Prop} {σ : px_S} {x1 x2 : Int32} (h : Wp d tb_43 27 [.ref 1, .int x1, .int x2] [.int (1 : Int32)] σ Q) : Wp d tb_43 22 [.ref 1, .int x1, .int x2] [] σ Q := by
  refine Wp.adv (pc' := 27) (ls' := [.ref 1, .int x1, .int x2]) (st' := [.int (1 : Int32)]) (σ' := σ) 2 rfl ?_
  exact h
theorem b43_26 {d : Nat} {Q : Option Value → px_S → Prop} {σ : px_S} {x1 x2 : Int32} (h : Wp d tb_43 27 [.ref 1, .int x1, .int x2] [.int (0 : Int32)] σ Q) : Wp d tb_43 26 [.ref 1, .int x1, .int x2] [] σ Q := by
  refine Wp.adv (pc' := 27) (ls' := [.ref 1, .int x1, .int x2]) (st' := [.int (0 : Int32)]) (σ' := σ) 1 rfl ?_
  exact h
theorem b43_27 {d : Nat} {Q : Option Value → px_S → Prop} {σ : px_S} {x1 x2 s0 : Int32} (c1 : s0 = 0 ∨ s0 = 1) (h : Q (some (.int s0)) σ) : Wp d tb_43 27 [.ref 1, .int x1, .int x2] [.int s0] σ Q := by
  exact Wp.zret rfl c1 h
theorem e43 {d : Nat} {Q : Option Value → px_S → Prop} {σ : px_S} {x1 x2 : Int32} (h : Wp d tb_43 0 [.ref 1, .int x1, .int x2] [] σ Q) : Cw (d + 1) 43 [.ref 1, .int x1, .int x2] σ Q := Cw.of (nL := 3) (y := yX1_hasLine) (cc := cX1_hasLine) (rt := some .boolean) rfl (Nat.le_of_ble_eq_true rfl) h
theorem b44_0 {d : Nat} {Q : Option Value → px_S → Prop} {σ : px_S} {x2 : Int32} {y0 : Int64} (ht : x2 < 0 → Wp d tb_44 18 [.long y0, .null, .int x2] [] σ Q) (hf : ¬ (x2 < 0) → Wp d tb_44 4 [.long y0, .null, .int x2] [] σ Q) : Wp d tb_44 0 [.long y0, .null, .int x2] [] σ Q := by
  refine Wp.adv (pc' := 1) (ls' := [.long y0, .null, .int x2]) (st' := [.int x2]) (σ' := σ) 1 rfl ?_
  exact Wp.if_ rfl ht hf
theorem b44_4 {d : Nat} {Q : Option Value → px_S → Prop} {σ : px_S} {x2 : Int32} {y0 : Int64} (ht : (8 : Int32) ≤ x2 → Wp d tb_44 18 [.long y0, .null, .int x2] [] σ Q) (hf : ¬ ((8 : Int32) ≤ x2) → Wp d tb_44 10 [.long y0, .null, .int x2] [] σ Q) : Wp d tb_44 4 [.long y0, .null, .int x2] [] σ Q := by
  refine Wp.adv (pc' := 7) (ls' := [.long y0, .null, .int x2]) (st' := [.int (8 : Int32), .int x2]) (σ' := σ) 2 rfl ?_
  exact Wp.icmp rfl ht hf
theorem b44_10 {d : Nat} {Q : Option Value → px_S → Prop} {σ : px_S} {x2 : Int32} {y0 : Int64} (h : Cw d 34 [.long y0, .int x2] σ (fun r τ => Wp d tb_44 15 [.long y0, .null, .int x2] (r.toList ++ []) τ Q)) : Wp d tb_44 10 [.long y0, .null, .int x2] [] σ Q := by
  refine Wp.adv (pc' := 12) (ls' := [.long y0, .null, .int x2]) (st' := [.int x2, .long y0]) (σ' := σ) 2 rfl ?_
  exact Wp.call (q := (34, 2, 0, 15)) rfl (Nat.le_of_ble_eq_true rfl) rfl h
theorem b44_15 {d : Nat} {Q : Option Value → px_S → Prop} {σ : px_S} {x2 s0 : Int32} {y0 : Int64} (ht : ¬ s0 = 0 → Wp d tb_44 20 [.long y0, .null, .int x2] [] σ Q) (hf : ¬ (¬ s0 = 0) → Wp d tb_44 18 [.long y0, .null, .int x2] [] σ Q) : Wp d tb_44 15 [.long y0, .null, .int x2] [.int s0] σ Q := by
  exact Wp.if_ rfl ht hf
theorem b44_18 {d : Nat} {Q : Option Value → px_S → Prop} {σ : px_S} {x2 : Int32} {y0 : Int64} (h : Q (some (.int (-1 : Int32))) σ) : Wp d tb_44 18 [.long y0, .null, .int x2] [] σ Q := by
  refine Wp.adv (pc' := 19) (ls' := [.long y0, .null, .int x2]) (st' := [.int (-1 : Int32)]) (σ' := σ) 1 rfl ?_
  exact Wp.ret rfl rfl h
theorem b44_20 {d : Nat} {Q : Option Value → px_S → Prop} {σ : px_S} {x2 : Int32} {y0 : Int64} (h : Cw d 34 [.long y0, .int x2] σ (fun r τ => Wp d tb_44 25 [.long y0, .null, .int x2] (r.toList ++ []) τ Q)) : Wp d tb_44 20 [.long y0, .null, .int x2] [] σ Q := by
  refine Wp.adv (pc' := 22) (ls' := [.long y0, .null, .int x2]) (st' := [.int x2, .long y0]) (σ' := σ) 2 rfl ?_
  exact Wp.call (q := (34, 2, 0, 25)) rfl (Nat.le_of_ble_eq_true rfl) rfl h
theorem b44_25 {d : Nat} {Q : Option Value → px_S → Prop} {σ : px_S} {x2 s0 : Int32} {y0 : Int64} (h : Q (some (.int s0)) σ) : Wp d tb_44 25 [.long y0, .null, .int x2] [.int s0] σ Q := by
  exact Wp.ret rfl rfl h
theorem e44 {d : Nat} {Q : Option Value → px_S → Prop} {σ : px_S} {x2 : Int32} {y0 : Int64} (h : Wp d tb_44 0 [.long y0, .null, .int x2] [] σ Q) : Cw (d + 1) 44 [.long y0, .int x2] σ Q := Cw.of (nL := 3) (y := yX7_wordOrNone) (cc := cX7_wordOrNone) (rt := some .int) rfl (Nat.le_of_ble_eq_true rfl) h
theorem b45_0 {d : Nat} {Q : Option Value → px_S → Prop} {σ : px_S} {x1 x2 x3 x4 : Int32} (h : Cw d 43 [.ref 1, .int x1, .int x2] σ (fun r τ => Wp d tb_45 9 [.ref 0, .int x1, .int x2, .int x3, .int x4] (r.toList ++ []) τ Q)) : Wp d tb_45 0 [.ref 0, .int x1, .int x2, .int x3, .int x4] [] σ Q := by
  refine Wp.adv (pc' := 6) (ls' := [.ref 0, .int x1, .int x2, .int x3, .int x4]) (st' := [.int x2, .int x1, .ref 1]) (σ' := σ) 4 rfl ?_
  exact Wp.call (q := (43, 3, 2, 9)) rfl (Nat.le_of_ble_eq_true rfl) rfl h
theorem b45_9 {d : Nat} {Q : Option Value → px_S → Prop} {σ : px_S} {x1 x2 x3 x4 s0 : Int32} (ht : s0 = 0 → Wp d tb_45 25 [.ref 0, .int x1, .int x2, .int x3, .int x4] [] σ Q) (hf : ¬ (s0 = 0) → Wp d tb_45 12 [.ref 0, .int x1, .int x2, .int x3, .int x4] [] σ Q) : Wp d tb_45 9 [.ref 0, .int x1, .int x2, .int x3, .int x4] [.int s0] σ Q := by
  exact Wp.if_ rfl ht hf
theorem b45_12 {d : Nat} {Q : Option Value → px_S → Prop} {σ : px_S} {x1 x2 x3 x4 : Int32} (h : Cw d 43 [.ref 1, .int x3, .int x4] σ (fun r τ => Wp d tb_45 22 [.ref 0, .int x1, .int x2, .int x3, .int x4] (r.toList ++ []) τ Q)) : Wp d tb_45 12 [.ref 0, .int x1, .int x2, .int x3, .int x4] [] σ Q := by
  refine Wp.adv (pc' := 19) (ls' := [.ref 0, .int x1, .int x2, .int x3, .int x4]) (st' := [.int x4, .int x3, .ref 1]) (σ' := σ) 4 rfl ?_
  exact Wp.call (q := (43, 3, 2, 22)) rfl (Nat.le_of_ble_eq_true rfl) rfl h
theorem b45_22 {d : Nat} {Q : Option Value → px_S → Prop} {σ : px_S} {x1 x2 x3 x4 s0 : Int32} (ht : ¬ s0 = 0 → Wp d tb_45 29 [.ref 0, .int x1, .int x2, .int x3, .int x4] [] σ Q) (hf : ¬ (¬ s0 = 0) → Wp d tb_45 25 [.ref 0, .int x1, .int x2, .int x3, .int x4] [] σ Q) : Wp d tb_45 22 [.ref 0, .int x1, .int x2, .int x3, .int x4] [.int s0] σ Q := by
  exact Wp.if_ rfl ht hf
theorem b45_25 {d : Nat} {Q : Option Value → px_S → Prop} {σ : px_S} {x1 x2 x3 x4 : Int32} (h : Q (some (.int (-1001 : Int32))) σ) : Wp d tb_45 25 [.ref 0, .int x1, .int x2, .int x3, .int x4] [] σ Q := by
  refine Wp.adv (pc' := 28) (ls' := [.ref 0, .int x1, .int x2, .int x3, .int x4]) (st' := [.int (-1001 : Int32)]) (σ' := σ) 1 rfl ?_
  exact Wp.ret rfl rfl h
theorem b45_29 {d : Nat} {Q : Option Value → px_S → Prop} {σ : px_S} {x1 x2 x3 x4 : Int32} (h : Cw d 11 [.int x1, .int x2] σ (fun r τ => Wp d tb_45 45 [.ref 0, .int x1, .int x2, .int x3, .int x4] (r.toList ++ [.ref 17, .ref 2]) τ Q)) : Wp d tb_45 29 [.ref 0, .int x1, .int x2, .int x3, .int x4] [] σ Q := by
  refine Wp.adv (pc' := 42) (ls' := [.ref 0, .int x1, .int x2, .int x3, .int x4]) (st' := [.int x2, .int x1, .ref 17, .ref 2]) (σ' := σ) 7 rfl ?_
  exact Wp.call (q := (11, 2, 0, 45)) rfl (Nat.le_of_ble_eq_true rfl) rfl h
theorem b45_45 {d : Nat} {Q : Option Value → px_S → Prop} {σ : px_S} {x1 x2 x3 x4 s0 : Int32} (c1 : vp_in s0 560) (h : Cw d 11 [.int x3, .int x4] σ (fun r τ => Wp d tb_45 59 [.ref 0, .int x1, .int x2, .int x3, .int x4] (r.toList ++ [.ref 17, .long (σ.2.1 17 (s0).toNatClampNeg), .ref 2]) τ Q)) : Wp d tb_45 45 [.ref 0, .int x1, .int x2, .int x3, .int x4] [.int s0, .ref 17, .ref 2] σ Q := by
  refine Wp.lald (N := 560) rfl rfl c1 ?_
  refine Wp.adv (pc' := 56) (ls' := [.ref 0, .int x1, .int x2, .int x3, .int x4]) (st' := [.int x4, .int x3, .ref 17, .long (σ.2.1 17 (s0).toNatClampNeg), .ref 2]) (σ' := σ) 5 rfl ?_
  exact Wp.call (q := (11, 2, 0, 59)) rfl (Nat.le_of_ble_eq_true rfl) rfl h
theorem b45_59 {d : Nat} {Q : Option Value → px_S → Prop} {σ : px_S} {x1 x2 x3 x4 s0 : Int32} {t2 : Int64} (c1 : vp_in s0 560) (h : Cw d 32 [.ref 2, .long t2, .long (σ.2.1 17 (s0).toNatClampNeg)] σ (fun r τ => Wp d tb_45 63 [.ref 0, .int x1, .int x2, .int x3, .int x4] (r.toList ++ []) τ Q)) : Wp d tb_45 59 [.ref 0, .int x1, .int x2, .int x3, .int x4] [.int s0, .ref 17, .long t2, .ref 2] σ Q := by
  refine Wp.lald (N := 560) rfl rfl c1 ?_
  exact Wp.call (q := (32, 3, 1, 63)) rfl (Nat.le_of_ble_eq_true rfl) rfl h
theorem b45_63 {d : Nat} {Q : Option Value → px_S → Prop} {σ : px_S} {x1 x2 x3 x4 s0 : Int32} (h : Q (some (.int s0)) σ) : Wp d tb_45 63 [.ref 0, .int x1, .int x2, .int x3, .int x4] [.int s0] σ Q := by
  exact Wp.ret rfl rfl h
theorem e45 {d : Nat} {Q : Option Value → px_S → Prop} {σ : px_S} {x1 x2 x3 x4 : Int32} (h : Wp d tb_45 0 [.ref 0, .int x1, .int x2, .int x3, .int x4] [] σ Q) : Cw (d + 1) 45 [.ref 0, .int x1, .int x2, .int x3, .int x4] σ Q := Cw.of (nL := 5) (y := yX8_differ) (cc := cX8_differ) (rt := some .int) rfl (Nat.le_of_ble_eq_true rfl) h
theorem b46_0 {d : Nat} {Q : Option Value → px_S → Prop} {σ : px_S} {x1 x2 : Int32} (h : Cw d 4 [.ref 1, .int x1] σ (fun r τ => Wp d tb_46 8 [.ref 0, .int x1, .int x2] (r.toList ++ []) τ Q)) : Wp d tb_46 0 [.ref 0, .int x1, .int x2] [] σ Q := by
  refine Wp.adv (pc' := 5) (ls' := [.ref 0, .int x1, .int x2]) (st' := [.int x1, .ref 1]) (σ' := σ) 3 rfl ?_
  exact Wp.call (q := (4, 2, 2, 8)) rfl (Nat.le_of_ble_eq_true rfl) rfl h
theorem b46_8 {d : Nat} {Q : Option Value → px_S → Prop} {σ : px_S} {x1 x2 s0 : Int32} (ht : s0 = 0 → Wp d tb_46 22 [.ref 0, .int x1, .int x2] [] σ Q) (hf : ¬ (s0 = 0) → Wp d tb_46 11 [.ref 0, .int x1, .int x2] [] σ Q) : Wp d tb_46 8 [.ref 0, .int x1, .int x2] [.int s0] σ Q := by
  exact Wp.if_ rfl ht hf
theorem b46_11 {d : Nat} {Q : Option Value → px_S → Prop} {σ : px_S} {x1 x2 : Int32} (h : Cw d 4 [.ref 1, .int x2] σ (fun r τ => Wp d tb_46 19 [.ref 0, .int x1, .int x2] (r.toList ++ []) τ Q)) : Wp d tb_46 11 [.ref 0, .int x1, .int x2] [] σ Q := by
  refine Wp.adv (pc' := 16) (ls' := [.ref 0, .int x1, .int x2]) (st' := [.int x2, .ref 1]) (σ' := σ) 3 rfl ?_
  exact Wp.call (q := (4, 2, 2, 19)) rfl (Nat.le_of_ble_eq_true rfl) rfl h
theorem b46_19 {d : Nat} {Q : Option Value → px_S → Prop} {σ : px_S} {x1 x2 s0 : Int32} (ht : ¬ s0 = 0 → Wp d tb_46 26 [.ref 0, .int x1, .int x2] [] σ Q) (hf : ¬ (¬ s0 = 0) → Wp d tb_46 22 [.ref 0, .int x1, .int x2] [] σ Q) : Wp d tb_46 19 [.ref 0, .int x1, .int x2] [.int s0] σ Q := by
  exact Wp.if_ rfl ht hf
theorem b46_22 {d : Nat} {Q : Option Value → px_S → Prop} {σ : px_S} {x1 x2 : Int32} (h : Q (some (.int (-1001 : Int32))) σ) : Wp d tb_46 22 [.ref 0, .int x1, .int x2] [] σ Q := by
  refine Wp.adv (pc' := 25) (ls' := [.ref 0, .int x1, .int x2]) (st' := [.int (-1001 : Int32)]) (σ' := σ) 1 rfl ?_
  exact Wp.ret rfl rfl h
theorem b46_26 {d : Nat} {Q : Option Value → px_S → Prop} {σ : px_S} {x1 x2 : Int32} (ht : x1 = x2 → Wp d tb_46 53 [.ref 0, .int x1, .int x2] [] σ Q) (hf : ¬ (x1 = x2) → Wp d tb_46 31 [.ref 0, .int x1, .int x2] [] σ Q) : Wp d tb_46 26 [.ref 0, .int x1, .int x2] [] σ Q := by
  refine Wp.adv (pc' := 28) (ls' := [.ref 0, .int x1, .int x2]) (st' := [.int x2, .int x1]) (σ' := σ) 2 rfl ?_
  exact Wp.icmp rfl ht hf
theorem b46_31 {d : Nat} {Q : Option Value → px_S → Prop} {σ : px_S} {x1 x2 : Int32} (h : Cw d 21 [.ref 1, .int x1] σ (fun r τ => Wp d tb_46 39 [.ref 0, .int x1, .int x2] (r.toList ++ []) τ Q)) : Wp d tb_46 31 [.ref 0, .int x1, .int x2] [] σ Q := by
  refine Wp.adv (pc' := 36) (ls' := [.ref 0, .int x1, .int x2]) (st' := [.int x1, .ref 1]) (σ' := σ) 3 rfl ?_
  exact Wp.call (q := (21, 2, 2, 39)) rfl (Nat.le_of_ble_eq_true rfl) rfl h
theorem b46_39 {d : Nat} {Q : Option Value → px_S → Prop} {σ : px_S} {x1 x2 s0 : Int32} (ht : s0 = 0 → Wp d tb_46 53 [.ref 0, .int x1, .int x2] [] σ Q) (hf : ¬ (s0 = 0) → Wp d tb_46 42 [.ref 0, .int x1, .int x2] [] σ Q) : Wp d tb_46 39 [.ref 0, .int x1, .int x2] [.int s0] σ Q := by
  exact Wp.if_ rfl ht hf
theorem b46_42 {d : Nat} {Q : Option Value → px_S → Prop} {σ : px_S} {x1 x2 : Int32} (h : Cw d 21 [.ref 1, .int x2] σ (fun r τ => Wp d tb_46 50 [.ref 0, .int x1, .int x2] (r.toList ++ []) τ Q)) : Wp d tb_46 42 [.ref 0, .int x1, .int x2] [] σ Q := by
  refine Wp.adv (pc' := 47) (ls' := [.ref 0, .int x1, .int x2]) (st' := [.int x2, .ref 1]) (σ' := σ) 3 rfl ?_
  exact Wp.call (q := (21, 2, 2, 50)) rfl (Nat.le_of_ble_eq_true rfl) rfl h
theorem b46_50 {d : Nat} {Q : Option Value → px_S → Prop} {σ : px_S} {x1 x2 s0 : Int32} (ht : ¬ s0 = 0 → Wp d tb_46 57 [.ref 0, .int x1, .int x2] [] σ Q) (hf : ¬ (¬ s0 = 0) → Wp d tb_46 53 [.ref 0, .int x1, .int x2] [] σ Q) : Wp d tb_46 50 [.ref 0, .int x1, .int x2] [.int s0] σ Q := by
  exact Wp.if_ rfl ht hf
theorem b46_53 {d : Nat} {Q : Option Value → px_S → Prop} {σ : px_S} {x1 x2 : Int32} (h : Q (some (.int (-1003 : Int32))) σ) : Wp d tb_46 53 [.ref 0, .int x1, .int x2] [] σ Q := by
  refine Wp.adv (pc' := 56) (ls' := [.ref 0, .int x1, .int x2]) (st' := [.int (-1003 : Int32)]) (σ' := σ) 1 rfl ?_
  exact Wp.ret rfl rfl h
theorem b46_57 {d : Nat} {Q : Option Value → px_S → Prop} {σ : px_S} {x1 x2 : Int32} (h : Cw d 29 [.ref 2, .int x1, .int x2] σ (fun r τ => Wp d tb_46 66 [.ref 0, .int x1, .int x2] (r.toList ++ []) τ Q)) : Wp d tb_46 57 [.ref 0, .int x1, .int x2] [] σ Q := by
  refine Wp.adv (pc' := 63) (ls' := [.ref 0, .int x1, .int x2]) (st' := [.int x2, .int x1, .ref 2]) (σ' := σ) 4 rfl ?_
  exact Wp.call (q := (29, 3, 1, 66)) rfl (Nat.le_of_ble_eq_true rfl) rfl h
theorem b46_66 {d : Nat} {Q : Option Value → px_S → Prop} {σ : px_S} {x1 x2 s0 : Int32} (h : Q (some (.int s0)) σ) : Wp d tb_46 66 [.ref 0, .int x1, .int x2] [.int s0] σ Q := by
  exact Wp.ret rfl rfl h
theorem e46 {d : Nat} {Q : Option Value → px_S → Prop} {σ : px_S} {x1 x2 : Int32} (h : Wp d tb_46 0 [.ref 0, .int x1, .int x2] [] σ Q) : Cw (d + 1) 46 [.ref 0, .int x1, .int x2] σ Q := Cw.of (nL := 3) (y := yX8_fit) (cc := cX8_fit) (rt := some .int) rfl (Nat.le_of_ble_eq_true rfl) h
theorem b47_0 {d : Nat} {Q : Option Value → px_S → Prop} {σ : px_S} {x1 : Int32} (hd : (x1).toInt < 0 ∨ 10 < (x1).toInt → Wp d tb_47 105 [.ref 0, .int x1] [] σ Q) (hs : ∀ (j t : Nat), ([60, 68, 76, 105, 105, 105, 105, 105, 81, 89, 97] : List Nat)[j]? = some t → (x1).toInt = 0 + (j : Int) → Wp d tb_47 t [.ref 0, .int x1] [] σ Q) : Wp d tb_47 0 [.ref 0, .int x1] [] σ Q := by
  refine Wp.adv (pc' := 1) (ls' := [.ref 0, .int x1]) (st' := [.int x1]) (σ' := σ) 1 rfl ?_
  exact Wp.tsw rfl rfl hd hs
theorem b47_60 {d : Nat} {Q : Option Value → px_S → Prop} {σ : px_S} {x1 : Int32} (h : Q (some (.int (σ.1 1 7))) σ) : Wp d tb_47 60 [.ref 0, .int x1] [] σ Q := by
  refine Wp.adv (pc' := 67) (ls' := [.ref 0, .int x1]) (st' := [.int (σ.1 1 7)]) (σ' := σ) 3 rfl ?_
  exact Wp.ret rfl rfl h
theorem b47_68 {d : Nat} {Q : Option Value → px_S → Prop} {σ : px_S} {x1 : Int32} (h : Cw d 48 [.ref 1] σ (fun r τ => Wp d tb_47 75 [.ref 0, .int x1] (r.toList ++ []) τ Q)) : Wp d tb_47 68 [.ref 0, .int x1] [] σ Q := by
  refine Wp.adv (pc' := 72) (ls' := [.ref 0, .int x1]) (st' := [.ref 1]) (σ' := σ) 2 rfl ?_
  exact Wp.call (q := (48, 1, 2, 75)) rfl (Nat.le_of_ble_eq_true rfl) rfl h
theorem b47_75 {d : Nat} {Q : Option Value → px_S → Prop} {σ : px_S} {x1 s0 : Int32} (h : Q (some (.int s0)) σ) : Wp d tb_47 75 [.ref 0, .int x1] [.int s0] σ Q := by
  exact Wp.ret rfl rfl h
theorem b47_76 {d : Nat} {Q : Option Value → px_S → Prop} {σ : px_S} {x1 : Int32} (h : Q (some (.int (σ.1 0 9))) σ) : Wp d tb_47 76 [.ref 0, .int x1] [] σ Q := by
  refine Wp.adv (pc' := 80) (ls' := [.ref 0, .int x1]) (st' := [.int (σ.1 0 9)]) (σ' := σ) 2 rfl ?_
  exact Wp.ret rfl rfl h
theorem b47_81 {d : Nat} {Q : Option Value → px_S → Prop} {σ : px_S} {x1 : Int32} (h : Q (some (.int (σ.1 7 1))) σ) : Wp d tb_47 81 [.ref 0, .int x1] [] σ Q := by
  refine Wp.adv (pc' := 88) (ls' := [.ref 0, .int x1]) (st' := [.int (σ.1 7 1)]) (σ' := σ) 3 rfl ?_
  exact Wp.ret rfl rfl h
theorem b47_89 {d : Nat} {Q : Option Value → px_S → Prop} {σ : px_S} {x1 : Int32} (h : Q (some (.int (σ.1 8 2))) σ) : Wp d tb_47 89 [.ref 0, .int x1] [] σ Q := by
  refine Wp.adv (pc' := 96) (ls' := [.ref 0, .int x1]) (st' := [.int (σ.1 8 2)]) (σ' := σ) 3 rfl ?_
  exact Wp.ret rfl rfl h
theorem b47_97 {d : Nat} {Q : Option Value → px_S → Prop} {σ : px_S} {x1 : Int32} (h : Q (some (.int (σ.1 1 8))) σ) : Wp d tb_47 97 [.ref 0, .int x1] [] σ Q := by
  refine Wp.adv (pc' := 104) (ls' := [.ref 0, .int x1]) (st' := [.int (σ.1 1 8)]) (σ' := σ) 3 rfl ?_
  exact Wp.ret rfl rfl h
theorem b47_105 {d : Nat} {Q : Option Value → px_S → Prop} {σ : px_S} {x1 : Int32} (ht : x1 < 0 → Wp d tb_47 115 [.ref 0, .int x1] [] σ Q) (hf : ¬ (x1 < 0) → Wp d tb_47 109 [.ref 0, .int x1] [] σ Q) : Wp d tb_47 105 [.ref 0, .int x1] [] σ Q := by
  refine Wp.adv (pc' := 106) (ls' := [.ref 0, .int x1]) (st' := [.int x1]) (σ' := σ) 1 rfl ?_
  exact Wp.if_ rfl ht hf
theorem b47_109 {d : Nat} {Q : Option Value → px_S → Prop} {σ : px_S} {x1 : Int32} (ht : x1 ≤ (10 : Int32) → Wp d tb_47 119 [.ref 0, .int x1] [] σ Q) (hf : ¬ (x1 ≤ (10 : Int32)) → Wp d tb_47 115 [.ref 0, .int x1] [] σ Q) : Wp d tb_47 109 [.ref 0, .int x1] [] σ Q := by
  refine Wp.adv (pc' := 112) (ls' := [.ref 0, .int x1]) (st' := [.int (10 : Int32), .int x1]) (σ' := σ) 2 rfl ?_
  exact Wp.icmp rfl ht hf
theorem b47_115 {d : Nat} {Q : Option Value → px_S → Prop} {σ : px_S} {x1 : Int32} (h : Q (some (.int (-1002 : Int32))) σ) : Wp d tb_47 115 [.ref 0, .int x1] [] σ Q := by
  refine Wp.adv (pc' := 118) (ls' := [.ref 0, .int x1]) (st' := [.int (-1002 : Int32)]) (σ' := σ) 1 rfl ?_
  exact Wp.ret rfl rfl h
theorem b47_119 {d : Nat} {Q : Option Value → px_S → Prop} {σ : px_S} {x1 : Int32} (h : Cw d 23 [.ref 3, .int (-1 : Int32)] σ (fun r τ => Wp d tb_47 127 [.ref 0, .int x1] (r.toList ++ []) τ Q)) : Wp d tb_47 119 [.ref 0, .int x1] [] σ Q := by
  refine Wp.adv (pc' := 124) (ls' := [.ref 0, .int x1]) (st' := [.int (-1 : Int32), .ref 3]) (σ' := σ) 3 rfl ?_
  exact Wp.call (q := (23, 2, 3, 127)) rfl (Nat.le_of_ble_eq_true rfl) rfl h
theorem b47_127 {d : Nat} {Q : Option Value → px_S → Prop} {σ : px_S} {x1 : Int32} (h : Cw d 49 [.ref 0, .int x1] σ (fun r τ => Wp d tb_47 132 [.ref 0, .int x1] (r.toList ++ []) τ Q)) : Wp d tb_47 127 [.ref 0, .int x1] [] σ Q := by
  refine Wp.adv (pc' := 129) (ls' := [.ref 0, .int x1]) (st' := [.int x1, .ref 0]) (σ' := σ) 2 rfl ?_
  exact Wp.call (q := (49, 2, 8, 132)) rfl (Nat.le_of_ble_eq_true rfl) rfl h
theorem b47_132 {d : Nat} {Q : Option Value → px_S → Prop} {σ : px_S} {x1 s0 : Int32} (h : Q (some (.int s0)) σ) : Wp d tb_47 132 [.ref 0, .int x1] [.int s0] σ Q := by
  exact Wp.ret rfl rfl h
theorem e47 {d : Nat} {Q : Option Value → px_S → Prop} {σ : px_S} {x1 : Int32} (h : Wp d tb_47 0 [.ref 0, .int x1] [] σ Q) : Cw (d + 1) 47 [.ref 0, .int x1] σ Q := Cw.of (nL := 2) (y := yX8_count) (cc := cX8_count) (rt := some .int) rfl (Nat.le_of_ble_eq_true rfl) h
theorem b48_0 {d : Nat} {Q : Option Value → px_S → Prop} {σ : px_S}  (h : Wp d tb_48 4 [.ref 1, .int (0 : Int32), .int (0 : Int32)] [] σ Q) : Wp d tb_48 0 [.ref 1, .null, .null] [] σ Q := by
  refine Wp.adv (pc' := 4) (ls' := [.ref 1, .int (0 : Int32), .int (0 : Int32)]) (st' := []) (σ' := σ) 4 rfl ?_
  exact h
theorem b48_4 {d : Nat} {Q : Option Value → px_S → Prop} {σ : px_S} {x1 x2 : Int32} (ht : (σ.1 1 7) ≤ x2 → Wp d tb_48 29 [.ref 1, .int x1, .int x2] [] σ Q) (hf : ¬ ((σ.1 1 7) ≤ x2) → Wp d tb_48 12 [.ref 1, .int x1, .int x2] [] σ Q) : Wp d tb_48 4 [.ref 1, .int x1, .int x2] [] σ Q := by
  refine Wp.adv (pc' := 9) (ls' := [.ref 1, .int x1, .int x2]) (st' := [.int (σ.1 1 7), .int x2]) (σ' := σ) 3 rfl ?_
  exact Wp.icmp rfl ht hf
theorem b48_12 {d : Nat} {Q : Option Value → px_S → Prop} {σ : px_S} {x1 x2 : Int32} (h : Cw d 21 [.ref 1, .int x2] σ (fun r τ => Wp d tb_48 17 [.ref 1, .int x1, .int x2] (r.toList ++ []) τ Q)) : Wp d tb_48 12 [.ref 1, .int x1, .int x2] [] σ Q := by
  refine Wp.adv (pc' := 14) (ls' := [.ref 1, .int x1, .int x2]) (st' := [.int x2, .ref 1]) (σ' := σ) 2 rfl ?_
  exact Wp.call (q := (21, 2, 2, 17)) rfl (Nat.le_of_ble_eq_true rfl) rfl h
theorem b48_17 {d : Nat} {Q : Option Value → px_S → Prop} {σ : px_S} {x1 x2 s0 : Int32} (ht : s0 = 0 → Wp d tb_48 23 [.ref 1, .int x1, .int x2] [] σ Q) (hf : ¬ (s0 = 0) → Wp d tb_48 20 [.ref 1, .int x1, .int x2] [] σ Q) : Wp d tb_48 17 [.ref 1, .int x1, .int x2] [.int s0] σ Q := by
  exact Wp.if_ rfl ht hf
theorem b48_20 {d : Nat} {Q : Option Value → px_S → Prop} {σ : px_S} {x1 x2 : Int32} (h : Wp d tb_48 23 [.ref 1, .int (x1 + 1), .int x2] [] σ Q) : Wp d tb_48 20 [.ref 1, .int x1, .int x2] [] σ Q := by
  refine Wp.adv (pc' := 23) (ls' := [.ref 1, .int (x1 + 1), .int x2]) (st' := []) (σ' := σ) 1 rfl ?_
  exact h
theorem b48_23 {d : Nat} {Q : Option Value → px_S → Prop} {σ : px_S} {x1 x2 : Int32} (h : Wp d tb_48 4 [.ref 1, .int x1, .int (x2 + 1)] [] σ Q) : Wp d tb_48 23 [.ref 1, .int x1, .int x2] [] σ Q := by
  refine Wp.adv (pc' := 4) (ls' := [.ref 1, .int x1, .int (x2 + 1)]) (st' := []) (σ' := σ) 2 rfl ?_
  exact h
theorem b48_29 {d : Nat} {Q : Option Value → px_S → Prop} {σ : px_S} {x1 x2 : Int32} (h : Q (some (.int x1)) σ) : Wp d tb_48 29 [.ref 1, .int x1, .int x2] [] σ Q := by
  refine Wp.adv (pc' := 30) (ls' := [.ref 1, .int x1, .int x2]) (st' := [.int x1]) (σ' := σ) 1 rfl ?_
  exact Wp.ret rfl rfl h
theorem e48 {d : Nat} {Q : Option Value → px_S → Prop} {σ : px_S}  (h : Wp d tb_48 0 [.ref 1, .null, .null] [] σ Q) : Cw (d + 1) 48 [.ref 1] σ Q := Cw.of (nL := 3) (y := yX1_seenLetters) (cc := cX1_seenLetters) (rt := some .int) rfl (Nat.le_of_ble_eq_true rfl) h
theorem b49_0 {d : Nat} {Q : Option Value → px_S → Prop} {σ : px_S} {x1 : Int32} (hd : (x1).toInt < 3 ∨ 6 < (x1).toInt → Wp d tb_49 72 [.ref 0, .int x1] [] σ Q) (hs : ∀ (j t : Nat), ([32, 40, 48, 57] : List Nat)[j]? = some t → (x1).toInt = 3 + (j : Int) → Wp d tb_49 t [.ref 0, .int x1] [] σ Q) : Wp d tb_49 0 [.ref 0, .int x1] [] σ Q := by
  refine Wp.adv (pc' := 1) (ls' := [.ref 0, .int x1]) (st' := [.int x1]) (σ' := σ) 1 rfl ?_
  exact Wp.tsw rfl rfl hd hs
theorem b49_32 {d : Nat} {Q : Option Value → px_S → Prop} {σ : px_S} {x1 : Int32} (h : Cw d 50 [.ref 3] σ (fun r τ => Wp d tb_49 39 [.ref 0, .int x1] (r.toList ++ []) τ Q)) : Wp d tb_49 32 [.ref 0, .int x1] [] σ Q := by
  refine Wp.adv (pc' := 36) (ls' := [.ref 0, .int x1]) (st' := [.ref 3]) (σ' := σ) 2 rfl ?_
  exact Wp.call (q := (50, 1, 3, 39)) rfl (Nat.le_of_ble_eq_true rfl) rfl h
theorem b49_39 {d : Nat} {Q : Option Value → px_S → Prop} {σ : px_S} {x1 s0 : Int32} (h : Q (some (.int s0)) σ) : Wp d tb_49 39 [.ref 0, .int x1] [.int s0] σ Q := by
  exact Wp.ret rfl rfl h
theorem b49_40 {d : Nat} {Q : Option Value → px_S → Prop} {σ : px_S} {x1 : Int32} (h : Cw d 51 [.ref 3] σ (fun r τ => Wp d tb_49 47 [.ref 0, .int x1] (r.toList ++ []) τ Q)) : Wp d tb_49 40 [.ref 0, .int x1] [] σ Q := by
  refine Wp.adv (pc' := 44) (ls' := [.ref 0, .int x1]) (st' := [.ref 3]) (σ' := σ) 2 rfl ?_
  exact Wp.call (q := (51, 1, 3, 47)) rfl (Nat.le_of_ble_eq_true rfl) rfl h
theorem b49_47 {d : Nat} {Q : Option Value → px_S → Prop} {σ : px_S} {x1 s0 : Int32} (h : Q (some (.int s0)) σ) : Wp d tb_49 47 [.ref 0, .int x1] [.int s0] σ Q := by
  exact Wp.ret rfl rfl h
theorem b49_48 {d : Nat} {Q : Option Value → px_S → Prop} {σ : px_S} {x1 : Int32} (h : Cw d 53 [.ref 3, .int (-1 : Int32)] σ (fun r τ => Wp d tb_49 56 [.ref 0, .int x1] (r.toList ++ []) τ Q)) : Wp d tb_49 48 [.ref 0, .int x1] [] σ Q := by
  refine Wp.adv (pc' := 53) (ls' := [.ref 0, .int x1]) (st' := [.int (-1 : Int32), .ref 3]) (σ' := σ) 3 rfl ?_
  exact Wp.call (q := (53, 2, 3, 56)) rfl (Nat.le_of_ble_eq_true rfl) rfl h
theorem b49_56 {d : Nat} {Q : Option Value → px_S → Prop} {σ : px_S} {x1 s0 : Int32} (h : Q (some (.int s0)) σ) : Wp d tb_49 56 [.ref 0, .int x1] [.int s0] σ Q := by
  exact Wp.ret rfl rfl h
theorem b49_57 {d : Nat} {Q : Option Value → px_S → Prop} {σ : px_S} {x1 : Int32} (h : Cw d 55 [.ref 5] σ (fun r τ => Wp d tb_49 64 [.ref 0, .int x1] (r.toList ++ []) τ Q)) : Wp d tb_49 57 [.ref 0, .int x1] [] σ Q := by
  refine Wp.adv (pc' := 61) (ls' := [.ref 0, .int x1]) (st' := [.ref 5]) (σ' := σ) 2 rfl ?_
  exact Wp.call (q := (55, 1, 4, 64)) rfl (Nat.le_of_ble_eq_true rfl) rfl h
theorem b49_64 {d : Nat} {Q : Option Value → px_S → Prop} {σ : px_S} {x1 : Int32} (h : Q (some (.int (σ.1 5 7))) σ) : Wp d tb_49 64 [.ref 0, .int x1] [] σ Q := by
  refine Wp.adv (pc' := 71) (ls' := [.ref 0, .int x1]) (st' := [.int (σ.1 5 7)]) (σ' := σ) 3 rfl ?_
  exact Wp.ret rfl rfl h
theorem b49_72 {d : Nat} {Q : Option Value → px_S → Prop} {σ : px_S} {x1 : Int32} (h : Cw d 61 [.ref 3] σ (fun r τ => Wp d tb_49 79 [.ref 0, .int x1] (r.toList ++ []) τ Q)) : Wp d tb_49 72 [.ref 0, .int x1] [] σ Q := by
  refine Wp.adv (pc' := 76) (ls' := [.ref 0, .int x1]) (st' := [.ref 3]) (σ' := σ) 2 rfl ?_
  exact Wp.call (q := (61, 1, 3, 79)) rfl (Nat.le_of_ble_eq_true rfl) rfl h
theorem b49_79 {d : Nat} {Q : Option Value → px_S → Prop} {σ : px_S} {x1 s0 : Int32} (h : Q (some (.int s0)) σ) : Wp d tb_49 79 [.ref 0, .int x1] [.int s0] σ Q := by
  exact Wp.ret rfl rfl h
theorem e49 {d : Nat} {Q : Option Value → px_S → Prop} {σ : px_S} {x1 : Int32} (h : Wp d tb_49 0 [.ref 0, .int x1] [] σ Q) : Cw (d + 1) 49 [.ref 0, .int x1] σ Q := Cw.of (nL := 2) (y := yX8_countFindings) (cc := cX8_countFindings) (rt := some .int) rfl (Nat.le_of_ble_eq_true rfl) h
theorem b50_0 {d : Nat} {Q : Option Value → px_S → Prop} {σ : px_S}  {k : Nat} (hk : k = 3 ∨ k = 4) (h : Wp d tb_50 4 [.ref k, .int (0 : Int32), .int (0 : Int32)] [] σ Q) : Wp d tb_50 0 [.ref k, .null, .null] [] σ Q := by
  rcases hk with rfl | rfl
  · refine Wp.adv (pc' := 4) (ls' := [.ref 3, .int (0 : Int32), .int (0 : Int32)]) (st' := []) (σ' := σ) 4 rfl ?_
    exact h
  · refine Wp.adv (pc' := 4) (ls' := [.ref 4, .int (0 : Int32), .int (0 : Int32)]) (st' := []) (σ' := σ) 4 rfl ?_
    exact h
theorem b50_4 {d : Nat} {Q : Option Value → px_S → Prop} {σ : px_S} {x1 x2 : Int32} {k : Nat} (hk : k = 3 ∨ k = 4) (ht : (σ.1 1 7) ≤ x2 → Wp d tb_50 42 [.ref k, .int x1, .int x2] [] σ Q) (hf : ¬ ((σ.1 1 7) ≤ x2) → Wp d tb_50 15 [.ref k, .int x1, .int x2] [] σ Q) : Wp d tb_50 4 [.ref k, .int x1, .int x2] [] σ Q := by
  rcases hk with rfl | rfl
  · refine Wp.adv (pc' := 12) (ls' := [.ref 3, .int x1, .int x2]) (st' := [.int (σ.1 1 7), .int x2]) (σ' := σ) 4 rfl ?_
    exact Wp.icmp rfl ht hf
  · refine Wp.adv (pc' := 12) (ls' := [.ref 4, .int x1, .int x2]) (st' := [.int (σ.1 1 7), .int x2]) (σ' := σ) 4 rfl ?_
    exact Wp.icmp rfl ht hf
theorem b50_15 {d : Nat} {Q : Option Value → px_S → Prop} {σ : px_S} {x1 x2 : Int32} {k : Nat} (hk : k = 3 ∨ k = 4) (h : Cw d 24 [.ref k, .int x2] σ (fun r τ => Wp d tb_50 20 [.ref k, .int x1, .int x2] (r.toList ++ []) τ Q)) : Wp d tb_50 15 [.ref k, .int x1, .int x2] [] σ Q := by
  rcases hk with rfl | rfl
  · refine Wp.adv (pc' := 17) (ls' := [.ref 3, .int x1, .int x2]) (st' := [.int x2, .ref 3]) (σ' := σ) 2 rfl ?_
    exact Wp.call (q := (24, 2, 3, 20)) rfl (Nat.le_of_ble_eq_true rfl) rfl h
  · refine Wp.adv (pc' := 17) (ls' := [.ref 4, .int x1, .int x2]) (st' := [.int x2, .ref 4]) (σ' := σ) 2 rfl ?_
    exact Wp.call (q := (24, 2, 3, 20)) rfl (Nat.le_of_ble_eq_true rfl) rfl h
theorem b50_20 {d : Nat} {Q : Option Value → px_S → Prop} {σ : px_S} {x1 x2 s0 : Int32} {k : Nat} (hk : k = 3 ∨ k = 4) (ht : s0 = 0 → Wp d tb_50 36 [.ref k, .int x1, .int x2] [] σ Q) (hf : ¬ (s0 = 0) → Wp d tb_50 23 [.ref k, .int x1, .int x2] [] σ Q) : Wp d tb_50 20 [.ref k, .int x1, .int x2] [.int s0] σ Q := by
  rcases hk with rfl | rfl
  · exact Wp.if_ rfl ht hf
  · exact Wp.if_ rfl ht hf
theorem b50_23 {d : Nat} {Q : Option Value → px_S → Prop} {σ : px_S} {x1 x2 : Int32} {k : Nat} (hk : k = 3 ∨ k = 4) (c1 : vp_in x2 40) (ht : ¬ (σ.1 (2 * k + 15) (x2).toNatClampNeg) = (-1 : Int32) → Wp d tb_50 36 [.ref k, .int x1, .int x2] [] σ Q) (hf : ¬ (¬ (σ.1 (2 * k + 15) (x2).toNatClampNeg) = (-1 : Int32)) → Wp d tb_50 33 [.ref k, .int x1, .int x2] [] σ Q) : Wp d tb_50 23 [.ref k, .int x1, .int x2] [] σ Q := by
  rcases hk with rfl | rfl
  · refine Wp.adv (pc' := 28) (ls' := [.ref 3, .int x1, .int x2]) (st' := [.int x2, .ref (2 * 3 + 15)]) (σ' := σ) 3 rfl ?_
    refine Wp.iald (N := 40) rfl rfl c1 ?_
    refine Wp.adv (pc' := 30) (ls' := [.ref 3, .int x1, .int x2]) (st' := [.int (-1 : Int32), .int (σ.1 (2 * 3 + 15) (x2).toNatClampNeg)]) (σ' := σ) 1 rfl ?_
    exact Wp.icmp rfl ht hf
  · refine Wp.adv (pc' := 28) (ls' := [.ref 4, .int x1, .int x2]) (st' := [.int x2, .ref (2 * 4 + 15)]) (σ' := σ) 3 rfl ?_
    refine Wp.iald (N := 40) rfl rfl c1 ?_
    refine Wp.adv (pc' := 30) (ls' := [.ref 4, .int x1, .int x2]) (st' := [.int (-1 : Int32), .int (σ.1 (2 * 4 + 15) (x2).toNatClampNeg)]) (σ' := σ) 1 rfl ?_
    exact Wp.icmp rfl ht hf
theorem b50_33 {d : Nat} {Q : Option Value → px_S → Prop} {σ : px_S} {x1 x2 : Int32} {k : Nat} (hk : k = 3 ∨ k = 4) (h : Wp d tb_50 36 [.ref k, .int (x1 + 1), .int x2] [] σ Q) : Wp d tb_50 33 [.ref k, .int x1, .int x2] [] σ Q := by
  rcases hk with rfl | rfl
  · refine Wp.adv (pc' := 36) (ls' := [.ref 3, .int (x1 + 1), .int x2]) (st' := []) (σ' := σ) 1 rfl ?_
    exact h
  · refine Wp.adv (pc' := 36) (ls' := [.ref 4, .int (x1 + 1), .int x2]) (st' := []) (σ' := σ) 1 rfl ?_
    exact h
theorem b50_36 {d : Nat} {Q : Option Value → px_S → Prop} {σ : px_S} {x1 x2 : Int32} {k : Nat} (hk : k = 3 ∨ k = 4) (h : Wp d tb_50 4 [.ref k, .int x1, .int (x2 + 1)] [] σ Q) : Wp d tb_50 36 [.ref k, .int x1, .int x2] [] σ Q := by
  rcases hk with rfl | rfl
  · refine Wp.adv (pc' := 4) (ls' := [.ref 3, .int x1, .int (x2 + 1)]) (st' := []) (σ' := σ) 2 rfl ?_
    exact h
  · refine Wp.adv (pc' := 4) (ls' := [.ref 4, .int x1, .int (x2 + 1)]) (st' := []) (σ' := σ) 2 rfl ?_
    exact h
theorem b50_42 {d : Nat} {Q : Option Value → px_S → Prop} {σ : px_S} {x1 x2 : Int32} {k : Nat} (hk : k = 3 ∨ k = 4) (h : Q (some (.int x1)) σ) : Wp d tb_50 42 [.ref k, .int x1, .int x2] [] σ Q := by
  rcases hk with rfl | rfl
  · refine Wp.adv (pc' := 43) (ls' := [.ref 3, .int x1, .int x2]) (st' := [.int x1]) (σ' := σ) 1 rfl ?_
    exact Wp.ret rfl rfl h
  · refine Wp.adv (pc' := 43) (ls' := [.ref 4, .int x1, .int x2]) (st' := [.int x1]) (σ' := σ) 1 rfl ?_
    exact Wp.ret rfl rfl h
theorem e50 {d : Nat} {Q : Option Value → px_S → Prop} {σ : px_S} {k : Nat} (h : Wp d tb_50 0 [.ref k, .null, .null] [] σ Q) : Cw (d + 1) 50 [.ref k] σ Q := Cw.of (nL := 3) (y := yX2_roots) (cc := cX2_roots) (rt := some .int) rfl (Nat.le_of_ble_eq_true rfl) h
theorem b51_0 {d : Nat} {Q : Option Value → px_S → Prop} {σ : px_S}  {k : Nat} (hk : k = 3 ∨ k = 4) (h : Wp d tb_51 4 [.ref k, .int (0 : Int32), .int (0 : Int32), .null] [] σ Q) : Wp d tb_51 0 [.ref k, .null, .null, .null] [] σ Q := by
  rcases hk with rfl | rfl
  · refine Wp.adv (pc' := 4) (ls' := [.ref 3, .int (0 : Int32), .int (0 : Int32), .null]) (st' := []) (σ' := σ) 4 rfl ?_
    exact h
  · refine Wp.adv (pc' := 4) (ls' := [.ref 4, .int (0 : Int32), .int (0 : Int32), .null]) (st' := []) (σ' := σ) 4 rfl ?_
    exact h
theorem b51_4 {d : Nat} {Q : Option Value → px_S → Prop} {σ : px_S} {x1 x2 : Int32} {v3 : Value} {k : Nat} (hk : k = 3 ∨ k = 4) (ht : (σ.1 1 7) ≤ x2 → Wp d tb_51 57 [.ref k, .int x1, .int x2, v3] [] σ Q) (hf : ¬ ((σ.1 1 7) ≤ x2) → Wp d tb_51 15 [.ref k, .int x1, .int x2, v3] [] σ Q) : Wp d tb_51 4 [.ref k, .int x1, .int x2, v3] [] σ Q := by
  rcases hk with rfl | rfl
  · refine Wp.adv (pc' := 12) (ls' := [.ref 3, .int x1, .int x2, v3]) (st' := [.int (σ.1 1 7), .int x2]) (σ' := σ) 4 rfl ?_
    exact Wp.icmp rfl ht hf
  · refine Wp.adv (pc' := 12) (ls' := [.ref 4, .int x1, .int x2, v3]) (st' := [.int (σ.1 1 7), .int x2]) (σ' := σ) 4 rfl ?_
    exact Wp.icmp rfl ht hf
theorem b51_15 {d : Nat} {Q : Option Value → px_S → Prop} {σ : px_S} {x1 x2 : Int32} {v3 : Value} {k : Nat} (hk : k = 3 ∨ k = 4) (h : Wp d tb_51 17 [.ref k, .int x1, .int x2, .int (0 : Int32)] [] σ Q) : Wp d tb_51 15 [.ref k, .int x1, .int x2, v3] [] σ Q := by
  rcases hk with rfl | rfl
  · refine Wp.adv (pc' := 17) (ls' := [.ref 3, .int x1, .int x2, .int (0 : Int32)]) (st' := []) (σ' := σ) 2 rfl ?_
    exact h
  · refine Wp.adv (pc' := 17) (ls' := [.ref 4, .int x1, .int x2, .int (0 : Int32)]) (st' := []) (σ' := σ) 2 rfl ?_
    exact h
theorem b51_17 {d : Nat} {Q : Option Value → px_S → Prop} {σ : px_S} {x1 x2 x3 : Int32} {k : Nat} (hk : k = 3 ∨ k = 4) (c1 : vp_in x2 40) (ht : (σ.1 14 (x2).toNatClampNeg) ≤ x3 → Wp d tb_51 51 [.ref k, .int x1, .int x2, .int x3] [] σ Q) (hf : ¬ ((σ.1 14 (x2).toNatClampNeg) ≤ x3) → Wp d tb_51 30 [.ref k, .int x1, .int x2, .int x3] [] σ Q) : Wp d tb_51 17 [.ref k, .int x1, .int x2, .int x3] [] σ Q := by
  rcases hk with rfl | rfl
  · refine Wp.adv (pc' := 26) (ls' := [.ref 3, .int x1, .int x2, .int x3]) (st' := [.int x2, .ref 14, .int x3]) (σ' := σ) 5 rfl ?_
    refine Wp.iald (N := 40) rfl rfl c1 ?_
    exact Wp.icmp rfl ht hf
  · refine Wp.adv (pc' := 26) (ls' := [.ref 4, .int x1, .int x2, .int x3]) (st' := [.int x2, .ref 14, .int x3]) (σ' := σ) 5 rfl ?_
    refine Wp.iald (N := 40) rfl rfl c1 ?_
    exact Wp.icmp rfl ht hf
theorem b51_30 {d : Nat} {Q : Option Value → px_S → Prop} {σ : px_S} {x1 x2 x3 : Int32} {k : Nat} (hk : k = 3 ∨ k = 4) (h : Cw d 11 [.int x2, .int x3] σ (fun r τ => Wp d tb_51 36 [.ref k, .int x1, .int x2, .int x3] (r.toList ++ [.ref k]) τ Q)) : Wp d tb_51 30 [.ref k, .int x1, .int x2, .int x3] [] σ Q := by
  rcases hk with rfl | rfl
  · refine Wp.adv (pc' := 33) (ls' := [.ref 3, .int x1, .int x2, .int x3]) (st' := [.int x3, .int x2, .ref 3]) (σ' := σ) 3 rfl ?_
    exact Wp.call (q := (11, 2, 0, 36)) rfl (Nat.le_of_ble_eq_true rfl) rfl h
  · refine Wp.adv (pc' := 33) (ls' := [.ref 4, .int x1, .int x2, .int x3]) (st' := [.int x3, .int x2, .ref 4]) (σ' := σ) 3 rfl ?_
    exact Wp.call (q := (11, 2, 0, 36)) rfl (Nat.le_of_ble_eq_true rfl) rfl h
theorem b51_36 {d : Nat} {Q : Option Value → px_S → Prop} {σ : px_S} {x1 x2 x3 s0 : Int32} {k : Nat} (hk : k = 3 ∨ k = 4) (h : Cw d 52 [.ref k, .int s0] σ (fun r τ => Wp d tb_51 39 [.ref k, .int x1, .int x2, .int x3] (r.toList ++ []) τ Q)) : Wp d tb_51 36 [.ref k, .int x1, .int x2, .int x3] [.int s0, .ref k] σ Q := by
  rcases hk with rfl | rfl
  · exact Wp.call (q := (52, 2, 3, 39)) rfl (Nat.le_of_ble_eq_true rfl) rfl h
  · exact Wp.call (q := (52, 2, 3, 39)) rfl (Nat.le_of_ble_eq_true rfl) rfl h
theorem b51_39 {d : Nat} {Q : Option Value → px_S → Prop} {σ : px_S} {x1 x2 x3 s0 : Int32} {k : Nat} (hk : k = 3 ∨ k = 4) (ht : s0 = 0 → Wp d tb_51 45 [.ref k, .int x1, .int x2, .int x3] [] σ Q) (hf : ¬ (s0 = 0) → Wp d tb_51 42 [.ref k, .int x1, .int x2, .int x3] [] σ Q) : Wp d tb_51 39 [.ref k, .int x1, .int x2, .int x3] [.int s0] σ Q := by
  rcases hk with rfl | rfl
  · exact Wp.if_ rfl ht hf
  · exact Wp.if_ rfl ht hf
theorem b51_42 {d : Nat} {Q : Option Value → px_S → Prop} {σ : px_S} {x1 x2 x3 : Int32} {k : Nat} (hk : k = 3 ∨ k = 4) (h : Wp d tb_51 45 [.ref k, .int (x1 + 1), .int x2, .int x3] [] σ Q) : Wp d tb_51 42 [.ref k, .int x1, .int x2, .int x3] [] σ Q := by
  rcases hk with rfl | rfl
  · refine Wp.adv (pc' := 45) (ls' := [.ref 3, .int (x1 + 1), .int x2, .int x3]) (st' := []) (σ' := σ) 1 rfl ?_
    exact h
  · refine Wp.adv (pc' := 45) (ls' := [.ref 4, .int (x1 + 1), .int x2, .int x3]) (st' := []) (σ' := σ) 1 rfl ?_
    exact h
theorem b51_45 {d : Nat} {Q : Option Value → px_S → Prop} {σ : px_S} {x1 x2 x3 : Int32} {k : Nat} (hk : k = 3 ∨ k = 4) (h : Wp d tb_51 17 [.ref k, .int x1, .int x2, .int (x3 + 1)] [] σ Q) : Wp d tb_51 45 [.ref k, .int x1, .int x2, .int x3] [] σ Q := by
  rcases hk with rfl | rfl
  · refine Wp.adv (pc' := 17) (ls' := [.ref 3, .int x1, .int x2, .int (x3 + 1)]) (st' := []) (σ' := σ) 2 rfl ?_
    exact h
  · refine Wp.adv (pc' := 17) (ls' := [.ref 4, .int x1, .int x2, .int (x3 + 1)]) (st' := []) (σ' := σ) 2 rfl ?_
    exact h
theorem b51_51 {d : Nat} {Q : Option Value → px_S → Prop} {σ : px_S} {x1 x2 x3 : Int32} {k : Nat} (hk : k = 3 ∨ k = 4) (h : Wp d tb_51 4 [.ref k, .int x1, .int (x2 + 1), .int x3] [] σ Q) : Wp d tb_51 51 [.ref k, .int x1, .int x2, .int x3] [] σ Q := by
  rcases hk with rfl | rfl
  · refine Wp.adv (pc' := 4) (ls' := [.ref 3, .int x1, .int (x2 + 1), .int x3]) (st' := []) (σ' := σ) 2 rfl ?_
    exact h
  · refine Wp.adv (pc' := 4) (ls' := [.ref 4, .int x1, .int (x2 + 1), .int x3]) (st' := []) (σ' := σ) 2 rfl ?_
    exact h
theorem b51_57 {d : Nat} {Q : Option Value → px_S → Prop} {σ : px_S} {x1 x2 : Int32} {v3 : Value} {k : Nat} (hk : k = 3 ∨ k = 4) (h : Q (some (.int x1)) σ) : Wp d tb_51 57 [.ref k, .int x1, .int x2, v3] [] σ Q := by
  rcases hk with rfl | rfl
  · refine Wp.adv (pc' := 58) (ls' := [.ref 3, .int x1, .int x2, v3]) (st' := [.int x1]) (σ' := σ) 1 rfl ?_
    exact Wp.ret rfl rfl h
  · refine Wp.adv (pc' := 58) (ls' := [.ref 4, .int x1, .int x2, v3]) (st' := [.int x1]) (σ' := σ) 1 rfl ?_
    exact Wp.ret rfl rfl h
theorem e51 {d : Nat} {Q : Option Value → px_S → Prop} {σ : px_S} {k : Nat} (h : Wp d tb_51 0 [.ref k, .null, .null, .null] [] σ Q) : Cw (d + 1) 51 [.ref k] σ Q := Cw.of (nL := 4) (y := yX2_alteredLines) (cc := cX2_alteredLines) (rt := some .int) rfl (Nat.le_of_ble_eq_true rfl) h
theorem b52_0 {d : Nat} {Q : Option Value → px_S → Prop} {σ : px_S} {x1 : Int32} {k : Nat} (hk : k = 3 ∨ k = 4) (c1 : vp_in x1 560) (ht : (σ.1 (2 * k + 16) (x1).toNatClampNeg) = (-1 : Int32) → Wp d tb_52 41 [.ref k, .int x1] [] σ Q) (hf : ¬ ((σ.1 (2 * k + 16) (x1).toNatClampNeg) = (-1 : Int32)) → Wp d tb_52 10 [.ref k, .int x1] [] σ Q) : Wp d tb_52 0 [.ref k, .int x1] [] σ Q := by
  rcases hk with rfl | rfl
  · refine Wp.adv (pc' := 5) (ls' := [.ref 3, .int x1]) (st' := [.int x1, .ref (2 * 3 + 16)]) (σ' := σ) 3 rfl ?_
    refine Wp.iald (N := 560) rfl rfl c1 ?_
    refine Wp.adv (pc' := 7) (ls' := [.ref 3, .int x1]) (st' := [.int (-1 : Int32), .int (σ.1 (2 * 3 + 16) (x1).toNatClampNeg)]) (σ' := σ) 1 rfl ?_
    exact Wp.icmp rfl ht hf
  · refine Wp.adv (pc' := 5) (ls' := [.ref 4, .int x1]) (st' := [.int x1, .ref (2 * 4 + 16)]) (σ' := σ) 3 rfl ?_
    refine Wp.iald (N := 560) rfl rfl c1 ?_
    refine Wp.adv (pc' := 7) (ls' := [.ref 4, .int x1]) (st' := [.int (-1 : Int32), .int (σ.1 (2 * 4 + 16) (x1).toNatClampNeg)]) (σ' := σ) 1 rfl ?_
    exact Wp.icmp rfl ht hf
theorem b52_10 {d : Nat} {Q : Option Value → px_S → Prop} {σ : px_S} {x1 : Int32} {k : Nat} (hk : k = 3 ∨ k = 4) (c1 : vp_in x1 560) (c2 : vp_in (σ.1 (2 * k + 16) (x1).toNatClampNeg) 560) (c3 : vp_in x1 560) (ht : (lg_cmp (σ.2.1 17 ((σ.1 (2 * k + 16) (x1).toNatClampNeg)).toNatClampNeg) (σ.2.1 17 (x1).toNatClampNeg)) = 0 → Wp d tb_52 41 [.ref k, .int x1] [] σ Q) (hf : ¬ ((lg_cmp (σ.2.1 17 ((σ.1 (2 * k + 16) (x1).toNatClampNeg)).toNatClampNeg) (σ.2.1 17 (x1).toNatClampNeg)) = 0) → Wp d tb_52 37 [.ref k, .int x1] [] σ Q) : Wp d tb_52 10 [.ref k, .int x1] [] σ Q := by
  rcases hk with rfl | rfl
  · refine Wp.adv (pc' := 22) (ls' := [.ref 3, .int x1]) (st' := [.int x1, .ref (2 * 3 + 16), .ref 17]) (σ' := σ) 6 rfl ?_
    refine Wp.iald (N := 560) rfl rfl c1 ?_
    refine Wp.lald (N := 560) rfl rfl c2 ?_
    refine Wp.adv (pc' := 32) (ls' := [.ref 3, .int x1]) (st' := [.int x1, .ref 17, .long (σ.2.1 17 ((σ.1 (2 * 3 + 16) (x1).toNatClampNeg)).toNatClampNeg)]) (σ' := σ) 4 rfl ?_
    refine Wp.lald (N := 560) rfl rfl c3 ?_
    refine Wp.adv (pc' := 34) (ls' := [.ref 3, .int x1]) (st' := [.int (lg_cmp (σ.2.1 17 ((σ.1 (2 * 3 + 16) (x1).toNatClampNeg)).toNatClampNeg) (σ.2.1 17 (x1).toNatClampNeg))]) (σ' := σ) 1 rfl ?_
    exact Wp.if_ rfl ht hf
  · refine Wp.adv (pc' := 22) (ls' := [.ref 4, .int x1]) (st' := [.int x1, .ref (2 * 4 + 16), .ref 17]) (σ' := σ) 6 rfl ?_
    refine Wp.iald (N := 560) rfl rfl c1 ?_
    refine Wp.lald (N := 560) rfl rfl c2 ?_
    refine Wp.adv (pc' := 32) (ls' := [.ref 4, .int x1]) (st' := [.int x1, .ref 17, .long (σ.2.1 17 ((σ.1 (2 * 4 + 16) (x1).toNatClampNeg)).toNatClampNeg)]) (σ' := σ) 4 rfl ?_
    refine Wp.lald (N := 560) rfl rfl c3 ?_
    refine Wp.adv (pc' := 34) (ls' := [.ref 4, .int x1]) (st' := [.int (lg_cmp (σ.2.1 17 ((σ.1 (2 * 4 + 16) (x1).toNatClampNeg)).toNatClampNeg) (σ.2.1 17 (x1).toNatClampNeg))]) (σ' := σ) 1 rfl ?_
    exact Wp.if_ rfl ht hf
theorem b52_37 {d : Nat} {Q : Option Value → px_S → Prop} {σ : px_S} {x1 : Int32} {k : Nat} (hk : k = 3 ∨ k = 4) (h : Wp d tb_52 42 [.ref k, .int x1] [.int (1 : Int32)] σ Q) : Wp d tb_52 37 [.ref k, .int x1] [] σ Q := by
  rcases hk with rfl | rfl
  · refine Wp.adv (pc' := 42) (ls' := [.ref 3, .int x1]) (st' := [.int (1 : Int32)]) (σ' := σ) 2 rfl ?_
    exact h
  · refine Wp.adv (pc' := 42) (ls' := [.ref 4, .int x1]) (st' := [.int (1 : Int32)]) (σ' := σ) 2 rfl ?_
    exact h
theorem b52_41 {d : Nat} {Q : Option Value → px_S → Prop} {σ : px_S} {x1 : Int32} {k : Nat} (hk : k = 3 ∨ k = 4) (h : Wp d tb_52 42 [.ref k, .int x1] [.int (0 : Int32)] σ Q) : Wp d tb_52 41 [.ref k, .int x1] [] σ Q := by
  rcases hk with rfl | rfl
  · refine Wp.adv (pc' := 42) (ls' := [.ref 3, .int x1]) (st' := [.int (0 : Int32)]) (σ' := σ) 1 rfl ?_
    exact h
  · refine Wp.adv (pc' := 42) (ls' := [.ref 4, .int x1]) (st' := [.int (0 : Int32)]) (σ' := σ) 1 rfl ?_
    exact h
theorem b52_42 {d : Nat} {Q : Option Value → px_S → Prop} {σ : px_S} {x1 s0 : Int32} {k : Nat} (hk : k = 3 ∨ k = 4) (c1 : s0 = 0 ∨ s0 = 1) (h : Q (some (.int s0)) σ) : Wp d tb_52 42 [.ref k, .int x1] [.int s0] σ Q := by
  rcases hk with rfl | rfl
  · exact Wp.zret rfl c1 h
  · exact Wp.zret rfl c1 h
theorem e52 {d : Nat} {Q : Option Value → px_S → Prop} {σ : px_S} {x1 : Int32} {k : Nat} (h : Wp d tb_52 0 [.ref k, .int x1] [] σ Q) : Cw (d + 1) 52 [.ref k, .int x1] σ Q := Cw.of (nL := 2) (y := yX2_isAltered) (cc := cX2_isAltered) (rt := some .boolean) rfl (Nat.le_of_ble_eq_true rfl) h
theorem b53_0 {d : Nat} {Q : Option Value → px_S → Prop} {σ : px_S} {x1 : Int32} {k : Nat} (hk : k = 3 ∨ k = 4) (h : Wp d tb_53 4 [.ref k, .int x1, .int (0 : Int32), .int (0 : Int32), .null] [] σ Q) : Wp d tb_53 0 [.ref k, .int x1, .null, .null, .null] [] σ Q := by
  rcases hk with rfl | rfl
  · refine Wp.adv (pc' := 4) (ls' := [.ref 3, .int x1, .int (0 : Int32), .int (0 : Int32), .null]) (st' := []) (σ' := σ) 4 rfl ?_
    exact h
  · refine Wp.adv (pc' := 4) (ls' := [.ref 4, .int x1, .int (0 : Int32), .int (0 : Int32), .null]) (st' := []) (σ' := σ) 4 rfl ?_
    exact h
theorem b53_4 {d : Nat} {Q : Option Value → px_S → Prop} {σ : px_S} {x1 x2 x3 : Int32} {v4 : Value} {k : Nat} (hk : k = 3 ∨ k = 4) (ht : (σ.1 1 7) ≤ x3 → Wp d tb_53 69 [.ref k, .int x1, .int x2, .int x3, v4] [] σ Q) (hf : ¬ ((σ.1 1 7) ≤ x3) → Wp d tb_53 15 [.ref k, .int x1, .int x2, .int x3, v4] [] σ Q) : Wp d tb_53 4 [.ref k, .int x1, .int x2, .int x3, v4] [] σ Q := by
  rcases hk with rfl | rfl
  · refine Wp.adv (pc' := 12) (ls' := [.ref 3, .int x1, .int x2, .int x3, v4]) (st' := [.int (σ.1 1 7), .int x3]) (σ' := σ) 4 rfl ?_
    exact Wp.icmp rfl ht hf
  · refine Wp.adv (pc' := 12) (ls' := [.ref 4, .int x1, .int x2, .int x3, v4]) (st' := [.int (σ.1 1 7), .int x3]) (σ' := σ) 4 rfl ?_
    exact Wp.icmp rfl ht hf
theorem b53_15 {d : Nat} {Q : Option Value → px_S → Prop} {σ : px_S} {x1 x2 x3 : Int32} {v4 : Value} {k : Nat} (hk : k = 3 ∨ k = 4) (h : Wp d tb_53 18 [.ref k, .int x1, .int x2, .int x3, .int (0 : Int32)] [] σ Q) : Wp d tb_53 15 [.ref k, .int x1, .int x2, .int x3, v4] [] σ Q := by
  rcases hk with rfl | rfl
  · refine Wp.adv (pc' := 18) (ls' := [.ref 3, .int x1, .int x2, .int x3, .int (0 : Int32)]) (st' := []) (σ' := σ) 2 rfl ?_
    exact h
  · refine Wp.adv (pc' := 18) (ls' := [.ref 4, .int x1, .int x2, .int x3, .int (0 : Int32)]) (st' := []) (σ' := σ) 2 rfl ?_
    exact h
theorem b53_18 {d : Nat} {Q : Option Value → px_S → Prop} {σ : px_S} {x1 x2 x3 x4 : Int32} {k : Nat} (hk : k = 3 ∨ k = 4) (h : Cw d 24 [.ref k, .int x3] σ (fun r τ => Wp d tb_53 23 [.ref k, .int x1, .int x2, .int x3, .int x4] (r.toList ++ []) τ Q)) : Wp d tb_53 18 [.ref k, .int x1, .int x2, .int x3, .int x4] [] σ Q := by
  rcases hk with rfl | rfl
  · refine Wp.adv (pc' := 20) (ls' := [.ref 3, .int x1, .int x2, .int x3, .int x4]) (st' := [.int x3, .ref 3]) (σ' := σ) 2 rfl ?_
    exact Wp.call (q := (24, 2, 3, 23)) rfl (Nat.le_of_ble_eq_true rfl) rfl h
  · refine Wp.adv (pc' := 20) (ls' := [.ref 4, .int x1, .int x2, .int x3, .int x4]) (st' := [.int x3, .ref 4]) (σ' := σ) 2 rfl ?_
    exact Wp.call (q := (24, 2, 3, 23)) rfl (Nat.le_of_ble_eq_true rfl) rfl h
theorem b53_23 {d : Nat} {Q : Option Value → px_S → Prop} {σ : px_S} {x1 x2 x3 x4 s0 : Int32} {k : Nat} (hk : k = 3 ∨ k = 4) (ht : s0 = 0 → Wp d tb_53 63 [.ref k, .int x1, .int x2, .int x3, .int x4] [] σ Q) (hf : ¬ (s0 = 0) → Wp d tb_53 26 [.ref k, .int x1, .int x2, .int x3, .int x4] [] σ Q) : Wp d tb_53 23 [.ref k, .int x1, .int x2, .int x3, .int x4] [.int s0] σ Q := by
  rcases hk with rfl | rfl
  · exact Wp.if_ rfl ht hf
  · exact Wp.if_ rfl ht hf
theorem b53_26 {d : Nat} {Q : Option Value → px_S → Prop} {σ : px_S} {x1 x2 x3 x4 : Int32} {k : Nat} (hk : k = 3 ∨ k = 4) (c1 : vp_in x3 40) (ht : (σ.1 14 (x3).toNatClampNeg) ≤ x4 → Wp d tb_53 63 [.ref k, .int x1, .int x2, .int x3, .int x4] [] σ Q) (hf : ¬ ((σ.1 14 (x3).toNatClampNeg) ≤ x4) → Wp d tb_53 40 [.ref k, .int x1, .int x2, .int x3, .int x4] [] σ Q) : Wp d tb_53 26 [.ref k, .int x1, .int x2, .int x3, .int x4] [] σ Q := by
  rcases hk with rfl | rfl
  · refine Wp.adv (pc' := 36) (ls' := [.ref 3, .int x1, .int x2, .int x3, .int x4]) (st' := [.int x3, .ref 14, .int x4]) (σ' := σ) 5 rfl ?_
    refine Wp.iald (N := 40) rfl rfl c1 ?_
    exact Wp.icmp rfl ht hf
  · refine Wp.adv (pc' := 36) (ls' := [.ref 4, .int x1, .int x2, .int x3, .int x4]) (st' := [.int x3, .ref 14, .int x4]) (σ' := σ) 5 rfl ?_
    refine Wp.iald (N := 40) rfl rfl c1 ?_
    exact Wp.icmp rfl ht hf
theorem b53_40 {d : Nat} {Q : Option Value → px_S → Prop} {σ : px_S} {x1 x2 x3 x4 : Int32} {k : Nat} (hk : k = 3 ∨ k = 4) (h : Cw d 11 [.int x3, .int x4] σ (fun r τ => Wp d tb_53 47 [.ref k, .int x1, .int x2, .int x3, .int x4] (r.toList ++ [.ref k]) τ Q)) : Wp d tb_53 40 [.ref k, .int x1, .int x2, .int x3, .int x4] [] σ Q := by
  rcases hk with rfl | rfl
  · refine Wp.adv (pc' := 44) (ls' := [.ref 3, .int x1, .int x2, .int x3, .int x4]) (st' := [.int x4, .int x3, .ref 3]) (σ' := σ) 3 rfl ?_
    exact Wp.call (q := (11, 2, 0, 47)) rfl (Nat.le_of_ble_eq_true rfl) rfl h
  · refine Wp.adv (pc' := 44) (ls' := [.ref 4, .int x1, .int x2, .int x3, .int x4]) (st' := [.int x4, .int x3, .ref 4]) (σ' := σ) 3 rfl ?_
    exact Wp.call (q := (11, 2, 0, 47)) rfl (Nat.le_of_ble_eq_true rfl) rfl h
theorem b53_47 {d : Nat} {Q : Option Value → px_S → Prop} {σ : px_S} {x1 x2 x3 x4 s0 : Int32} {k : Nat} (hk : k = 3 ∨ k = 4) (h : Cw d 54 [.ref k, .int s0] σ (fun r τ => Wp d tb_53 50 [.ref k, .int x1, .int x2, .int x3, .int x4] (r.toList ++ []) τ Q)) : Wp d tb_53 47 [.ref k, .int x1, .int x2, .int x3, .int x4] [.int s0, .ref k] σ Q := by
  rcases hk with rfl | rfl
  · exact Wp.call (q := (54, 2, 3, 50)) rfl (Nat.le_of_ble_eq_true rfl) rfl h
  · exact Wp.call (q := (54, 2, 3, 50)) rfl (Nat.le_of_ble_eq_true rfl) rfl h
theorem b53_50 {d : Nat} {Q : Option Value → px_S → Prop} {σ : px_S} {x1 x2 x3 x4 s0 : Int32} {k : Nat} (hk : k = 3 ∨ k = 4) (ht : ¬ s0 = x1 → Wp d tb_53 57 [.ref k, .int x1, .int x2, .int x3, .int x4] [] σ Q) (hf : ¬ (¬ s0 = x1) → Wp d tb_53 54 [.ref k, .int x1, .int x2, .int x3, .int x4] [] σ Q) : Wp d tb_53 50 [.ref k, .int x1, .int x2, .int x3, .int x4] [.int s0] σ Q := by
  rcases hk with rfl | rfl
  · refine Wp.adv (pc' := 51) (ls' := [.ref 3, .int x1, .int x2, .int x3, .int x4]) (st' := [.int x1, .int s0]) (σ' := σ) 1 rfl ?_
    exact Wp.icmp rfl ht hf
  · refine Wp.adv (pc' := 51) (ls' := [.ref 4, .int x1, .int x2, .int x3, .int x4]) (st' := [.int x1, .int s0]) (σ' := σ) 1 rfl ?_
    exact Wp.icmp rfl ht hf
theorem b53_54 {d : Nat} {Q : Option Value → px_S → Prop} {σ : px_S} {x1 x2 x3 x4 : Int32} {k : Nat} (hk : k = 3 ∨ k = 4) (h : Wp d tb_53 57 [.ref k, .int x1, .int (x2 + 1), .int x3, .int x4] [] σ Q) : Wp d tb_53 54 [.ref k, .int x1, .int x2, .int x3, .int x4] [] σ Q := by
  rcases hk with rfl | rfl
  · refine Wp.adv (pc' := 57) (ls' := [.ref 3, .int x1, .int (x2 + 1), .int x3, .int x4]) (st' := []) (σ' := σ) 1 rfl ?_
    exact h
  · refine Wp.adv (pc' := 57) (ls' := [.ref 4, .int x1, .int (x2 + 1), .int x3, .int x4]) (st' := []) (σ' := σ) 1 rfl ?_
    exact h
theorem b53_57 {d : Nat} {Q : Option Value → px_S → Prop} {σ : px_S} {x1 x2 x3 x4 : Int32} {k : Nat} (hk : k = 3 ∨ k = 4) (h : Wp d tb_53 18 [.ref k, .int x1, .int x2, .int x3, .int (x4 + 1)] [] σ Q) : Wp d tb_53 57 [.ref k, .int x1, .int x2, .int x3, .int x4] [] σ Q := by
  rcases hk with rfl | rfl
  · refine Wp.adv (pc' := 18) (ls' := [.ref 3, .int x1, .int x2, .int x3, .int (x4 + 1)]) (st' := []) (σ' := σ) 2 rfl ?_
    exact h
  · refine Wp.adv (pc' := 18) (ls' := [.ref 4, .int x1, .int x2, .int x3, .int (x4 + 1)]) (st' := []) (σ' := σ) 2 rfl ?_
    exact h
theorem b53_63 {d : Nat} {Q : Option Value → px_S → Prop} {σ : px_S} {x1 x2 x3 x4 : Int32} {k : Nat} (hk : k = 3 ∨ k = 4) (h : Wp d tb_53 4 [.ref k, .int x1, .int x2, .int (x3 + 1), .int x4] [] σ Q) : Wp d tb_53 63 [.ref k, .int x1, .int x2, .int x3, .int x4] [] σ Q := by
  rcases hk with rfl | rfl
  · refine Wp.adv (pc' := 4) (ls' := [.ref 3, .int x1, .int x2, .int (x3 + 1), .int x4]) (st' := []) (σ' := σ) 2 rfl ?_
    exact h
  · refine Wp.adv (pc' := 4) (ls' := [.ref 4, .int x1, .int x2, .int (x3 + 1), .int x4]) (st' := []) (σ' := σ) 2 rfl ?_
    exact h
theorem b53_69 {d : Nat} {Q : Option Value → px_S → Prop} {σ : px_S} {x1 x2 x3 : Int32} {v4 : Value} {k : Nat} (hk : k = 3 ∨ k = 4) (h : Q (some (.int x2)) σ) : Wp d tb_53 69 [.ref k, .int x1, .int x2, .int x3, v4] [] σ Q := by
  rcases hk with rfl | rfl
  · refine Wp.adv (pc' := 70) (ls' := [.ref 3, .int x1, .int x2, .int x3, v4]) (st' := [.int x2]) (σ' := σ) 1 rfl ?_
    exact Wp.ret rfl rfl h
  · refine Wp.adv (pc' := 70) (ls' := [.ref 4, .int x1, .int x2, .int x3, v4]) (st' := [.int x2]) (σ' := σ) 1 rfl ?_
    exact Wp.ret rfl rfl h
theorem e53 {d : Nat} {Q : Option Value → px_S → Prop} {σ : px_S} {x1 : Int32} {k : Nat} (h : Wp d tb_53 0 [.ref k, .int x1, .null, .null, .null] [] σ Q) : Cw (d + 1) 53 [.ref k, .int x1] σ Q := Cw.of (nL := 5) (y := yX2_linesFrom) (cc := cX2_linesFrom) (rt := some .int) rfl (Nat.le_of_ble_eq_true rfl) h
theorem b54_0 {d : Nat} {Q : Option Value → px_S → Prop} {σ : px_S} {x1 : Int32} {k : Nat} (hk : k = 3 ∨ k = 4) (h : Wp d tb_54 4 [.ref k, .int x1, .int x1, .int (0 : Int32)] [] σ Q) : Wp d tb_54 0 [.ref k, .int x1, .null, .null] [] σ Q := by
  rcases hk with rfl | rfl
  · refine Wp.adv (pc' := 4) (ls' := [.ref 3, .int x1, .int x1, .int (0 : Int32)]) (st' := []) (σ' := σ) 4 rfl ?_
    exact h
  · refine Wp.adv (pc' := 4) (ls' := [.ref 4, .int x1, .int x1, .int (0 : Int32)]) (st' := []) (σ' := σ) 4 rfl ?_
    exact h
theorem b54_4 {d : Nat} {Q : Option Value → px_S → Prop} {σ : px_S} {x1 x2 x3 : Int32} {k : Nat} (hk : k = 3 ∨ k = 4) (ht : (5 : Int32) < x3 → Wp d tb_54 41 [.ref k, .int x1, .int x2, .int x3] [] σ Q) (hf : ¬ ((5 : Int32) < x3) → Wp d tb_54 9 [.ref k, .int x1, .int x2, .int x3] [] σ Q) : Wp d tb_54 4 [.ref k, .int x1, .int x2, .int x3] [] σ Q := by
  rcases hk with rfl | rfl
  · refine Wp.adv (pc' := 6) (ls' := [.ref 3, .int x1, .int x2, .int x3]) (st' := [.int (5 : Int32), .int x3]) (σ' := σ) 2 rfl ?_
    exact Wp.icmp rfl ht hf
  · refine Wp.adv (pc' := 6) (ls' := [.ref 4, .int x1, .int x2, .int x3]) (st' := [.int (5 : Int32), .int x3]) (σ' := σ) 2 rfl ?_
    exact Wp.icmp rfl ht hf
theorem b54_9 {d : Nat} {Q : Option Value → px_S → Prop} {σ : px_S} {x1 x2 x3 : Int32} {k : Nat} (hk : k = 3 ∨ k = 4) (ht : x2 = (-1 : Int32) → Wp d tb_54 41 [.ref k, .int x1, .int x2, .int x3] [] σ Q) (hf : ¬ (x2 = (-1 : Int32)) → Wp d tb_54 14 [.ref k, .int x1, .int x2, .int x3] [] σ Q) : Wp d tb_54 9 [.ref k, .int x1, .int x2, .int x3] [] σ Q := by
  rcases hk with rfl | rfl
  · refine Wp.adv (pc' := 11) (ls' := [.ref 3, .int x1, .int x2, .int x3]) (st' := [.int (-1 : Int32), .int x2]) (σ' := σ) 2 rfl ?_
    exact Wp.icmp rfl ht hf
  · refine Wp.adv (pc' := 11) (ls' := [.ref 4, .int x1, .int x2, .int x3]) (st' := [.int (-1 : Int32), .int x2]) (σ' := σ) 2 rfl ?_
    exact Wp.icmp rfl ht hf
theorem b54_14 {d : Nat} {Q : Option Value → px_S → Prop} {σ : px_S} {x1 x2 x3 : Int32} {k : Nat} (hk : k = 3 ∨ k = 4) (c1 : vp_in x2 560) (ht : ¬ (σ.1 16 (x2).toNatClampNeg) = 0 → Wp d tb_54 28 [.ref k, .int x1, .int x2, .int x3] [] σ Q) (hf : ¬ (¬ (σ.1 16 (x2).toNatClampNeg) = 0) → Wp d tb_54 26 [.ref k, .int x1, .int x2, .int x3] [] σ Q) : Wp d tb_54 14 [.ref k, .int x1, .int x2, .int x3] [] σ Q := by
  rcases hk with rfl | rfl
  · refine Wp.adv (pc' := 22) (ls' := [.ref 3, .int x1, .int x2, .int x3]) (st' := [.int x2, .ref 16]) (σ' := σ) 4 rfl ?_
    refine Wp.iald (N := 560) rfl rfl c1 ?_
    exact Wp.if_ rfl ht hf
  · refine Wp.adv (pc' := 22) (ls' := [.ref 4, .int x1, .int x2, .int x3]) (st' := [.int x2, .ref 16]) (σ' := σ) 4 rfl ?_
    refine Wp.iald (N := 560) rfl rfl c1 ?_
    exact Wp.if_ rfl ht hf
theorem b54_26 {d : Nat} {Q : Option Value → px_S → Prop} {σ : px_S} {x1 x2 x3 : Int32} {k : Nat} (hk : k = 3 ∨ k = 4) (h : Q (some (.int x2)) σ) : Wp d tb_54 26 [.ref k, .int x1, .int x2, .int x3] [] σ Q := by
  rcases hk with rfl | rfl
  · refine Wp.adv (pc' := 27) (ls' := [.ref 3, .int x1, .int x2, .int x3]) (st' := [.int x2]) (σ' := σ) 1 rfl ?_
    exact Wp.ret rfl rfl h
  · refine Wp.adv (pc' := 27) (ls' := [.ref 4, .int x1, .int x2, .int x3]) (st' := [.int x2]) (σ' := σ) 1 rfl ?_
    exact Wp.ret rfl rfl h
theorem b54_28 {d : Nat} {Q : Option Value → px_S → Prop} {σ : px_S} {x1 x2 x3 : Int32} {k : Nat} (hk : k = 3 ∨ k = 4) (c1 : vp_in x2 560) (h : Wp d tb_54 4 [.ref k, .int x1, .int (σ.1 (2 * k + 16) (x2).toNatClampNeg), .int (x3 + 1)] [] σ Q) : Wp d tb_54 28 [.ref k, .int x1, .int x2, .int x3] [] σ Q := by
  rcases hk with rfl | rfl
  · refine Wp.adv (pc' := 33) (ls' := [.ref 3, .int x1, .int x2, .int x3]) (st' := [.int x2, .ref (2 * 3 + 16)]) (σ' := σ) 3 rfl ?_
    refine Wp.iald (N := 560) rfl rfl c1 ?_
    refine Wp.adv (pc' := 4) (ls' := [.ref 3, .int x1, .int (σ.1 (2 * 3 + 16) (x2).toNatClampNeg), .int (x3 + 1)]) (st' := []) (σ' := σ) 3 rfl ?_
    exact h
  · refine Wp.adv (pc' := 33) (ls' := [.ref 4, .int x1, .int x2, .int x3]) (st' := [.int x2, .ref (2 * 4 + 16)]) (σ' := σ) 3 rfl ?_
    refine Wp.iald (N := 560) rfl rfl c1 ?_
    refine Wp.adv (pc' := 4) (ls' := [.ref 4, .int x1, .int (σ.1 (2 * 4 + 16) (x2).toNatClampNeg), .int (x3 + 1)]) (st' := []) (σ' := σ) 3 rfl ?_
    exact h
theorem b54_41 {d : Nat} {Q : Option Value → px_S → Prop} {σ : px_S} {x1 x2 x3 : Int32} {k : Nat} (hk : k = 3 ∨ k = 4) (h : Q (some (.int (-1 : Int32))) σ) : Wp d tb_54 41 [.ref k, .int x1, .int x2, .int x3] [] σ Q := by
  rcases hk with rfl | rfl
  · refine Wp.adv (pc' := 42) (ls' := [.ref 3, .int x1, .int x2, .int x3]) (st' := [.int (-1 : Int32)]) (σ' := σ) 1 rfl ?_
    exact Wp.ret rfl rfl h
  · refine Wp.adv (pc' := 42) (ls' := [.ref 4, .int x1, .int x2, .int x3]) (st' := [.int (-1 : Int32)]) (σ' := σ) 1 rfl ?_
    exact Wp.ret rfl rfl h
theorem e54 {d : Nat} {Q : Option Value → px_S → Prop} {σ : px_S} {x1 : Int32} {k : Nat} (h : Wp d tb_54 0 [.ref k, .int x1, .null, .null] [] σ Q) : Cw (d + 1) 54 [.ref k, .int x1] σ Q := Cw.of (nL := 4) (y := yX2_sourceOf) (cc := cX2_sourceOf) (rt := some .int) rfl (Nat.le_of_ble_eq_true rfl) h
theorem b55_0 {d : Nat} {Q : Option Value → px_S → Prop} {σ : px_S}  (ht : (σ.1 5 8) = 0 → Wp d tb_55 8 [.ref 5, .null] [] σ Q) (hf : ¬ ((σ.1 5 8) = 0) → Wp d tb_55 7 [.ref 5, .null] [] σ Q) : Wp d tb_55 0 [.ref 5, .null] [] σ Q := by
  refine Wp.adv (pc' := 4) (ls' := [.ref 5, .null]) (st' := [.int (σ.1 5 8)]) (σ' := σ) 2 rfl ?_
  exact Wp.if_ rfl ht hf
theorem b55_7 {d : Nat} {Q : Option Value → px_S → Prop} {σ : px_S}  (h : Q none σ) : Wp d tb_55 7 [.ref 5, .null] [] σ Q := by
  exact Wp.ret rfl rfl h
theorem b55_8 {d : Nat} {Q : Option Value → px_S → Prop} {σ : px_S}  (h : Wp d tb_55 13 [.ref 5, .null] [] (px_uI σ 5 7 (0 : Int32)) Q) : Wp d tb_55 8 [.ref 5, .null] [] σ Q := by
  refine Wp.adv (pc' := 10) (ls' := [.ref 5, .null]) (st' := [.int (0 : Int32), .ref 5]) (σ' := σ) 2 rfl ?_
  refine Wp.step (q := (13, [.ref 5, .null], [], (px_uI σ 5 7 (0 : Int32)))) rfl rfl ?_
  exact h
theorem b55_13 {d : Nat} {Q : Option Value → px_S → Prop} {σ : px_S}  (h : Wp d tb_55 18 [.ref 5, .null] [] (px_uI σ 5 9 (-1 : Int32)) Q) : Wp d tb_55 13 [.ref 5, .null] [] σ Q := by
  refine Wp.adv (pc' := 15) (ls' := [.ref 5, .null]) (st' := [.int (-1 : Int32), .ref 5]) (σ' := σ) 2 rfl ?_
  refine Wp.step (q := (18, [.ref 5, .null], [], (px_uI σ 5 9 (-1 : Int32)))) rfl rfl ?_
  exact h
theorem b55_18 {d : Nat} {Q : Option Value → px_S → Prop} {σ : px_S}  (h : Cw d 0 [.ref 25, .int (-1 : Int32)] σ (fun r τ => Wp d tb_55 26 [.ref 5, .null] (r.toList ++ []) τ Q)) : Wp d tb_55 18 [.ref 5, .null] [] σ Q := by
  refine Wp.adv (pc' := 23) (ls' := [.ref 5, .null]) (st' := [.int (-1 : Int32), .ref 25]) (σ' := σ) 3 rfl ?_
  exact Wp.call (q := (0, 2, 0, 26)) rfl (Nat.le_of_ble_eq_true rfl) rfl h
theorem b55_26 {d : Nat} {Q : Option Value → px_S → Prop} {σ : px_S}  (h : Wp d tb_55 28 [.ref 5, .int (0 : Int32)] [] σ Q) : Wp d tb_55 26 [.ref 5, .null] [] σ Q := by
  refine Wp.adv (pc' := 28) (ls' := [.ref 5, .int (0 : Int32)]) (st' := []) (σ' := σ) 2 rfl ?_
  exact h
theorem b55_28 {d : Nat} {Q : Option Value → px_S → Prop} {σ : px_S} {x1 : Int32} (ht : (σ.1 1 7) ≤ x1 → Wp d tb_55 101 [.ref 5, .int x1] [] σ Q) (hf : ¬ ((σ.1 1 7) ≤ x1) → Wp d tb_55 39 [.ref 5, .int x1] [] σ Q) : Wp d tb_55 28 [.ref 5, .int x1] [] σ Q := by
  refine Wp.adv (pc' := 36) (ls' := [.ref 5, .int x1]) (st' := [.int (σ.1 1 7), .int x1]) (σ' := σ) 4 rfl ?_
  exact Wp.icmp rfl ht hf
theorem b55_39 {d : Nat} {Q : Option Value → px_S → Prop} {σ : px_S} {x1 : Int32} (c1 : vp_in x1 40) (ht : ¬ (σ.1 25 (x1).toNatClampNeg) = (-1 : Int32) → Wp d tb_55 95 [.ref 5, .int x1] [] σ Q) (hf : ¬ (¬ (σ.1 25 (x1).toNatClampNeg) = (-1 : Int32)) → Wp d tb_55 49 [.ref 5, .int x1] [] σ Q) : Wp d tb_55 39 [.ref 5, .int x1] [] σ Q := by
  refine Wp.adv (pc' := 44) (ls' := [.ref 5, .int x1]) (st' := [.int x1, .ref 25]) (σ' := σ) 3 rfl ?_
  refine Wp.iald (N := 40) rfl rfl c1 ?_
  refine Wp.adv (pc' := 46) (ls' := [.ref 5, .int x1]) (st' := [.int (-1 : Int32), .int (σ.1 25 (x1).toNatClampNeg)]) (σ' := σ) 1 rfl ?_
  exact Wp.icmp rfl ht hf
theorem b55_49 {d : Nat} {Q : Option Value → px_S → Prop} {σ : px_S} {x1 : Int32} (h : Cw d 56 [.ref 5, .int x1] σ (fun r τ => Wp d tb_55 54 [.ref 5, .int x1] (r.toList ++ []) τ Q)) : Wp d tb_55 49 [.ref 5, .int x1] [] σ Q := by
  refine Wp.adv (pc' := 51) (ls' := [.ref 5, .int x1]) (st' := [.int x1, .ref 5]) (σ' := σ) 2 rfl ?_
  exact Wp.call (q := (56, 2, 4, 54)) rfl (Nat.le_of_ble_eq_true rfl) rfl h
theorem b55_54 {d : Nat} {Q : Option Value → px_S → Prop} {σ : px_S} {x1 s0 : Int32} (ht : s0 = 0 → Wp d tb_55 95 [.ref 5, .int x1] [] σ Q) (hf : ¬ (s0 = 0) → Wp d tb_55 57 [.ref 5, .int x1] [] σ Q) : Wp d tb_55 54 [.ref 5, .int x1] [.int s0] σ Q := by
  exact Wp.if_ rfl ht hf
theorem b55_57 {d : Nat} {Q : Option Value → px_S → Prop} {σ : px_S} {x1 : Int32} (c1 : vp_in (σ.1 5 7) 40) (h : Wp d tb_55 67 [.ref 5, .int x1] [] (px_uI σ 27 ((σ.1 5 7)).toNatClampNeg x1) Q) : Wp d tb_55 57 [.ref 5, .int x1] [] σ Q := by
  refine Wp.adv (pc' := 66) (ls' := [.ref 5, .int x1]) (st' := [.int x1, .int (σ.1 5 7), .ref 27]) (σ' := σ) 5 rfl ?_
  refine Wp.iast (N := 40) rfl rfl c1 ?_
  exact h
theorem b55_67 {d : Nat} {Q : Option Value → px_S → Prop} {σ : px_S} {x1 : Int32} (h : Cw d 58 [.ref 5, .int x1, .int (σ.1 5 7)] σ (fun r τ => Wp d tb_55 84 [.ref 5, .int x1] (r.toList ++ [.int (σ.1 5 7), .ref 26]) τ Q)) : Wp d tb_55 67 [.ref 5, .int x1] [] σ Q := by
  refine Wp.adv (pc' := 81) (ls' := [.ref 5, .int x1]) (st' := [.int (σ.1 5 7), .int x1, .ref 5, .int (σ.1 5 7), .ref 26]) (σ' := σ) 8 rfl ?_
  exact Wp.call (q := (58, 3, 4, 84)) rfl (Nat.le_of_ble_eq_true rfl) rfl h
theorem b55_84 {d : Nat} {Q : Option Value → px_S → Prop} {σ : px_S} {x1 s0 s1 : Int32} (c1 : vp_in s1 40) (h : Wp d tb_55 85 [.ref 5, .int x1] [] (px_uI σ 26 (s1).toNatClampNeg s0) Q) : Wp d tb_55 84 [.ref 5, .int x1] [.int s0, .int s1, .ref 26] σ Q := by
  refine Wp.iast (N := 40) rfl rfl c1 ?_
  exact h
theorem b55_85 {d : Nat} {Q : Option Value → px_S → Prop} {σ : px_S} {x1 : Int32} (h : Wp d tb_55 95 [.ref 5, .int x1] [] (px_uI σ 5 7 ((σ.1 5 7) + (1 : Int32))) Q) : Wp d tb_55 85 [.ref 5, .int x1] [] σ Q := by
  refine Wp.adv (pc' := 92) (ls' := [.ref 5, .int x1]) (st' := [.int ((σ.1 5 7) + (1 : Int32)), .ref 5]) (σ' := σ) 5 rfl ?_
  refine Wp.step (q := (95, [.ref 5, .int x1], [], (px_uI σ 5 7 ((σ.1 5 7) + (1 : Int32))))) rfl rfl ?_
  exact h
theorem b55_95 {d : Nat} {Q : Option Value → px_S → Prop} {σ : px_S} {x1 : Int32} (h : Wp d tb_55 28 [.ref 5, .int (x1 + 1)] [] σ Q) : Wp d tb_55 95 [.ref 5, .int x1] [] σ Q := by
  refine Wp.adv (pc' := 28) (ls' := [.ref 5, .int (x1 + 1)]) (st' := []) (σ' := σ) 2 rfl ?_
  exact h
theorem b55_101 {d : Nat} {Q : Option Value → px_S → Prop} {σ : px_S} {x1 : Int32} (h : Wp d tb_55 106 [.ref 5, .int x1] [] (px_uI σ 5 8 (1 : Int32)) Q) : Wp d tb_55 101 [.ref 5, .int x1] [] σ Q := by
  refine Wp.adv (pc' := 103) (ls' := [.ref 5, .int x1]) (st' := [.int (1 : Int32), .ref 5]) (σ' := σ) 2 rfl ?_
  refine Wp.step (q := (106, [.ref 5, .int x1], [], (px_uI σ 5 8 (1 : Int32)))) rfl rfl ?_
  exact h
theorem b55_106 {d : Nat} {Q : Option Value → px_S → Prop} {σ : px_S} {x1 : Int32} (h : Q none σ) : Wp d tb_55 106 [.ref 5, .int x1] [] σ Q := by
  exact Wp.ret rfl rfl h
theorem e55 {d : Nat} {Q : Option Value → px_S → Prop} {σ : px_S}  (h : Wp d tb_55 0 [.ref 5, .null] [] σ Q) : Cw (d + 1) 55 [.ref 5] σ Q := Cw.of (nL := 2) (y := yX3_refresh) (cc := cX3_refresh) (rt := none) rfl (Nat.le_of_ble_eq_true rfl) h
theorem b56_0 {d : Nat} {Q : Option Value → px_S → Prop} {σ : px_S} {x1 : Int32} (h : Wp d tb_56 2 [.ref 5, .int x1, .int (0 : Int32)] [] σ Q) : Wp d tb_56 0 [.ref 5, .int x1, .null] [] σ Q := by
  refine Wp.adv (pc' := 2) (ls' := [.ref 5, .int x1, .int (0 : Int32)]) (st' := []) (σ' := σ) 2 rfl ?_
  exact h
theorem b56_2 {d : Nat} {Q : Option Value → px_S → Prop} {σ : px_S} {x1 x2 : Int32} (c1 : vp_in x1 40) (ht : (σ.1 14 (x1).toNatClampNeg) ≤ x2 → Wp d tb_56 32 [.ref 5, .int x1, .int x2] [] σ Q) (hf : ¬ ((σ.1 14 (x1).toNatClampNeg) ≤ x2) → Wp d tb_56 15 [.ref 5, .int x1, .int x2] [] σ Q) : Wp d tb_56 2 [.ref 5, .int x1, .int x2] [] σ Q := by
  refine Wp.adv (pc' := 11) (ls' := [.ref 5, .int x1, .int x2]) (st' := [.int x1, .ref 14, .int x2]) (σ' := σ) 5 rfl ?_
  refine Wp.iald (N := 40) rfl rfl c1 ?_
  exact Wp.icmp rfl ht hf
theorem b56_15 {d : Nat} {Q : Option Value → px_S → Prop} {σ : px_S} {x1 x2 : Int32} (h : Cw d 57 [.ref 5, .int x1, .int x2] σ (fun r τ => Wp d tb_56 21 [.ref 5, .int x1, .int x2] (r.toList ++ []) τ Q)) : Wp d tb_56 15 [.ref 5, .int x1, .int x2] [] σ Q := by
  refine Wp.adv (pc' := 18) (ls' := [.ref 5, .int x1, .int x2]) (st' := [.int x2, .int x1, .ref 5]) (σ' := σ) 3 rfl ?_
  exact Wp.call (q := (57, 3, 4, 21)) rfl (Nat.le_of_ble_eq_true rfl) rfl h
theorem b56_21 {d : Nat} {Q : Option Value → px_S → Prop} {σ : px_S} {x1 x2 s0 : Int32} (ht : s0 = 0 → Wp d tb_56 26 [.ref 5, .int x1, .int x2] [] σ Q) (hf : ¬ (s0 = 0) → Wp d tb_56 24 [.ref 5, .int x1, .int x2] [] σ Q) : Wp d tb_56 21 [.ref 5, .int x1, .int x2] [.int s0] σ Q := by
  exact Wp.if_ rfl ht hf
theorem b56_24 {d : Nat} {Q : Option Value → px_S → Prop} {σ : px_S} {x1 x2 : Int32} (h : Q (some (.int (1 : Int32))) σ) : Wp d tb_56 24 [.ref 5, .int x1, .int x2] [] σ Q := by
  refine Wp.adv (pc' := 25) (ls' := [.ref 5, .int x1, .int x2]) (st' := [.int (1 : Int32)]) (σ' := σ) 1 rfl ?_
  exact Wp.zret rfl (by decide) h
theorem b56_26 {d : Nat} {Q : Option Value → px_S → Prop} {σ : px_S} {x1 x2 : Int32} (h : Wp d tb_56 2 [.ref 5, .int x1, .int (x2 + 1)] [] σ Q) : Wp d tb_56 26 [.ref 5, .int x1, .int x2] [] σ Q := by
  refine Wp.adv (pc' := 2) (ls' := [.ref 5, .int x1, .int (x2 + 1)]) (st' := []) (σ' := σ) 2 rfl ?_
  exact h
theorem b56_32 {d : Nat} {Q : Option Value → px_S → Prop} {σ : px_S} {x1 x2 : Int32} (h : Q (some (.int (0 : Int32))) σ) : Wp d tb_56 32 [.ref 5, .int x1, .int x2] [] σ Q := by
  refine Wp.adv (pc' := 33) (ls' := [.ref 5, .int x1, .int x2]) (st' := [.int (0 : Int32)]) (σ' := σ) 1 rfl ?_
  exact Wp.zret rfl (by decide) h
theorem e56 {d : Nat} {Q : Option Value → px_S → Prop} {σ : px_S} {x1 : Int32} (h : Wp d tb_56 0 [.ref 5, .int x1, .null] [] σ Q) : Cw (d + 1) 56 [.ref 5, .int x1] σ Q := Cw.of (nL := 3) (y := yX3_hasPiece) (cc := cX3_hasPiece) (rt := some .boolean) rfl (Nat.le_of_ble_eq_true rfl) h
theorem b57_0 {d : Nat} {Q : Option Value → px_S → Prop} {σ : px_S} {x1 x2 : Int32} (h : Cw d 11 [.int x1, .int x2] σ (fun r τ => Wp d tb_57 5 [.ref 5, .int x1, .int x2, .null] (r.toList ++ []) τ Q)) : Wp d tb_57 0 [.ref 5, .int x1, .int x2, .null] [] σ Q := by
  refine Wp.adv (pc' := 2) (ls' := [.ref 5, .int x1, .int x2, .null]) (st' := [.int x2, .int x1]) (σ' := σ) 2 rfl ?_
  exact Wp.call (q := (11, 2, 0, 5)) rfl (Nat.le_of_ble_eq_true rfl) rfl h
theorem b57_5 {d : Nat} {Q : Option Value → px_S → Prop} {σ : px_S} {x1 x2 s0 : Int32} (h : Cw d 24 [.ref 3, .int x1] σ (fun r τ => Wp d tb_57 14 [.ref 5, .int x1, .int x2, .int s0] (r.toList ++ []) τ Q)) : Wp d tb_57 5 [.ref 5, .int x1, .int x2, .null] [.int s0] σ Q := by
  refine Wp.adv (pc' := 11) (ls' := [.ref 5, .int x1, .int x2, .int s0]) (st' := [.int x1, .ref 3]) (σ' := σ) 4 rfl ?_
  exact Wp.call (q := (24, 2, 3, 14)) rfl (Nat.le_of_ble_eq_true rfl) rfl h
theorem b57_14 {d : Nat} {Q : Option Value → px_S → Prop} {σ : px_S} {x1 x2 x3 s0 : Int32} (ht : s0 = 0 → Wp d tb_57 47 [.ref 5, .int x1, .int x2, .int x3] [] σ Q) (hf : ¬ (s0 = 0) → Wp d tb_57 17 [.ref 5, .int x1, .int x2, .int x3] [] σ Q) : Wp d tb_57 14 [.ref 5, .int x1, .int x2, .int x3] [.int s0] σ Q := by
  exact Wp.if_ rfl ht hf
theorem b57_17 {d : Nat} {Q : Option Value → px_S → Prop} {σ : px_S} {x1 x2 x3 : Int32} (c1 : vp_in x3 560) (ht : ¬ (σ.1 16 (x3).toNatClampNeg) = (1 : Int32) → Wp d tb_57 47 [.ref 5, .int x1, .int x2, .int x3] [] σ Q) (hf : ¬ (¬ (σ.1 16 (x3).toNatClampNeg) = (1 : Int32)) → Wp d tb_57 30 [.ref 5, .int x1, .int x2, .int x3] [] σ Q) : Wp d tb_57 17 [.ref 5, .int x1, .int x2, .int x3] [] σ Q := by
  refine Wp.adv (pc' := 25) (ls' := [.ref 5, .int x1, .int x2, .int x3]) (st' := [.int x3, .ref 16]) (σ' := σ) 4 rfl ?_
  refine Wp.iald (N := 560) rfl rfl c1 ?_
  refine Wp.adv (pc' := 27) (ls' := [.ref 5, .int x1, .int x2, .int x3]) (st' := [.int (1 : Int32), .int (σ.1 16 (x3).toNatClampNeg)]) (σ' := σ) 1 rfl ?_
  exact Wp.icmp rfl ht hf
theorem b57_30 {d : Nat} {Q : Option Value → px_S → Prop} {σ : px_S} {x1 x2 x3 : Int32} (c1 : vp_in x3 560) (ht : ¬ (σ.1 22 (x3).toNatClampNeg) = (-1 : Int32) → Wp d tb_57 47 [.ref 5, .int x1, .int x2, .int x3] [] σ Q) (hf : ¬ (¬ (σ.1 22 (x3).toNatClampNeg) = (-1 : Int32)) → Wp d tb_57 43 [.ref 5, .int x1, .int x2, .int x3] [] σ Q) : Wp d tb_57 30 [.ref 5, .int x1, .int x2, .int x3] [] σ Q := by
  refine Wp.adv (pc' := 38) (ls' := [.ref 5, .int x1, .int x2, .int x3]) (st' := [.int x3, .ref 22]) (σ' := σ) 4 rfl ?_
  refine Wp.iald (N := 560) rfl rfl c1 ?_
  refine Wp.adv (pc' := 40) (ls' := [.ref 5, .int x1, .int x2, .int x3]) (st' := [.int (-1 : Int32), .int (σ.1 22 (x3).toNatClampNeg)]) (σ' := σ) 1 rfl ?_
  exact Wp.icmp rfl ht hf
theorem b57_43 {d : Nat} {Q : Option Value → px_S → Prop} {σ : px_S} {x1 x2 x3 : Int32} (h : Wp d tb_57 48 [.ref 5, .int x1, .int x2, .int x3] [.int (1 : Int32)] σ Q) : Wp d tb_57 43 [.ref 5, .int x1, .int x2, .int x3] [] σ Q := by
  refine Wp.adv (pc' := 48) (ls' := [.ref 5, .int x1, .int x2, .int x3]) (st' := [.int (1 : Int32)]) (σ' := σ) 2 rfl ?_
  exact h
theorem b57_47 {d : Nat} {Q : Option Value → px_S → Prop} {σ : px_S} {x1 x2 x3 : Int32} (h : Wp d tb_57 48 [.ref 5, .int x1, .int x2, .int x3] [.int (0 : Int32)] σ Q) : Wp d tb_57 47 [.ref 5, .int x1, .int x2, .int x3] [] σ Q := by
  refine Wp.adv (pc' := 48) (ls' := [.ref 5, .int x1, .int x2, .int x3]) (st' := [.int (0 : Int32)]) (σ' := σ) 1 rfl ?_
  exact h
theorem b57_48 {d : Nat} {Q : Option Value → px_S → Prop} {σ : px_S} {x1 x2 x3 s0 : Int32} (c1 : s0 = 0 ∨ s0 = 1) (h : Q (some (.int s0)) σ) : Wp d tb_57 48 [.ref 5, .int x1, .int x2, .int x3] [.int s0] σ Q := by
  exact Wp.zret rfl c1 h
theorem e57 {d : Nat} {Q : Option Value → px_S → Prop} {σ : px_S} {x1 x2 : Int32} (h : Wp d tb_57 0 [.ref 5, .int x1, .int x2, .null] [] σ Q) : Cw (d + 1) 57 [.ref 5, .int x1, .int x2] σ Q := Cw.of (nL := 4) (y := yX3_isOfPiece) (cc := cX3_isOfPiece) (rt := some .boolean) rfl (Nat.le_of_ble_eq_true rfl) h
theorem b58_0 {d : Nat} {Q : Option Value → px_S → Prop} {σ : px_S} {x1 x2 : Int32} (c1 : vp_in (0 : Int32) 40) (h : Wp d tb_58 7 [.ref 5, .int x1, .int x2, .null, .null, .null] [] (px_uI σ 28 ((0 : Int32)).toNatClampNeg x1) Q) : Wp d tb_58 0 [.ref 5, .int x1, .int x2, .null, .null, .null] [] σ Q := by
  refine Wp.adv (pc' := 6) (ls' := [.ref 5, .int x1, .int x2, .null, .null, .null]) (st' := [.int x1, .int (0 : Int32), .ref 28]) (σ' := σ) 4 rfl ?_
  refine Wp.iast (N := 40) rfl rfl c1 ?_
  exact h
theorem b58_7 {d : Nat} {Q : Option Value → px_S → Prop} {σ : px_S} {x1 x2 : Int32} (c1 : vp_in x1 40) (h : Wp d tb_58 14 [.ref 5, .int x1, .int x2, .null, .null, .null] [] (px_uI σ 25 (x1).toNatClampNeg x2) Q) : Wp d tb_58 7 [.ref 5, .int x1, .int x2, .null, .null, .null] [] σ Q := by
  refine Wp.adv (pc' := 13) (ls' := [.ref 5, .int x1, .int x2, .null, .null, .null]) (st' := [.int x2, .int x1, .ref 25]) (σ' := σ) 4 rfl ?_
  refine Wp.iast (N := 40) rfl rfl c1 ?_
  exact h
theorem b58_14 {d : Nat} {Q : Option Value → px_S → Prop} {σ : px_S} {x1 x2 : Int32} (h : Wp d tb_58 19 [.ref 5, .int x1, .int x2, .int (1 : Int32), .int (0 : Int32), .null] [] σ Q) : Wp d tb_58 14 [.ref 5, .int x1, .int x2, .null, .null, .null] [] σ Q := by
  refine Wp.adv (pc' := 19) (ls' := [.ref 5, .int x1, .int x2, .int (1 : Int32), .int (0 : Int32), .null]) (st' := []) (σ' := σ) 4 rfl ?_
  exact h
theorem b58_19 {d : Nat} {Q : Option Value → px_S → Prop} {σ : px_S} {x1 x2 x3 x4 : Int32} {v5 : Value} (ht : x3 ≤ x4 → Wp d tb_58 113 [.ref 5, .int x1, .int x2, .int x3, .int x4, v5] [] σ Q) (hf : ¬ (x3 ≤ x4) → Wp d tb_58 25 [.ref 5, .int x1, .int x2, .int x3, .int x4, v5] [] σ Q) : Wp d tb_58 19 [.ref 5, .int x1, .int x2, .int x3, .int x4, v5] [] σ Q := by
  refine Wp.adv (pc' := 22) (ls' := [.ref 5, .int x1, .int x2, .int x3, .int x4, v5]) (st' := [.int x3, .int x4]) (σ' := σ) 2 rfl ?_
  exact Wp.icmp rfl ht hf
theorem b58_25 {d : Nat} {Q : Option Value → px_S → Prop} {σ : px_S} {x1 x2 x3 x4 : Int32} {v5 : Value} (ht : (40 : Int32) ≤ x4 → Wp d tb_58 113 [.ref 5, .int x1, .int x2, .int x3, .int x4, v5] [] σ Q) (hf : ¬ ((40 : Int32) ≤ x4) → Wp d tb_58 32 [.ref 5, .int x1, .int x2, .int x3, .int x4, v5] [] σ Q) : Wp d tb_58 25 [.ref 5, .int x1, .int x2, .int x3, .int x4, v5] [] σ Q := by
  refine Wp.adv (pc' := 29) (ls' := [.ref 5, .int x1, .int x2, .int x3, .int x4, v5]) (st' := [.int (40 : Int32), .int x4]) (σ' := σ) 2 rfl ?_
  exact Wp.icmp rfl ht hf
theorem b58_32 {d : Nat} {Q : Option Value → px_S → Prop} {σ : px_S} {x1 x2 x3 x4 : Int32} {v5 : Value} (h : Wp d tb_58 37 [.ref 5, .int x1, .int x2, .int x3, .int x4, .int (x1 + (1 : Int32))] [] σ Q) : Wp d tb_58 32 [.ref 5, .int x1, .int x2, .int x3, .int x4, v5] [] σ Q := by
  refine Wp.adv (pc' := 37) (ls' := [.ref 5, .int x1, .int x2, .int x3, .int x4, .int (x1 + (1 : Int32))]) (st' := []) (σ' := σ) 4 rfl ?_
  exact h
theorem b58_37 {d : Nat} {Q : Option Value → px_S → Prop} {σ : px_S} {x1 x2 x3 x4 x5 : Int32} (ht : (σ.1 1 7) ≤ x5 → Wp d tb_58 107 [.ref 5, .int x1, .int x2, .int x3, .int x4, .int x5] [] σ Q) (hf : ¬ ((σ.1 1 7) ≤ x5) → Wp d tb_58 49 [.ref 5, .int x1, .int x2, .int x3, .int x4, .int x5] [] σ Q) : Wp d tb_58 37 [.ref 5, .int x1, .int x2, .int x3, .int x4, .int x5] [] σ Q := by
  refine Wp.adv (pc' := 46) (ls' := [.ref 5, .int x1, .int x2, .int x3, .int x4, .int x5]) (st' := [.int (σ.1 1 7), .int x5]) (σ' := σ) 4 rfl ?_
  exact Wp.icmp rfl ht hf
theorem b58_49 {d : Nat} {Q : Option Value → px_S → Prop} {σ : px_S} {x1 x2 x3 x4 x5 : Int32} (ht : (40 : Int32) ≤ x3 → Wp d tb_58 107 [.ref 5, .int x1, .int x2, .int x3, .int x4, .int x5] [] σ Q) (hf : ¬ ((40 : Int32) ≤ x3) → Wp d tb_58 55 [.ref 5, .int x1, .int x2, .int x3, .int x4, .int x5] [] σ Q) : Wp d tb_58 49 [.ref 5, .int x1, .int x2, .int x3, .int x4, .int x5] [] σ Q := by
  refine Wp.adv (pc' := 52) (ls' := [.ref 5, .int x1, .int x2, .int x3, .int x4, .int x5]) (st' := [.int (40 : Int32), .int x3]) (σ' := σ) 2 rfl ?_
  exact Wp.icmp rfl ht hf
theorem b58_55 {d : Nat} {Q : Option Value → px_S → Prop} {σ : px_S} {x1 x2 x3 x4 x5 : Int32} (c1 : vp_in x5 40) (ht : ¬ (σ.1 25 (x5).toNatClampNeg) = (-1 : Int32) → Wp d tb_58 101 [.ref 5, .int x1, .int x2, .int x3, .int x4, .int x5] [] σ Q) (hf : ¬ (¬ (σ.1 25 (x5).toNatClampNeg) = (-1 : Int32)) → Wp d tb_58 66 [.ref 5, .int x1, .int x2, .int x3, .int x4, .int x5] [] σ Q) : Wp d tb_58 55 [.ref 5, .int x1, .int x2, .int x3, .int x4, .int x5] [] σ Q := by
  refine Wp.adv (pc' := 61) (ls' := [.ref 5, .int x1, .int x2, .int x3, .int x4, .int x5]) (st' := [.int x5, .ref 25]) (σ' := σ) 3 rfl ?_
  refine Wp.iald (N := 40) rfl rfl c1 ?_
  refine Wp.adv (pc' := 63) (ls' := [.ref 5, .int x1, .int x2, .int x3, .int x4, .int x5]) (st' := [.int (-1 : Int32), .int (σ.1 25 (x5).toNatClampNeg)]) (σ' := σ) 1 rfl ?_
  exact Wp.icmp rfl ht hf
theorem b58_66 {d : Nat} {Q : Option Value → px_S → Prop} {σ : px_S} {x1 x2 x3 x4 x5 : Int32} (c1 : vp_in x4 40) (h : Cw d 59 [.ref 5, .int (σ.1 28 (x4).toNatClampNeg), .int x5] σ (fun r τ => Wp d tb_58 79 [.ref 5, .int x1, .int x2, .int x3, .int x4, .int x5] (r.toList ++ []) τ Q)) : Wp d tb_58 66 [.ref 5, .int x1, .int x2, .int x3, .int x4, .int x5] [] σ Q := by
  refine Wp.adv (pc' := 73) (ls' := [.ref 5, .int x1, .int x2, .int x3, .int x4, .int x5]) (st' := [.int x4, .ref 28, .ref 5]) (σ' := σ) 4 rfl ?_
  refine Wp.iald (N := 40) rfl rfl c1 ?_
  refine Wp.adv (pc' := 76) (ls' := [.ref 5, .int x1, .int x2, .int x3, .int x4, .int x5]) (st' := [.int x5, .int (σ.1 28 (x4).toNatClampNeg), .ref 5]) (σ' := σ) 1 rfl ?_
  exact Wp.call (q := (59, 3, 4, 79)) rfl (Nat.le_of_ble_eq_true rfl) rfl h
theorem b58_79 {d : Nat} {Q : Option Value → px_S → Prop} {σ : px_S} {x1 x2 x3 x4 x5 s0 : Int32} (ht : s0 = 0 → Wp d tb_58 101 [.ref 5, .int x1, .int x2, .int x3, .int x4, .int x5] [] σ Q) (hf : ¬ (s0 = 0) → Wp d tb_58 82 [.ref 5, .int x1, .int x2, .int x3, .int x4, .int x5] [] σ Q) : Wp d tb_58 79 [.ref 5, .int x1, .int x2, .int x3, .int x4, .int x5] [.int s0] σ Q := by
  exact Wp.if_ rfl ht hf
theorem b58_82 {d : Nat} {Q : Option Value → px_S → Prop} {σ : px_S} {x1 x2 x3 x4 x5 : Int32} (c1 : vp_in x3 40) (h : Wp d tb_58 90 [.ref 5, .int x1, .int x2, .int x3, .int x4, .int x5] [] (px_uI σ 28 (x3).toNatClampNeg x5) Q) : Wp d tb_58 82 [.ref 5, .int x1, .int x2, .int x3, .int x4, .int x5] [] σ Q := by
  refine Wp.adv (pc' := 89) (ls' := [.ref 5, .int x1, .int x2, .int x3, .int x4, .int x5]) (st' := [.int x5, .int x3, .ref 28]) (σ' := σ) 4 rfl ?_
  refine Wp.iast (N := 40) rfl rfl c1 ?_
  exact h
theorem b58_90 {d : Nat} {Q : Option Value → px_S → Prop} {σ : px_S} {x1 x2 x3 x4 x5 : Int32} (c1 : vp_in x5 40) (h : Wp d tb_58 98 [.ref 5, .int x1, .int x2, .int x3, .int x4, .int x5] [] (px_uI σ 25 (x5).toNatClampNeg x2) Q) : Wp d tb_58 90 [.ref 5, .int x1, .int x2, .int x3, .int x4, .int x5] [] σ Q := by
  refine Wp.adv (pc' := 97) (ls' := [.ref 5, .int x1, .int x2, .int x3, .int x4, .int x5]) (st' := [.int x2, .int x5, .ref 25]) (σ' := σ) 4 rfl ?_
  refine Wp.iast (N := 40) rfl rfl c1 ?_
  exact h
theorem b58_98 {d : Nat} {Q : Option Value → px_S → Prop} {σ : px_S} {x1 x2 x3 x4 x5 : Int32} (h : Wp d tb_58 101 [.ref 5, .int x1, .int x2, .int (x3 + 1), .int x4, .int x5] [] σ Q) : Wp d tb_58 98 [.ref 5, .int x1, .int x2, .int x3, .int x4, .int x5] [] σ Q := by
  refine Wp.adv (pc' := 101) (ls' := [.ref 5, .int x1, .int x2, .int (x3 + 1), .int x4, .int x5]) (st' := []) (σ' := σ) 1 rfl ?_
  exact h
theorem b58_101 {d : Nat} {Q : Option Value → px_S → Prop} {σ : px_S} {x1 x2 x3 x4 x5 : Int32} (h : Wp d tb_58 37 [.ref 5, .int x1, .int x2, .int x3, .int x4, .int (x5 + 1)] [] σ Q) : Wp d tb_58 101 [.ref 5, .int x1, .int x2, .int x3, .int x4, .int x5] [] σ Q := by
  refine Wp.adv (pc' := 37) (ls' := [.ref 5, .int x1, .int x2, .int x3, .int x4, .int (x5 + 1)]) (st' := []) (σ' := σ) 2 rfl ?_
  exact h
theorem b58_107 {d : Nat} {Q : Option Value → px_S → Prop} {σ : px_S} {x1 x2 x3 x4 x5 : Int32} (h : Wp d tb_58 19 [.ref 5, .int x1, .int x2, .int x3, .int (x4 + 1), .int x5] [] σ Q) : Wp d tb_58 107 [.ref 5, .int x1, .int x2, .int x3, .int x4, .int x5] [] σ Q := by
  refine Wp.adv (pc' := 19) (ls' := [.ref 5, .int x1, .int x2, .int x3, .int (x4 + 1), .int x5]) (st' := []) (σ' := σ) 2 rfl ?_
  exact h
theorem b58_113 {d : Nat} {Q : Option Value → px_S → Prop} {σ : px_S} {x1 x2 x3 x4 : Int32} {v5 : Value} (h : Q (some (.int x3)) σ) : Wp d tb_58 113 [.ref 5, .int x1, .int x2, .int x3, .int x4, v5] [] σ Q := by
  refine Wp.adv (pc' := 114) (ls' := [.ref 5, .int x1, .int x2, .int x3, .int x4, v5]) (st' := [.int x3]) (σ' := σ) 1 rfl ?_
  exact Wp.ret rfl rfl h
theorem e58 {d : Nat} {Q : Option Value → px_S → Prop} {σ : px_S} {x1 x2 : Int32} (h : Wp d tb_58 0 [.ref 5, .int x1, .int x2, .null, .null, .null] [] σ Q) : Cw (d + 1) 58 [.ref 5, .int x1, .int x2] σ Q := Cw.of (nL := 6) (y := yX3_gather) (cc := cX3_gather) (rt := some .int) rfl (Nat.le_of_ble_eq_true rfl) h
