/-! ===== basic blocks, 7 ===== -/
theorem b192_109 {d : Nat} {Q : Option Value → px_S → Prop} {σ : px_S} {x1 : Int32} {v2 v3 : Value} (ht : ¬ (σ.1 9 31) = 0 → Wp d tb_192 153 [.ref 9, .int x1, v2, v3] [] σ Q) (hf : ¬ (¬ (σ.1 9 31) = 0) → Wp d tb_192 116 [.ref 9, .int x1, v2, v3] [] σ Q) : Wp d tb_192 109 [.ref 9, .int x1, v2, v3] [] σ Q := by
  refine Wp.adv (pc' := 113) (ls' := [.ref 9, .int x1, v2, v3]) (st' := [.int (σ.1 9 31)]) (σ' := σ) 2 rfl ?_
  exact Wp.if_ rfl ht hf
theorem b192_116 {d : Nat} {Q : Option Value → px_S → Prop} {σ : px_S} {x1 : Int32} {v2 v3 : Value} (h : Cw d 187 [.ref 9] σ (fun r τ => Wp d tb_192 120 [.ref 9, .int x1, v2, v3] (r.toList ++ []) τ Q)) : Wp d tb_192 116 [.ref 9, .int x1, v2, v3] [] σ Q := by
  refine Wp.adv (pc' := 117) (ls' := [.ref 9, .int x1, v2, v3]) (st' := [.ref 9]) (σ' := σ) 1 rfl ?_
  exact Wp.call (q := (187, 1, 9, 120)) rfl (by decide) rfl h
theorem b192_120 {d : Nat} {Q : Option Value → px_S → Prop} {σ : px_S} {x1 s0 : Int32} {v2 v3 : Value} (ht : ¬ s0 = 59 → Wp d tb_192 137 [.ref 9, .int x1, .int s0, v3] [.ref 9, .int (σ.1 9 30), .ref 9] σ Q) (hf : ¬ (¬ s0 = 59) → Wp d tb_192 133 [.ref 9, .int x1, .int s0, v3] [.ref 9, .int (σ.1 9 30), .ref 9] σ Q) : Wp d tb_192 120 [.ref 9, .int x1, v2, v3] [.int s0] σ Q := by
  refine Wp.adv (pc' := 130) (ls' := [.ref 9, .int x1, .int s0, v3]) (st' := [.int 59, .int s0, .ref 9, .int (σ.1 9 30), .ref 9]) (σ' := σ) 7 rfl ?_
  exact Wp.icmp rfl ht hf
theorem b192_133 {d : Nat} {Q : Option Value → px_S → Prop} {σ : px_S} {x1 x2 s1 : Int32} {v3 : Value} (h : Wp d tb_192 138 [.ref 9, .int x1, .int x2, v3] [.int 1, .ref 9, .int s1, .ref 9] σ Q) : Wp d tb_192 133 [.ref 9, .int x1, .int x2, v3] [.ref 9, .int s1, .ref 9] σ Q := by
  refine Wp.adv (pc' := 138) (ls' := [.ref 9, .int x1, .int x2, v3]) (st' := [.int 1, .ref 9, .int s1, .ref 9]) (σ' := σ) 2 rfl ?_
  exact h
theorem b192_137 {d : Nat} {Q : Option Value → px_S → Prop} {σ : px_S} {x1 x2 s1 : Int32} {v3 : Value} (h : Wp d tb_192 138 [.ref 9, .int x1, .int x2, v3] [.int 0, .ref 9, .int s1, .ref 9] σ Q) : Wp d tb_192 137 [.ref 9, .int x1, .int x2, v3] [.ref 9, .int s1, .ref 9] σ Q := by
  refine Wp.adv (pc' := 138) (ls' := [.ref 9, .int x1, .int x2, v3]) (st' := [.int 0, .ref 9, .int s1, .ref 9]) (σ' := σ) 1 rfl ?_
  exact h
theorem b192_138 {d : Nat} {Q : Option Value → px_S → Prop} {σ : px_S} {x1 x2 s0 s2 : Int32} {v3 : Value} (h : Cw d 191 [.ref 9, .int s0, .int 1, .int (σ.1 9 30)] σ (fun r τ => Wp d tb_192 146 [.ref 9, .int x1, .int x2, v3] (r.toList ++ [.int s2, .ref 9]) τ Q)) : Wp d tb_192 138 [.ref 9, .int x1, .int x2, v3] [.int s0, .ref 9, .int s2, .ref 9] σ Q := by
  refine Wp.adv (pc' := 143) (ls' := [.ref 9, .int x1, .int x2, v3]) (st' := [.int (σ.1 9 30), .int 1, .int s0, .ref 9, .int s2, .ref 9]) (σ' := σ) 3 rfl ?_
  exact Wp.call (q := (191, 4, 9, 146)) rfl (by decide) rfl h
theorem b192_146 {d : Nat} {Q : Option Value → px_S → Prop} {σ : px_S} {x1 x2 s0 s1 : Int32} {v3 : Value} (h : Cw d 135 [.int s0] σ (fun r τ => Wp d tb_192 149 [.ref 9, .int x1, .int x2, v3] (r.toList ++ [.int s1, .ref 9]) τ Q)) : Wp d tb_192 146 [.ref 9, .int x1, .int x2, v3] [.int s0, .int s1, .ref 9] σ Q := by
  exact Wp.call (q := (135, 1, 0, 149)) rfl (by decide) rfl h
theorem b192_149 {d : Nat} {Q : Option Value → px_S → Prop} {σ : px_S} {x1 x2 s0 s1 : Int32} {v3 : Value} (h : Wp d tb_192 153 [.ref 9, .int x1, .int x2, v3] [] (px_uI σ 9 30 (s1 + s0)) Q) : Wp d tb_192 149 [.ref 9, .int x1, .int x2, v3] [.int s0, .int s1, .ref 9] σ Q := by
  refine Wp.adv (pc' := 150) (ls' := [.ref 9, .int x1, .int x2, v3]) (st' := [.int (s1 + s0), .ref 9]) (σ' := σ) 1 rfl ?_
  refine Wp.step (q := (153, [.ref 9, .int x1, .int x2, v3], [], (px_uI σ 9 30 (s1 + s0)))) rfl rfl ?_
  exact h
theorem b192_153 {d : Nat} {Q : Option Value → px_S → Prop} {σ : px_S} {x1 : Int32} {v2 v3 : Value} (h : Q none σ) : Wp d tb_192 153 [.ref 9, .int x1, v2, v3] [] σ Q := by
  exact Wp.ret rfl rfl h
theorem e192 {d : Nat} {Q : Option Value → px_S → Prop} {σ : px_S} {x1 : Int32} (h : Wp d tb_192 0 [.ref 9, .int x1, .null, .null] [] σ Q) : Cw (d + 1) 192 [.ref 9, .int x1] σ Q := Cw.of (nL := 4) (y := yX9_readClause) (cc := cX9_readClause) (rt := none) rfl (by decide) h
theorem b193_0 {d : Nat} {Q : Option Value → px_S → Prop} {σ : px_S} {x1 : Int32} (h : Cw d 187 [.ref 9] σ (fun r τ => Wp d tb_193 4 [.ref 9, .int x1, .null, .null, .null, .null] (r.toList ++ []) τ Q)) : Wp d tb_193 0 [.ref 9, .int x1, .null, .null, .null, .null] [] σ Q := by
  refine Wp.adv (pc' := 1) (ls' := [.ref 9, .int x1, .null, .null, .null, .null]) (st' := [.ref 9]) (σ' := σ) 1 rfl ?_
  exact Wp.call (q := (187, 1, 9, 4)) rfl (by decide) rfl h
theorem b193_4 {d : Nat} {Q : Option Value → px_S → Prop} {σ : px_S} {x1 s0 : Int32} (h : Cw d 130 [.long (s0).toInt64, .long 48, .long 57] σ (fun r τ => Wp d tb_193 22 [.ref 9, .int x1, .int s0, .int (σ.1 9 30), .null, .null] (r.toList ++ [.ref 9]) τ Q)) : Wp d tb_193 4 [.ref 9, .int x1, .null, .null, .null, .null] [.int s0] σ Q := by
  refine Wp.adv (pc' := 19) (ls' := [.ref 9, .int x1, .int s0, .int (σ.1 9 30), .null, .null]) (st' := [.long 57, .long 48, .long (s0).toInt64, .ref 9]) (σ' := σ) 9 rfl ?_
  exact Wp.call (q := (130, 3, 0, 22)) rfl (by decide) rfl h
theorem b193_22 {d : Nat} {Q : Option Value → px_S → Prop} {σ : px_S} {x1 x2 x3 s0 : Int32} (h : Cw d 191 [.ref 9, .int s0, .int 1, .int (σ.1 9 30)] σ (fun r τ => Wp d tb_193 30 [.ref 9, .int x1, .int x2, .int x3, .null, .null] (r.toList ++ []) τ Q)) : Wp d tb_193 22 [.ref 9, .int x1, .int x2, .int x3, .null, .null] [.int s0, .ref 9] σ Q := by
  refine Wp.adv (pc' := 27) (ls' := [.ref 9, .int x1, .int x2, .int x3, .null, .null]) (st' := [.int (σ.1 9 30), .int 1, .int s0, .ref 9]) (σ' := σ) 3 rfl ?_
  exact Wp.call (q := (191, 4, 9, 30)) rfl (by decide) rfl h
theorem b193_30 {d : Nat} {Q : Option Value → px_S → Prop} {σ : px_S} {x1 x2 x3 s0 : Int32} (ht : ¬ s0 = 0 → Wp d tb_193 35 [.ref 9, .int x1, .int x2, .int x3, .null, .null] [] σ Q) (hf : ¬ (¬ s0 = 0) → Wp d tb_193 33 [.ref 9, .int x1, .int x2, .int x3, .null, .null] [] σ Q) : Wp d tb_193 30 [.ref 9, .int x1, .int x2, .int x3, .null, .null] [.int s0] σ Q := by
  exact Wp.if_ rfl ht hf
theorem b193_33 {d : Nat} {Q : Option Value → px_S → Prop} {σ : px_S} {x1 x2 x3 : Int32} (h : Q (some (.int 0)) σ) : Wp d tb_193 33 [.ref 9, .int x1, .int x2, .int x3, .null, .null] [] σ Q := by
  refine Wp.adv (pc' := 34) (ls' := [.ref 9, .int x1, .int x2, .int x3, .null, .null]) (st' := [.int 0]) (σ' := σ) 1 rfl ?_
  exact Wp.ret rfl rfl h
theorem b193_35 {d : Nat} {Q : Option Value → px_S → Prop} {σ : px_S} {x1 x2 x3 : Int32} (h : Wp d tb_193 38 [.ref 9, .int x1, .int x2, .int x3, .int 0, .null] [] σ Q) : Wp d tb_193 35 [.ref 9, .int x1, .int x2, .int x3, .null, .null] [] σ Q := by
  refine Wp.adv (pc' := 38) (ls' := [.ref 9, .int x1, .int x2, .int x3, .int 0, .null]) (st' := []) (σ' := σ) 2 rfl ?_
  exact h
theorem b193_38 {d : Nat} {Q : Option Value → px_S → Prop} {σ : px_S} {x1 x2 x3 x4 : Int32} (ht : (σ.1 9 29) ≤ (σ.1 9 30) → Wp d tb_193 117 [.ref 9, .int x1, .int x2, .int x3, .int x4, .null] [] σ Q) (hf : ¬ ((σ.1 9 29) ≤ (σ.1 9 30)) → Wp d tb_193 49 [.ref 9, .int x1, .int x2, .int x3, .int x4, .null] [] σ Q) : Wp d tb_193 38 [.ref 9, .int x1, .int x2, .int x3, .int x4, .null] [] σ Q := by
  refine Wp.adv (pc' := 46) (ls' := [.ref 9, .int x1, .int x2, .int x3, .int x4, .null]) (st' := [.int (σ.1 9 29), .int (σ.1 9 30)]) (σ' := σ) 4 rfl ?_
  exact Wp.icmp rfl ht hf
theorem b193_49 {d : Nat} {Q : Option Value → px_S → Prop} {σ : px_S} {x1 x2 x3 x4 : Int32} (c1 : vp_in (σ.1 9 30) 120) (h : Cw d 130 [.long ((σ.1 57 ((σ.1 9 30)).toNatClampNeg)).toInt64, .long 48, .long 57] σ (fun r τ => Wp d tb_193 68 [.ref 9, .int x1, .int x2, .int x3, .int x4, .null] (r.toList ++ []) τ Q)) : Wp d tb_193 49 [.ref 9, .int x1, .int x2, .int x3, .int x4, .null] [] σ Q := by
  refine Wp.adv (pc' := 57) (ls' := [.ref 9, .int x1, .int x2, .int x3, .int x4, .null]) (st' := [.int (σ.1 9 30), .ref 57]) (σ' := σ) 4 rfl ?_
  refine Wp.iald (N := 120) rfl rfl c1 ?_
  refine Wp.adv (pc' := 65) (ls' := [.ref 9, .int x1, .int x2, .int x3, .int x4, .null]) (st' := [.long 57, .long 48, .long ((σ.1 57 ((σ.1 9 30)).toNatClampNeg)).toInt64]) (σ' := σ) 3 rfl ?_
  exact Wp.call (q := (130, 3, 0, 68)) rfl (by decide) rfl h
theorem b193_68 {d : Nat} {Q : Option Value → px_S → Prop} {σ : px_S} {x1 x2 x3 x4 s0 : Int32} (ht : s0 = 0 → Wp d tb_193 117 [.ref 9, .int x1, .int x2, .int x3, .int x4, .null] [] σ Q) (hf : ¬ (s0 = 0) → Wp d tb_193 71 [.ref 9, .int x1, .int x2, .int x3, .int x4, .null] [] σ Q) : Wp d tb_193 68 [.ref 9, .int x1, .int x2, .int x3, .int x4, .null] [.int s0] σ Q := by
  exact Wp.if_ rfl ht hf
theorem b193_71 {d : Nat} {Q : Option Value → px_S → Prop} {σ : px_S} {x1 x2 x3 x4 : Int32} (ht : x4 ≤ 999 → Wp d tb_193 84 [.ref 9, .int x1, .int x2, .int x3, .int x4, .null] [] σ Q) (hf : ¬ (x4 ≤ 999) → Wp d tb_193 79 [.ref 9, .int x1, .int x2, .int x3, .int x4, .null] [] σ Q) : Wp d tb_193 71 [.ref 9, .int x1, .int x2, .int x3, .int x4, .null] [] σ Q := by
  refine Wp.adv (pc' := 76) (ls' := [.ref 9, .int x1, .int x2, .int x3, .int x4, .null]) (st' := [.int 999, .int x4]) (σ' := σ) 2 rfl ?_
  exact Wp.icmp rfl ht hf
theorem b193_79 {d : Nat} {Q : Option Value → px_S → Prop} {σ : px_S} {x1 x2 x3 x4 : Int32} (h : Wp d tb_193 102 [.ref 9, .int x1, .int x2, .int x3, .int x4, .null] [.int x4] σ Q) : Wp d tb_193 79 [.ref 9, .int x1, .int x2, .int x3, .int x4, .null] [] σ Q := by
  refine Wp.adv (pc' := 102) (ls' := [.ref 9, .int x1, .int x2, .int x3, .int x4, .null]) (st' := [.int x4]) (σ' := σ) 2 rfl ?_
  exact h
theorem b193_84 {d : Nat} {Q : Option Value → px_S → Prop} {σ : px_S} {x1 x2 x3 x4 : Int32} (c1 : vp_in (σ.1 9 30) 120) (h : Wp d tb_193 102 [.ref 9, .int x1, .int x2, .int x3, .int x4, .null] [.int (((10 * x4) + (σ.1 57 ((σ.1 9 30)).toNatClampNeg)) - 48)] σ Q) : Wp d tb_193 84 [.ref 9, .int x1, .int x2, .int x3, .int x4, .null] [] σ Q := by
  refine Wp.adv (pc' := 97) (ls' := [.ref 9, .int x1, .int x2, .int x3, .int x4, .null]) (st' := [.int (σ.1 9 30), .ref 57, .int (10 * x4)]) (σ' := σ) 7 rfl ?_
  refine Wp.iald (N := 120) rfl rfl c1 ?_
  refine Wp.adv (pc' := 102) (ls' := [.ref 9, .int x1, .int x2, .int x3, .int x4, .null]) (st' := [.int (((10 * x4) + (σ.1 57 ((σ.1 9 30)).toNatClampNeg)) - 48)]) (σ' := σ) 3 rfl ?_
  exact h
theorem b193_102 {d : Nat} {Q : Option Value → px_S → Prop} {σ : px_S} {x1 x2 x3 x4 s0 : Int32} (h : Wp d tb_193 114 [.ref 9, .int x1, .int x2, .int x3, .int s0, .null] [] (px_uI σ 9 30 ((σ.1 9 30) + 1)) Q) : Wp d tb_193 102 [.ref 9, .int x1, .int x2, .int x3, .int x4, .null] [.int s0] σ Q := by
  refine Wp.adv (pc' := 111) (ls' := [.ref 9, .int x1, .int x2, .int x3, .int s0, .null]) (st' := [.int ((σ.1 9 30) + 1), .ref 9]) (σ' := σ) 6 rfl ?_
  refine Wp.step (q := (114, [.ref 9, .int x1, .int x2, .int x3, .int s0, .null], [], (px_uI σ 9 30 ((σ.1 9 30) + 1)))) rfl rfl ?_
  exact h
theorem b193_114 {d : Nat} {Q : Option Value → px_S → Prop} {σ : px_S} {x1 x2 x3 x4 : Int32} (h : Wp d tb_193 38 [.ref 9, .int x1, .int x2, .int x3, .int x4, .null] [] σ Q) : Wp d tb_193 114 [.ref 9, .int x1, .int x2, .int x3, .int x4, .null] [] σ Q := by
  refine Wp.adv (pc' := 38) (ls' := [.ref 9, .int x1, .int x2, .int x3, .int x4, .null]) (st' := []) (σ' := σ) 1 rfl ?_
  exact h
theorem b193_117 {d : Nat} {Q : Option Value → px_S → Prop} {σ : px_S} {x1 x2 x3 x4 : Int32} (ht : 4 ≤ ((σ.1 9 30) - x3) → Wp d tb_193 138 [.ref 9, .int x1, .int x2, .int x3, .int x4, .null] [.ref 9] σ Q) (hf : ¬ (4 ≤ ((σ.1 9 30) - x3)) → Wp d tb_193 128 [.ref 9, .int x1, .int x2, .int x3, .int x4, .null] [.ref 9] σ Q) : Wp d tb_193 117 [.ref 9, .int x1, .int x2, .int x3, .int x4, .null] [] σ Q := by
  refine Wp.adv (pc' := 125) (ls' := [.ref 9, .int x1, .int x2, .int x3, .int x4, .null]) (st' := [.int 4, .int ((σ.1 9 30) - x3), .ref 9]) (σ' := σ) 6 rfl ?_
  exact Wp.icmp rfl ht hf
theorem b193_128 {d : Nat} {Q : Option Value → px_S → Prop} {σ : px_S} {x1 x2 x3 x4 : Int32} (ht : x1 < x4 → Wp d tb_193 138 [.ref 9, .int x1, .int x2, .int x3, .int x4, .null] [.ref 9] σ Q) (hf : ¬ (x1 < x4) → Wp d tb_193 134 [.ref 9, .int x1, .int x2, .int x3, .int x4, .null] [.ref 9] σ Q) : Wp d tb_193 128 [.ref 9, .int x1, .int x2, .int x3, .int x4, .null] [.ref 9] σ Q := by
  refine Wp.adv (pc' := 131) (ls' := [.ref 9, .int x1, .int x2, .int x3, .int x4, .null]) (st' := [.int x1, .int x4, .ref 9]) (σ' := σ) 2 rfl ?_
  exact Wp.icmp rfl ht hf
theorem b193_134 {d : Nat} {Q : Option Value → px_S → Prop} {σ : px_S} {x1 x2 x3 x4 : Int32} (h : Wp d tb_193 139 [.ref 9, .int x1, .int x2, .int x3, .int x4, .null] [.int 1, .ref 9] σ Q) : Wp d tb_193 134 [.ref 9, .int x1, .int x2, .int x3, .int x4, .null] [.ref 9] σ Q := by
  refine Wp.adv (pc' := 139) (ls' := [.ref 9, .int x1, .int x2, .int x3, .int x4, .null]) (st' := [.int 1, .ref 9]) (σ' := σ) 2 rfl ?_
  exact h
theorem b193_138 {d : Nat} {Q : Option Value → px_S → Prop} {σ : px_S} {x1 x2 x3 x4 : Int32} (h : Wp d tb_193 139 [.ref 9, .int x1, .int x2, .int x3, .int x4, .null] [.int 0, .ref 9] σ Q) : Wp d tb_193 138 [.ref 9, .int x1, .int x2, .int x3, .int x4, .null] [.ref 9] σ Q := by
  refine Wp.adv (pc' := 139) (ls' := [.ref 9, .int x1, .int x2, .int x3, .int x4, .null]) (st' := [.int 0, .ref 9]) (σ' := σ) 1 rfl ?_
  exact h
theorem b193_139 {d : Nat} {Q : Option Value → px_S → Prop} {σ : px_S} {x1 x2 x3 x4 s0 : Int32} (h : Cw d 191 [.ref 9, .int s0, .int 2, .int x3] σ (fun r τ => Wp d tb_193 144 [.ref 9, .int x1, .int x2, .int x3, .int x4, .null] (r.toList ++ []) τ Q)) : Wp d tb_193 139 [.ref 9, .int x1, .int x2, .int x3, .int x4, .null] [.int s0, .ref 9] σ Q := by
  refine Wp.adv (pc' := 141) (ls' := [.ref 9, .int x1, .int x2, .int x3, .int x4, .null]) (st' := [.int x3, .int 2, .int s0, .ref 9]) (σ' := σ) 2 rfl ?_
  exact Wp.call (q := (191, 4, 9, 144)) rfl (by decide) rfl h
theorem b193_144 {d : Nat} {Q : Option Value → px_S → Prop} {σ : px_S} {x1 x2 x3 x4 s0 : Int32} (h : Q (some (.int x4)) σ) : Wp d tb_193 144 [.ref 9, .int x1, .int x2, .int x3, .int x4, .null] [.int s0] σ Q := by
  refine Wp.adv (pc' := 148) (ls' := [.ref 9, .int x1, .int x2, .int x3, .int x4, .int s0]) (st' := [.int x4]) (σ' := σ) 2 rfl ?_
  exact Wp.ret rfl rfl h
theorem e193 {d : Nat} {Q : Option Value → px_S → Prop} {σ : px_S} {x1 : Int32} (h : Wp d tb_193 0 [.ref 9, .int x1, .null, .null, .null, .null] [] σ Q) : Cw (d + 1) 193 [.ref 9, .int x1] σ Q := Cw.of (nL := 6) (y := yX9_takeNumber) (cc := cX9_takeNumber) (rt := some .int) rfl (by decide) h
theorem b194_0 {d : Nat} {Q : Option Value → px_S → Prop} {σ : px_S}  (h : Q (some (.int (σ.1 9 32))) σ) : Wp d tb_194 0 [.ref 9] [] σ Q := by
  refine Wp.adv (pc' := 4) (ls' := [.ref 9]) (st' := [.int (σ.1 9 32)]) (σ' := σ) 2 rfl ?_
  exact Wp.ret rfl rfl h
theorem e194 {d : Nat} {Q : Option Value → px_S → Prop} {σ : px_S}  (h : Wp d tb_194 0 [.ref 9] [] σ Q) : Cw (d + 1) 194 [.ref 9] σ Q := Cw.of (nL := 1) (y := yX9_fault) (cc := cX9_fault) (rt := some .int) rfl (by decide) h
theorem b195_0 {d : Nat} {Q : Option Value → px_S → Prop} {σ : px_S} {x1 : Int32} (h : Cw d 130 [.long (x1).toInt64, .long 0, .long 4] σ (fun r τ => Wp d tb_195 9 [.ref 9, .int x1] (r.toList ++ []) τ Q)) : Wp d tb_195 0 [.ref 9, .int x1] [] σ Q := by
  refine Wp.adv (pc' := 6) (ls' := [.ref 9, .int x1]) (st' := [.long 4, .long 0, .long (x1).toInt64]) (σ' := σ) 4 rfl ?_
  exact Wp.call (q := (130, 3, 0, 9)) rfl (by decide) rfl h
theorem b195_9 {d : Nat} {Q : Option Value → px_S → Prop} {σ : px_S} {x1 s0 : Int32} (ht : s0 = 0 → Wp d tb_195 21 [.ref 9, .int x1] [] σ Q) (hf : ¬ (s0 = 0) → Wp d tb_195 12 [.ref 9, .int x1] [] σ Q) : Wp d tb_195 9 [.ref 9, .int x1] [.int s0] σ Q := by
  exact Wp.if_ rfl ht hf
theorem b195_12 {d : Nat} {Q : Option Value → px_S → Prop} {σ : px_S} {x1 : Int32} (c1 : vp_in x1 5) (h : Wp d tb_195 24 [.ref 9, .int x1] [.int (σ.1 37 (x1).toNatClampNeg)] σ Q) : Wp d tb_195 12 [.ref 9, .int x1] [] σ Q := by
  refine Wp.adv (pc' := 17) (ls' := [.ref 9, .int x1]) (st' := [.int x1, .ref 37]) (σ' := σ) 3 rfl ?_
  refine Wp.iald (N := 5) rfl rfl c1 ?_
  refine Wp.adv (pc' := 24) (ls' := [.ref 9, .int x1]) (st' := [.int (σ.1 37 (x1).toNatClampNeg)]) (σ' := σ) 1 rfl ?_
  exact h
theorem b195_21 {d : Nat} {Q : Option Value → px_S → Prop} {σ : px_S} {x1 : Int32} (h : Wp d tb_195 24 [.ref 9, .int x1] [.int (-1002)] σ Q) : Wp d tb_195 21 [.ref 9, .int x1] [] σ Q := by
  refine Wp.adv (pc' := 24) (ls' := [.ref 9, .int x1]) (st' := [.int (-1002)]) (σ' := σ) 1 rfl ?_
  exact h
theorem b195_24 {d : Nat} {Q : Option Value → px_S → Prop} {σ : px_S} {x1 s0 : Int32} (h : Q (some (.int s0)) σ) : Wp d tb_195 24 [.ref 9, .int x1] [.int s0] σ Q := by
  exact Wp.ret rfl rfl h
theorem e195 {d : Nat} {Q : Option Value → px_S → Prop} {σ : px_S} {x1 : Int32} (h : Wp d tb_195 0 [.ref 9, .int x1] [] σ Q) : Cw (d + 1) 195 [.ref 9, .int x1] σ Q := Cw.of (nL := 2) (y := yX9_rule) (cc := cX9_rule) (rt := some .int) rfl (by decide) h
