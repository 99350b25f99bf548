/-! ===== basic blocks, 2 ===== -/
theorem b59_0 {d : Nat} {Q : Option Value → px_S → Prop} {σ : px_S} {x1 x2 : Int32} (h : Wp d tb_59 2 [.ref 5, .int x1, .int x2, .int (0 : Int32)] [] σ Q) : Wp d tb_59 0 [.ref 5, .int x1, .int x2, .null] [] σ Q := by
  refine Wp.adv (pc' := 2) (ls' := [.ref 5, .int x1, .int x2, .int (0 : Int32)]) (st' := []) (σ' := σ) 2 rfl ?_
  exact h
theorem b59_2 {d : Nat} {Q : Option Value → px_S → Prop} {σ : px_S} {x1 x2 x3 : Int32} (c1 : vp_in x1 40) (ht : (σ.1 14 (x1).toNatClampNeg) ≤ x3 → Wp d tb_59 53 [.ref 5, .int x1, .int x2, .int x3] [] σ Q) (hf : ¬ ((σ.1 14 (x1).toNatClampNeg) ≤ x3) → Wp d tb_59 15 [.ref 5, .int x1, .int x2, .int x3] [] σ Q) : Wp d tb_59 2 [.ref 5, .int x1, .int x2, .int x3] [] σ Q := by
  refine Wp.adv (pc' := 11) (ls' := [.ref 5, .int x1, .int x2, .int x3]) (st' := [.int x1, .ref 14, .int x3]) (σ' := σ) 5 rfl ?_
  refine Wp.iald (N := 40) rfl rfl c1 ?_
  exact Wp.icmp rfl ht hf
theorem b59_15 {d : Nat} {Q : Option Value → px_S → Prop} {σ : px_S} {x1 x2 x3 : Int32} (h : Cw d 57 [.ref 5, .int x1, .int x3] σ (fun r τ => Wp d tb_59 21 [.ref 5, .int x1, .int x2, .int x3] (r.toList ++ []) τ Q)) : Wp d tb_59 15 [.ref 5, .int x1, .int x2, .int x3] [] σ Q := by
  refine Wp.adv (pc' := 18) (ls' := [.ref 5, .int x1, .int x2, .int x3]) (st' := [.int x3, .int x1, .ref 5]) (σ' := σ) 3 rfl ?_
  exact Wp.call (q := (57, 3, 4, 21)) rfl (Nat.le_of_ble_eq_true rfl) rfl h
theorem b59_21 {d : Nat} {Q : Option Value → px_S → Prop} {σ : px_S} {x1 x2 x3 s0 : Int32} (ht : s0 = 0 → Wp d tb_59 47 [.ref 5, .int x1, .int x2, .int x3] [] σ Q) (hf : ¬ (s0 = 0) → Wp d tb_59 24 [.ref 5, .int x1, .int x2, .int x3] [] σ Q) : Wp d tb_59 21 [.ref 5, .int x1, .int x2, .int x3] [.int s0] σ Q := by
  exact Wp.if_ rfl ht hf
theorem b59_24 {d : Nat} {Q : Option Value → px_S → Prop} {σ : px_S} {x1 x2 x3 : Int32} (h : Cw d 11 [.int x1, .int x3] σ (fun r τ => Wp d tb_59 38 [.ref 5, .int x1, .int x2, .int x3] (r.toList ++ [.ref 17, .int x2, .ref 5]) τ Q)) : Wp d tb_59 24 [.ref 5, .int x1, .int x2, .int x3] [] σ Q := by
  refine Wp.adv (pc' := 35) (ls' := [.ref 5, .int x1, .int x2, .int x3]) (st' := [.int x3, .int x1, .ref 17, .int x2, .ref 5]) (σ' := σ) 7 rfl ?_
  exact Wp.call (q := (11, 2, 0, 38)) rfl (Nat.le_of_ble_eq_true rfl) rfl h
theorem b59_38 {d : Nat} {Q : Option Value → px_S → Prop} {σ : px_S} {x1 x2 x3 s0 s2 : Int32} (c1 : vp_in s0 560) (h : Cw d 60 [.ref 5, .int s2, .long (σ.2.1 17 (s0).toNatClampNeg)] σ (fun r τ => Wp d tb_59 42 [.ref 5, .int x1, .int x2, .int x3] (r.toList ++ []) τ Q)) : Wp d tb_59 38 [.ref 5, .int x1, .int x2, .int x3] [.int s0, .ref 17, .int s2, .ref 5] σ Q := by
  refine Wp.lald (N := 560) rfl rfl c1 ?_
  exact Wp.call (q := (60, 3, 4, 42)) rfl (Nat.le_of_ble_eq_true rfl) rfl h
theorem b59_42 {d : Nat} {Q : Option Value → px_S → Prop} {σ : px_S} {x1 x2 x3 s0 : Int32} (ht : s0 = 0 → Wp d tb_59 47 [.ref 5, .int x1, .int x2, .int x3] [] σ Q) (hf : ¬ (s0 = 0) → Wp d tb_59 45 [.ref 5, .int x1, .int x2, .int x3] [] σ Q) : Wp d tb_59 42 [.ref 5, .int x1, .int x2, .int x3] [.int s0] σ Q := by
  exact Wp.if_ rfl ht hf
theorem b59_45 {d : Nat} {Q : Option Value → px_S → Prop} {σ : px_S} {x1 x2 x3 : Int32} (h : Q (some (.int (1 : Int32))) σ) : Wp d tb_59 45 [.ref 5, .int x1, .int x2, .int x3] [] σ Q := by
  refine Wp.adv (pc' := 46) (ls' := [.ref 5, .int x1, .int x2, .int x3]) (st' := [.int (1 : Int32)]) (σ' := σ) 1 rfl ?_
  exact Wp.zret rfl (by decide) h
theorem b59_47 {d : Nat} {Q : Option Value → px_S → Prop} {σ : px_S} {x1 x2 x3 : Int32} (h : Wp d tb_59 2 [.ref 5, .int x1, .int x2, .int (x3 + 1)] [] σ Q) : Wp d tb_59 47 [.ref 5, .int x1, .int x2, .int x3] [] σ Q := by
  refine Wp.adv (pc' := 2) (ls' := [.ref 5, .int x1, .int x2, .int (x3 + 1)]) (st' := []) (σ' := σ) 2 rfl ?_
  exact h
theorem b59_53 {d : Nat} {Q : Option Value → px_S → Prop} {σ : px_S} {x1 x2 x3 : Int32} (h : Q (some (.int (0 : Int32))) σ) : Wp d tb_59 53 [.ref 5, .int x1, .int x2, .int x3] [] σ Q := by
  refine Wp.adv (pc' := 54) (ls' := [.ref 5, .int x1, .int x2, .int x3]) (st' := [.int (0 : Int32)]) (σ' := σ) 1 rfl ?_
  exact Wp.zret rfl (by decide) h
theorem e59 {d : Nat} {Q : Option Value → px_S → Prop} {σ : px_S} {x1 x2 : Int32} (h : Wp d tb_59 0 [.ref 5, .int x1, .int x2, .null] [] σ Q) : Cw (d + 1) 59 [.ref 5, .int x1, .int x2] σ Q := Cw.of (nL := 4) (y := yX3_shareText) (cc := cX3_shareText) (rt := some .boolean) rfl (Nat.le_of_ble_eq_true rfl) h
theorem b60_0 {d : Nat} {Q : Option Value → px_S → Prop} {σ : px_S} {x1 : Int32} {y2 : Int64} (h : Wp d tb_60 3 [.ref 5, .int x1, .long y2, .null, .int (0 : Int32)] [] σ Q) : Wp d tb_60 0 [.ref 5, .int x1, .long y2, .null, .null] [] σ Q := by
  refine Wp.adv (pc' := 3) (ls' := [.ref 5, .int x1, .long y2, .null, .int (0 : Int32)]) (st' := []) (σ' := σ) 2 rfl ?_
  exact h
theorem b60_3 {d : Nat} {Q : Option Value → px_S → Prop} {σ : px_S} {x1 x4 : Int32} {y2 : Int64} (c1 : vp_in x1 40) (ht : (σ.1 14 (x1).toNatClampNeg) ≤ x4 → Wp d tb_60 54 [.ref 5, .int x1, .long y2, .null, .int x4] [] σ Q) (hf : ¬ ((σ.1 14 (x1).toNatClampNeg) ≤ x4) → Wp d tb_60 17 [.ref 5, .int x1, .long y2, .null, .int x4] [] σ Q) : Wp d tb_60 3 [.ref 5, .int x1, .long y2, .null, .int x4] [] σ Q := by
  refine Wp.adv (pc' := 13) (ls' := [.ref 5, .int x1, .long y2, .null, .int x4]) (st' := [.int x1, .ref 14, .int x4]) (σ' := σ) 5 rfl ?_
  refine Wp.iald (N := 40) rfl rfl c1 ?_
  exact Wp.icmp rfl ht hf
theorem b60_17 {d : Nat} {Q : Option Value → px_S → Prop} {σ : px_S} {x1 x4 : Int32} {y2 : Int64} (h : Cw d 11 [.int x1, .int x4] σ (fun r τ => Wp d tb_60 30 [.ref 5, .int x1, .long y2, .null, .int x4] (r.toList ++ [.ref 17]) τ Q)) : Wp d tb_60 17 [.ref 5, .int x1, .long y2, .null, .int x4] [] σ Q := by
  refine Wp.adv (pc' := 27) (ls' := [.ref 5, .int x1, .long y2, .null, .int x4]) (st' := [.int x4, .int x1, .ref 17]) (σ' := σ) 5 rfl ?_
  exact Wp.call (q := (11, 2, 0, 30)) rfl (Nat.le_of_ble_eq_true rfl) rfl h
theorem b60_30 {d : Nat} {Q : Option Value → px_S → Prop} {σ : px_S} {x1 x4 s0 : Int32} {y2 : Int64} (c1 : vp_in s0 560) (ht : ¬ (lg_cmp (σ.2.1 17 (s0).toNatClampNeg) y2) = 0 → Wp d tb_60 48 [.ref 5, .int x1, .long y2, .null, .int x4] [] σ Q) (hf : ¬ (¬ (lg_cmp (σ.2.1 17 (s0).toNatClampNeg) y2) = 0) → Wp d tb_60 36 [.ref 5, .int x1, .long y2, .null, .int x4] [] σ Q) : Wp d tb_60 30 [.ref 5, .int x1, .long y2, .null, .int x4] [.int s0, .ref 17] σ Q := by
  refine Wp.lald (N := 560) rfl rfl c1 ?_
  refine Wp.adv (pc' := 33) (ls' := [.ref 5, .int x1, .long y2, .null, .int x4]) (st' := [.int (lg_cmp (σ.2.1 17 (s0).toNatClampNeg) y2)]) (σ' := σ) 2 rfl ?_
  exact Wp.if_ rfl ht hf
theorem b60_36 {d : Nat} {Q : Option Value → px_S → Prop} {σ : px_S} {x1 x4 : Int32} {y2 : Int64} (h : Cw d 57 [.ref 5, .int x1, .int x4] σ (fun r τ => Wp d tb_60 43 [.ref 5, .int x1, .long y2, .null, .int x4] (r.toList ++ []) τ Q)) : Wp d tb_60 36 [.ref 5, .int x1, .long y2, .null, .int x4] [] σ Q := by
  refine Wp.adv (pc' := 40) (ls' := [.ref 5, .int x1, .long y2, .null, .int x4]) (st' := [.int x4, .int x1, .ref 5]) (σ' := σ) 3 rfl ?_
  exact Wp.call (q := (57, 3, 4, 43)) rfl (Nat.le_of_ble_eq_true rfl) rfl h
theorem b60_43 {d : Nat} {Q : Option Value → px_S → Prop} {σ : px_S} {x1 x4 s0 : Int32} {y2 : Int64} (ht : s0 = 0 → Wp d tb_60 48 [.ref 5, .int x1, .long y2, .null, .int x4] [] σ Q) (hf : ¬ (s0 = 0) → Wp d tb_60 46 [.ref 5, .int x1, .long y2, .null, .int x4] [] σ Q) : Wp d tb_60 43 [.ref 5, .int x1, .long y2, .null, .int x4] [.int s0] σ Q := by
  exact Wp.if_ rfl ht hf
theorem b60_46 {d : Nat} {Q : Option Value → px_S → Prop} {σ : px_S} {x1 x4 : Int32} {y2 : Int64} (h : Q (some (.int (1 : Int32))) σ) : Wp d tb_60 46 [.ref 5, .int x1, .long y2, .null, .int x4] [] σ Q := by
  refine Wp.adv (pc' := 47) (ls' := [.ref 5, .int x1, .long y2, .null, .int x4]) (st' := [.int (1 : Int32)]) (σ' := σ) 1 rfl ?_
  exact Wp.zret rfl (by decide) h
theorem b60_48 {d : Nat} {Q : Option Value → px_S → Prop} {σ : px_S} {x1 x4 : Int32} {y2 : Int64} (h : Wp d tb_60 3 [.ref 5, .int x1, .long y2, .null, .int (x4 + 1)] [] σ Q) : Wp d tb_60 48 [.ref 5, .int x1, .long y2, .null, .int x4] [] σ Q := by
  refine Wp.adv (pc' := 3) (ls' := [.ref 5, .int x1, .long y2, .null, .int (x4 + 1)]) (st' := []) (σ' := σ) 2 rfl ?_
  exact h
theorem b60_54 {d : Nat} {Q : Option Value → px_S → Prop} {σ : px_S} {x1 x4 : Int32} {y2 : Int64} (h : Q (some (.int (0 : Int32))) σ) : Wp d tb_60 54 [.ref 5, .int x1, .long y2, .null, .int x4] [] σ Q := by
  refine Wp.adv (pc' := 55) (ls' := [.ref 5, .int x1, .long y2, .null, .int x4]) (st' := [.int (0 : Int32)]) (σ' := σ) 1 rfl ?_
  exact Wp.zret rfl (by decide) h
theorem e60 {d : Nat} {Q : Option Value → px_S → Prop} {σ : px_S} {x1 : Int32} {y2 : Int64} (h : Wp d tb_60 0 [.ref 5, .int x1, .long y2, .null, .null] [] σ Q) : Cw (d + 1) 60 [.ref 5, .int x1, .long y2] σ Q := Cw.of (nL := 5) (y := yX3_pieceHas) (cc := cX3_pieceHas) (rt := some .boolean) rfl (Nat.le_of_ble_eq_true rfl) h
theorem b61_0 {d : Nat} {Q : Option Value → px_S → Prop} {σ : px_S}  {k : Nat} (hk : k = 3 ∨ k = 4) (h : Wp d tb_61 4 [.ref k, .int (0 : Int32), .int (0 : Int32)] [] σ Q) : Wp d tb_61 0 [.ref k, .null, .null] [] σ Q := by
  rcases hk with rfl | rfl
  · refine Wp.adv (pc' := 4) (ls' := [.ref 3, .int (0 : Int32), .int (0 : Int32)]) (st' := []) (σ' := σ) 4 rfl ?_
    exact h
  · refine Wp.adv (pc' := 4) (ls' := [.ref 4, .int (0 : Int32), .int (0 : Int32)]) (st' := []) (σ' := σ) 4 rfl ?_
    exact h
theorem b61_4 {d : Nat} {Q : Option Value → px_S → Prop} {σ : px_S} {x1 x2 : Int32} {k : Nat} (hk : k = 3 ∨ k = 4) (ht : (σ.1 1 7) ≤ x2 → Wp d tb_61 32 [.ref k, .int x1, .int x2] [] σ Q) (hf : ¬ ((σ.1 1 7) ≤ x2) → Wp d tb_61 15 [.ref k, .int x1, .int x2] [] σ Q) : Wp d tb_61 4 [.ref k, .int x1, .int x2] [] σ Q := by
  rcases hk with rfl | rfl
  · refine Wp.adv (pc' := 12) (ls' := [.ref 3, .int x1, .int x2]) (st' := [.int (σ.1 1 7), .int x2]) (σ' := σ) 4 rfl ?_
    exact Wp.icmp rfl ht hf
  · refine Wp.adv (pc' := 12) (ls' := [.ref 4, .int x1, .int x2]) (st' := [.int (σ.1 1 7), .int x2]) (σ' := σ) 4 rfl ?_
    exact Wp.icmp rfl ht hf
theorem b61_15 {d : Nat} {Q : Option Value → px_S → Prop} {σ : px_S} {x1 x2 : Int32} {k : Nat} (hk : k = 3 ∨ k = 4) (h : Cw d 62 [.ref k, .int x2] σ (fun r τ => Wp d tb_61 20 [.ref k, .int x1, .int x2] (r.toList ++ []) τ Q)) : Wp d tb_61 15 [.ref k, .int x1, .int x2] [] σ Q := by
  rcases hk with rfl | rfl
  · refine Wp.adv (pc' := 17) (ls' := [.ref 3, .int x1, .int x2]) (st' := [.int x2, .ref 3]) (σ' := σ) 2 rfl ?_
    exact Wp.call (q := (62, 2, 3, 20)) rfl (Nat.le_of_ble_eq_true rfl) rfl h
  · refine Wp.adv (pc' := 17) (ls' := [.ref 4, .int x1, .int x2]) (st' := [.int x2, .ref 4]) (σ' := σ) 2 rfl ?_
    exact Wp.call (q := (62, 2, 3, 20)) rfl (Nat.le_of_ble_eq_true rfl) rfl h
theorem b61_20 {d : Nat} {Q : Option Value → px_S → Prop} {σ : px_S} {x1 x2 s0 : Int32} {k : Nat} (hk : k = 3 ∨ k = 4) (ht : s0 = 0 → Wp d tb_61 26 [.ref k, .int x1, .int x2] [] σ Q) (hf : ¬ (s0 = 0) → Wp d tb_61 23 [.ref k, .int x1, .int x2] [] σ Q) : Wp d tb_61 20 [.ref k, .int x1, .int x2] [.int s0] σ Q := by
  rcases hk with rfl | rfl
  · exact Wp.if_ rfl ht hf
  · exact Wp.if_ rfl ht hf
theorem b61_23 {d : Nat} {Q : Option Value → px_S → Prop} {σ : px_S} {x1 x2 : Int32} {k : Nat} (hk : k = 3 ∨ k = 4) (h : Wp d tb_61 26 [.ref k, .int (x1 + 1), .int x2] [] σ Q) : Wp d tb_61 23 [.ref k, .int x1, .int x2] [] σ Q := by
  rcases hk with rfl | rfl
  · refine Wp.adv (pc' := 26) (ls' := [.ref 3, .int (x1 + 1), .int x2]) (st' := []) (σ' := σ) 1 rfl ?_
    exact h
  · refine Wp.adv (pc' := 26) (ls' := [.ref 4, .int (x1 + 1), .int x2]) (st' := []) (σ' := σ) 1 rfl ?_
    exact h
theorem b61_26 {d : Nat} {Q : Option Value → px_S → Prop} {σ : px_S} {x1 x2 : Int32} {k : Nat} (hk : k = 3 ∨ k = 4) (h : Wp d tb_61 4 [.ref k, .int x1, .int (x2 + 1)] [] σ Q) : Wp d tb_61 26 [.ref k, .int x1, .int x2] [] σ Q := by
  rcases hk with rfl | rfl
  · refine Wp.adv (pc' := 4) (ls' := [.ref 3, .int x1, .int (x2 + 1)]) (st' := []) (σ' := σ) 2 rfl ?_
    exact h
  · refine Wp.adv (pc' := 4) (ls' := [.ref 4, .int x1, .int (x2 + 1)]) (st' := []) (σ' := σ) 2 rfl ?_
    exact h
theorem b61_32 {d : Nat} {Q : Option Value → px_S → Prop} {σ : px_S} {x1 x2 : Int32} {k : Nat} (hk : k = 3 ∨ k = 4) (h : Q (some (.int x1)) σ) : Wp d tb_61 32 [.ref k, .int x1, .int x2] [] σ Q := by
  rcases hk with rfl | rfl
  · refine Wp.adv (pc' := 33) (ls' := [.ref 3, .int x1, .int x2]) (st' := [.int x1]) (σ' := σ) 1 rfl ?_
    exact Wp.ret rfl rfl h
  · refine Wp.adv (pc' := 33) (ls' := [.ref 4, .int x1, .int x2]) (st' := [.int x1]) (σ' := σ) 1 rfl ?_
    exact Wp.ret rfl rfl h
theorem e61 {d : Nat} {Q : Option Value → px_S → Prop} {σ : px_S} {k : Nat} (h : Wp d tb_61 0 [.ref k, .null, .null] [] σ Q) : Cw (d + 1) 61 [.ref k] σ Q := Cw.of (nL := 3) (y := yX2_quarrels) (cc := cX2_quarrels) (rt := some .int) rfl (Nat.le_of_ble_eq_true rfl) h
theorem b62_0 {d : Nat} {Q : Option Value → px_S → Prop} {σ : px_S} {x1 : Int32} {k : Nat} (hk : k = 3 ∨ k = 4) (c1 : vp_in x1 40) (ht : (σ.1 (2 * k + 15) (x1).toNatClampNeg) = (-1 : Int32) → Wp d tb_62 28 [.ref k, .int x1] [] σ Q) (hf : ¬ ((σ.1 (2 * k + 15) (x1).toNatClampNeg) = (-1 : Int32)) → Wp d tb_62 10 [.ref k, .int x1] [] σ Q) : Wp d tb_62 0 [.ref k, .int x1] [] σ Q := by
  rcases hk with rfl | rfl
  · refine Wp.adv (pc' := 5) (ls' := [.ref 3, .int x1]) (st' := [.int x1, .ref (2 * 3 + 15)]) (σ' := σ) 3 rfl ?_
    refine Wp.iald (N := 40) rfl rfl c1 ?_
    refine Wp.adv (pc' := 7) (ls' := [.ref 3, .int x1]) (st' := [.int (-1 : Int32), .int (σ.1 (2 * 3 + 15) (x1).toNatClampNeg)]) (σ' := σ) 1 rfl ?_
    exact Wp.icmp rfl ht hf
  · refine Wp.adv (pc' := 5) (ls' := [.ref 4, .int x1]) (st' := [.int x1, .ref (2 * 4 + 15)]) (σ' := σ) 3 rfl ?_
    refine Wp.iald (N := 40) rfl rfl c1 ?_
    refine Wp.adv (pc' := 7) (ls' := [.ref 4, .int x1]) (st' := [.int (-1 : Int32), .int (σ.1 (2 * 4 + 15) (x1).toNatClampNeg)]) (σ' := σ) 1 rfl ?_
    exact Wp.icmp rfl ht hf
theorem b62_10 {d : Nat} {Q : Option Value → px_S → Prop} {σ : px_S} {x1 : Int32} {k : Nat} (hk : k = 3 ∨ k = 4) (c1 : vp_in x1 40) (h : Cw d 28 [.ref k, .int (σ.1 (2 * k + 15) (x1).toNatClampNeg), .int x1] σ (fun r τ => Wp d tb_62 21 [.ref k, .int x1] (r.toList ++ []) τ Q)) : Wp d tb_62 10 [.ref k, .int x1] [] σ Q := by
  rcases hk with rfl | rfl
  · refine Wp.adv (pc' := 16) (ls' := [.ref 3, .int x1]) (st' := [.int x1, .ref (2 * 3 + 15), .ref 3]) (σ' := σ) 4 rfl ?_
    refine Wp.iald (N := 40) rfl rfl c1 ?_
    refine Wp.adv (pc' := 18) (ls' := [.ref 3, .int x1]) (st' := [.int x1, .int (σ.1 (2 * 3 + 15) (x1).toNatClampNeg), .ref 3]) (σ' := σ) 1 rfl ?_
    exact Wp.call (q := (28, 3, 3, 21)) rfl (Nat.le_of_ble_eq_true rfl) rfl h
  · refine Wp.adv (pc' := 16) (ls' := [.ref 4, .int x1]) (st' := [.int x1, .ref (2 * 4 + 15), .ref 4]) (σ' := σ) 4 rfl ?_
    refine Wp.iald (N := 40) rfl rfl c1 ?_
    refine Wp.adv (pc' := 18) (ls' := [.ref 4, .int x1]) (st' := [.int x1, .int (σ.1 (2 * 4 + 15) (x1).toNatClampNeg), .ref 4]) (σ' := σ) 1 rfl ?_
    exact Wp.call (q := (28, 3, 3, 21)) rfl (Nat.le_of_ble_eq_true rfl) rfl h
theorem b62_21 {d : Nat} {Q : Option Value → px_S → Prop} {σ : px_S} {x1 s0 : Int32} {k : Nat} (hk : k = 3 ∨ k = 4) (ht : s0 = 0 → Wp d tb_62 28 [.ref k, .int x1] [] σ Q) (hf : ¬ (s0 = 0) → Wp d tb_62 24 [.ref k, .int x1] [] σ Q) : Wp d tb_62 21 [.ref k, .int x1] [.int s0] σ Q := by
  rcases hk with rfl | rfl
  · exact Wp.if_ rfl ht hf
  · exact Wp.if_ rfl ht hf
theorem b62_24 {d : Nat} {Q : Option Value → px_S → Prop} {σ : px_S} {x1 : Int32} {k : Nat} (hk : k = 3 ∨ k = 4) (h : Wp d tb_62 29 [.ref k, .int x1] [.int (1 : Int32)] σ Q) : Wp d tb_62 24 [.ref k, .int x1] [] σ Q := by
  rcases hk with rfl | rfl
  · refine Wp.adv (pc' := 29) (ls' := [.ref 3, .int x1]) (st' := [.int (1 : Int32)]) (σ' := σ) 2 rfl ?_
    exact h
  · refine Wp.adv (pc' := 29) (ls' := [.ref 4, .int x1]) (st' := [.int (1 : Int32)]) (σ' := σ) 2 rfl ?_
    exact h
theorem b62_28 {d : Nat} {Q : Option Value → px_S → Prop} {σ : px_S} {x1 : Int32} {k : Nat} (hk : k = 3 ∨ k = 4) (h : Wp d tb_62 29 [.ref k, .int x1] [.int (0 : Int32)] σ Q) : Wp d tb_62 28 [.ref k, .int x1] [] σ Q := by
  rcases hk with rfl | rfl
  · refine Wp.adv (pc' := 29) (ls' := [.ref 3, .int x1]) (st' := [.int (0 : Int32)]) (σ' := σ) 1 rfl ?_
    exact h
  · refine Wp.adv (pc' := 29) (ls' := [.ref 4, .int x1]) (st' := [.int (0 : Int32)]) (σ' := σ) 1 rfl ?_
    exact h
theorem b62_29 {d : Nat} {Q : Option Value → px_S → Prop} {σ : px_S} {x1 s0 : Int32} {k : Nat} (hk : k = 3 ∨ k = 4) (c1 : s0 = 0 ∨ s0 = 1) (h : Q (some (.int s0)) σ) : Wp d tb_62 29 [.ref k, .int x1] [.int s0] σ Q := by
  rcases hk with rfl | rfl
  · exact Wp.zret rfl c1 h
  · exact Wp.zret rfl c1 h
theorem e62 {d : Nat} {Q : Option Value → px_S → Prop} {σ : px_S} {x1 : Int32} {k : Nat} (h : Wp d tb_62 0 [.ref k, .int x1] [] σ Q) : Cw (d + 1) 62 [.ref k, .int x1] σ Q := Cw.of (nL := 2) (y := yX2_isQuarrel) (cc := cX2_isQuarrel) (rt := some .boolean) rfl (Nat.le_of_ble_eq_true rfl) h
theorem b63_0 {d : Nat} {Q : Option Value → px_S → Prop} {σ : px_S} {x1 x2 x3 : Int32} (h : Cw d 43 [.ref 1, .int x1, .int x2] σ (fun r τ => Wp d tb_63 9 [.ref 0, .int x1, .int x2, .int x3, .null, .null] (r.toList ++ []) τ Q)) : Wp d tb_63 0 [.ref 0, .int x1, .int x2, .int x3, .null, .null] [] σ Q := by
  refine Wp.adv (pc' := 6) (ls' := [.ref 0, .int x1, .int x2, .int x3, .null, .null]) (st' := [.int x2, .int x1, .ref 1]) (σ' := σ) 4 rfl ?_
  exact Wp.call (q := (43, 3, 2, 9)) rfl (Nat.le_of_ble_eq_true rfl) rfl h
theorem b63_9 {d : Nat} {Q : Option Value → px_S → Prop} {σ : px_S} {x1 x2 x3 s0 : Int32} (ht : ¬ s0 = 0 → Wp d tb_63 16 [.ref 0, .int x1, .int x2, .int x3, .null, .null] [] σ Q) (hf : ¬ (¬ s0 = 0) → Wp d tb_63 12 [.ref 0, .int x1, .int x2, .int x3, .null, .null] [] σ Q) : Wp d tb_63 9 [.ref 0, .int x1, .int x2, .int x3, .null, .null] [.int s0] σ Q := by
  exact Wp.if_ rfl ht hf
theorem b63_12 {d : Nat} {Q : Option Value → px_S → Prop} {σ : px_S} {x1 x2 x3 : Int32} (h : Q (some (.int (-1001 : Int32))) σ) : Wp d tb_63 12 [.ref 0, .int x1, .int x2, .int x3, .null, .null] [] σ Q := by
  refine Wp.adv (pc' := 15) (ls' := [.ref 0, .int x1, .int x2, .int x3, .null, .null]) (st' := [.int (-1001 : Int32)]) (σ' := σ) 1 rfl ?_
  exact Wp.ret rfl rfl h
theorem b63_16 {d : Nat} {Q : Option Value → px_S → Prop} {σ : px_S} {x1 x2 x3 : Int32} (ht : x3 < 0 → Wp d tb_63 25 [.ref 0, .int x1, .int x2, .int x3, .null, .null] [] σ Q) (hf : ¬ (x3 < 0) → Wp d tb_63 20 [.ref 0, .int x1, .int x2, .int x3, .null, .null] [] σ Q) : Wp d tb_63 16 [.ref 0, .int x1, .int x2, .int x3, .null, .null] [] σ Q := by
  refine Wp.adv (pc' := 17) (ls' := [.ref 0, .int x1, .int x2, .int x3, .null, .null]) (st' := [.int x3]) (σ' := σ) 1 rfl ?_
  exact Wp.if_ rfl ht hf
theorem b63_20 {d : Nat} {Q : Option Value → px_S → Prop} {σ : px_S} {x1 x2 x3 : Int32} (ht : x3 ≤ (2 : Int32) → Wp d tb_63 29 [.ref 0, .int x1, .int x2, .int x3, .null, .null] [] σ Q) (hf : ¬ (x3 ≤ (2 : Int32)) → Wp d tb_63 25 [.ref 0, .int x1, .int x2, .int x3, .null, .null] [] σ Q) : Wp d tb_63 20 [.ref 0, .int x1, .int x2, .int x3, .null, .null] [] σ Q := by
  refine Wp.adv (pc' := 22) (ls' := [.ref 0, .int x1, .int x2, .int x3, .null, .null]) (st' := [.int (2 : Int32), .int x3]) (σ' := σ) 2 rfl ?_
  exact Wp.icmp rfl ht hf
theorem b63_25 {d : Nat} {Q : Option Value → px_S → Prop} {σ : px_S} {x1 x2 x3 : Int32} (h : Q (some (.int (-1002 : Int32))) σ) : Wp d tb_63 25 [.ref 0, .int x1, .int x2, .int x3, .null, .null] [] σ Q := by
  refine Wp.adv (pc' := 28) (ls' := [.ref 0, .int x1, .int x2, .int x3, .null, .null]) (st' := [.int (-1002 : Int32)]) (σ' := σ) 1 rfl ?_
  exact Wp.ret rfl rfl h
theorem b63_29 {d : Nat} {Q : Option Value → px_S → Prop} {σ : px_S} {x1 x2 x3 : Int32} (h : Cw d 21 [.ref 1, .int x1] σ (fun r τ => Wp d tb_63 37 [.ref 0, .int x1, .int x2, .int x3, .null, .null] (r.toList ++ []) τ Q)) : Wp d tb_63 29 [.ref 0, .int x1, .int x2, .int x3, .null, .null] [] σ Q := by
  refine Wp.adv (pc' := 34) (ls' := [.ref 0, .int x1, .int x2, .int x3, .null, .null]) (st' := [.int x1, .ref 1]) (σ' := σ) 3 rfl ?_
  exact Wp.call (q := (21, 2, 2, 37)) rfl (Nat.le_of_ble_eq_true rfl) rfl h
theorem b63_37 {d : Nat} {Q : Option Value → px_S → Prop} {σ : px_S} {x1 x2 x3 s0 : Int32} (ht : ¬ s0 = 0 → Wp d tb_63 44 [.ref 0, .int x1, .int x2, .int x3, .null, .null] [] σ Q) (hf : ¬ (¬ s0 = 0) → Wp d tb_63 40 [.ref 0, .int x1, .int x2, .int x3, .null, .null] [] σ Q) : Wp d tb_63 37 [.ref 0, .int x1, .int x2, .int x3, .null, .null] [.int s0] σ Q := by
  exact Wp.if_ rfl ht hf
theorem b63_40 {d : Nat} {Q : Option Value → px_S → Prop} {σ : px_S} {x1 x2 x3 : Int32} (h : Q (some (.int (-1003 : Int32))) σ) : Wp d tb_63 40 [.ref 0, .int x1, .int x2, .int x3, .null, .null] [] σ Q := by
  refine Wp.adv (pc' := 43) (ls' := [.ref 0, .int x1, .int x2, .int x3, .null, .null]) (st' := [.int (-1003 : Int32)]) (σ' := σ) 1 rfl ?_
  exact Wp.ret rfl rfl h
theorem b63_44 {d : Nat} {Q : Option Value → px_S → Prop} {σ : px_S} {x1 x2 x3 : Int32} (h : Cw d 23 [.ref 3, .int (-1 : Int32)] σ (fun r τ => Wp d tb_63 52 [.ref 0, .int x1, .int x2, .int x3, .null, .null] (r.toList ++ []) τ Q)) : Wp d tb_63 44 [.ref 0, .int x1, .int x2, .int x3, .null, .null] [] σ Q := by
  refine Wp.adv (pc' := 49) (ls' := [.ref 0, .int x1, .int x2, .int x3, .null, .null]) (st' := [.int (-1 : Int32), .ref 3]) (σ' := σ) 3 rfl ?_
  exact Wp.call (q := (23, 2, 3, 52)) rfl (Nat.le_of_ble_eq_true rfl) rfl h
theorem b63_52 {d : Nat} {Q : Option Value → px_S → Prop} {σ : px_S} {x1 x2 x3 : Int32} (h : Cw d 11 [.int x1, .int x2] σ (fun r τ => Wp d tb_63 61 [.ref 0, .int x1, .int x2, .int x3, .null, .null] (r.toList ++ [.ref 3]) τ Q)) : Wp d tb_63 52 [.ref 0, .int x1, .int x2, .int x3, .null, .null] [] σ Q := by
  refine Wp.adv (pc' := 58) (ls' := [.ref 0, .int x1, .int x2, .int x3, .null, .null]) (st' := [.int x2, .int x1, .ref 3]) (σ' := σ) 4 rfl ?_
  exact Wp.call (q := (11, 2, 0, 61)) rfl (Nat.le_of_ble_eq_true rfl) rfl h
theorem b63_61 {d : Nat} {Q : Option Value → px_S → Prop} {σ : px_S} {x1 x2 x3 s0 : Int32} (h : Cw d 54 [.ref 3, .int s0] σ (fun r τ => Wp d tb_63 64 [.ref 0, .int x1, .int x2, .int x3, .null, .null] (r.toList ++ []) τ Q)) : Wp d tb_63 61 [.ref 0, .int x1, .int x2, .int x3, .null, .null] [.int s0, .ref 3] σ Q := by
  exact Wp.call (q := (54, 2, 3, 64)) rfl (Nat.le_of_ble_eq_true rfl) rfl h
theorem b63_64 {d : Nat} {Q : Option Value → px_S → Prop} {σ : px_S} {x1 x2 x3 s0 : Int32} (ht : ¬ s0 = (-1 : Int32) → Wp d tb_63 74 [.ref 0, .int x1, .int x2, .int x3, .int s0, .null] [] σ Q) (hf : ¬ (¬ s0 = (-1 : Int32)) → Wp d tb_63 72 [.ref 0, .int x1, .int x2, .int x3, .int s0, .null] [] σ Q) : Wp d tb_63 64 [.ref 0, .int x1, .int x2, .int x3, .null, .null] [.int s0] σ Q := by
  refine Wp.adv (pc' := 69) (ls' := [.ref 0, .int x1, .int x2, .int x3, .int s0, .null]) (st' := [.int (-1 : Int32), .int s0]) (σ' := σ) 3 rfl ?_
  exact Wp.icmp rfl ht hf
theorem b63_72 {d : Nat} {Q : Option Value → px_S → Prop} {σ : px_S} {x1 x2 x3 x4 : Int32} (h : Q (some (.int (-1 : Int32))) σ) : Wp d tb_63 72 [.ref 0, .int x1, .int x2, .int x3, .int x4, .null] [] σ Q := by
  refine Wp.adv (pc' := 73) (ls' := [.ref 0, .int x1, .int x2, .int x3, .int x4, .null]) (st' := [.int (-1 : Int32)]) (σ' := σ) 1 rfl ?_
  exact Wp.ret rfl rfl h
theorem b63_74 {d : Nat} {Q : Option Value → px_S → Prop} {σ : px_S} {x1 x2 x3 x4 : Int32} (ht : ¬ x3 = 0 → Wp d tb_63 88 [.ref 0, .int x1, .int x2, .int x3, .int x4, .int (x4 / (14 : Int32))] [] σ Q) (hf : ¬ (¬ x3 = 0) → Wp d tb_63 85 [.ref 0, .int x1, .int x2, .int x3, .int x4, .int (x4 / (14 : Int32))] [] σ Q) : Wp d tb_63 74 [.ref 0, .int x1, .int x2, .int x3, .int x4, .null] [] σ Q := by
  refine Wp.adv (pc' := 78) (ls' := [.ref 0, .int x1, .int x2, .int x3, .int x4, .null]) (st' := [.int (14 : Int32), .int x4]) (σ' := σ) 2 rfl ?_
  refine Wp.binz rfl (by decide) ?_
  refine Wp.adv (pc' := 82) (ls' := [.ref 0, .int x1, .int x2, .int x3, .int x4, .int (x4 / (14 : Int32))]) (st' := [.int x3]) (σ' := σ) 2 rfl ?_
  exact Wp.if_ rfl ht hf
theorem b63_85 {d : Nat} {Q : Option Value → px_S → Prop} {σ : px_S} {x1 x2 x3 x4 x5 : Int32} (h : Q (some (.int x5)) σ) : Wp d tb_63 85 [.ref 0, .int x1, .int x2, .int x3, .int x4, .int x5] [] σ Q := by
  refine Wp.adv (pc' := 87) (ls' := [.ref 0, .int x1, .int x2, .int x3, .int x4, .int x5]) (st' := [.int x5]) (σ' := σ) 1 rfl ?_
  exact Wp.ret rfl rfl h
theorem b63_88 {d : Nat} {Q : Option Value → px_S → Prop} {σ : px_S} {x1 x2 x3 x4 x5 : Int32} (ht : ¬ x3 = (1 : Int32) → Wp d tb_63 101 [.ref 0, .int x1, .int x2, .int x3, .int x4, .int x5] [] σ Q) (hf : ¬ (¬ x3 = (1 : Int32)) → Wp d tb_63 93 [.ref 0, .int x1, .int x2, .int x3, .int x4, .int x5] [] σ Q) : Wp d tb_63 88 [.ref 0, .int x1, .int x2, .int x3, .int x4, .int x5] [] σ Q := by
  refine Wp.adv (pc' := 90) (ls' := [.ref 0, .int x1, .int x2, .int x3, .int x4, .int x5]) (st' := [.int (1 : Int32), .int x3]) (σ' := σ) 2 rfl ?_
  exact Wp.icmp rfl ht hf
theorem b63_93 {d : Nat} {Q : Option Value → px_S → Prop} {σ : px_S} {x1 x2 x3 x4 x5 : Int32} (h : Wp d tb_63 111 [.ref 0, .int x1, .int x2, .int x3, .int x4, .int x5] [.int (x4 - x4 / (14 : Int32) * (14 : Int32))] σ Q) : Wp d tb_63 93 [.ref 0, .int x1, .int x2, .int x3, .int x4, .int x5] [] σ Q := by
  refine Wp.adv (pc' := 97) (ls' := [.ref 0, .int x1, .int x2, .int x3, .int x4, .int x5]) (st' := [.int (14 : Int32), .int x4]) (σ' := σ) 2 rfl ?_
  refine Wp.binz rfl (by decide) ?_
  refine Wp.adv (pc' := 111) (ls' := [.ref 0, .int x1, .int x2, .int x3, .int x4, .int x5]) (st' := [.int (x4 - x4 / (14 : Int32) * (14 : Int32))]) (σ' := σ) 1 rfl ?_
  exact h
theorem b63_101 {d : Nat} {Q : Option Value → px_S → Prop} {σ : px_S} {x1 x2 x3 x4 x5 : Int32} (c1 : vp_in x5 40) (h : Wp d tb_63 111 [.ref 0, .int x1, .int x2, .int x3, .int x4, .int x5] [.int (σ.1 11 (x5).toNatClampNeg)] σ Q) : Wp d tb_63 101 [.ref 0, .int x1, .int x2, .int x3, .int x4, .int x5] [] σ Q := by
  refine Wp.adv (pc' := 110) (ls' := [.ref 0, .int x1, .int x2, .int x3, .int x4, .int x5]) (st' := [.int x5, .ref 11]) (σ' := σ) 4 rfl ?_
  refine Wp.iald (N := 40) rfl rfl c1 ?_
  exact h
theorem b63_111 {d : Nat} {Q : Option Value → px_S → Prop} {σ : px_S} {x1 x2 x3 x4 x5 s0 : Int32} (h : Q (some (.int s0)) σ) : Wp d tb_63 111 [.ref 0, .int x1, .int x2, .int x3, .int x4, .int x5] [.int s0] σ Q := by
  exact Wp.ret rfl rfl h
theorem e63 {d : Nat} {Q : Option Value → px_S → Prop} {σ : px_S} {x1 x2 x3 : Int32} (h : Wp d tb_63 0 [.ref 0, .int x1, .int x2, .int x3, .null, .null] [] σ Q) : Cw (d + 1) 63 [.ref 0, .int x1, .int x2, .int x3] σ Q := Cw.of (nL := 6) (y := yX8_origin) (cc := cX8_origin) (rt := some .int) rfl (Nat.le_of_ble_eq_true rfl) h
theorem b64_0 {d : Nat} {Q : Option Value → px_S → Prop} {σ : px_S} {x1 x2 : Int32} (h : Cw d 43 [.ref 1, .int x1, .int x2] σ (fun r τ => Wp d tb_64 9 [.ref 0, .int x1, .int x2] (r.toList ++ []) τ Q)) : Wp d tb_64 0 [.ref 0, .int x1, .int x2] [] σ Q := by
  refine Wp.adv (pc' := 6) (ls' := [.ref 0, .int x1, .int x2]) (st' := [.int x2, .int x1, .ref 1]) (σ' := σ) 4 rfl ?_
  exact Wp.call (q := (43, 3, 2, 9)) rfl (Nat.le_of_ble_eq_true rfl) rfl h
theorem b64_9 {d : Nat} {Q : Option Value → px_S → Prop} {σ : px_S} {x1 x2 s0 : Int32} (ht : ¬ s0 = 0 → Wp d tb_64 16 [.ref 0, .int x1, .int x2] [] σ Q) (hf : ¬ (¬ s0 = 0) → Wp d tb_64 12 [.ref 0, .int x1, .int x2] [] σ Q) : Wp d tb_64 9 [.ref 0, .int x1, .int x2] [.int s0] σ Q := by
  exact Wp.if_ rfl ht hf
theorem b64_12 {d : Nat} {Q : Option Value → px_S → Prop} {σ : px_S} {x1 x2 : Int32} (h : Q (some (.int (-1001 : Int32))) σ) : Wp d tb_64 12 [.ref 0, .int x1, .int x2] [] σ Q := by
  refine Wp.adv (pc' := 15) (ls' := [.ref 0, .int x1, .int x2]) (st' := [.int (-1001 : Int32)]) (σ' := σ) 1 rfl ?_
  exact Wp.ret rfl rfl h
theorem b64_16 {d : Nat} {Q : Option Value → px_S → Prop} {σ : px_S} {x1 x2 : Int32} (h : Cw d 21 [.ref 1, .int x1] σ (fun r τ => Wp d tb_64 24 [.ref 0, .int x1, .int x2] (r.toList ++ []) τ Q)) : Wp d tb_64 16 [.ref 0, .int x1, .int x2] [] σ Q := by
  refine Wp.adv (pc' := 21) (ls' := [.ref 0, .int x1, .int x2]) (st' := [.int x1, .ref 1]) (σ' := σ) 3 rfl ?_
  exact Wp.call (q := (21, 2, 2, 24)) rfl (Nat.le_of_ble_eq_true rfl) rfl h
theorem b64_24 {d : Nat} {Q : Option Value → px_S → Prop} {σ : px_S} {x1 x2 s0 : Int32} (ht : ¬ s0 = 0 → Wp d tb_64 31 [.ref 0, .int x1, .int x2] [] σ Q) (hf : ¬ (¬ s0 = 0) → Wp d tb_64 27 [.ref 0, .int x1, .int x2] [] σ Q) : Wp d tb_64 24 [.ref 0, .int x1, .int x2] [.int s0] σ Q := by
  exact Wp.if_ rfl ht hf
theorem b64_27 {d : Nat} {Q : Option Value → px_S → Prop} {σ : px_S} {x1 x2 : Int32} (h : Q (some (.int (-1003 : Int32))) σ) : Wp d tb_64 27 [.ref 0, .int x1, .int x2] [] σ Q := by
  refine Wp.adv (pc' := 30) (ls' := [.ref 0, .int x1, .int x2]) (st' := [.int (-1003 : Int32)]) (σ' := σ) 1 rfl ?_
  exact Wp.ret rfl rfl h
theorem b64_31 {d : Nat} {Q : Option Value → px_S → Prop} {σ : px_S} {x1 x2 : Int32} (h : Cw d 23 [.ref 3, .int (-1 : Int32)] σ (fun r τ => Wp d tb_64 39 [.ref 0, .int x1, .int x2] (r.toList ++ []) τ Q)) : Wp d tb_64 31 [.ref 0, .int x1, .int x2] [] σ Q := by
  refine Wp.adv (pc' := 36) (ls' := [.ref 0, .int x1, .int x2]) (st' := [.int (-1 : Int32), .ref 3]) (σ' := σ) 3 rfl ?_
  exact Wp.call (q := (23, 2, 3, 39)) rfl (Nat.le_of_ble_eq_true rfl) rfl h
theorem b64_39 {d : Nat} {Q : Option Value → px_S → Prop} {σ : px_S} {x1 x2 : Int32} (h : Cw d 11 [.int x1, .int x2] σ (fun r τ => Wp d tb_64 48 [.ref 0, .int x1, .int x2] (r.toList ++ [.ref 3]) τ Q)) : Wp d tb_64 39 [.ref 0, .int x1, .int x2] [] σ Q := by
  refine Wp.adv (pc' := 45) (ls' := [.ref 0, .int x1, .int x2]) (st' := [.int x2, .int x1, .ref 3]) (σ' := σ) 4 rfl ?_
  exact Wp.call (q := (11, 2, 0, 48)) rfl (Nat.le_of_ble_eq_true rfl) rfl h
theorem b64_48 {d : Nat} {Q : Option Value → px_S → Prop} {σ : px_S} {x1 x2 s0 : Int32} (h : Cw d 52 [.ref 3, .int s0] σ (fun r τ => Wp d tb_64 51 [.ref 0, .int x1, .int x2] (r.toList ++ []) τ Q)) : Wp d tb_64 48 [.ref 0, .int x1, .int x2] [.int s0, .ref 3] σ Q := by
  exact Wp.call (q := (52, 2, 3, 51)) rfl (Nat.le_of_ble_eq_true rfl) rfl h
theorem b64_51 {d : Nat} {Q : Option Value → px_S → Prop} {σ : px_S} {x1 x2 s0 : Int32} (ht : s0 = 0 → Wp d tb_64 58 [.ref 0, .int x1, .int x2] [] σ Q) (hf : ¬ (s0 = 0) → Wp d tb_64 54 [.ref 0, .int x1, .int x2] [] σ Q) : Wp d tb_64 51 [.ref 0, .int x1, .int x2] [.int s0] σ Q := by
  exact Wp.if_ rfl ht hf
theorem b64_54 {d : Nat} {Q : Option Value → px_S → Prop} {σ : px_S} {x1 x2 : Int32} (h : Wp d tb_64 59 [.ref 0, .int x1, .int x2] [.int (1 : Int32)] σ Q) : Wp d tb_64 54 [.ref 0, .int x1, .int x2] [] σ Q := by
  refine Wp.adv (pc' := 59) (ls' := [.ref 0, .int x1, .int x2]) (st' := [.int (1 : Int32)]) (σ' := σ) 2 rfl ?_
  exact h
theorem b64_58 {d : Nat} {Q : Option Value → px_S → Prop} {σ : px_S} {x1 x2 : Int32} (h : Wp d tb_64 59 [.ref 0, .int x1, .int x2] [.int (0 : Int32)] σ Q) : Wp d tb_64 58 [.ref 0, .int x1, .int x2] [] σ Q := by
  refine Wp.adv (pc' := 59) (ls' := [.ref 0, .int x1, .int x2]) (st' := [.int (0 : Int32)]) (σ' := σ) 1 rfl ?_
  exact h
theorem b64_59 {d : Nat} {Q : Option Value → px_S → Prop} {σ : px_S} {x1 x2 s0 : Int32} (h : Q (some (.int s0)) σ) : Wp d tb_64 59 [.ref 0, .int x1, .int x2] [.int s0] σ Q := by
  exact Wp.ret rfl rfl h
theorem e64 {d : Nat} {Q : Option Value → px_S → Prop} {σ : px_S} {x1 x2 : Int32} (h : Wp d tb_64 0 [.ref 0, .int x1, .int x2] [] σ Q) : Cw (d + 1) 64 [.ref 0, .int x1, .int x2] σ Q := Cw.of (nL := 3) (y := yX8_altered) (cc := cX8_altered) (rt := some .int) rfl (Nat.le_of_ble_eq_true rfl) h
theorem b65_0 {d : Nat} {Q : Option Value → px_S → Prop} {σ : px_S} {x1 x2 : Int32} (h : Cw d 43 [.ref 1, .int x1, .int x2] σ (fun r τ => Wp d tb_65 9 [.ref 0, .int x1, .int x2] (r.toList ++ []) τ Q)) : Wp d tb_65 0 [.ref 0, .int x1, .int x2] [] σ Q := by
  refine Wp.adv (pc' := 6) (ls' := [.ref 0, .int x1, .int x2]) (st' := [.int x2, .int x1, .ref 1]) (σ' := σ) 4 rfl ?_
  exact Wp.call (q := (43, 3, 2, 9)) rfl (Nat.le_of_ble_eq_true rfl) rfl h
theorem b65_9 {d : Nat} {Q : Option Value → px_S → Prop} {σ : px_S} {x1 x2 s0 : Int32} (ht : ¬ s0 = 0 → Wp d tb_65 16 [.ref 0, .int x1, .int x2] [] σ Q) (hf : ¬ (¬ s0 = 0) → Wp d tb_65 12 [.ref 0, .int x1, .int x2] [] σ Q) : Wp d tb_65 9 [.ref 0, .int x1, .int x2] [.int s0] σ Q := by
  exact Wp.if_ rfl ht hf
theorem b65_12 {d : Nat} {Q : Option Value → px_S → Prop} {σ : px_S} {x1 x2 : Int32} (h : Q (some (.int (-1001 : Int32))) σ) : Wp d tb_65 12 [.ref 0, .int x1, .int x2] [] σ Q := by
  refine Wp.adv (pc' := 15) (ls' := [.ref 0, .int x1, .int x2]) (st' := [.int (-1001 : Int32)]) (σ' := σ) 1 rfl ?_
  exact Wp.ret rfl rfl h
theorem b65_16 {d : Nat} {Q : Option Value → px_S → Prop} {σ : px_S} {x1 x2 : Int32} (h : Cw d 23 [.ref 3, .int (-1 : Int32)] σ (fun r τ => Wp d tb_65 24 [.ref 0, .int x1, .int x2] (r.toList ++ []) τ Q)) : Wp d tb_65 16 [.ref 0, .int x1, .int x2] [] σ Q := by
  refine Wp.adv (pc' := 21) (ls' := [.ref 0, .int x1, .int x2]) (st' := [.int (-1 : Int32), .ref 3]) (σ' := σ) 3 rfl ?_
  exact Wp.call (q := (23, 2, 3, 24)) rfl (Nat.le_of_ble_eq_true rfl) rfl h
theorem b65_24 {d : Nat} {Q : Option Value → px_S → Prop} {σ : px_S} {x1 x2 : Int32} (h : Cw d 11 [.int x1, .int x2] σ (fun r τ => Wp d tb_65 33 [.ref 0, .int x1, .int x2] (r.toList ++ [.ref 3]) τ Q)) : Wp d tb_65 24 [.ref 0, .int x1, .int x2] [] σ Q := by
  refine Wp.adv (pc' := 30) (ls' := [.ref 0, .int x1, .int x2]) (st' := [.int x2, .int x1, .ref 3]) (σ' := σ) 4 rfl ?_
  exact Wp.call (q := (11, 2, 0, 33)) rfl (Nat.le_of_ble_eq_true rfl) rfl h
theorem b65_33 {d : Nat} {Q : Option Value → px_S → Prop} {σ : px_S} {x1 x2 s0 : Int32} (h : Cw d 53 [.ref 3, .int s0] σ (fun r τ => Wp d tb_65 36 [.ref 0, .int x1, .int x2] (r.toList ++ []) τ Q)) : Wp d tb_65 33 [.ref 0, .int x1, .int x2] [.int s0, .ref 3] σ Q := by
  exact Wp.call (q := (53, 2, 3, 36)) rfl (Nat.le_of_ble_eq_true rfl) rfl h
theorem b65_36 {d : Nat} {Q : Option Value → px_S → Prop} {σ : px_S} {x1 x2 s0 : Int32} (h : Q (some (.int s0)) σ) : Wp d tb_65 36 [.ref 0, .int x1, .int x2] [.int s0] σ Q := by
  exact Wp.ret rfl rfl h
theorem e65 {d : Nat} {Q : Option Value → px_S → Prop} {σ : px_S} {x1 x2 : Int32} (h : Wp d tb_65 0 [.ref 0, .int x1, .int x2] [] σ Q) : Cw (d + 1) 65 [.ref 0, .int x1, .int x2] σ Q := Cw.of (nL := 3) (y := yX8_echoes) (cc := cX8_echoes) (rt := some .int) rfl (Nat.le_of_ble_eq_true rfl) h
theorem b66_0 {d : Nat} {Q : Option Value → px_S → Prop} {σ : px_S} {x1 : Int32} (h : Cw d 4 [.ref 1, .int x1] σ (fun r τ => Wp d tb_66 8 [.ref 0, .int x1] (r.toList ++ []) τ Q)) : Wp d tb_66 0 [.ref 0, .int x1] [] σ Q := by
  refine Wp.adv (pc' := 5) (ls' := [.ref 0, .int x1]) (st' := [.int x1, .ref 1]) (σ' := σ) 3 rfl ?_
  exact Wp.call (q := (4, 2, 2, 8)) rfl (Nat.le_of_ble_eq_true rfl) rfl h
theorem b66_8 {d : Nat} {Q : Option Value → px_S → Prop} {σ : px_S} {x1 s0 : Int32} (ht : ¬ s0 = 0 → Wp d tb_66 15 [.ref 0, .int x1] [] σ Q) (hf : ¬ (¬ s0 = 0) → Wp d tb_66 11 [.ref 0, .int x1] [] σ Q) : Wp d tb_66 8 [.ref 0, .int x1] [.int s0] σ Q := by
  exact Wp.if_ rfl ht hf
theorem b66_11 {d : Nat} {Q : Option Value → px_S → Prop} {σ : px_S} {x1 : Int32} (h : Q (some (.int (-1001 : Int32))) σ) : Wp d tb_66 11 [.ref 0, .int x1] [] σ Q := by
  refine Wp.adv (pc' := 14) (ls' := [.ref 0, .int x1]) (st' := [.int (-1001 : Int32)]) (σ' := σ) 1 rfl ?_
  exact Wp.ret rfl rfl h
theorem b66_15 {d : Nat} {Q : Option Value → px_S → Prop} {σ : px_S} {x1 : Int32} (h : Cw d 23 [.ref 3, .int (-1 : Int32)] σ (fun r τ => Wp d tb_66 23 [.ref 0, .int x1] (r.toList ++ []) τ Q)) : Wp d tb_66 15 [.ref 0, .int x1] [] σ Q := by
  refine Wp.adv (pc' := 20) (ls' := [.ref 0, .int x1]) (st' := [.int (-1 : Int32), .ref 3]) (σ' := σ) 3 rfl ?_
  exact Wp.call (q := (23, 2, 3, 23)) rfl (Nat.le_of_ble_eq_true rfl) rfl h
theorem b66_23 {d : Nat} {Q : Option Value → px_S → Prop} {σ : px_S} {x1 : Int32} (h : Cw d 55 [.ref 5] σ (fun r τ => Wp d tb_66 30 [.ref 0, .int x1] (r.toList ++ []) τ Q)) : Wp d tb_66 23 [.ref 0, .int x1] [] σ Q := by
  refine Wp.adv (pc' := 27) (ls' := [.ref 0, .int x1]) (st' := [.ref 5]) (σ' := σ) 2 rfl ?_
  exact Wp.call (q := (55, 1, 4, 30)) rfl (Nat.le_of_ble_eq_true rfl) rfl h
theorem b66_30 {d : Nat} {Q : Option Value → px_S → Prop} {σ : px_S} {x1 : Int32} (c1 : vp_in x1 40) (h : Q (some (.int (σ.1 25 (x1).toNatClampNeg))) σ) : Wp d tb_66 30 [.ref 0, .int x1] [] σ Q := by
  refine Wp.adv (pc' := 38) (ls' := [.ref 0, .int x1]) (st' := [.int x1, .ref 25]) (σ' := σ) 4 rfl ?_
  refine Wp.iald (N := 40) rfl rfl c1 ?_
  exact Wp.ret rfl rfl h
theorem e66 {d : Nat} {Q : Option Value → px_S → Prop} {σ : px_S} {x1 : Int32} (h : Wp d tb_66 0 [.ref 0, .int x1] [] σ Q) : Cw (d + 1) 66 [.ref 0, .int x1] σ Q := Cw.of (nL := 2) (y := yX8_group) (cc := cX8_group) (rt := some .int) rfl (Nat.le_of_ble_eq_true rfl) h
theorem b67_0 {d : Nat} {Q : Option Value → px_S → Prop} {σ : px_S} {x1 x2 : Int32} (h : Cw d 23 [.ref 3, .int (-1 : Int32)] σ (fun r τ => Wp d tb_67 8 [.ref 0, .int x1, .int x2] (r.toList ++ []) τ Q)) : Wp d tb_67 0 [.ref 0, .int x1, .int x2] [] σ Q := by
  refine Wp.adv (pc' := 5) (ls' := [.ref 0, .int x1, .int x2]) (st' := [.int (-1 : Int32), .ref 3]) (σ' := σ) 3 rfl ?_
  exact Wp.call (q := (23, 2, 3, 8)) rfl (Nat.le_of_ble_eq_true rfl) rfl h
theorem b67_8 {d : Nat} {Q : Option Value → px_S → Prop} {σ : px_S} {x1 x2 : Int32} (h : Cw d 55 [.ref 5] σ (fun r τ => Wp d tb_67 15 [.ref 0, .int x1, .int x2] (r.toList ++ []) τ Q)) : Wp d tb_67 8 [.ref 0, .int x1, .int x2] [] σ Q := by
  refine Wp.adv (pc' := 12) (ls' := [.ref 0, .int x1, .int x2]) (st' := [.ref 5]) (σ' := σ) 2 rfl ?_
  exact Wp.call (q := (55, 1, 4, 15)) rfl (Nat.le_of_ble_eq_true rfl) rfl h
theorem b67_15 {d : Nat} {Q : Option Value → px_S → Prop} {σ : px_S} {x1 x2 : Int32} (h : Cw d 68 [.ref 5, .int x1] σ (fun r τ => Wp d tb_67 23 [.ref 0, .int x1, .int x2] (r.toList ++ []) τ Q)) : Wp d tb_67 15 [.ref 0, .int x1, .int x2] [] σ Q := by
  refine Wp.adv (pc' := 20) (ls' := [.ref 0, .int x1, .int x2]) (st' := [.int x1, .ref 5]) (σ' := σ) 3 rfl ?_
  exact Wp.call (q := (68, 2, 4, 23)) rfl (Nat.le_of_ble_eq_true rfl) rfl h
theorem b67_23 {d : Nat} {Q : Option Value → px_S → Prop} {σ : px_S} {x1 x2 s0 : Int32} (ht : ¬ s0 = 0 → Wp d tb_67 30 [.ref 0, .int x1, .int x2] [] σ Q) (hf : ¬ (¬ s0 = 0) → Wp d tb_67 26 [.ref 0, .int x1, .int x2] [] σ Q) : Wp d tb_67 23 [.ref 0, .int x1, .int x2] [.int s0] σ Q := by
  exact Wp.if_ rfl ht hf
theorem b67_26 {d : Nat} {Q : Option Value → px_S → Prop} {σ : px_S} {x1 x2 : Int32} (h : Q (some (.int (-1001 : Int32))) σ) : Wp d tb_67 26 [.ref 0, .int x1, .int x2] [] σ Q := by
  refine Wp.adv (pc' := 29) (ls' := [.ref 0, .int x1, .int x2]) (st' := [.int (-1001 : Int32)]) (σ' := σ) 1 rfl ?_
  exact Wp.ret rfl rfl h
theorem b67_30 {d : Nat} {Q : Option Value → px_S → Prop} {σ : px_S} {x1 x2 : Int32} (ht : x2 < 0 → Wp d tb_67 39 [.ref 0, .int x1, .int x2] [] σ Q) (hf : ¬ (x2 < 0) → Wp d tb_67 34 [.ref 0, .int x1, .int x2] [] σ Q) : Wp d tb_67 30 [.ref 0, .int x1, .int x2] [] σ Q := by
  refine Wp.adv (pc' := 31) (ls' := [.ref 0, .int x1, .int x2]) (st' := [.int x2]) (σ' := σ) 1 rfl ?_
  exact Wp.if_ rfl ht hf
theorem b67_34 {d : Nat} {Q : Option Value → px_S → Prop} {σ : px_S} {x1 x2 : Int32} (ht : x2 ≤ (2 : Int32) → Wp d tb_67 43 [.ref 0, .int x1, .int x2] [] σ Q) (hf : ¬ (x2 ≤ (2 : Int32)) → Wp d tb_67 39 [.ref 0, .int x1, .int x2] [] σ Q) : Wp d tb_67 34 [.ref 0, .int x1, .int x2] [] σ Q := by
  refine Wp.adv (pc' := 36) (ls' := [.ref 0, .int x1, .int x2]) (st' := [.int (2 : Int32), .int x2]) (σ' := σ) 2 rfl ?_
  exact Wp.icmp rfl ht hf
theorem b67_39 {d : Nat} {Q : Option Value → px_S → Prop} {σ : px_S} {x1 x2 : Int32} (h : Q (some (.int (-1002 : Int32))) σ) : Wp d tb_67 39 [.ref 0, .int x1, .int x2] [] σ Q := by
  refine Wp.adv (pc' := 42) (ls' := [.ref 0, .int x1, .int x2]) (st' := [.int (-1002 : Int32)]) (σ' := σ) 1 rfl ?_
  exact Wp.ret rfl rfl h
theorem b67_43 {d : Nat} {Q : Option Value → px_S → Prop} {σ : px_S} {x1 x2 : Int32} (ht : ¬ x2 = 0 → Wp d tb_67 57 [.ref 0, .int x1, .int x2] [] σ Q) (hf : ¬ (¬ x2 = 0) → Wp d tb_67 47 [.ref 0, .int x1, .int x2] [] σ Q) : Wp d tb_67 43 [.ref 0, .int x1, .int x2] [] σ Q := by
  refine Wp.adv (pc' := 44) (ls' := [.ref 0, .int x1, .int x2]) (st' := [.int x2]) (σ' := σ) 1 rfl ?_
  exact Wp.if_ rfl ht hf
theorem b67_47 {d : Nat} {Q : Option Value → px_S → Prop} {σ : px_S} {x1 x2 : Int32} (c1 : vp_in x1 40) (h : Q (some (.int (σ.1 26 (x1).toNatClampNeg))) σ) : Wp d tb_67 47 [.ref 0, .int x1, .int x2] [] σ Q := by
  refine Wp.adv (pc' := 55) (ls' := [.ref 0, .int x1, .int x2]) (st' := [.int x1, .ref 26]) (σ' := σ) 4 rfl ?_
  refine Wp.iald (N := 40) rfl rfl c1 ?_
  exact Wp.ret rfl rfl h
theorem b67_57 {d : Nat} {Q : Option Value → px_S → Prop} {σ : px_S} {x1 x2 : Int32} (ht : ¬ x2 = (1 : Int32) → Wp d tb_67 72 [.ref 0, .int x1, .int x2] [] σ Q) (hf : ¬ (¬ x2 = (1 : Int32)) → Wp d tb_67 62 [.ref 0, .int x1, .int x2] [] σ Q) : Wp d tb_67 57 [.ref 0, .int x1, .int x2] [] σ Q := by
  refine Wp.adv (pc' := 59) (ls' := [.ref 0, .int x1, .int x2]) (st' := [.int (1 : Int32), .int x2]) (σ' := σ) 2 rfl ?_
  exact Wp.icmp rfl ht hf
theorem b67_62 {d : Nat} {Q : Option Value → px_S → Prop} {σ : px_S} {x1 x2 : Int32} (c1 : vp_in x1 40) (h : Q (some (.int (σ.1 27 (x1).toNatClampNeg))) σ) : Wp d tb_67 62 [.ref 0, .int x1, .int x2] [] σ Q := by
  refine Wp.adv (pc' := 70) (ls' := [.ref 0, .int x1, .int x2]) (st' := [.int x1, .ref 27]) (σ' := σ) 4 rfl ?_
  refine Wp.iald (N := 40) rfl rfl c1 ?_
  exact Wp.ret rfl rfl h
theorem b67_72 {d : Nat} {Q : Option Value → px_S → Prop} {σ : px_S} {x1 x2 : Int32} (h : Cw d 69 [.ref 5, .int x1] σ (fun r τ => Wp d tb_67 80 [.ref 0, .int x1, .int x2] (r.toList ++ []) τ Q)) : Wp d tb_67 72 [.ref 0, .int x1, .int x2] [] σ Q := by
  refine Wp.adv (pc' := 77) (ls' := [.ref 0, .int x1, .int x2]) (st' := [.int x1, .ref 5]) (σ' := σ) 3 rfl ?_
  exact Wp.call (q := (69, 2, 4, 80)) rfl (Nat.le_of_ble_eq_true rfl) rfl h
theorem b67_80 {d : Nat} {Q : Option Value → px_S → Prop} {σ : px_S} {x1 x2 s0 : Int32} (ht : s0 = 0 → Wp d tb_67 89 [.ref 0, .int x1, .int x2] [] σ Q) (hf : ¬ (s0 = 0) → Wp d tb_67 83 [.ref 0, .int x1, .int x2] [] σ Q) : Wp d tb_67 80 [.ref 0, .int x1, .int x2] [.int s0] σ Q := by
  exact Wp.if_ rfl ht hf
theorem b67_83 {d : Nat} {Q : Option Value → px_S → Prop} {σ : px_S} {x1 x2 : Int32} (h : Wp d tb_67 97 [.ref 0, .int x1, .int x2] [.int (-1005 : Int32)] σ Q) : Wp d tb_67 83 [.ref 0, .int x1, .int x2] [] σ Q := by
  refine Wp.adv (pc' := 97) (ls' := [.ref 0, .int x1, .int x2]) (st' := [.int (-1005 : Int32)]) (σ' := σ) 2 rfl ?_
  exact h
theorem b67_89 {d : Nat} {Q : Option Value → px_S → Prop} {σ : px_S} {x1 x2 : Int32} (h : Cw d 70 [.ref 5, .int x1] σ (fun r τ => Wp d tb_67 97 [.ref 0, .int x1, .int x2] (r.toList ++ []) τ Q)) : Wp d tb_67 89 [.ref 0, .int x1, .int x2] [] σ Q := by
  refine Wp.adv (pc' := 94) (ls' := [.ref 0, .int x1, .int x2]) (st' := [.int x1, .ref 5]) (σ' := σ) 3 rfl ?_
  exact Wp.call (q := (70, 2, 4, 97)) rfl (Nat.le_of_ble_eq_true rfl) rfl h
theorem b67_97 {d : Nat} {Q : Option Value → px_S → Prop} {σ : px_S} {x1 x2 s0 : Int32} (h : Q (some (.int s0)) σ) : Wp d tb_67 97 [.ref 0, .int x1, .int x2] [.int s0] σ Q := by
  exact Wp.ret rfl rfl h
theorem e67 {d : Nat} {Q : Option Value → px_S → Prop} {σ : px_S} {x1 x2 : Int32} (h : Wp d tb_67 0 [.ref 0, .int x1, .int x2] [] σ Q) : Cw (d + 1) 67 [.ref 0, .int x1, .int x2] σ Q := Cw.of (nL := 3) (y := yX8_lost) (cc := cX8_lost) (rt := some .int) rfl (Nat.le_of_ble_eq_true rfl) h
theorem b68_0 {d : Nat} {Q : Option Value → px_S → Prop} {σ : px_S} {x1 : Int32} (ht : x1 < 0 → Wp d tb_68 16 [.ref 5, .int x1] [] σ Q) (hf : ¬ (x1 < 0) → Wp d tb_68 4 [.ref 5, .int x1] [] σ Q) : Wp d tb_68 0 [.ref 5, .int x1] [] σ Q := by
  refine Wp.adv (pc' := 1) (ls' := [.ref 5, .int x1]) (st' := [.int x1]) (σ' := σ) 1 rfl ?_
  exact Wp.if_ rfl ht hf
theorem b68_4 {d : Nat} {Q : Option Value → px_S → Prop} {σ : px_S} {x1 : Int32} (ht : (σ.1 5 7) ≤ x1 → Wp d tb_68 16 [.ref 5, .int x1] [] σ Q) (hf : ¬ ((σ.1 5 7) ≤ x1) → Wp d tb_68 12 [.ref 5, .int x1] [] σ Q) : Wp d tb_68 4 [.ref 5, .int x1] [] σ Q := by
  refine Wp.adv (pc' := 9) (ls' := [.ref 5, .int x1]) (st' := [.int (σ.1 5 7), .int x1]) (σ' := σ) 3 rfl ?_
  exact Wp.icmp rfl ht hf
theorem b68_12 {d : Nat} {Q : Option Value → px_S → Prop} {σ : px_S} {x1 : Int32} (h : Wp d tb_68 17 [.ref 5, .int x1] [.int (1 : Int32)] σ Q) : Wp d tb_68 12 [.ref 5, .int x1] [] σ Q := by
  refine Wp.adv (pc' := 17) (ls' := [.ref 5, .int x1]) (st' := [.int (1 : Int32)]) (σ' := σ) 2 rfl ?_
  exact h
theorem b68_16 {d : Nat} {Q : Option Value → px_S → Prop} {σ : px_S} {x1 : Int32} (h : Wp d tb_68 17 [.ref 5, .int x1] [.int (0 : Int32)] σ Q) : Wp d tb_68 16 [.ref 5, .int x1] [] σ Q := by
  refine Wp.adv (pc' := 17) (ls' := [.ref 5, .int x1]) (st' := [.int (0 : Int32)]) (σ' := σ) 1 rfl ?_
  exact h
theorem b68_17 {d : Nat} {Q : Option Value → px_S → Prop} {σ : px_S} {x1 s0 : Int32} (c1 : s0 = 0 ∨ s0 = 1) (h : Q (some (.int s0)) σ) : Wp d tb_68 17 [.ref 5, .int x1] [.int s0] σ Q := by
  exact Wp.zret rfl c1 h
theorem e68 {d : Nat} {Q : Option Value → px_S → Prop} {σ : px_S} {x1 : Int32} (h : Wp d tb_68 0 [.ref 5, .int x1] [] σ Q) : Cw (d + 1) 68 [.ref 5, .int x1] σ Q := Cw.of (nL := 2) (y := yX3_has) (cc := cX3_has) (rt := some .boolean) rfl (Nat.le_of_ble_eq_true rfl) h
theorem b69_0 {d : Nat} {Q : Option Value → px_S → Prop} {σ : px_S} {x1 : Int32} (c1 : vp_in x1 40) (ht : (σ.1 26 (x1).toNatClampNeg) ≤ (4 : Int32) → Wp d tb_69 14 [.ref 5, .int x1] [] σ Q) (hf : ¬ ((σ.1 26 (x1).toNatClampNeg) ≤ (4 : Int32)) → Wp d tb_69 10 [.ref 5, .int x1] [] σ Q) : Wp d tb_69 0 [.ref 5, .int x1] [] σ Q := by
  refine Wp.adv (pc' := 5) (ls' := [.ref 5, .int x1]) (st' := [.int x1, .ref 26]) (σ' := σ) 3 rfl ?_
  refine Wp.iald (N := 40) rfl rfl c1 ?_
  refine Wp.adv (pc' := 7) (ls' := [.ref 5, .int x1]) (st' := [.int (4 : Int32), .int (σ.1 26 (x1).toNatClampNeg)]) (σ' := σ) 1 rfl ?_
  exact Wp.icmp rfl ht hf
theorem b69_10 {d : Nat} {Q : Option Value → px_S → Prop} {σ : px_S} {x1 : Int32} (h : Wp d tb_69 15 [.ref 5, .int x1] [.int (1 : Int32)] σ Q) : Wp d tb_69 10 [.ref 5, .int x1] [] σ Q := by
  refine Wp.adv (pc' := 15) (ls' := [.ref 5, .int x1]) (st' := [.int (1 : Int32)]) (σ' := σ) 2 rfl ?_
  exact h
theorem b69_14 {d : Nat} {Q : Option Value → px_S → Prop} {σ : px_S} {x1 : Int32} (h : Wp d tb_69 15 [.ref 5, .int x1] [.int (0 : Int32)] σ Q) : Wp d tb_69 14 [.ref 5, .int x1] [] σ Q := by
  refine Wp.adv (pc' := 15) (ls' := [.ref 5, .int x1]) (st' := [.int (0 : Int32)]) (σ' := σ) 1 rfl ?_
  exact h
theorem b69_15 {d : Nat} {Q : Option Value → px_S → Prop} {σ : px_S} {x1 s0 : Int32} (c1 : s0 = 0 ∨ s0 = 1) (h : Q (some (.int s0)) σ) : Wp d tb_69 15 [.ref 5, .int x1] [.int s0] σ Q := by
  exact Wp.zret rfl c1 h
theorem e69 {d : Nat} {Q : Option Value → px_S → Prop} {σ : px_S} {x1 : Int32} (h : Wp d tb_69 0 [.ref 5, .int x1] [] σ Q) : Cw (d + 1) 69 [.ref 5, .int x1] σ Q := Cw.of (nL := 2) (y := yX3_isLarge) (cc := cX3_isLarge) (rt := some .boolean) rfl (Nat.le_of_ble_eq_true rfl) h
theorem b70_0 {d : Nat} {Q : Option Value → px_S → Prop} {σ : px_S} {x1 : Int32} (h : Cw d 71 [.ref 5, .int x1] σ (fun r τ => Wp d tb_70 5 [.ref 5, .int x1] (r.toList ++ []) τ Q)) : Wp d tb_70 0 [.ref 5, .int x1] [] σ Q := by
  refine Wp.adv (pc' := 2) (ls' := [.ref 5, .int x1]) (st' := [.int x1, .ref 5]) (σ' := σ) 2 rfl ?_
  exact Wp.call (q := (71, 2, 4, 5)) rfl (Nat.le_of_ble_eq_true rfl) rfl h
theorem b70_5 {d : Nat} {Q : Option Value → px_S → Prop} {σ : px_S} {x1 : Int32} (h : Q (some (.int (σ.1 6 4))) σ) : Wp d tb_70 5 [.ref 5, .int x1] [] σ Q := by
  refine Wp.adv (pc' := 12) (ls' := [.ref 5, .int x1]) (st' := [.int (σ.1 6 4)]) (σ' := σ) 3 rfl ?_
  exact Wp.ret rfl rfl h
theorem e70 {d : Nat} {Q : Option Value → px_S → Prop} {σ : px_S} {x1 : Int32} (h : Wp d tb_70 0 [.ref 5, .int x1] [] σ Q) : Cw (d + 1) 70 [.ref 5, .int x1] σ Q := Cw.of (nL := 2) (y := yX3_rowLength) (cc := cX3_rowLength) (rt := some .int) rfl (Nat.le_of_ble_eq_true rfl) h
theorem b71_0 {d : Nat} {Q : Option Value → px_S → Prop} {σ : px_S} {x1 : Int32} (ht : ¬ (σ.1 5 9) = x1 → Wp d tb_71 9 [.ref 5, .int x1, .null] [] σ Q) (hf : ¬ (¬ (σ.1 5 9) = x1) → Wp d tb_71 8 [.ref 5, .int x1, .null] [] σ Q) : Wp d tb_71 0 [.ref 5, .int x1, .null] [] σ Q := by
  refine Wp.adv (pc' := 5) (ls' := [.ref 5, .int x1, .null]) (st' := [.int x1, .int (σ.1 5 9)]) (σ' := σ) 3 rfl ?_
  exact Wp.icmp rfl ht hf
theorem b71_8 {d : Nat} {Q : Option Value → px_S → Prop} {σ : px_S} {x1 : Int32} (h : Q none σ) : Wp d tb_71 8 [.ref 5, .int x1, .null] [] σ Q := by
  exact Wp.ret rfl rfl h
theorem b71_9 {d : Nat} {Q : Option Value → px_S → Prop} {σ : px_S} {x1 : Int32} (h : Cw d 72 [.ref 6] σ (fun r τ => Wp d tb_71 16 [.ref 5, .int x1, .null] (r.toList ++ []) τ Q)) : Wp d tb_71 9 [.ref 5, .int x1, .null] [] σ Q := by
  refine Wp.adv (pc' := 13) (ls' := [.ref 5, .int x1, .null]) (st' := [.ref 6]) (σ' := σ) 2 rfl ?_
  exact Wp.call (q := (72, 1, 6, 16)) rfl (Nat.le_of_ble_eq_true rfl) rfl h
theorem b71_16 {d : Nat} {Q : Option Value → px_S → Prop} {σ : px_S} {x1 : Int32} (h : Wp d tb_71 18 [.ref 5, .int x1, .int (0 : Int32)] [] σ Q) : Wp d tb_71 16 [.ref 5, .int x1, .null] [] σ Q := by
  refine Wp.adv (pc' := 18) (ls' := [.ref 5, .int x1, .int (0 : Int32)]) (st' := []) (σ' := σ) 2 rfl ?_
  exact h
theorem b71_18 {d : Nat} {Q : Option Value → px_S → Prop} {σ : px_S} {x1 x2 : Int32} (ht : (σ.1 1 7) ≤ x2 → Wp d tb_71 50 [.ref 5, .int x1, .int x2] [] σ Q) (hf : ¬ ((σ.1 1 7) ≤ x2) → Wp d tb_71 29 [.ref 5, .int x1, .int x2] [] σ Q) : Wp d tb_71 18 [.ref 5, .int x1, .int x2] [] σ Q := by
  refine Wp.adv (pc' := 26) (ls' := [.ref 5, .int x1, .int x2]) (st' := [.int (σ.1 1 7), .int x2]) (σ' := σ) 4 rfl ?_
  exact Wp.icmp rfl ht hf
theorem b71_29 {d : Nat} {Q : Option Value → px_S → Prop} {σ : px_S} {x1 x2 : Int32} (c1 : vp_in x2 40) (ht : ¬ (σ.1 25 (x2).toNatClampNeg) = x1 → Wp d tb_71 44 [.ref 5, .int x1, .int x2] [] σ Q) (hf : ¬ (¬ (σ.1 25 (x2).toNatClampNeg) = x1) → Wp d tb_71 39 [.ref 5, .int x1, .int x2] [] σ Q) : Wp d tb_71 29 [.ref 5, .int x1, .int x2] [] σ Q := by
  refine Wp.adv (pc' := 34) (ls' := [.ref 5, .int x1, .int x2]) (st' := [.int x2, .ref 25]) (σ' := σ) 3 rfl ?_
  refine Wp.iald (N := 40) rfl rfl c1 ?_
  refine Wp.adv (pc' := 36) (ls' := [.ref 5, .int x1, .int x2]) (st' := [.int x1, .int (σ.1 25 (x2).toNatClampNeg)]) (σ' := σ) 1 rfl ?_
  exact Wp.icmp rfl ht hf
theorem b71_39 {d : Nat} {Q : Option Value → px_S → Prop} {σ : px_S} {x1 x2 : Int32} (h : Cw d 73 [.ref 5, .int x2] σ (fun r τ => Wp d tb_71 44 [.ref 5, .int x1, .int x2] (r.toList ++ []) τ Q)) : Wp d tb_71 39 [.ref 5, .int x1, .int x2] [] σ Q := by
  refine Wp.adv (pc' := 41) (ls' := [.ref 5, .int x1, .int x2]) (st' := [.int x2, .ref 5]) (σ' := σ) 2 rfl ?_
  exact Wp.call (q := (73, 2, 4, 44)) rfl (Nat.le_of_ble_eq_true rfl) rfl h
theorem b71_44 {d : Nat} {Q : Option Value → px_S → Prop} {σ : px_S} {x1 x2 : Int32} (h : Wp d tb_71 18 [.ref 5, .int x1, .int (x2 + 1)] [] σ Q) : Wp d tb_71 44 [.ref 5, .int x1, .int x2] [] σ Q := by
  refine Wp.adv (pc' := 18) (ls' := [.ref 5, .int x1, .int (x2 + 1)]) (st' := []) (σ' := σ) 2 rfl ?_
  exact h
theorem b71_50 {d : Nat} {Q : Option Value → px_S → Prop} {σ : px_S} {x1 x2 : Int32} (h : Cw d 76 [.ref 6] σ (fun r τ => Wp d tb_71 57 [.ref 5, .int x1, .int x2] (r.toList ++ []) τ Q)) : Wp d tb_71 50 [.ref 5, .int x1, .int x2] [] σ Q := by
  refine Wp.adv (pc' := 54) (ls' := [.ref 5, .int x1, .int x2]) (st' := [.ref 6]) (σ' := σ) 2 rfl ?_
  exact Wp.call (q := (76, 1, 6, 57)) rfl (Nat.le_of_ble_eq_true rfl) rfl h
theorem b71_57 {d : Nat} {Q : Option Value → px_S → Prop} {σ : px_S} {x1 x2 : Int32} (h : Wp d tb_71 62 [.ref 5, .int x1, .int x2] [] (px_uI σ 5 9 x1) Q) : Wp d tb_71 57 [.ref 5, .int x1, .int x2] [] σ Q := by
  refine Wp.adv (pc' := 59) (ls' := [.ref 5, .int x1, .int x2]) (st' := [.int x1, .ref 5]) (σ' := σ) 2 rfl ?_
  refine Wp.step (q := (62, [.ref 5, .int x1, .int x2], [], (px_uI σ 5 9 x1))) rfl rfl ?_
  exact h
theorem b71_62 {d : Nat} {Q : Option Value → px_S → Prop} {σ : px_S} {x1 x2 : Int32} (h : Q none σ) : Wp d tb_71 62 [.ref 5, .int x1, .int x2] [] σ Q := by
  exact Wp.ret rfl rfl h
theorem e71 {d : Nat} {Q : Option Value → px_S → Prop} {σ : px_S} {x1 : Int32} (h : Wp d tb_71 0 [.ref 5, .int x1, .null] [] σ Q) : Cw (d + 1) 71 [.ref 5, .int x1] σ Q := Cw.of (nL := 3) (y := yX3_makeRow) (cc := cX3_makeRow) (rt := none) rfl (Nat.le_of_ble_eq_true rfl) h
theorem b72_0 {d : Nat} {Q : Option Value → px_S → Prop} {σ : px_S}  (h : Wp d tb_72 5 [.ref 6] [] (px_uI σ 6 5 (0 : Int32)) Q) : Wp d tb_72 0 [.ref 6] [] σ Q := by
  refine Wp.adv (pc' := 2) (ls' := [.ref 6]) (st' := [.int (0 : Int32), .ref 6]) (σ' := σ) 2 rfl ?_
  refine Wp.step (q := (5, [.ref 6], [], (px_uI σ 6 5 (0 : Int32)))) rfl rfl ?_
  exact h
theorem b72_5 {d : Nat} {Q : Option Value → px_S → Prop} {σ : px_S}  (h : Q none σ) : Wp d tb_72 5 [.ref 6] [] σ Q := by
  exact Wp.ret rfl rfl h
theorem e72 {d : Nat} {Q : Option Value → px_S → Prop} {σ : px_S}  (h : Wp d tb_72 0 [.ref 6] [] σ Q) : Cw (d + 1) 72 [.ref 6] σ Q := Cw.of (nL := 1) (y := yX5_start) (cc := cX5_start) (rt := none) rfl (Nat.le_of_ble_eq_true rfl) h
theorem b73_0 {d : Nat} {Q : Option Value → px_S → Prop} {σ : px_S} {x1 : Int32} (h : Cw d 74 [.ref 6] σ (fun r τ => Wp d tb_73 7 [.ref 5, .int x1, .null] (r.toList ++ []) τ Q)) : Wp d tb_73 0 [.ref 5, .int x1, .null] [] σ Q := by
  refine Wp.adv (pc' := 4) (ls' := [.ref 5, .int x1, .null]) (st' := [.ref 6]) (σ' := σ) 2 rfl ?_
  exact Wp.call (q := (74, 1, 6, 7)) rfl (Nat.le_of_ble_eq_true rfl) rfl h
theorem b73_7 {d : Nat} {Q : Option Value → px_S → Prop} {σ : px_S} {x1 : Int32} (h : Wp d tb_73 9 [.ref 5, .int x1, .int (0 : Int32)] [] σ Q) : Wp d tb_73 7 [.ref 5, .int x1, .null] [] σ Q := by
  refine Wp.adv (pc' := 9) (ls' := [.ref 5, .int x1, .int (0 : Int32)]) (st' := []) (σ' := σ) 2 rfl ?_
  exact h
theorem b73_9 {d : Nat} {Q : Option Value → px_S → Prop} {σ : px_S} {x1 x2 : Int32} (c1 : vp_in x1 40) (ht : (σ.1 14 (x1).toNatClampNeg) ≤ x2 → Wp d tb_73 57 [.ref 5, .int x1, .int x2] [] σ Q) (hf : ¬ ((σ.1 14 (x1).toNatClampNeg) ≤ x2) → Wp d tb_73 22 [.ref 5, .int x1, .int x2] [] σ Q) : Wp d tb_73 9 [.ref 5, .int x1, .int x2] [] σ Q := by
  refine Wp.adv (pc' := 18) (ls' := [.ref 5, .int x1, .int x2]) (st' := [.int x1, .ref 14, .int x2]) (σ' := σ) 5 rfl ?_
  refine Wp.iald (N := 40) rfl rfl c1 ?_
  exact Wp.icmp rfl ht hf
theorem b73_22 {d : Nat} {Q : Option Value → px_S → Prop} {σ : px_S} {x1 x2 : Int32} (h : Cw d 57 [.ref 5, .int x1, .int x2] σ (fun r τ => Wp d tb_73 28 [.ref 5, .int x1, .int x2] (r.toList ++ []) τ Q)) : Wp d tb_73 22 [.ref 5, .int x1, .int x2] [] σ Q := by
  refine Wp.adv (pc' := 25) (ls' := [.ref 5, .int x1, .int x2]) (st' := [.int x2, .int x1, .ref 5]) (σ' := σ) 3 rfl ?_
  exact Wp.call (q := (57, 3, 4, 28)) rfl (Nat.le_of_ble_eq_true rfl) rfl h
theorem b73_28 {d : Nat} {Q : Option Value → px_S → Prop} {σ : px_S} {x1 x2 s0 : Int32} (ht : s0 = 0 → Wp d tb_73 51 [.ref 5, .int x1, .int x2] [] σ Q) (hf : ¬ (s0 = 0) → Wp d tb_73 31 [.ref 5, .int x1, .int x2] [] σ Q) : Wp d tb_73 28 [.ref 5, .int x1, .int x2] [.int s0] σ Q := by
  exact Wp.if_ rfl ht hf
theorem b73_31 {d : Nat} {Q : Option Value → px_S → Prop} {σ : px_S} {x1 x2 : Int32} (h : Cw d 11 [.int x1, .int x2] σ (fun r τ => Wp d tb_73 47 [.ref 5, .int x1, .int x2] (r.toList ++ [.ref 17, .ref 6]) τ Q)) : Wp d tb_73 31 [.ref 5, .int x1, .int x2] [] σ Q := by
  refine Wp.adv (pc' := 44) (ls' := [.ref 5, .int x1, .int x2]) (st' := [.int x2, .int x1, .ref 17, .ref 6]) (σ' := σ) 7 rfl ?_
  exact Wp.call (q := (11, 2, 0, 47)) rfl (Nat.le_of_ble_eq_true rfl) rfl h
theorem b73_47 {d : Nat} {Q : Option Value → px_S → Prop} {σ : px_S} {x1 x2 s0 : Int32} (c1 : vp_in s0 560) (h : Cw d 75 [.ref 6, .long (σ.2.1 17 (s0).toNatClampNeg)] σ (fun r τ => Wp d tb_73 51 [.ref 5, .int x1, .int x2] (r.toList ++ []) τ Q)) : Wp d tb_73 47 [.ref 5, .int x1, .int x2] [.int s0, .ref 17, .ref 6] σ Q := by
  refine Wp.lald (N := 560) rfl rfl c1 ?_
  exact Wp.call (q := (75, 2, 6, 51)) rfl (Nat.le_of_ble_eq_true rfl) rfl h
theorem b73_51 {d : Nat} {Q : Option Value → px_S → Prop} {σ : px_S} {x1 x2 : Int32} (h : Wp d tb_73 9 [.ref 5, .int x1, .int (x2 + 1)] [] σ Q) : Wp d tb_73 51 [.ref 5, .int x1, .int x2] [] σ Q := by
  refine Wp.adv (pc' := 9) (ls' := [.ref 5, .int x1, .int (x2 + 1)]) (st' := []) (σ' := σ) 2 rfl ?_
  exact h
theorem b73_57 {d : Nat} {Q : Option Value → px_S → Prop} {σ : px_S} {x1 x2 : Int32} (h : Q none σ) : Wp d tb_73 57 [.ref 5, .int x1, .int x2] [] σ Q := by
  exact Wp.ret rfl rfl h
theorem e73 {d : Nat} {Q : Option Value → px_S → Prop} {σ : px_S} {x1 : Int32} (h : Wp d tb_73 0 [.ref 5, .int x1, .null] [] σ Q) : Cw (d + 1) 73 [.ref 5, .int x1] σ Q := Cw.of (nL := 3) (y := yX3_handOverPiece) (cc := cX3_handOverPiece) (rt := none) rfl (Nat.le_of_ble_eq_true rfl) h
theorem b74_0 {d : Nat} {Q : Option Value → px_S → Prop} {σ : px_S}  (ht : (4 : Int32) ≤ (σ.1 6 5) → Wp d tb_74 28 [.ref 6] [] σ Q) (hf : ¬ ((4 : Int32) ≤ (σ.1 6 5)) → Wp d tb_74 8 [.ref 6] [] σ Q) : Wp d tb_74 0 [.ref 6] [] σ Q := by
  refine Wp.adv (pc' := 5) (ls' := [.ref 6]) (st' := [.int (4 : Int32), .int (σ.1 6 5)]) (σ' := σ) 3 rfl ?_
  exact Wp.icmp rfl ht hf
theorem b74_8 {d : Nat} {Q : Option Value → px_S → Prop} {σ : px_S}  (c1 : vp_in (σ.1 6 5) 4) (h : Wp d tb_74 18 [.ref 6] [] (px_uI σ 30 ((σ.1 6 5)).toNatClampNeg (0 : Int32)) Q) : Wp d tb_74 8 [.ref 6] [] σ Q := by
  refine Wp.adv (pc' := 17) (ls' := [.ref 6]) (st' := [.int (0 : Int32), .int (σ.1 6 5), .ref 30]) (σ' := σ) 5 rfl ?_
  refine Wp.iast (N := 4) rfl rfl c1 ?_
  exact h
theorem b74_18 {d : Nat} {Q : Option Value → px_S → Prop} {σ : px_S}  (h : Wp d tb_74 28 [.ref 6] [] (px_uI σ 6 5 ((σ.1 6 5) + (1 : Int32))) Q) : Wp d tb_74 18 [.ref 6] [] σ Q := by
  refine Wp.adv (pc' := 25) (ls' := [.ref 6]) (st' := [.int ((σ.1 6 5) + (1 : Int32)), .ref 6]) (σ' := σ) 5 rfl ?_
  refine Wp.step (q := (28, [.ref 6], [], (px_uI σ 6 5 ((σ.1 6 5) + (1 : Int32))))) rfl rfl ?_
  exact h
theorem b74_28 {d : Nat} {Q : Option Value → px_S → Prop} {σ : px_S}  (h : Q none σ) : Wp d tb_74 28 [.ref 6] [] σ Q := by
  exact Wp.ret rfl rfl h
theorem e74 {d : Nat} {Q : Option Value → px_S → Prop} {σ : px_S}  (h : Wp d tb_74 0 [.ref 6] [] σ Q) : Cw (d + 1) 74 [.ref 6] σ Q := Cw.of (nL := 1) (y := yX5_addPiece) (cc := cX5_addPiece) (rt := none) rfl (Nat.le_of_ble_eq_true rfl) h
theorem b75_0 {d : Nat} {Q : Option Value → px_S → Prop} {σ : px_S} {y1 : Int64} (ht : ((σ.1 6 5) - (1 : Int32)) < 0 → Wp d tb_75 49 [.ref 6, .long y1, .null, .int ((σ.1 6 5) - (1 : Int32))] [] σ Q) (hf : ¬ (((σ.1 6 5) - (1 : Int32)) < 0) → Wp d tb_75 11 [.ref 6, .long y1, .null, .int ((σ.1 6 5) - (1 : Int32))] [] σ Q) : Wp d tb_75 0 [.ref 6, .long y1, .null, .null] [] σ Q := by
  refine Wp.adv (pc' := 8) (ls' := [.ref 6, .long y1, .null, .int ((σ.1 6 5) - (1 : Int32))]) (st' := [.int ((σ.1 6 5) - (1 : Int32))]) (σ' := σ) 6 rfl ?_
  exact Wp.if_ rfl ht hf
theorem b75_11 {d : Nat} {Q : Option Value → px_S → Prop} {σ : px_S} {x3 : Int32} {y1 : Int64} (c1 : vp_in x3 4) (ht : (14 : Int32) ≤ (σ.1 30 (x3).toNatClampNeg) → Wp d tb_75 49 [.ref 6, .long y1, .null, .int x3] [] σ Q) (hf : ¬ ((14 : Int32) ≤ (σ.1 30 (x3).toNatClampNeg)) → Wp d tb_75 22 [.ref 6, .long y1, .null, .int x3] [] σ Q) : Wp d tb_75 11 [.ref 6, .long y1, .null, .int x3] [] σ Q := by
  refine Wp.adv (pc' := 16) (ls' := [.ref 6, .long y1, .null, .int x3]) (st' := [.int x3, .ref 30]) (σ' := σ) 3 rfl ?_
  refine Wp.iald (N := 4) rfl rfl c1 ?_
  refine Wp.adv (pc' := 19) (ls' := [.ref 6, .long y1, .null, .int x3]) (st' := [.int (14 : Int32), .int (σ.1 30 (x3).toNatClampNeg)]) (σ' := σ) 1 rfl ?_
  exact Wp.icmp rfl ht hf
theorem b75_22 {d : Nat} {Q : Option Value → px_S → Prop} {σ : px_S} {x3 : Int32} {y1 : Int64} (c1 : vp_in x3 4) (c2 : vp_in (((14 : Int32) * x3) + (σ.1 30 (x3).toNatClampNeg)) 56) (h : Wp d tb_75 39 [.ref 6, .long y1, .null, .int x3] [] (px_uL σ 29 ((((14 : Int32) * x3) + (σ.1 30 (x3).toNatClampNeg))).toNatClampNeg y1) Q) : Wp d tb_75 22 [.ref 6, .long y1, .null, .int x3] [] σ Q := by
  refine Wp.adv (pc' := 35) (ls' := [.ref 6, .long y1, .null, .int x3]) (st' := [.int x3, .ref 30, .int ((14 : Int32) * x3), .ref 29]) (σ' := σ) 8 rfl ?_
  refine Wp.iald (N := 4) rfl rfl c1 ?_
  refine Wp.adv (pc' := 38) (ls' := [.ref 6, .long y1, .null, .int x3]) (st' := [.long y1, .int (((14 : Int32) * x3) + (σ.1 30 (x3).toNatClampNeg)), .ref 29]) (σ' := σ) 2 rfl ?_
  refine Wp.last (N := 56) rfl rfl c2 ?_
  exact h
theorem b75_39 {d : Nat} {Q : Option Value → px_S → Prop} {σ : px_S} {x3 : Int32} {y1 : Int64} (c1 : vp_in x3 4) (c2 : vp_in x3 4) (h : Wp d tb_75 49 [.ref 6, .long y1, .null, .int x3] [] (px_uI σ 30 (x3).toNatClampNeg ((σ.1 30 (x3).toNatClampNeg) + (1 : Int32))) Q) : Wp d tb_75 39 [.ref 6, .long y1, .null, .int x3] [] σ Q := by
  refine Wp.adv (pc' := 45) (ls' := [.ref 6, .long y1, .null, .int x3]) (st' := [.int x3, .ref 30, .int x3, .ref 30]) (σ' := σ) 4 rfl ?_
  refine Wp.iald (N := 4) rfl rfl c1 ?_
  refine Wp.adv (pc' := 48) (ls' := [.ref 6, .long y1, .null, .int x3]) (st' := [.int ((σ.1 30 (x3).toNatClampNeg) + (1 : Int32)), .int x3, .ref 30]) (σ' := σ) 2 rfl ?_
  refine Wp.iast (N := 4) rfl rfl c2 ?_
  exact h
theorem b75_49 {d : Nat} {Q : Option Value → px_S → Prop} {σ : px_S} {x3 : Int32} {y1 : Int64} (h : Q none σ) : Wp d tb_75 49 [.ref 6, .long y1, .null, .int x3] [] σ Q := by
  exact Wp.ret rfl rfl h
theorem e75 {d : Nat} {Q : Option Value → px_S → Prop} {σ : px_S} {y1 : Int64} (h : Wp d tb_75 0 [.ref 6, .long y1, .null, .null] [] σ Q) : Cw (d + 1) 75 [.ref 6, .long y1] σ Q := Cw.of (nL := 4) (y := yX5_addText) (cc := cX5_addText) (rt := none) rfl (Nat.le_of_ble_eq_true rfl) h
theorem b76_0 {d : Nat} {Q : Option Value → px_S → Prop} {σ : px_S}  (h : Wp d tb_76 4 [.ref 6, .int (0 : Int32), .int (0 : Int32), .null, .null, .null] [] σ Q) : Wp d tb_76 0 [.ref 6, .null, .null, .null, .null, .null] [] σ Q := by
  refine Wp.adv (pc' := 4) (ls' := [.ref 6, .int (0 : Int32), .int (0 : Int32), .null, .null, .null]) (st' := []) (σ' := σ) 4 rfl ?_
  exact h
theorem b76_4 {d : Nat} {Q : Option Value → px_S → Prop} {σ : px_S} {x1 x2 : Int32} (ht : (σ.1 6 5) ≤ x2 → Wp d tb_76 31 [.ref 6, .int x1, .int x2, .null, .null, .null] [] σ Q) (hf : ¬ ((σ.1 6 5) ≤ x2) → Wp d tb_76 12 [.ref 6, .int x1, .int x2, .null, .null, .null] [] σ Q) : Wp d tb_76 4 [.ref 6, .int x1, .int x2, .null, .null, .null] [] σ Q := by
  refine Wp.adv (pc' := 9) (ls' := [.ref 6, .int x1, .int x2, .null, .null, .null]) (st' := [.int (σ.1 6 5), .int x2]) (σ' := σ) 3 rfl ?_
  exact Wp.icmp rfl ht hf
theorem b76_12 {d : Nat} {Q : Option Value → px_S → Prop} {σ : px_S} {x1 x2 : Int32} (c1 : vp_in x2 4) (h : Wp d tb_76 4 [.ref 6, .int (x1 ||| ((σ.1 30 (x2).toNatClampNeg) <<< (((4 : Int32) * x2) &&& 31))), .int (x2 + 1), .null, .null, .null] [] σ Q) : Wp d tb_76 12 [.ref 6, .int x1, .int x2, .null, .null, .null] [] σ Q := by
  refine Wp.adv (pc' := 18) (ls' := [.ref 6, .int x1, .int x2, .null, .null, .null]) (st' := [.int x2, .ref 30, .int x1]) (σ' := σ) 4 rfl ?_
  refine Wp.iald (N := 4) rfl rfl c1 ?_
  refine Wp.adv (pc' := 4) (ls' := [.ref 6, .int (x1 ||| ((σ.1 30 (x2).toNatClampNeg) <<< (((4 : Int32) * x2) &&& 31))), .int (x2 + 1), .null, .null, .null]) (st' := []) (σ' := σ) 8 rfl ?_
  exact h
theorem b76_31 {d : Nat} {Q : Option Value → px_S → Prop} {σ : px_S} {x1 x2 : Int32} (ht : ((1 : Int32) <<< (((4 : Int32) * (σ.1 6 5)) &&& 31)) ≤ (Int32.ofNat σ.2.2.1) → Wp d tb_76 56 [.ref 6, .int x1, .int ((1 : Int32) <<< (((4 : Int32) * (σ.1 6 5)) &&& 31)), .null, .null, .null] [] σ Q) (hf : ¬ (((1 : Int32) <<< (((4 : Int32) * (σ.1 6 5)) &&& 31)) ≤ (Int32.ofNat σ.2.2.1)) → Wp d tb_76 49 [.ref 6, .int x1, .int ((1 : Int32) <<< (((4 : Int32) * (σ.1 6 5)) &&& 31)), .null, .null, .null] [] σ Q) : Wp d tb_76 31 [.ref 6, .int x1, .int x2, .null, .null, .null] [] σ Q := by
  refine Wp.adv (pc' := 44) (ls' := [.ref 6, .int x1, .int ((1 : Int32) <<< (((4 : Int32) * (σ.1 6 5)) &&& 31)), .null, .null, .null]) (st' := [.ref 33]) (σ' := σ) 9 rfl ?_
  refine Wp.step (q := (45, [.ref 6, .int x1, .int ((1 : Int32) <<< (((4 : Int32) * (σ.1 6 5)) &&& 31)), .null, .null, .null], [.int (Int32.ofNat σ.2.2.1)], σ)) rfl rfl ?_
  refine Wp.adv (pc' := 46) (ls' := [.ref 6, .int x1, .int ((1 : Int32) <<< (((4 : Int32) * (σ.1 6 5)) &&& 31)), .null, .null, .null]) (st' := [.int ((1 : Int32) <<< (((4 : Int32) * (σ.1 6 5)) &&& 31)), .int (Int32.ofNat σ.2.2.1)]) (σ' := σ) 1 rfl ?_
  exact Wp.icmp rfl ht hf
theorem b76_49 {d : Nat} {Q : Option Value → px_S → Prop} {σ : px_S} {x1 x2 : Int32} (c1 : ¬ x2 < 0) (c2 : (x2).toNatClampNeg ≤ 100000) (h : Wp d tb_76 56 [.ref 6, .int x1, .int x2, .null, .null, .null] [] (px_nw σ (x2).toNatClampNeg) Q) : Wp d tb_76 49 [.ref 6, .int x1, .int x2, .null, .null, .null] [] σ Q := by
  refine Wp.adv (pc' := 51) (ls' := [.ref 6, .int x1, .int x2, .null, .null, .null]) (st' := [.int x2, .ref 6]) (σ' := σ) 2 rfl ?_
  refine Wp.newc rfl c1 c2 rfl rfl ?_
  exact h
theorem b76_56 {d : Nat} {Q : Option Value → px_S → Prop} {σ : px_S} {x1 x2 : Int32} (h : Wp d tb_76 64 [.ref 6, .int x1, .int x2, .int (0 : Int32), .int (0 : Int32), .int (0 : Int32)] [] σ Q) : Wp d tb_76 56 [.ref 6, .int x1, .int x2, .null, .null, .null] [] σ Q := by
  refine Wp.adv (pc' := 64) (ls' := [.ref 6, .int x1, .int x2, .int (0 : Int32), .int (0 : Int32), .int (0 : Int32)]) (st' := []) (σ' := σ) 6 rfl ?_
  exact h
theorem b76_64 {d : Nat} {Q : Option Value → px_S → Prop} {σ : px_S} {x1 x2 x3 x4 x5 : Int32} (ht : x2 ≤ x5 → Wp d tb_76 104 [.ref 6, .int x1, .int x2, .int x3, .int x4, .int x5] [] σ Q) (hf : ¬ (x2 ≤ x5) → Wp d tb_76 70 [.ref 6, .int x1, .int x2, .int x3, .int x4, .int x5] [] σ Q) : Wp d tb_76 64 [.ref 6, .int x1, .int x2, .int x3, .int x4, .int x5] [] σ Q := by
  refine Wp.adv (pc' := 67) (ls' := [.ref 6, .int x1, .int x2, .int x3, .int x4, .int x5]) (st' := [.int x2, .int x5]) (σ' := σ) 2 rfl ?_
  exact Wp.icmp rfl ht hf
theorem b76_70 {d : Nat} {Q : Option Value → px_S → Prop} {σ : px_S} {x1 x2 x3 x4 x5 : Int32} (c1 : vp_in x1 σ.2.2.1) (ht : ¬ (σ.1 33 (x1).toNatClampNeg) = 0 → Wp d tb_76 104 [.ref 6, .int x1, .int x2, .int x3, .int x4, .int x5] [] σ Q) (hf : ¬ (¬ (σ.1 33 (x1).toNatClampNeg) = 0) → Wp d tb_76 79 [.ref 6, .int x1, .int x2, .int x3, .int x4, .int x5] [] σ Q) : Wp d tb_76 70 [.ref 6, .int x1, .int x2, .int x3, .int x4, .int x5] [] σ Q := by
  refine Wp.adv (pc' := 75) (ls' := [.ref 6, .int x1, .int x2, .int x3, .int x4, .int x5]) (st' := [.int x1, .ref 33]) (σ' := σ) 3 rfl ?_
  refine Wp.iald (N := σ.2.2.1) rfl rfl c1 ?_
  exact Wp.if_ rfl ht hf
theorem b76_79 {d : Nat} {Q : Option Value → px_S → Prop} {σ : px_S} {x1 x2 x3 x4 x5 : Int32} (h : Cw d 77 [.ref 6, .int x3, .int x4] σ (fun r τ => Wp d tb_76 86 [.ref 6, .int x1, .int x2, .int x3, .int x4, .int x5] (r.toList ++ []) τ Q)) : Wp d tb_76 79 [.ref 6, .int x1, .int x2, .int x3, .int x4, .int x5] [] σ Q := by
  refine Wp.adv (pc' := 83) (ls' := [.ref 6, .int x1, .int x2, .int x3, .int x4, .int x5]) (st' := [.int x4, .int x3, .ref 6]) (σ' := σ) 3 rfl ?_
  exact Wp.call (q := (77, 3, 6, 86)) rfl (Nat.le_of_ble_eq_true rfl) rfl h
theorem b76_86 {d : Nat} {Q : Option Value → px_S → Prop} {σ : px_S} {x1 x2 x3 x4 x5 s0 : Int32} (c1 : vp_in x3 σ.2.2.1) (h : Wp d tb_76 64 [.ref 6, .int x1, .int x2, .int ((σ.1 33 (x3).toNatClampNeg) &&& (65535 : Int32)), .int s0, .int (x5 + 1)] [] σ Q) : Wp d tb_76 86 [.ref 6, .int x1, .int x2, .int x3, .int x4, .int x5] [.int s0] σ Q := by
  refine Wp.adv (pc' := 93) (ls' := [.ref 6, .int x1, .int x2, .int x3, .int s0, .int x5]) (st' := [.int x3, .ref 33]) (σ' := σ) 4 rfl ?_
  refine Wp.iald (N := σ.2.2.1) rfl rfl c1 ?_
  refine Wp.adv (pc' := 64) (ls' := [.ref 6, .int x1, .int x2, .int ((σ.1 33 (x3).toNatClampNeg) &&& (65535 : Int32)), .int s0, .int (x5 + 1)]) (st' := []) (σ' := σ) 5 rfl ?_
  exact h
theorem b76_104 {d : Nat} {Q : Option Value → px_S → Prop} {σ : px_S} {x1 x2 x3 x4 x5 : Int32} (h : Cw d 81 [.ref 6, .int x1] σ (fun r τ => Wp d tb_76 109 [.ref 6, .int x1, .int x2, .int x3, .int x4, .int x5] (r.toList ++ []) τ Q)) : Wp d tb_76 104 [.ref 6, .int x1, .int x2, .int x3, .int x4, .int x5] [] σ Q := by
  refine Wp.adv (pc' := 106) (ls' := [.ref 6, .int x1, .int x2, .int x3, .int x4, .int x5]) (st' := [.int x1, .ref 6]) (σ' := σ) 2 rfl ?_
  exact Wp.call (q := (81, 2, 6, 109)) rfl (Nat.le_of_ble_eq_true rfl) rfl h
theorem b76_109 {d : Nat} {Q : Option Value → px_S → Prop} {σ : px_S} {x1 x2 x3 x4 x5 : Int32} (h : Cw d 83 [.ref 6] σ (fun r τ => Wp d tb_76 113 [.ref 6, .int x1, .int x2, .int x3, .int x4, .int x5] (r.toList ++ []) τ Q)) : Wp d tb_76 109 [.ref 6, .int x1, .int x2, .int x3, .int x4, .int x5] [] σ Q := by
  refine Wp.adv (pc' := 110) (ls' := [.ref 6, .int x1, .int x2, .int x3, .int x4, .int x5]) (st' := [.ref 6]) (σ' := σ) 1 rfl ?_
  exact Wp.call (q := (83, 1, 6, 113)) rfl (Nat.le_of_ble_eq_true rfl) rfl h
theorem b76_113 {d : Nat} {Q : Option Value → px_S → Prop} {σ : px_S} {x1 x2 x3 x4 x5 : Int32} (h : Q none σ) : Wp d tb_76 113 [.ref 6, .int x1, .int x2, .int x3, .int x4, .int x5] [] σ Q := by
  exact Wp.ret rfl rfl h
theorem e76 {d : Nat} {Q : Option Value → px_S → Prop} {σ : px_S}  (h : Wp d tb_76 0 [.ref 6, .null, .null, .null, .null, .null] [] σ Q) : Cw (d + 1) 76 [.ref 6] σ Q := Cw.of (nL := 6) (y := yX5_findRow) (cc := cX5_findRow) (rt := none) rfl (Nat.le_of_ble_eq_true rfl) h
theorem b77_0 {d : Nat} {Q : Option Value → px_S → Prop} {σ : px_S} {x1 x2 : Int32} (h : Wp d tb_77 2 [.ref 6, .int x1, .int x2, .int (0 : Int32), .null, .null, .null, .null, .null] [] σ Q) : Wp d tb_77 0 [.ref 6, .int x1, .int x2, .null, .null, .null, .null, .null, .null] [] σ Q := by
  refine Wp.adv (pc' := 2) (ls' := [.ref 6, .int x1, .int x2, .int (0 : Int32), .null, .null, .null, .null, .null]) (st' := []) (σ' := σ) 2 rfl ?_
  exact h
theorem b77_2 {d : Nat} {Q : Option Value → px_S → Prop} {σ : px_S} {x1 x2 x3 : Int32} {v4 : Value} (ht : (σ.1 6 5) ≤ x3 → Wp d tb_77 58 [.ref 6, .int x1, .int x2, .int x3, v4, .null, .null, .null, .null] [] σ Q) (hf : ¬ ((σ.1 6 5) ≤ x3) → Wp d tb_77 10 [.ref 6, .int x1, .int x2, .int x3, v4, .null, .null, .null, .null] [] σ Q) : Wp d tb_77 2 [.ref 6, .int x1, .int x2, .int x3, v4, .null, .null, .null, .null] [] σ Q := by
  refine Wp.adv (pc' := 7) (ls' := [.ref 6, .int x1, .int x2, .int x3, v4, .null, .null, .null, .null]) (st' := [.int (σ.1 6 5), .int x3]) (σ' := σ) 3 rfl ?_
  exact Wp.icmp rfl ht hf
theorem b77_10 {d : Nat} {Q : Option Value → px_S → Prop} {σ : px_S} {x1 x2 x3 : Int32} {v4 : Value} (nv4 : px_nc v4 = true) (h : Cw d 78 [.int x1, .int x3] σ (fun r τ => Wp d tb_77 15 [.ref 6, .int x1, .int x2, .int x3, v4, .null, .null, .null, .null] (r.toList ++ []) τ Q)) : Wp d tb_77 10 [.ref 6, .int x1, .int x2, .int x3, v4, .null, .null, .null, .null] [] σ Q := by
  refine Wp.adv (pc' := 12) (ls' := [.ref 6, .int x1, .int x2, .int x3, v4, .null, .null, .null, .null]) (st' := [.int x3, .int x1]) (σ' := σ) 2 rfl ?_
  exact Wp.call (q := (78, 2, 0, 15)) rfl (Nat.le_of_ble_eq_true rfl) (px_okc_mk rfl rfl rfl (by simp only [List.all_cons, List.all_nil, nv4]; rfl)) h
theorem b77_15 {d : Nat} {Q : Option Value → px_S → Prop} {σ : px_S} {x1 x2 x3 s0 : Int32} {v4 : Value} (c1 : vp_in x3 4) (ht : (σ.1 30 (x3).toNatClampNeg) ≤ s0 → Wp d tb_77 48 [.ref 6, .int x1, .int x2, .int x3, .int s0, .null, .null, .null, .null] [.int x3, .ref 31] σ Q) (hf : ¬ ((σ.1 30 (x3).toNatClampNeg) ≤ s0) → Wp d tb_77 33 [.ref 6, .int x1, .int x2, .int x3, .int s0, .null, .null, .null, .null] [.int x3, .ref 31] σ Q) : Wp d tb_77 15 [.ref 6, .int x1, .int x2, .int x3, v4, .null, .null, .null, .null] [.int s0] σ Q := by
  refine Wp.adv (pc' := 29) (ls' := [.ref 6, .int x1, .int x2, .int x3, .int s0, .null, .null, .null, .null]) (st' := [.int x3, .ref 30, .int s0, .int x3, .ref 31]) (σ' := σ) 8 rfl ?_
  refine Wp.iald (N := 4) rfl rfl c1 ?_
  exact Wp.icmp rfl ht hf
theorem b77_33 {d : Nat} {Q : Option Value → px_S → Prop} {σ : px_S} {x1 x2 x3 x4 s0 : Int32} (c1 : vp_in (((14 : Int32) * x3) + x4) 56) (h : Wp d tb_77 51 [.ref 6, .int x1, .int x2, .int x3, .int x4, .null, .null, .null, .null] [.long (σ.2.1 29 ((((14 : Int32) * x3) + x4)).toNatClampNeg), .int s0, .ref 31] σ Q) : Wp d tb_77 33 [.ref 6, .int x1, .int x2, .int x3, .int x4, .null, .null, .null, .null] [.int s0, .ref 31] σ Q := by
  refine Wp.adv (pc' := 44) (ls' := [.ref 6, .int x1, .int x2, .int x3, .int x4, .null, .null, .null, .null]) (st' := [.int (((14 : Int32) * x3) + x4), .ref 29, .int s0, .ref 31]) (σ' := σ) 7 rfl ?_
  refine Wp.lald (N := 56) rfl rfl c1 ?_
  refine Wp.adv (pc' := 51) (ls' := [.ref 6, .int x1, .int x2, .int x3, .int x4, .null, .null, .null, .null]) (st' := [.long (σ.2.1 29 ((((14 : Int32) * x3) + x4)).toNatClampNeg), .int s0, .ref 31]) (σ' := σ) 1 rfl ?_
  exact h
theorem b77_48 {d : Nat} {Q : Option Value → px_S → Prop} {σ : px_S} {x1 x2 x3 x4 s0 : Int32} (h : Wp d tb_77 51 [.ref 6, .int x1, .int x2, .int x3, .int x4, .null, .null, .null, .null] [.long (-1 : Int64), .int s0, .ref 31] σ Q) : Wp d tb_77 48 [.ref 6, .int x1, .int x2, .int x3, .int x4, .null, .null, .null, .null] [.int s0, .ref 31] σ Q := by
  refine Wp.adv (pc' := 51) (ls' := [.ref 6, .int x1, .int x2, .int x3, .int x4, .null, .null, .null, .null]) (st' := [.long (-1 : Int64), .int s0, .ref 31]) (σ' := σ) 1 rfl ?_
  exact h
theorem b77_51 {d : Nat} {Q : Option Value → px_S → Prop} {σ : px_S} {x1 x2 x3 x4 s1 : Int32} {t0 : Int64} (c1 : vp_in s1 4) (h : Wp d tb_77 52 [.ref 6, .int x1, .int x2, .int x3, .int x4, .null, .null, .null, .null] [] (px_uL σ 31 (s1).toNatClampNeg t0) Q) : Wp d tb_77 51 [.ref 6, .int x1, .int x2, .int x3, .int x4, .null, .null, .null, .null] [.long t0, .int s1, .ref 31] σ Q := by
  refine Wp.last (N := 4) rfl rfl c1 ?_
  exact h
theorem b77_52 {d : Nat} {Q : Option Value → px_S → Prop} {σ : px_S} {x1 x2 x3 x4 : Int32} (h : Wp d tb_77 2 [.ref 6, .int x1, .int x2, .int (x3 + 1), .int x4, .null, .null, .null, .null] [] σ Q) : Wp d tb_77 52 [.ref 6, .int x1, .int x2, .int x3, .int x4, .null, .null, .null, .null] [] σ Q := by
  refine Wp.adv (pc' := 2) (ls' := [.ref 6, .int x1, .int x2, .int (x3 + 1), .int x4, .null, .null, .null, .null]) (st' := []) (σ' := σ) 2 rfl ?_
  exact h
theorem b77_58 {d : Nat} {Q : Option Value → px_S → Prop} {σ : px_S} {x1 x2 x3 : Int32} {v4 : Value} (nv4 : px_nc v4 = true) (h : Cw d 79 [.ref 6, .long (-1 : Int64)] σ (fun r τ => Wp d tb_77 67 [.ref 6, .int x1, .int x2, .int x2, v4, .null, .null, .null, .null] (r.toList ++ []) τ Q)) : Wp d tb_77 58 [.ref 6, .int x1, .int x2, .int x3, v4, .null, .null, .null, .null] [] σ Q := by
  refine Wp.adv (pc' := 64) (ls' := [.ref 6, .int x1, .int x2, .int x2, v4, .null, .null, .null, .null]) (st' := [.long (-1 : Int64), .ref 6]) (σ' := σ) 4 rfl ?_
  exact Wp.call (q := (79, 2, 6, 67)) rfl (Nat.le_of_ble_eq_true rfl) (px_okc_mk rfl rfl rfl (by simp only [List.all_cons, List.all_nil, nv4]; rfl)) h
theorem b77_67 {d : Nat} {Q : Option Value → px_S → Prop} {σ : px_S} {x1 x2 x3 : Int32} {t0 : Int64} {v4 : Value} (h : Wp d tb_77 72 [.ref 6, .int x1, .int x2, .int x3, .long t0, .null, .int (0 : Int32), .null, .null] [] σ Q) : Wp d tb_77 67 [.ref 6, .int x1, .int x2, .int x3, v4, .null, .null, .null, .null] [.long t0] σ Q := by
  refine Wp.adv (pc' := 72) (ls' := [.ref 6, .int x1, .int x2, .int x3, .long t0, .null, .int (0 : Int32), .null, .null]) (st' := []) (σ' := σ) 3 rfl ?_
  exact h
theorem b77_72 {d : Nat} {Q : Option Value → px_S → Prop} {σ : px_S} {x1 x2 x3 x6 : Int32} {y4 : Int64} {v7 v8 : Value} (ht : (σ.1 6 5) ≤ x6 → Wp d tb_77 164 [.ref 6, .int x1, .int x2, .int x3, .long y4, .null, .int x6, v7, v8] [] σ Q) (hf : ¬ ((σ.1 6 5) ≤ x6) → Wp d tb_77 81 [.ref 6, .int x1, .int x2, .int x3, .long y4, .null, .int x6, v7, v8] [] σ Q) : Wp d tb_77 72 [.ref 6, .int x1, .int x2, .int x3, .long y4, .null, .int x6, v7, v8] [] σ Q := by
  refine Wp.adv (pc' := 78) (ls' := [.ref 6, .int x1, .int x2, .int x3, .long y4, .null, .int x6, v7, v8]) (st' := [.int (σ.1 6 5), .int x6]) (σ' := σ) 3 rfl ?_
  exact Wp.icmp rfl ht hf
theorem b77_81 {d : Nat} {Q : Option Value → px_S → Prop} {σ : px_S} {x1 x2 x3 x6 : Int32} {y4 : Int64} {v7 v8 : Value} (ht : (lg_cmp y4 (-1 : Int64)) = 0 → Wp d tb_77 164 [.ref 6, .int x1, .int x2, .int x3, .long y4, .null, .int x6, v7, v8] [] σ Q) (hf : ¬ ((lg_cmp y4 (-1 : Int64)) = 0) → Wp d tb_77 90 [.ref 6, .int x1, .int x2, .int x3, .long y4, .null, .int x6, v7, v8] [] σ Q) : Wp d tb_77 81 [.ref 6, .int x1, .int x2, .int x3, .long y4, .null, .int x6, v7, v8] [] σ Q := by
  refine Wp.adv (pc' := 87) (ls' := [.ref 6, .int x1, .int x2, .int x3, .long y4, .null, .int x6, v7, v8]) (st' := [.int (lg_cmp y4 (-1 : Int64))]) (σ' := σ) 3 rfl ?_
  exact Wp.if_ rfl ht hf
theorem b77_90 {d : Nat} {Q : Option Value → px_S → Prop} {σ : px_S} {x1 x2 x3 x6 : Int32} {y4 : Int64} {v7 v8 : Value} (nv7 : px_nc v7 = true) (nv8 : px_nc v8 = true) (h : Cw d 80 [.ref 6, .long y4] σ (fun r τ => Wp d tb_77 96 [.ref 6, .int x1, .int x2, .int x3, .long y4, .null, .int x6, v7, v8] (r.toList ++ []) τ Q)) : Wp d tb_77 90 [.ref 6, .int x1, .int x2, .int x3, .long y4, .null, .int x6, v7, v8] [] σ Q := by
  refine Wp.adv (pc' := 93) (ls' := [.ref 6, .int x1, .int x2, .int x3, .long y4, .null, .int x6, v7, v8]) (st' := [.long y4, .ref 6]) (σ' := σ) 2 rfl ?_
  exact Wp.call (q := (80, 2, 6, 96)) rfl (Nat.le_of_ble_eq_true rfl) (px_okc_mk rfl rfl rfl (by simp only [List.all_cons, List.all_nil, nv7, nv8]; rfl)) h
theorem b77_96 {d : Nat} {Q : Option Value → px_S → Prop} {σ : px_S} {x1 x2 x3 x6 s0 : Int32} {y4 : Int64} {v7 v8 : Value} (ht : (Int32.ofNat σ.2.2.1) ≤ (x1 + s0) → Wp d tb_77 150 [.ref 6, .int x1, .int x2, .int x3, .long y4, .null, .int x6, .int s0, .int (x1 + s0)] [] σ Q) (hf : ¬ ((Int32.ofNat σ.2.2.1) ≤ (x1 + s0)) → Wp d tb_77 114 [.ref 6, .int x1, .int x2, .int x3, .long y4, .null, .int x6, .int s0, .int (x1 + s0)] [] σ Q) : Wp d tb_77 96 [.ref 6, .int x1, .int x2, .int x3, .long y4, .null, .int x6, v7, v8] [.int s0] σ Q := by
  refine Wp.adv (pc' := 110) (ls' := [.ref 6, .int x1, .int x2, .int x3, .long y4, .null, .int x6, .int s0, .int (x1 + s0)]) (st' := [.ref 33, .int (x1 + s0)]) (σ' := σ) 8 rfl ?_
  refine Wp.step (q := (111, [.ref 6, .int x1, .int x2, .int x3, .long y4, .null, .int x6, .int s0, .int (x1 + s0)], [.int (Int32.ofNat σ.2.2.1), .int (x1 + s0)], σ)) rfl rfl ?_
  exact Wp.icmp rfl ht hf
theorem b77_114 {d : Nat} {Q : Option Value → px_S → Prop} {σ : px_S} {x1 x2 x3 x6 x7 x8 : Int32} {y4 : Int64} (c1 : vp_in x8 σ.2.2.1) (ht : ¬ (σ.1 33 (x8).toNatClampNeg) = 0 → Wp d tb_77 150 [.ref 6, .int x1, .int x2, .int x3, .long y4, .null, .int x6, .int x7, .int x8] [] σ Q) (hf : ¬ (¬ (σ.1 33 (x8).toNatClampNeg) = 0) → Wp d tb_77 124 [.ref 6, .int x1, .int x2, .int x3, .long y4, .null, .int x6, .int x7, .int x8] [] σ Q) : Wp d tb_77 114 [.ref 6, .int x1, .int x2, .int x3, .long y4, .null, .int x6, .int x7, .int x8] [] σ Q := by
  refine Wp.adv (pc' := 120) (ls' := [.ref 6, .int x1, .int x2, .int x3, .long y4, .null, .int x6, .int x7, .int x8]) (st' := [.int x8, .ref 33]) (σ' := σ) 3 rfl ?_
  refine Wp.iald (N := σ.2.2.1) rfl rfl c1 ?_
  exact Wp.if_ rfl ht hf
theorem b77_124 {d : Nat} {Q : Option Value → px_S → Prop} {σ : px_S} {x1 x2 x3 x6 x7 x8 : Int32} {y4 : Int64} (c1 : vp_in x8 σ.2.2.1) (h : Wp d tb_77 136 [.ref 6, .int x1, .int x2, .int x3, .long y4, .null, .int x6, .int x7, .int x8] [] (px_uI σ 33 (x8).toNatClampNeg (x7 <<< ((16 : Int32) &&& 31))) Q) : Wp d tb_77 124 [.ref 6, .int x1, .int x2, .int x3, .long y4, .null, .int x6, .int x7, .int x8] [] σ Q := by
  refine Wp.adv (pc' := 135) (ls' := [.ref 6, .int x1, .int x2, .int x3, .long y4, .null, .int x6, .int x7, .int x8]) (st' := [.int (x7 <<< ((16 : Int32) &&& 31)), .int x8, .ref 33]) (σ' := σ) 6 rfl ?_
  refine Wp.iast (N := σ.2.2.1) rfl rfl c1 ?_
  exact h
theorem b77_136 {d : Nat} {Q : Option Value → px_S → Prop} {σ : px_S} {x1 x2 x3 x6 x7 x8 : Int32} {y4 : Int64} (c1 : vp_in x3 σ.2.2.1) (c2 : vp_in x3 σ.2.2.1) (h : Wp d tb_77 147 [.ref 6, .int x1, .int x2, .int x3, .long y4, .null, .int x6, .int x7, .int x8] [] (px_uI σ 33 (x3).toNatClampNeg ((σ.1 33 (x3).toNatClampNeg) ||| x8)) Q) : Wp d tb_77 136 [.ref 6, .int x1, .int x2, .int x3, .long y4, .null, .int x6, .int x7, .int x8] [] σ Q := by
  refine Wp.adv (pc' := 142) (ls' := [.ref 6, .int x1, .int x2, .int x3, .long y4, .null, .int x6, .int x7, .int x8]) (st' := [.int x3, .ref 33, .int x3, .ref 33]) (σ' := σ) 4 rfl ?_
  refine Wp.iald (N := σ.2.2.1) rfl rfl c1 ?_
  refine Wp.adv (pc' := 146) (ls' := [.ref 6, .int x1, .int x2, .int x3, .long y4, .null, .int x6, .int x7, .int x8]) (st' := [.int ((σ.1 33 (x3).toNatClampNeg) ||| x8), .int x3, .ref 33]) (σ' := σ) 2 rfl ?_
  refine Wp.iast (N := σ.2.2.1) rfl rfl c2 ?_
  exact h
theorem b77_147 {d : Nat} {Q : Option Value → px_S → Prop} {σ : px_S} {x1 x2 x3 x6 x7 x8 : Int32} {y4 : Int64} (h : Wp d tb_77 150 [.ref 6, .int x1, .int x2, .int x8, .long y4, .null, .int x6, .int x7, .int x8] [] σ Q) : Wp d tb_77 147 [.ref 6, .int x1, .int x2, .int x3, .long y4, .null, .int x6, .int x7, .int x8] [] σ Q := by
  refine Wp.adv (pc' := 150) (ls' := [.ref 6, .int x1, .int x2, .int x8, .long y4, .null, .int x6, .int x7, .int x8]) (st' := []) (σ' := σ) 2 rfl ?_
  exact h
theorem b77_150 {d : Nat} {Q : Option Value → px_S → Prop} {σ : px_S} {x1 x2 x3 x6 x7 x8 : Int32} {y4 : Int64} (h : Cw d 79 [.ref 6, .long y4] σ (fun r τ => Wp d tb_77 156 [.ref 6, .int x1, .int x2, .int x3, .long y4, .null, .int x6, .int x7, .int x8] (r.toList ++ []) τ Q)) : Wp d tb_77 150 [.ref 6, .int x1, .int x2, .int x3, .long y4, .null, .int x6, .int x7, .int x8] [] σ Q := by
  refine Wp.adv (pc' := 153) (ls' := [.ref 6, .int x1, .int x2, .int x3, .long y4, .null, .int x6, .int x7, .int x8]) (st' := [.long y4, .ref 6]) (σ' := σ) 2 rfl ?_
  exact Wp.call (q := (79, 2, 6, 156)) rfl (Nat.le_of_ble_eq_true rfl) rfl h
theorem b77_156 {d : Nat} {Q : Option Value → px_S → Prop} {σ : px_S} {x1 x2 x3 x6 x7 x8 : Int32} {y4 t0 : Int64} (h : Wp d tb_77 72 [.ref 6, .int x1, .int x2, .int x3, .long t0, .null, .int (x6 + 1), .int x7, .int x8] [] σ Q) : Wp d tb_77 156 [.ref 6, .int x1, .int x2, .int x3, .long y4, .null, .int x6, .int x7, .int x8] [.long t0] σ Q := by
  refine Wp.adv (pc' := 72) (ls' := [.ref 6, .int x1, .int x2, .int x3, .long t0, .null, .int (x6 + 1), .int x7, .int x8]) (st' := []) (σ' := σ) 3 rfl ?_
  exact h
theorem b77_164 {d : Nat} {Q : Option Value → px_S → Prop} {σ : px_S} {x1 x2 x3 x6 : Int32} {y4 : Int64} {v7 v8 : Value} (h : Q (some (.int x3)) σ) : Wp d tb_77 164 [.ref 6, .int x1, .int x2, .int x3, .long y4, .null, .int x6, v7, v8] [] σ Q := by
  refine Wp.adv (pc' := 165) (ls' := [.ref 6, .int x1, .int x2, .int x3, .long y4, .null, .int x6, v7, v8]) (st' := [.int x3]) (σ' := σ) 1 rfl ?_
  exact Wp.ret rfl rfl h
theorem e77 {d : Nat} {Q : Option Value → px_S → Prop} {σ : px_S} {x1 x2 : Int32} (h : Wp d tb_77 0 [.ref 6, .int x1, .int x2, .null, .null, .null, .null, .null, .null] [] σ Q) : Cw (d + 1) 77 [.ref 6, .int x1, .int x2] σ Q := Cw.of (nL := 9) (y := yX5_goOn) (cc := cX5_goOn) (rt := some .int) rfl (Nat.le_of_ble_eq_true rfl) h
theorem b78_0 {d : Nat} {Q : Option Value → px_S → Prop} {σ : px_S} {x0 x1 : Int32} (h : Q (some (.int (((x0).toUInt32 >>> ((((4 : Int32) * x1)).toUInt32 &&& Int32.toUInt32 31)).toInt32 &&& (15 : Int32)))) σ) : Wp d tb_78 0 [.int x0, .int x1] [] σ Q := by
  refine Wp.adv (pc' := 8) (ls' := [.int x0, .int x1]) (st' := [.int (((x0).toUInt32 >>> ((((4 : Int32) * x1)).toUInt32 &&& Int32.toUInt32 31)).toInt32 &&& (15 : Int32))]) (σ' := σ) 7 rfl ?_
  exact Wp.ret rfl rfl h
theorem e78 {d : Nat} {Q : Option Value → px_S → Prop} {σ : px_S} {x0 x1 : Int32} (h : Wp d tb_78 0 [.int x0, .int x1] [] σ Q) : Cw (d + 1) 78 [.int x0, .int x1] σ Q := Cw.of (nL := 2) (y := yX5_positionOf) (cc := cX5_positionOf) (rt := some .int) rfl (Nat.le_of_ble_eq_true rfl) h
theorem b79_0 {d : Nat} {Q : Option Value → px_S → Prop} {σ : px_S} {y1 : Int64} (h : Wp d tb_79 7 [.ref 6, .long y1, .null, .long (-1 : Int64), .null, .int (0 : Int32)] [] σ Q) : Wp d tb_79 0 [.ref 6, .long y1, .null, .null, .null, .null] [] σ Q := by
  refine Wp.adv (pc' := 7) (ls' := [.ref 6, .long y1, .null, .long (-1 : Int64), .null, .int (0 : Int32)]) (st' := []) (σ' := σ) 4 rfl ?_
  exact h
theorem b79_7 {d : Nat} {Q : Option Value → px_S → Prop} {σ : px_S} {x5 : Int32} {y1 y3 : Int64} (ht : (σ.1 6 5) ≤ x5 → Wp d tb_79 62 [.ref 6, .long y1, .null, .long y3, .null, .int x5] [] σ Q) (hf : ¬ ((σ.1 6 5) ≤ x5) → Wp d tb_79 16 [.ref 6, .long y1, .null, .long y3, .null, .int x5] [] σ Q) : Wp d tb_79 7 [.ref 6, .long y1, .null, .long y3, .null, .int x5] [] σ Q := by
  refine Wp.adv (pc' := 13) (ls' := [.ref 6, .long y1, .null, .long y3, .null, .int x5]) (st' := [.int (σ.1 6 5), .int x5]) (σ' := σ) 3 rfl ?_
  exact Wp.icmp rfl ht hf
theorem b79_16 {d : Nat} {Q : Option Value → px_S → Prop} {σ : px_S} {x5 : Int32} {y1 y3 : Int64} (c1 : vp_in x5 4) (ht : (lg_cmp (σ.2.1 31 (x5).toNatClampNeg) y1) ≤ 0 → Wp d tb_79 56 [.ref 6, .long y1, .null, .long y3, .null, .int x5] [] σ Q) (hf : ¬ ((lg_cmp (σ.2.1 31 (x5).toNatClampNeg) y1) ≤ 0) → Wp d tb_79 28 [.ref 6, .long y1, .null, .long y3, .null, .int x5] [] σ Q) : Wp d tb_79 16 [.ref 6, .long y1, .null, .long y3, .null, .int x5] [] σ Q := by
  refine Wp.adv (pc' := 22) (ls' := [.ref 6, .long y1, .null, .long y3, .null, .int x5]) (st' := [.int x5, .ref 31]) (σ' := σ) 3 rfl ?_
  refine Wp.lald (N := 4) rfl rfl c1 ?_
  refine Wp.adv (pc' := 25) (ls' := [.ref 6, .long y1, .null, .long y3, .null, .int x5]) (st' := [.int (lg_cmp (σ.2.1 31 (x5).toNatClampNeg) y1)]) (σ' := σ) 2 rfl ?_
  exact Wp.if_ rfl ht hf
theorem b79_28 {d : Nat} {Q : Option Value → px_S → Prop} {σ : px_S} {x5 : Int32} {y1 y3 : Int64} (ht : (lg_cmp y3 (-1 : Int64)) = 0 → Wp d tb_79 48 [.ref 6, .long y1, .null, .long y3, .null, .int x5] [] σ Q) (hf : ¬ ((lg_cmp y3 (-1 : Int64)) = 0) → Wp d tb_79 36 [.ref 6, .long y1, .null, .long y3, .null, .int x5] [] σ Q) : Wp d tb_79 28 [.ref 6, .long y1, .null, .long y3, .null, .int x5] [] σ Q := by
  refine Wp.adv (pc' := 33) (ls' := [.ref 6, .long y1, .null, .long y3, .null, .int x5]) (st' := [.int (lg_cmp y3 (-1 : Int64))]) (σ' := σ) 3 rfl ?_
  exact Wp.if_ rfl ht hf
theorem b79_36 {d : Nat} {Q : Option Value → px_S → Prop} {σ : px_S} {x5 : Int32} {y1 y3 : Int64} (c1 : vp_in x5 4) (ht : 0 ≤ (lg_cmp (σ.2.1 31 (x5).toNatClampNeg) y3) → Wp d tb_79 56 [.ref 6, .long y1, .null, .long y3, .null, .int x5] [] σ Q) (hf : ¬ (0 ≤ (lg_cmp (σ.2.1 31 (x5).toNatClampNeg) y3)) → Wp d tb_79 48 [.ref 6, .long y1, .null, .long y3, .null, .int x5] [] σ Q) : Wp d tb_79 36 [.ref 6, .long y1, .null, .long y3, .null, .int x5] [] σ Q := by
  refine Wp.adv (pc' := 42) (ls' := [.ref 6, .long y1, .null, .long y3, .null, .int x5]) (st' := [.int x5, .ref 31]) (σ' := σ) 3 rfl ?_
  refine Wp.lald (N := 4) rfl rfl c1 ?_
  refine Wp.adv (pc' := 45) (ls' := [.ref 6, .long y1, .null, .long y3, .null, .int x5]) (st' := [.int (lg_cmp (σ.2.1 31 (x5).toNatClampNeg) y3)]) (σ' := σ) 2 rfl ?_
  exact Wp.if_ rfl ht hf
theorem b79_48 {d : Nat} {Q : Option Value → px_S → Prop} {σ : px_S} {x5 : Int32} {y1 y3 : Int64} (c1 : vp_in x5 4) (h : Wp d tb_79 56 [.ref 6, .long y1, .null, .long (σ.2.1 31 (x5).toNatClampNeg), .null, .int x5] [] σ Q) : Wp d tb_79 48 [.ref 6, .long y1, .null, .long y3, .null, .int x5] [] σ Q := by
  refine Wp.adv (pc' := 54) (ls' := [.ref 6, .long y1, .null, .long y3, .null, .int x5]) (st' := [.int x5, .ref 31]) (σ' := σ) 3 rfl ?_
  refine Wp.lald (N := 4) rfl rfl c1 ?_
  refine Wp.adv (pc' := 56) (ls' := [.ref 6, .long y1, .null, .long (σ.2.1 31 (x5).toNatClampNeg), .null, .int x5]) (st' := []) (σ' := σ) 1 rfl ?_
  exact h
theorem b79_56 {d : Nat} {Q : Option Value → px_S → Prop} {σ : px_S} {x5 : Int32} {y1 y3 : Int64} (h : Wp d tb_79 7 [.ref 6, .long y1, .null, .long y3, .null, .int (x5 + 1)] [] σ Q) : Wp d tb_79 56 [.ref 6, .long y1, .null, .long y3, .null, .int x5] [] σ Q := by
  refine Wp.adv (pc' := 7) (ls' := [.ref 6, .long y1, .null, .long y3, .null, .int (x5 + 1)]) (st' := []) (σ' := σ) 2 rfl ?_
  exact h
theorem b79_62 {d : Nat} {Q : Option Value → px_S → Prop} {σ : px_S} {x5 : Int32} {y1 y3 : Int64} (h : Q (some (.long y3)) σ) : Wp d tb_79 62 [.ref 6, .long y1, .null, .long y3, .null, .int x5] [] σ Q := by
  refine Wp.adv (pc' := 63) (ls' := [.ref 6, .long y1, .null, .long y3, .null, .int x5]) (st' := [.long y3]) (σ' := σ) 1 rfl ?_
  exact Wp.ret rfl rfl h
theorem e79 {d : Nat} {Q : Option Value → px_S → Prop} {σ : px_S} {y1 : Int64} (h : Wp d tb_79 0 [.ref 6, .long y1, .null, .null, .null, .null] [] σ Q) : Cw (d + 1) 79 [.ref 6, .long y1] σ Q := Cw.of (nL := 6) (y := yX5_leastHeadAbove) (cc := cX5_leastHeadAbove) (rt := some .long) rfl (Nat.le_of_ble_eq_true rfl) h
theorem b80_0 {d : Nat} {Q : Option Value → px_S → Prop} {σ : px_S} {y1 : Int64} (h : Wp d tb_80 5 [.ref 6, .long y1, .null, .int (0 : Int32), .int (0 : Int32)] [] σ Q) : Wp d tb_80 0 [.ref 6, .long y1, .null, .null, .null] [] σ Q := by
  refine Wp.adv (pc' := 5) (ls' := [.ref 6, .long y1, .null, .int (0 : Int32), .int (0 : Int32)]) (st' := []) (σ' := σ) 4 rfl ?_
  exact h
theorem b80_5 {d : Nat} {Q : Option Value → px_S → Prop} {σ : px_S} {x3 x4 : Int32} {y1 : Int64} (ht : (σ.1 6 5) ≤ x4 → Wp d tb_80 41 [.ref 6, .long y1, .null, .int x3, .int x4] [] σ Q) (hf : ¬ ((σ.1 6 5) ≤ x4) → Wp d tb_80 14 [.ref 6, .long y1, .null, .int x3, .int x4] [] σ Q) : Wp d tb_80 5 [.ref 6, .long y1, .null, .int x3, .int x4] [] σ Q := by
  refine Wp.adv (pc' := 11) (ls' := [.ref 6, .long y1, .null, .int x3, .int x4]) (st' := [.int (σ.1 6 5), .int x4]) (σ' := σ) 3 rfl ?_
  exact Wp.icmp rfl ht hf
theorem b80_14 {d : Nat} {Q : Option Value → px_S → Prop} {σ : px_S} {x3 x4 : Int32} {y1 : Int64} (c1 : vp_in x4 4) (ht : ¬ (lg_cmp (σ.2.1 31 (x4).toNatClampNeg) y1) = 0 → Wp d tb_80 35 [.ref 6, .long y1, .null, .int x3, .int x4] [] σ Q) (hf : ¬ (¬ (lg_cmp (σ.2.1 31 (x4).toNatClampNeg) y1) = 0) → Wp d tb_80 26 [.ref 6, .long y1, .null, .int x3, .int x4] [] σ Q) : Wp d tb_80 14 [.ref 6, .long y1, .null, .int x3, .int x4] [] σ Q := by
  refine Wp.adv (pc' := 20) (ls' := [.ref 6, .long y1, .null, .int x3, .int x4]) (st' := [.int x4, .ref 31]) (σ' := σ) 3 rfl ?_
  refine Wp.lald (N := 4) rfl rfl c1 ?_
  refine Wp.adv (pc' := 23) (ls' := [.ref 6, .long y1, .null, .int x3, .int x4]) (st' := [.int (lg_cmp (σ.2.1 31 (x4).toNatClampNeg) y1)]) (σ' := σ) 2 rfl ?_
  exact Wp.if_ rfl ht hf
theorem b80_26 {d : Nat} {Q : Option Value → px_S → Prop} {σ : px_S} {x3 x4 : Int32} {y1 : Int64} (h : Wp d tb_80 35 [.ref 6, .long y1, .null, .int (x3 ||| ((1 : Int32) <<< (((4 : Int32) * x4) &&& 31))), .int x4] [] σ Q) : Wp d tb_80 26 [.ref 6, .long y1, .null, .int x3, .int x4] [] σ Q := by
  refine Wp.adv (pc' := 35) (ls' := [.ref 6, .long y1, .null, .int (x3 ||| ((1 : Int32) <<< (((4 : Int32) * x4) &&& 31))), .int x4]) (st' := []) (σ' := σ) 8 rfl ?_
  exact h
theorem b80_35 {d : Nat} {Q : Option Value → px_S → Prop} {σ : px_S} {x3 x4 : Int32} {y1 : Int64} (h : Wp d tb_80 5 [.ref 6, .long y1, .null, .int x3, .int (x4 + 1)] [] σ Q) : Wp d tb_80 35 [.ref 6, .long y1, .null, .int x3, .int x4] [] σ Q := by
  refine Wp.adv (pc' := 5) (ls' := [.ref 6, .long y1, .null, .int x3, .int (x4 + 1)]) (st' := []) (σ' := σ) 2 rfl ?_
  exact h
theorem b80_41 {d : Nat} {Q : Option Value → px_S → Prop} {σ : px_S} {x3 x4 : Int32} {y1 : Int64} (h : Q (some (.int x3)) σ) : Wp d tb_80 41 [.ref 6, .long y1, .null, .int x3, .int x4] [] σ Q := by
  refine Wp.adv (pc' := 42) (ls' := [.ref 6, .long y1, .null, .int x3, .int x4]) (st' := [.int x3]) (σ' := σ) 1 rfl ?_
  exact Wp.ret rfl rfl h
theorem e80 {d : Nat} {Q : Option Value → px_S → Prop} {σ : px_S} {y1 : Int64} (h : Wp d tb_80 0 [.ref 6, .long y1, .null, .null, .null] [] σ Q) : Cw (d + 1) 80 [.ref 6, .long y1] σ Q := Cw.of (nL := 5) (y := yX5_stepBy) (cc := cX5_stepBy) (rt := some .int) rfl (Nat.le_of_ble_eq_true rfl) h
theorem b81_0 {d : Nat} {Q : Option Value → px_S → Prop} {σ : px_S} {x1 : Int32} (h : Wp d tb_81 5 [.ref 6, .int x1, .null, .null, .null] [] (px_uI σ 6 4 (0 : Int32)) Q) : Wp d tb_81 0 [.ref 6, .int x1, .null, .null, .null] [] σ Q := by
  refine Wp.adv (pc' := 2) (ls' := [.ref 6, .int x1, .null, .null, .null]) (st' := [.int (0 : Int32), .ref 6]) (σ' := σ) 2 rfl ?_
  refine Wp.step (q := (5, [.ref 6, .int x1, .null, .null, .null], [], (px_uI σ 6 4 (0 : Int32)))) rfl rfl ?_
  exact h
theorem b81_5 {d : Nat} {Q : Option Value → px_S → Prop} {σ : px_S} {x1 : Int32} (h : Wp d tb_81 7 [.ref 6, .int x1, .int x1, .null, .null] [] σ Q) : Wp d tb_81 5 [.ref 6, .int x1, .null, .null, .null] [] σ Q := by
  refine Wp.adv (pc' := 7) (ls' := [.ref 6, .int x1, .int x1, .null, .null]) (st' := []) (σ' := σ) 2 rfl ?_
  exact h
theorem b81_7 {d : Nat} {Q : Option Value → px_S → Prop} {σ : px_S} {x1 x2 : Int32} (ht : x2 ≤ 0 → Wp d tb_81 45 [.ref 6, .int x1, .int x2, .null, .null] [] σ Q) (hf : ¬ (x2 ≤ 0) → Wp d tb_81 11 [.ref 6, .int x1, .int x2, .null, .null] [] σ Q) : Wp d tb_81 7 [.ref 6, .int x1, .int x2, .null, .null] [] σ Q := by
  refine Wp.adv (pc' := 8) (ls' := [.ref 6, .int x1, .int x2, .null, .null]) (st' := [.int x2]) (σ' := σ) 1 rfl ?_
  exact Wp.if_ rfl ht hf
theorem b81_11 {d : Nat} {Q : Option Value → px_S → Prop} {σ : px_S} {x1 x2 : Int32} (ht : (56 : Int32) ≤ (σ.1 6 4) → Wp d tb_81 45 [.ref 6, .int x1, .int x2, .null, .null] [] σ Q) (hf : ¬ ((56 : Int32) ≤ (σ.1 6 4)) → Wp d tb_81 20 [.ref 6, .int x1, .int x2, .null, .null] [] σ Q) : Wp d tb_81 11 [.ref 6, .int x1, .int x2, .null, .null] [] σ Q := by
  refine Wp.adv (pc' := 17) (ls' := [.ref 6, .int x1, .int x2, .null, .null]) (st' := [.int (56 : Int32), .int (σ.1 6 4)]) (σ' := σ) 3 rfl ?_
  exact Wp.icmp rfl ht hf
theorem b81_20 {d : Nat} {Q : Option Value → px_S → Prop} {σ : px_S} {x1 x2 : Int32} (h : Wp d tb_81 30 [.ref 6, .int x1, .int x2, .null, .null] [] (px_uI σ 6 4 ((σ.1 6 4) + (1 : Int32))) Q) : Wp d tb_81 20 [.ref 6, .int x1, .int x2, .null, .null] [] σ Q := by
  refine Wp.adv (pc' := 27) (ls' := [.ref 6, .int x1, .int x2, .null, .null]) (st' := [.int ((σ.1 6 4) + (1 : Int32)), .ref 6]) (σ' := σ) 5 rfl ?_
  refine Wp.step (q := (30, [.ref 6, .int x1, .int x2, .null, .null], [], (px_uI σ 6 4 ((σ.1 6 4) + (1 : Int32))))) rfl rfl ?_
  exact h
theorem b81_30 {d : Nat} {Q : Option Value → px_S → Prop} {σ : px_S} {x1 x2 : Int32} (c1 : vp_in x2 σ.2.2.1) (h : Wp d tb_81 7 [.ref 6, .int x1, .int (x2 - (((σ.1 33 (x2).toNatClampNeg)).toUInt32 >>> (((16 : Int32)).toUInt32 &&& Int32.toUInt32 31)).toInt32), .null, .null] [] σ Q) : Wp d tb_81 30 [.ref 6, .int x1, .int x2, .null, .null] [] σ Q := by
  refine Wp.adv (pc' := 36) (ls' := [.ref 6, .int x1, .int x2, .null, .null]) (st' := [.int x2, .ref 33, .int x2]) (σ' := σ) 4 rfl ?_
  refine Wp.iald (N := σ.2.2.1) rfl rfl c1 ?_
  refine Wp.adv (pc' := 7) (ls' := [.ref 6, .int x1, .int (x2 - (((σ.1 33 (x2).toNatClampNeg)).toUInt32 >>> (((16 : Int32)).toUInt32 &&& Int32.toUInt32 31)).toInt32), .null, .null]) (st' := []) (σ' := σ) 5 rfl ?_
  exact h
theorem b81_45 {d : Nat} {Q : Option Value → px_S → Prop} {σ : px_S} {x1 x2 : Int32} (h : Wp d tb_81 54 [.ref 6, .int x1, .int x1, .int ((σ.1 6 4) - (1 : Int32)), .null] [] σ Q) : Wp d tb_81 45 [.ref 6, .int x1, .int x2, .null, .null] [] σ Q := by
  refine Wp.adv (pc' := 54) (ls' := [.ref 6, .int x1, .int x1, .int ((σ.1 6 4) - (1 : Int32)), .null]) (st' := []) (σ' := σ) 7 rfl ?_
  exact h
theorem b81_54 {d : Nat} {Q : Option Value → px_S → Prop} {σ : px_S} {x1 x2 x3 : Int32} {v4 : Value} (ht : x3 < 0 → Wp d tb_81 97 [.ref 6, .int x1, .int x2, .int x3, v4] [] σ Q) (hf : ¬ (x3 < 0) → Wp d tb_81 58 [.ref 6, .int x1, .int x2, .int x3, v4] [] σ Q) : Wp d tb_81 54 [.ref 6, .int x1, .int x2, .int x3, v4] [] σ Q := by
  refine Wp.adv (pc' := 55) (ls' := [.ref 6, .int x1, .int x2, .int x3, v4]) (st' := [.int x3]) (σ' := σ) 1 rfl ?_
  exact Wp.if_ rfl ht hf
theorem b81_58 {d : Nat} {Q : Option Value → px_S → Prop} {σ : px_S} {x1 x2 x3 : Int32} {v4 : Value} (ht : x2 ≤ 0 → Wp d tb_81 97 [.ref 6, .int x1, .int x2, .int x3, v4] [] σ Q) (hf : ¬ (x2 ≤ 0) → Wp d tb_81 62 [.ref 6, .int x1, .int x2, .int x3, v4] [] σ Q) : Wp d tb_81 58 [.ref 6, .int x1, .int x2, .int x3, v4] [] σ Q := by
  refine Wp.adv (pc' := 59) (ls' := [.ref 6, .int x1, .int x2, .int x3, v4]) (st' := [.int x2]) (σ' := σ) 1 rfl ?_
  exact Wp.if_ rfl ht hf
theorem b81_62 {d : Nat} {Q : Option Value → px_S → Prop} {σ : px_S} {x1 x2 x3 : Int32} {v4 : Value} (c1 : vp_in x2 σ.2.2.1) (h : Cw d 82 [.ref 6, .int (x2 - (((σ.1 33 (x2).toNatClampNeg)).toUInt32 >>> (((16 : Int32)).toUInt32 &&& Int32.toUInt32 31)).toInt32), .int (((σ.1 33 (x2).toNatClampNeg)).toUInt32 >>> (((16 : Int32)).toUInt32 &&& Int32.toUInt32 31)).toInt32] σ (fun r τ => Wp d tb_81 90 [.ref 6, .int x1, .int (x2 - (((σ.1 33 (x2).toNatClampNeg)).toUInt32 >>> (((16 : Int32)).toUInt32 &&& Int32.toUInt32 31)).toInt32), .int x3, .int (((σ.1 33 (x2).toNatClampNeg)).toUInt32 >>> (((16 : Int32)).toUInt32 &&& Int32.toUInt32 31)).toInt32] (r.toList ++ [.int x3, .ref 32]) τ Q)) : Wp d tb_81 62 [.ref 6, .int x1, .int x2, .int x3, v4] [] σ Q := by
  refine Wp.adv (pc' := 67) (ls' := [.ref 6, .int x1, .int x2, .int x3, v4]) (st' := [.int x2, .ref 33]) (σ' := σ) 3 rfl ?_
  refine Wp.iald (N := σ.2.2.1) rfl rfl c1 ?_
  refine Wp.adv (pc' := 87) (ls' := [.ref 6, .int x1, .int (x2 - (((σ.1 33 (x2).toNatClampNeg)).toUInt32 >>> (((16 : Int32)).toUInt32 &&& Int32.toUInt32 31)).toInt32), .int x3, .int (((σ.1 33 (x2).toNatClampNeg)).toUInt32 >>> (((16 : Int32)).toUInt32 &&& Int32.toUInt32 31)).toInt32]) (st' := [.int (((σ.1 33 (x2).toNatClampNeg)).toUInt32 >>> (((16 : Int32)).toUInt32 &&& Int32.toUInt32 31)).toInt32, .int (x2 - (((σ.1 33 (x2).toNatClampNeg)).toUInt32 >>> (((16 : Int32)).toUInt32 &&& Int32.toUInt32 31)).toInt32), .ref 6, .int x3, .ref 32]) (σ' := σ) 13 rfl ?_
  exact Wp.call (q := (82, 3, 6, 90)) rfl (Nat.le_of_ble_eq_true rfl) rfl h
theorem b81_90 {d : Nat} {Q : Option Value → px_S → Prop} {σ : px_S} {x1 x2 x3 x4 s1 : Int32} {t0 : Int64} (c1 : vp_in s1 56) (h : Wp d tb_81 91 [.ref 6, .int x1, .int x2, .int x3, .int x4] [] (px_uL σ 32 (s1).toNatClampNeg t0) Q) : Wp d tb_81 90 [.ref 6, .int x1, .int x2, .int x3, .int x4] [.long t0, .int s1, .ref 32] σ Q := by
  refine Wp.last (N := 56) rfl rfl c1 ?_
  exact h
theorem b81_91 {d : Nat} {Q : Option Value → px_S → Prop} {σ : px_S} {x1 x2 x3 x4 : Int32} (h : Wp d tb_81 54 [.ref 6, .int x1, .int x2, .int (x3 + (-1)), .int x4] [] σ Q) : Wp d tb_81 91 [.ref 6, .int x1, .int x2, .int x3, .int x4] [] σ Q := by
  refine Wp.adv (pc' := 54) (ls' := [.ref 6, .int x1, .int x2, .int (x3 + (-1)), .int x4]) (st' := []) (σ' := σ) 2 rfl ?_
  exact h
theorem b81_97 {d : Nat} {Q : Option Value → px_S → Prop} {σ : px_S} {x1 x2 x3 : Int32} {v4 : Value} (h : Q none σ) : Wp d tb_81 97 [.ref 6, .int x1, .int x2, .int x3, v4] [] σ Q := by
  exact Wp.ret rfl rfl h
theorem e81 {d : Nat} {Q : Option Value → px_S → Prop} {σ : px_S} {x1 : Int32} (h : Wp d tb_81 0 [.ref 6, .int x1, .null, .null, .null] [] σ Q) : Cw (d + 1) 81 [.ref 6, .int x1] σ Q := Cw.of (nL := 5) (y := yX5_writeRow) (cc := cX5_writeRow) (rt := none) rfl (Nat.le_of_ble_eq_true rfl) h
theorem b82_0 {d : Nat} {Q : Option Value → px_S → Prop} {σ : px_S} {x1 x2 : Int32} (h : Wp d tb_82 2 [.ref 6, .int x1, .int x2, .int (0 : Int32), .null] [] σ Q) : Wp d tb_82 0 [.ref 6, .int x1, .int x2, .null, .null] [] σ Q := by
  refine Wp.adv (pc' := 2) (ls' := [.ref 6, .int x1, .int x2, .int (0 : Int32), .null]) (st' := []) (σ' := σ) 2 rfl ?_
  exact h
theorem b82_2 {d : Nat} {Q : Option Value → px_S → Prop} {σ : px_S} {x1 x2 x3 : Int32} {v4 : Value} (ht : (σ.1 6 5) ≤ x3 → Wp d tb_82 56 [.ref 6, .int x1, .int x2, .int x3, v4] [] σ Q) (hf : ¬ ((σ.1 6 5) ≤ x3) → Wp d tb_82 10 [.ref 6, .int x1, .int x2, .int x3, v4] [] σ Q) : Wp d tb_82 2 [.ref 6, .int x1, .int x2, .int x3, v4] [] σ Q := by
  refine Wp.adv (pc' := 7) (ls' := [.ref 6, .int x1, .int x2, .int x3, v4]) (st' := [.int (σ.1 6 5), .int x3]) (σ' := σ) 3 rfl ?_
  exact Wp.icmp rfl ht hf
theorem b82_10 {d : Nat} {Q : Option Value → px_S → Prop} {σ : px_S} {x1 x2 x3 : Int32} {v4 : Value} (nv4 : px_nc v4 = true) (h : Cw d 78 [.int x1, .int x3] σ (fun r τ => Wp d tb_82 15 [.ref 6, .int x1, .int x2, .int x3, v4] (r.toList ++ []) τ Q)) : Wp d tb_82 10 [.ref 6, .int x1, .int x2, .int x3, v4] [] σ Q := by
  refine Wp.adv (pc' := 12) (ls' := [.ref 6, .int x1, .int x2, .int x3, v4]) (st' := [.int x3, .int x1]) (σ' := σ) 2 rfl ?_
  exact Wp.call (q := (78, 2, 0, 15)) rfl (Nat.le_of_ble_eq_true rfl) (px_okc_mk rfl rfl rfl (by simp only [List.all_cons, List.all_nil, nv4]; rfl)) h
theorem b82_15 {d : Nat} {Q : Option Value → px_S → Prop} {σ : px_S} {x1 x2 x3 s0 : Int32} {v4 : Value} (h : Cw d 78 [.int x2, .int x3] σ (fun r τ => Wp d tb_82 22 [.ref 6, .int x1, .int x2, .int x3, .int s0] (r.toList ++ []) τ Q)) : Wp d tb_82 15 [.ref 6, .int x1, .int x2, .int x3, v4] [.int s0] σ Q := by
  refine Wp.adv (pc' := 19) (ls' := [.ref 6, .int x1, .int x2, .int x3, .int s0]) (st' := [.int x3, .int x2]) (σ' := σ) 3 rfl ?_
  exact Wp.call (q := (78, 2, 0, 22)) rfl (Nat.le_of_ble_eq_true rfl) rfl h
theorem b82_22 {d : Nat} {Q : Option Value → px_S → Prop} {σ : px_S} {x1 x2 x3 x4 s0 : Int32} (ht : ¬ s0 = (1 : Int32) → Wp d tb_82 50 [.ref 6, .int x1, .int x2, .int x3, .int x4] [] σ Q) (hf : ¬ (¬ s0 = (1 : Int32)) → Wp d tb_82 26 [.ref 6, .int x1, .int x2, .int x3, .int x4] [] σ Q) : Wp d tb_82 22 [.ref 6, .int x1, .int x2, .int x3, .int x4] [.int s0] σ Q := by
  refine Wp.adv (pc' := 23) (ls' := [.ref 6, .int x1, .int x2, .int x3, .int x4]) (st' := [.int (1 : Int32), .int s0]) (σ' := σ) 1 rfl ?_
  exact Wp.icmp rfl ht hf
theorem b82_26 {d : Nat} {Q : Option Value → px_S → Prop} {σ : px_S} {x1 x2 x3 x4 : Int32} (c1 : vp_in x3 4) (ht : (σ.1 30 (x3).toNatClampNeg) ≤ x4 → Wp d tb_82 50 [.ref 6, .int x1, .int x2, .int x3, .int x4] [] σ Q) (hf : ¬ ((σ.1 30 (x3).toNatClampNeg) ≤ x4) → Wp d tb_82 37 [.ref 6, .int x1, .int x2, .int x3, .int x4] [] σ Q) : Wp d tb_82 26 [.ref 6, .int x1, .int x2, .int x3, .int x4] [] σ Q := by
  refine Wp.adv (pc' := 33) (ls' := [.ref 6, .int x1, .int x2, .int x3, .int x4]) (st' := [.int x3, .ref 30, .int x4]) (σ' := σ) 4 rfl ?_
  refine Wp.iald (N := 4) rfl rfl c1 ?_
  exact Wp.icmp rfl ht hf
theorem b82_37 {d : Nat} {Q : Option Value → px_S → Prop} {σ : px_S} {x1 x2 x3 x4 : Int32} (c1 : vp_in (((14 : Int32) * x3) + x4) 56) (h : Q (some (.long (σ.2.1 29 ((((14 : Int32) * x3) + x4)).toNatClampNeg))) σ) : Wp d tb_82 37 [.ref 6, .int x1, .int x2, .int x3, .int x4] [] σ Q := by
  refine Wp.adv (pc' := 48) (ls' := [.ref 6, .int x1, .int x2, .int x3, .int x4]) (st' := [.int (((14 : Int32) * x3) + x4), .ref 29]) (σ' := σ) 7 rfl ?_
  refine Wp.lald (N := 56) rfl rfl c1 ?_
  exact Wp.ret rfl rfl h
theorem b82_50 {d : Nat} {Q : Option Value → px_S → Prop} {σ : px_S} {x1 x2 x3 x4 : Int32} (h : Wp d tb_82 2 [.ref 6, .int x1, .int x2, .int (x3 + 1), .int x4] [] σ Q) : Wp d tb_82 50 [.ref 6, .int x1, .int x2, .int x3, .int x4] [] σ Q := by
  refine Wp.adv (pc' := 2) (ls' := [.ref 6, .int x1, .int x2, .int (x3 + 1), .int x4]) (st' := []) (σ' := σ) 2 rfl ?_
  exact h
theorem b82_56 {d : Nat} {Q : Option Value → px_S → Prop} {σ : px_S} {x1 x2 x3 : Int32} {v4 : Value} (h : Q (some (.long (0 : Int64))) σ) : Wp d tb_82 56 [.ref 6, .int x1, .int x2, .int x3, v4] [] σ Q := by
  refine Wp.adv (pc' := 57) (ls' := [.ref 6, .int x1, .int x2, .int x3, v4]) (st' := [.long (0 : Int64)]) (σ' := σ) 1 rfl ?_
  exact Wp.ret rfl rfl h
theorem e82 {d : Nat} {Q : Option Value → px_S → Prop} {σ : px_S} {x1 x2 : Int32} (h : Wp d tb_82 0 [.ref 6, .int x1, .int x2, .null, .null] [] σ Q) : Cw (d + 1) 82 [.ref 6, .int x1, .int x2] σ Q := Cw.of (nL := 5) (y := yX5_textOfStep) (cc := cX5_textOfStep) (rt := some .long) rfl (Nat.le_of_ble_eq_true rfl) h
theorem b83_0 {d : Nat} {Q : Option Value → px_S → Prop} {σ : px_S}  (h : Wp d tb_83 4 [.ref 6, .int (0 : Int32), .int (0 : Int32), .null] [] σ Q) : Wp d tb_83 0 [.ref 6, .null, .null, .null] [] σ Q := by
  refine Wp.adv (pc' := 4) (ls' := [.ref 6, .int (0 : Int32), .int (0 : Int32), .null]) (st' := []) (σ' := σ) 4 rfl ?_
  exact h
theorem b83_4 {d : Nat} {Q : Option Value → px_S → Prop} {σ : px_S} {x1 x2 : Int32} {v3 : Value} (ht : (Int32.ofNat σ.2.2.1) ≤ x2 → Wp d tb_83 43 [.ref 6, .int x1, .int x2, v3] [] σ Q) (hf : ¬ ((Int32.ofNat σ.2.2.1) ≤ x2) → Wp d tb_83 13 [.ref 6, .int x1, .int x2, v3] [] σ Q) : Wp d tb_83 4 [.ref 6, .int x1, .int x2, v3] [] σ Q := by
  refine Wp.adv (pc' := 9) (ls' := [.ref 6, .int x1, .int x2, v3]) (st' := [.ref 33, .int x2]) (σ' := σ) 3 rfl ?_
  refine Wp.step (q := (10, [.ref 6, .int x1, .int x2, v3], [.int (Int32.ofNat σ.2.2.1), .int x2], σ)) rfl rfl ?_
  exact Wp.icmp rfl ht hf
theorem b83_13 {d : Nat} {Q : Option Value → px_S → Prop} {σ : px_S} {x1 x2 : Int32} {v3 : Value} (c1 : vp_in x1 σ.2.2.1) (c2 : vp_in x1 σ.2.2.1) (h : Wp d tb_83 30 [.ref 6, .int x1, .int x2, .int ((σ.1 33 (x1).toNatClampNeg) &&& (65535 : Int32))] [] (px_uI σ 33 (x1).toNatClampNeg (0 : Int32)) Q) : Wp d tb_83 13 [.ref 6, .int x1, .int x2, v3] [] σ Q := by
  refine Wp.adv (pc' := 18) (ls' := [.ref 6, .int x1, .int x2, v3]) (st' := [.int x1, .ref 33]) (σ' := σ) 3 rfl ?_
  refine Wp.iald (N := σ.2.2.1) rfl rfl c1 ?_
  refine Wp.adv (pc' := 29) (ls' := [.ref 6, .int x1, .int x2, .int ((σ.1 33 (x1).toNatClampNeg) &&& (65535 : Int32))]) (st' := [.int (0 : Int32), .int x1, .ref 33]) (σ' := σ) 7 rfl ?_
  refine Wp.iast (N := σ.2.2.1) rfl rfl c2 ?_
  exact h
theorem b83_30 {d : Nat} {Q : Option Value → px_S → Prop} {σ : px_S} {x1 x2 x3 : Int32} (ht : ¬ x3 = 0 → Wp d tb_83 35 [.ref 6, .int x1, .int x2, .int x3] [] σ Q) (hf : ¬ (¬ x3 = 0) → Wp d tb_83 34 [.ref 6, .int x1, .int x2, .int x3] [] σ Q) : Wp d tb_83 30 [.ref 6, .int x1, .int x2, .int x3] [] σ Q := by
  refine Wp.adv (pc' := 31) (ls' := [.ref 6, .int x1, .int x2, .int x3]) (st' := [.int x3]) (σ' := σ) 1 rfl ?_
  exact Wp.if_ rfl ht hf
theorem b83_34 {d : Nat} {Q : Option Value → px_S → Prop} {σ : px_S} {x1 x2 x3 : Int32} (h : Q none σ) : Wp d tb_83 34 [.ref 6, .int x1, .int x2, .int x3] [] σ Q := by
  exact Wp.ret rfl rfl h
theorem b83_35 {d : Nat} {Q : Option Value → px_S → Prop} {σ : px_S} {x1 x2 x3 : Int32} (h : Wp d tb_83 4 [.ref 6, .int x3, .int (x2 + 1), .int x3] [] σ Q) : Wp d tb_83 35 [.ref 6, .int x1, .int x2, .int x3] [] σ Q := by
  refine Wp.adv (pc' := 4) (ls' := [.ref 6, .int x3, .int (x2 + 1), .int x3]) (st' := []) (σ' := σ) 4 rfl ?_
  exact h
theorem b83_43 {d : Nat} {Q : Option Value → px_S → Prop} {σ : px_S} {x1 x2 : Int32} {v3 : Value} (h : Q none σ) : Wp d tb_83 43 [.ref 6, .int x1, .int x2, v3] [] σ Q := by
  exact Wp.ret rfl rfl h
theorem e83 {d : Nat} {Q : Option Value → px_S → Prop} {σ : px_S}  (h : Wp d tb_83 0 [.ref 6, .null, .null, .null] [] σ Q) : Cw (d + 1) 83 [.ref 6] σ Q := Cw.of (nL := 4) (y := yX5_wipe) (cc := cX5_wipe) (rt := none) rfl (Nat.le_of_ble_eq_true rfl) h
theorem b84_0 {d : Nat} {Q : Option Value → px_S → Prop} {σ : px_S} {x1 x2 x3 : Int32} (h : Cw d 23 [.ref 3, .int (-1 : Int32)] σ (fun r τ => Wp d tb_84 8 [.ref 0, .int x1, .int x2, .int x3, .null, .null] (r.toList ++ []) τ Q)) : Wp d tb_84 0 [.ref 0, .int x1, .int x2, .int x3, .null, .null] [] σ Q := by
  refine Wp.adv (pc' := 5) (ls' := [.ref 0, .int x1, .int x2, .int x3, .null, .null]) (st' := [.int (-1 : Int32), .ref 3]) (σ' := σ) 3 rfl ?_
  exact Wp.call (q := (23, 2, 3, 8)) rfl (Nat.le_of_ble_eq_true rfl) rfl h
theorem b84_8 {d : Nat} {Q : Option Value → px_S → Prop} {σ : px_S} {x1 x2 x3 : Int32} (h : Cw d 55 [.ref 5] σ (fun r τ => Wp d tb_84 15 [.ref 0, .int x1, .int x2, .int x3, .null, .null] (r.toList ++ []) τ Q)) : Wp d tb_84 8 [.ref 0, .int x1, .int x2, .int x3, .null, .null] [] σ Q := by
  refine Wp.adv (pc' := 12) (ls' := [.ref 0, .int x1, .int x2, .int x3, .null, .null]) (st' := [.ref 5]) (σ' := σ) 2 rfl ?_
  exact Wp.call (q := (55, 1, 4, 15)) rfl (Nat.le_of_ble_eq_true rfl) rfl h
theorem b84_15 {d : Nat} {Q : Option Value → px_S → Prop} {σ : px_S} {x1 x2 x3 : Int32} (h : Cw d 68 [.ref 5, .int x1] σ (fun r τ => Wp d tb_84 23 [.ref 0, .int x1, .int x2, .int x3, .null, .null] (r.toList ++ []) τ Q)) : Wp d tb_84 15 [.ref 0, .int x1, .int x2, .int x3, .null, .null] [] σ Q := by
  refine Wp.adv (pc' := 20) (ls' := [.ref 0, .int x1, .int x2, .int x3, .null, .null]) (st' := [.int x1, .ref 5]) (σ' := σ) 3 rfl ?_
  exact Wp.call (q := (68, 2, 4, 23)) rfl (Nat.le_of_ble_eq_true rfl) rfl h
theorem b84_23 {d : Nat} {Q : Option Value → px_S → Prop} {σ : px_S} {x1 x2 x3 s0 : Int32} (ht : ¬ s0 = 0 → Wp d tb_84 30 [.ref 0, .int x1, .int x2, .int x3, .null, .null] [] σ Q) (hf : ¬ (¬ s0 = 0) → Wp d tb_84 26 [.ref 0, .int x1, .int x2, .int x3, .null, .null] [] σ Q) : Wp d tb_84 23 [.ref 0, .int x1, .int x2, .int x3, .null, .null] [.int s0] σ Q := by
  exact Wp.if_ rfl ht hf
theorem b84_26 {d : Nat} {Q : Option Value → px_S → Prop} {σ : px_S} {x1 x2 x3 : Int32} (h : Q (some (.int (-1001 : Int32))) σ) : Wp d tb_84 26 [.ref 0, .int x1, .int x2, .int x3, .null, .null] [] σ Q := by
  refine Wp.adv (pc' := 29) (ls' := [.ref 0, .int x1, .int x2, .int x3, .null, .null]) (st' := [.int (-1001 : Int32)]) (σ' := σ) 1 rfl ?_
  exact Wp.ret rfl rfl h
theorem b84_30 {d : Nat} {Q : Option Value → px_S → Prop} {σ : px_S} {x1 x2 x3 : Int32} (h : Cw d 69 [.ref 5, .int x1] σ (fun r τ => Wp d tb_84 38 [.ref 0, .int x1, .int x2, .int x3, .null, .null] (r.toList ++ []) τ Q)) : Wp d tb_84 30 [.ref 0, .int x1, .int x2, .int x3, .null, .null] [] σ Q := by
  refine Wp.adv (pc' := 35) (ls' := [.ref 0, .int x1, .int x2, .int x3, .null, .null]) (st' := [.int x1, .ref 5]) (σ' := σ) 3 rfl ?_
  exact Wp.call (q := (69, 2, 4, 38)) rfl (Nat.le_of_ble_eq_true rfl) rfl h
theorem b84_38 {d : Nat} {Q : Option Value → px_S → Prop} {σ : px_S} {x1 x2 x3 s0 : Int32} (ht : s0 = 0 → Wp d tb_84 45 [.ref 0, .int x1, .int x2, .int x3, .null, .null] [] σ Q) (hf : ¬ (s0 = 0) → Wp d tb_84 41 [.ref 0, .int x1, .int x2, .int x3, .null, .null] [] σ Q) : Wp d tb_84 38 [.ref 0, .int x1, .int x2, .int x3, .null, .null] [.int s0] σ Q := by
  exact Wp.if_ rfl ht hf
theorem b84_41 {d : Nat} {Q : Option Value → px_S → Prop} {σ : px_S} {x1 x2 x3 : Int32} (h : Q (some (.int (-1005 : Int32))) σ) : Wp d tb_84 41 [.ref 0, .int x1, .int x2, .int x3, .null, .null] [] σ Q := by
  refine Wp.adv (pc' := 44) (ls' := [.ref 0, .int x1, .int x2, .int x3, .null, .null]) (st' := [.int (-1005 : Int32)]) (σ' := σ) 1 rfl ?_
  exact Wp.ret rfl rfl h
theorem b84_45 {d : Nat} {Q : Option Value → px_S → Prop} {σ : px_S} {x1 x2 x3 : Int32} (ht : x2 < 0 → Wp d tb_84 61 [.ref 0, .int x1, .int x2, .int x3, .null, .null] [] σ Q) (hf : ¬ (x2 < 0) → Wp d tb_84 49 [.ref 0, .int x1, .int x2, .int x3, .null, .null] [] σ Q) : Wp d tb_84 45 [.ref 0, .int x1, .int x2, .int x3, .null, .null] [] σ Q := by
  refine Wp.adv (pc' := 46) (ls' := [.ref 0, .int x1, .int x2, .int x3, .null, .null]) (st' := [.int x2]) (σ' := σ) 1 rfl ?_
  exact Wp.if_ rfl ht hf
theorem b84_49 {d : Nat} {Q : Option Value → px_S → Prop} {σ : px_S} {x1 x2 x3 : Int32} (h : Cw d 70 [.ref 5, .int x1] σ (fun r τ => Wp d tb_84 58 [.ref 0, .int x1, .int x2, .int x3, .null, .null] (r.toList ++ [.int x2]) τ Q)) : Wp d tb_84 49 [.ref 0, .int x1, .int x2, .int x3, .null, .null] [] σ Q := by
  refine Wp.adv (pc' := 55) (ls' := [.ref 0, .int x1, .int x2, .int x3, .null, .null]) (st' := [.int x1, .ref 5, .int x2]) (σ' := σ) 4 rfl ?_
  exact Wp.call (q := (70, 2, 4, 58)) rfl (Nat.le_of_ble_eq_true rfl) rfl h
theorem b84_58 {d : Nat} {Q : Option Value → px_S → Prop} {σ : px_S} {x1 x2 x3 s0 s1 : Int32} (ht : s1 < s0 → Wp d tb_84 63 [.ref 0, .int x1, .int x2, .int x3, .null, .null] [] σ Q) (hf : ¬ (s1 < s0) → Wp d tb_84 61 [.ref 0, .int x1, .int x2, .int x3, .null, .null] [] σ Q) : Wp d tb_84 58 [.ref 0, .int x1, .int x2, .int x3, .null, .null] [.int s0, .int s1] σ Q := by
  exact Wp.icmp rfl ht hf
theorem b84_61 {d : Nat} {Q : Option Value → px_S → Prop} {σ : px_S} {x1 x2 x3 : Int32} (h : Q (some (.int (-1 : Int32))) σ) : Wp d tb_84 61 [.ref 0, .int x1, .int x2, .int x3, .null, .null] [] σ Q := by
  refine Wp.adv (pc' := 62) (ls' := [.ref 0, .int x1, .int x2, .int x3, .null, .null]) (st' := [.int (-1 : Int32)]) (σ' := σ) 1 rfl ?_
  exact Wp.ret rfl rfl h
theorem b84_63 {d : Nat} {Q : Option Value → px_S → Prop} {σ : px_S} {x1 x2 x3 : Int32} (h : Cw d 85 [.ref 5, .int x1, .int x2] σ (fun r τ => Wp d tb_84 72 [.ref 0, .int x1, .int x2, .int x3, .null, .null] (r.toList ++ []) τ Q)) : Wp d tb_84 63 [.ref 0, .int x1, .int x2, .int x3, .null, .null] [] σ Q := by
  refine Wp.adv (pc' := 69) (ls' := [.ref 0, .int x1, .int x2, .int x3, .null, .null]) (st' := [.int x2, .int x1, .ref 5]) (σ' := σ) 4 rfl ?_
  exact Wp.call (q := (85, 3, 4, 72)) rfl (Nat.le_of_ble_eq_true rfl) rfl h
theorem b84_72 {d : Nat} {Q : Option Value → px_S → Prop} {σ : px_S} {x1 x2 x3 : Int32} {t0 : Int64} (ht : ¬ x3 = (-1 : Int32) → Wp d tb_84 87 [.ref 0, .int x1, .int x2, .int x3, .long t0, .null] [] σ Q) (hf : ¬ (¬ x3 = (-1 : Int32)) → Wp d tb_84 79 [.ref 0, .int x1, .int x2, .int x3, .long t0, .null] [] σ Q) : Wp d tb_84 72 [.ref 0, .int x1, .int x2, .int x3, .null, .null] [.long t0] σ Q := by
  refine Wp.adv (pc' := 76) (ls' := [.ref 0, .int x1, .int x2, .int x3, .long t0, .null]) (st' := [.int (-1 : Int32), .int x3]) (σ' := σ) 3 rfl ?_
  exact Wp.icmp rfl ht hf
theorem b84_79 {d : Nat} {Q : Option Value → px_S → Prop} {σ : px_S} {x1 x2 x3 : Int32} {y4 : Int64} (h : Cw d 33 [.long y4] σ (fun r τ => Wp d tb_84 84 [.ref 0, .int x1, .int x2, .int x3, .long y4, .null] (r.toList ++ []) τ Q)) : Wp d tb_84 79 [.ref 0, .int x1, .int x2, .int x3, .long y4, .null] [] σ Q := by
  refine Wp.adv (pc' := 81) (ls' := [.ref 0, .int x1, .int x2, .int x3, .long y4, .null]) (st' := [.long y4]) (σ' := σ) 1 rfl ?_
  exact Wp.call (q := (33, 1, 0, 84)) rfl (Nat.le_of_ble_eq_true rfl) rfl h
theorem b84_84 {d : Nat} {Q : Option Value → px_S → Prop} {σ : px_S} {x1 x2 x3 s0 : Int32} {y4 : Int64} (h : Wp d tb_84 93 [.ref 0, .int x1, .int x2, .int x3, .long y4, .null] [.int s0] σ Q) : Wp d tb_84 84 [.ref 0, .int x1, .int x2, .int x3, .long y4, .null] [.int s0] σ Q := by
  refine Wp.adv (pc' := 93) (ls' := [.ref 0, .int x1, .int x2, .int x3, .long y4, .null]) (st' := [.int s0]) (σ' := σ) 1 rfl ?_
  exact h
theorem b84_87 {d : Nat} {Q : Option Value → px_S → Prop} {σ : px_S} {x1 x2 x3 : Int32} {y4 : Int64} (h : Cw d 44 [.long y4, .int x3] σ (fun r τ => Wp d tb_84 93 [.ref 0, .int x1, .int x2, .int x3, .long y4, .null] (r.toList ++ []) τ Q)) : Wp d tb_84 87 [.ref 0, .int x1, .int x2, .int x3, .long y4, .null] [] σ Q := by
  refine Wp.adv (pc' := 90) (ls' := [.ref 0, .int x1, .int x2, .int x3, .long y4, .null]) (st' := [.int x3, .long y4]) (σ' := σ) 2 rfl ?_
  exact Wp.call (q := (44, 2, 0, 93)) rfl (Nat.le_of_ble_eq_true rfl) rfl h
theorem b84_93 {d : Nat} {Q : Option Value → px_S → Prop} {σ : px_S} {x1 x2 x3 s0 : Int32} {y4 : Int64} (h : Q (some (.int s0)) σ) : Wp d tb_84 93 [.ref 0, .int x1, .int x2, .int x3, .long y4, .null] [.int s0] σ Q := by
  exact Wp.ret rfl rfl h
theorem e84 {d : Nat} {Q : Option Value → px_S → Prop} {σ : px_S} {x1 x2 x3 : Int32} (h : Wp d tb_84 0 [.ref 0, .int x1, .int x2, .int x3, .null, .null] [] σ Q) : Cw (d + 1) 84 [.ref 0, .int x1, .int x2, .int x3] σ Q := Cw.of (nL := 6) (y := yX8_lostWord) (cc := cX8_lostWord) (rt := some .int) rfl (Nat.le_of_ble_eq_true rfl) h
theorem b85_0 {d : Nat} {Q : Option Value → px_S → Prop} {σ : px_S} {x1 x2 : Int32} (h : Cw d 71 [.ref 5, .int x1] σ (fun r τ => Wp d tb_85 5 [.ref 5, .int x1, .int x2] (r.toList ++ []) τ Q)) : Wp d tb_85 0 [.ref 5, .int x1, .int x2] [] σ Q := by
  refine Wp.adv (pc' := 2) (ls' := [.ref 5, .int x1, .int x2]) (st' := [.int x1, .ref 5]) (σ' := σ) 2 rfl ?_
  exact Wp.call (q := (71, 2, 4, 5)) rfl (Nat.le_of_ble_eq_true rfl) rfl h
theorem b85_5 {d : Nat} {Q : Option Value → px_S → Prop} {σ : px_S} {x1 x2 : Int32} (ht : x2 < 0 → Wp d tb_85 32 [.ref 5, .int x1, .int x2] [] σ Q) (hf : ¬ (x2 < 0) → Wp d tb_85 9 [.ref 5, .int x1, .int x2] [] σ Q) : Wp d tb_85 5 [.ref 5, .int x1, .int x2] [] σ Q := by
  refine Wp.adv (pc' := 6) (ls' := [.ref 5, .int x1, .int x2]) (st' := [.int x2]) (σ' := σ) 1 rfl ?_
  exact Wp.if_ rfl ht hf
theorem b85_9 {d : Nat} {Q : Option Value → px_S → Prop} {σ : px_S} {x1 x2 : Int32} (ht : (σ.1 6 4) ≤ x2 → Wp d tb_85 32 [.ref 5, .int x1, .int x2] [] σ Q) (hf : ¬ ((σ.1 6 4) ≤ x2) → Wp d tb_85 20 [.ref 5, .int x1, .int x2] [] σ Q) : Wp d tb_85 9 [.ref 5, .int x1, .int x2] [] σ Q := by
  refine Wp.adv (pc' := 17) (ls' := [.ref 5, .int x1, .int x2]) (st' := [.int (σ.1 6 4), .int x2]) (σ' := σ) 4 rfl ?_
  exact Wp.icmp rfl ht hf
theorem b85_20 {d : Nat} {Q : Option Value → px_S → Prop} {σ : px_S} {x1 x2 : Int32} (c1 : vp_in x2 56) (h : Wp d tb_85 33 [.ref 5, .int x1, .int x2] [.long (σ.2.1 32 (x2).toNatClampNeg)] σ Q) : Wp d tb_85 20 [.ref 5, .int x1, .int x2] [] σ Q := by
  refine Wp.adv (pc' := 28) (ls' := [.ref 5, .int x1, .int x2]) (st' := [.int x2, .ref 32]) (σ' := σ) 4 rfl ?_
  refine Wp.lald (N := 56) rfl rfl c1 ?_
  refine Wp.adv (pc' := 33) (ls' := [.ref 5, .int x1, .int x2]) (st' := [.long (σ.2.1 32 (x2).toNatClampNeg)]) (σ' := σ) 1 rfl ?_
  exact h
theorem b85_32 {d : Nat} {Q : Option Value → px_S → Prop} {σ : px_S} {x1 x2 : Int32} (h : Wp d tb_85 33 [.ref 5, .int x1, .int x2] [.long (0 : Int64)] σ Q) : Wp d tb_85 32 [.ref 5, .int x1, .int x2] [] σ Q := by
  refine Wp.adv (pc' := 33) (ls' := [.ref 5, .int x1, .int x2]) (st' := [.long (0 : Int64)]) (σ' := σ) 1 rfl ?_
  exact h
theorem b85_33 {d : Nat} {Q : Option Value → px_S → Prop} {σ : px_S} {x1 x2 : Int32} {t0 : Int64} (h : Q (some (.long t0)) σ) : Wp d tb_85 33 [.ref 5, .int x1, .int x2] [.long t0] σ Q := by
  exact Wp.ret rfl rfl h
theorem e85 {d : Nat} {Q : Option Value → px_S → Prop} {σ : px_S} {x1 x2 : Int32} (h : Wp d tb_85 0 [.ref 5, .int x1, .int x2] [] σ Q) : Cw (d + 1) 85 [.ref 5, .int x1, .int x2] σ Q := Cw.of (nL := 3) (y := yX3_rowText) (cc := cX3_rowText) (rt := some .long) rfl (Nat.le_of_ble_eq_true rfl) h
theorem b86_0 {d : Nat} {Q : Option Value → px_S → Prop} {σ : px_S} {x1 : Int32} (ht : x1 < 0 → Wp d tb_86 15 [.ref 0, .int x1] [] σ Q) (hf : ¬ (x1 < 0) → Wp d tb_86 4 [.ref 0, .int x1] [] σ Q) : Wp d tb_86 0 [.ref 0, .int x1] [] σ Q := by
  refine Wp.adv (pc' := 1) (ls' := [.ref 0, .int x1]) (st' := [.int x1]) (σ' := σ) 1 rfl ?_
  exact Wp.if_ rfl ht hf
theorem b86_4 {d : Nat} {Q : Option Value → px_S → Prop} {σ : px_S} {x1 : Int32} (ht : x1 < (σ.1 1 7) → Wp d tb_86 17 [.ref 0, .int x1] [] σ Q) (hf : ¬ (x1 < (σ.1 1 7)) → Wp d tb_86 15 [.ref 0, .int x1] [] σ Q) : Wp d tb_86 4 [.ref 0, .int x1] [] σ Q := by
  refine Wp.adv (pc' := 12) (ls' := [.ref 0, .int x1]) (st' := [.int (σ.1 1 7), .int x1]) (σ' := σ) 4 rfl ?_
  exact Wp.icmp rfl ht hf
theorem b86_15 {d : Nat} {Q : Option Value → px_S → Prop} {σ : px_S} {x1 : Int32} (h : Q (some (.int (-1 : Int32))) σ) : Wp d tb_86 15 [.ref 0, .int x1] [] σ Q := by
  refine Wp.adv (pc' := 16) (ls' := [.ref 0, .int x1]) (st' := [.int (-1 : Int32)]) (σ' := σ) 1 rfl ?_
  exact Wp.ret rfl rfl h
theorem b86_17 {d : Nat} {Q : Option Value → px_S → Prop} {σ : px_S} {x1 : Int32} (h : Cw d 23 [.ref 3, .int (-1 : Int32)] σ (fun r τ => Wp d tb_86 25 [.ref 0, .int x1] (r.toList ++ []) τ Q)) : Wp d tb_86 17 [.ref 0, .int x1] [] σ Q := by
  refine Wp.adv (pc' := 22) (ls' := [.ref 0, .int x1]) (st' := [.int (-1 : Int32), .ref 3]) (σ' := σ) 3 rfl ?_
  exact Wp.call (q := (23, 2, 3, 25)) rfl (Nat.le_of_ble_eq_true rfl) rfl h
theorem b86_25 {d : Nat} {Q : Option Value → px_S → Prop} {σ : px_S} {x1 : Int32} (h : Cw d 87 [.ref 3, .int x1] σ (fun r τ => Wp d tb_86 33 [.ref 0, .int x1] (r.toList ++ []) τ Q)) : Wp d tb_86 25 [.ref 0, .int x1] [] σ Q := by
  refine Wp.adv (pc' := 30) (ls' := [.ref 0, .int x1]) (st' := [.int x1, .ref 3]) (σ' := σ) 3 rfl ?_
  exact Wp.call (q := (87, 2, 3, 33)) rfl (Nat.le_of_ble_eq_true rfl) rfl h
theorem b86_33 {d : Nat} {Q : Option Value → px_S → Prop} {σ : px_S} {x1 s0 : Int32} (h : Q (some (.int s0)) σ) : Wp d tb_86 33 [.ref 0, .int x1] [.int s0] σ Q := by
  exact Wp.ret rfl rfl h
theorem e86 {d : Nat} {Q : Option Value → px_S → Prop} {σ : px_S} {x1 : Int32} (h : Wp d tb_86 0 [.ref 0, .int x1] [] σ Q) : Cw (d + 1) 86 [.ref 0, .int x1] σ Q := Cw.of (nL := 2) (y := yX8_order) (cc := cX8_order) (rt := some .int) rfl (Nat.le_of_ble_eq_true rfl) h
theorem b87_0 {d : Nat} {Q : Option Value → px_S → Prop} {σ : px_S} {x1 : Int32} {k : Nat} (hk : k = 3 ∨ k = 4) (h : Wp d tb_87 8 [.ref k, .int x1, .long (0 : Int64), .null, .int (-1 : Int32), .int (0 : Int32)] [] σ Q) : Wp d tb_87 0 [.ref k, .int x1, .null, .null, .null, .null] [] σ Q := by
  rcases hk with rfl | rfl
  · refine Wp.adv (pc' := 8) (ls' := [.ref 3, .int x1, .long (0 : Int64), .null, .int (-1 : Int32), .int (0 : Int32)]) (st' := []) (σ' := σ) 6 rfl ?_
    exact h
  · refine Wp.adv (pc' := 8) (ls' := [.ref 4, .int x1, .long (0 : Int64), .null, .int (-1 : Int32), .int (0 : Int32)]) (st' := []) (σ' := σ) 6 rfl ?_
    exact h
theorem b87_8 {d : Nat} {Q : Option Value → px_S → Prop} {σ : px_S} {x1 x4 x5 : Int32} {y2 : Int64} {k : Nat} (hk : k = 3 ∨ k = 4) (ht : x1 < x5 → Wp d tb_87 49 [.ref k, .int x1, .long y2, .null, .int x4, .int x5] [] σ Q) (hf : ¬ (x1 < x5) → Wp d tb_87 14 [.ref k, .int x1, .long y2, .null, .int x4, .int x5] [] σ Q) : Wp d tb_87 8 [.ref k, .int x1, .long y2, .null, .int x4, .int x5] [] σ Q := by
  rcases hk with rfl | rfl
  · refine Wp.adv (pc' := 11) (ls' := [.ref 3, .int x1, .long y2, .null, .int x4, .int x5]) (st' := [.int x1, .int x5]) (σ' := σ) 2 rfl ?_
    exact Wp.icmp rfl ht hf
  · refine Wp.adv (pc' := 11) (ls' := [.ref 4, .int x1, .long y2, .null, .int x4, .int x5]) (st' := [.int x1, .int x5]) (σ' := σ) 2 rfl ?_
    exact Wp.icmp rfl ht hf
theorem b87_14 {d : Nat} {Q : Option Value → px_S → Prop} {σ : px_S} {x1 x4 x5 : Int32} {y2 : Int64} {k : Nat} (hk : k = 3 ∨ k = 4) (ht : (40 : Int32) ≤ x5 → Wp d tb_87 49 [.ref k, .int x1, .long y2, .null, .int x4, .int x5] [] σ Q) (hf : ¬ ((40 : Int32) ≤ x5) → Wp d tb_87 21 [.ref k, .int x1, .long y2, .null, .int x4, .int x5] [] σ Q) : Wp d tb_87 14 [.ref k, .int x1, .long y2, .null, .int x4, .int x5] [] σ Q := by
  rcases hk with rfl | rfl
  · refine Wp.adv (pc' := 18) (ls' := [.ref 3, .int x1, .long y2, .null, .int x4, .int x5]) (st' := [.int (40 : Int32), .int x5]) (σ' := σ) 2 rfl ?_
    exact Wp.icmp rfl ht hf
  · refine Wp.adv (pc' := 18) (ls' := [.ref 4, .int x1, .long y2, .null, .int x4, .int x5]) (st' := [.int (40 : Int32), .int x5]) (σ' := σ) 2 rfl ?_
    exact Wp.icmp rfl ht hf
theorem b87_21 {d : Nat} {Q : Option Value → px_S → Prop} {σ : px_S} {x1 x4 x5 : Int32} {y2 : Int64} {k : Nat} (hk : k = 3 ∨ k = 4) (h : Cw d 88 [.ref k, .long y2] σ (fun r τ => Wp d tb_87 26 [.ref k, .int x1, .long y2, .null, .int x4, .int x5] (r.toList ++ []) τ Q)) : Wp d tb_87 21 [.ref k, .int x1, .long y2, .null, .int x4, .int x5] [] σ Q := by
  rcases hk with rfl | rfl
  · refine Wp.adv (pc' := 23) (ls' := [.ref 3, .int x1, .long y2, .null, .int x4, .int x5]) (st' := [.long y2, .ref 3]) (σ' := σ) 2 rfl ?_
    exact Wp.call (q := (88, 2, 3, 26)) rfl (Nat.le_of_ble_eq_true rfl) rfl h
  · refine Wp.adv (pc' := 23) (ls' := [.ref 4, .int x1, .long y2, .null, .int x4, .int x5]) (st' := [.long y2, .ref 4]) (σ' := σ) 2 rfl ?_
    exact Wp.call (q := (88, 2, 3, 26)) rfl (Nat.le_of_ble_eq_true rfl) rfl h
theorem b87_26 {d : Nat} {Q : Option Value → px_S → Prop} {σ : px_S} {x1 x4 x5 s0 : Int32} {y2 : Int64} {k : Nat} (hk : k = 3 ∨ k = 4) (ht : ¬ s0 = (-1 : Int32) → Wp d tb_87 36 [.ref k, .int x1, .long y2, .null, .int s0, .int x5] [] σ Q) (hf : ¬ (¬ s0 = (-1 : Int32)) → Wp d tb_87 34 [.ref k, .int x1, .long y2, .null, .int s0, .int x5] [] σ Q) : Wp d tb_87 26 [.ref k, .int x1, .long y2, .null, .int x4, .int x5] [.int s0] σ Q := by
  rcases hk with rfl | rfl
  · refine Wp.adv (pc' := 31) (ls' := [.ref 3, .int x1, .long y2, .null, .int s0, .int x5]) (st' := [.int (-1 : Int32), .int s0]) (σ' := σ) 3 rfl ?_
    exact Wp.icmp rfl ht hf
  · refine Wp.adv (pc' := 31) (ls' := [.ref 4, .int x1, .long y2, .null, .int s0, .int x5]) (st' := [.int (-1 : Int32), .int s0]) (σ' := σ) 3 rfl ?_
    exact Wp.icmp rfl ht hf
theorem b87_34 {d : Nat} {Q : Option Value → px_S → Prop} {σ : px_S} {x1 x4 x5 : Int32} {y2 : Int64} {k : Nat} (hk : k = 3 ∨ k = 4) (h : Q (some (.int (-1 : Int32))) σ) : Wp d tb_87 34 [.ref k, .int x1, .long y2, .null, .int x4, .int x5] [] σ Q := by
  rcases hk with rfl | rfl
  · refine Wp.adv (pc' := 35) (ls' := [.ref 3, .int x1, .long y2, .null, .int x4, .int x5]) (st' := [.int (-1 : Int32)]) (σ' := σ) 1 rfl ?_
    exact Wp.ret rfl rfl h
  · refine Wp.adv (pc' := 35) (ls' := [.ref 4, .int x1, .long y2, .null, .int x4, .int x5]) (st' := [.int (-1 : Int32)]) (σ' := σ) 1 rfl ?_
    exact Wp.ret rfl rfl h
theorem b87_36 {d : Nat} {Q : Option Value → px_S → Prop} {σ : px_S} {x1 x4 x5 : Int32} {y2 : Int64} {k : Nat} (hk : k = 3 ∨ k = 4) (h : Wp d tb_87 8 [.ref k, .int x1, .long (y2 ||| ((1 : Int64) <<< ((x4).toInt64 &&& 63))), .null, .int x4, .int (x5 + 1)] [] σ Q) : Wp d tb_87 36 [.ref k, .int x1, .long y2, .null, .int x4, .int x5] [] σ Q := by
  rcases hk with rfl | rfl
  · refine Wp.adv (pc' := 8) (ls' := [.ref 3, .int x1, .long (y2 ||| ((1 : Int64) <<< ((x4).toInt64 &&& 63))), .null, .int x4, .int (x5 + 1)]) (st' := []) (σ' := σ) 8 rfl ?_
    exact h
  · refine Wp.adv (pc' := 8) (ls' := [.ref 4, .int x1, .long (y2 ||| ((1 : Int64) <<< ((x4).toInt64 &&& 63))), .null, .int x4, .int (x5 + 1)]) (st' := []) (σ' := σ) 8 rfl ?_
    exact h
theorem b87_49 {d : Nat} {Q : Option Value → px_S → Prop} {σ : px_S} {x1 x4 x5 : Int32} {y2 : Int64} {k : Nat} (hk : k = 3 ∨ k = 4) (h : Q (some (.int x4)) σ) : Wp d tb_87 49 [.ref k, .int x1, .long y2, .null, .int x4, .int x5] [] σ Q := by
  rcases hk with rfl | rfl
  · refine Wp.adv (pc' := 51) (ls' := [.ref 3, .int x1, .long y2, .null, .int x4, .int x5]) (st' := [.int x4]) (σ' := σ) 1 rfl ?_
    exact Wp.ret rfl rfl h
  · refine Wp.adv (pc' := 51) (ls' := [.ref 4, .int x1, .long y2, .null, .int x4, .int x5]) (st' := [.int x4]) (σ' := σ) 1 rfl ?_
    exact Wp.ret rfl rfl h
theorem e87 {d : Nat} {Q : Option Value → px_S → Prop} {σ : px_S} {x1 : Int32} {k : Nat} (h : Wp d tb_87 0 [.ref k, .int x1, .null, .null, .null, .null] [] σ Q) : Cw (d + 1) 87 [.ref k, .int x1] σ Q := Cw.of (nL := 6) (y := yX2_writtenAt) (cc := cX2_writtenAt) (rt := some .int) rfl (Nat.le_of_ble_eq_true rfl) h
theorem b88_0 {d : Nat} {Q : Option Value → px_S → Prop} {σ : px_S} {y1 : Int64} {k : Nat} (hk : k = 3 ∨ k = 4) (h : Wp d tb_88 2 [.ref k, .long y1, .null, .int (0 : Int32), .null, .null] [] σ Q) : Wp d tb_88 0 [.ref k, .long y1, .null, .null, .null, .null] [] σ Q := by
  rcases hk with rfl | rfl
  · refine Wp.adv (pc' := 2) (ls' := [.ref 3, .long y1, .null, .int (0 : Int32), .null, .null]) (st' := []) (σ' := σ) 2 rfl ?_
    exact h
  · refine Wp.adv (pc' := 2) (ls' := [.ref 4, .long y1, .null, .int (0 : Int32), .null, .null]) (st' := []) (σ' := σ) 2 rfl ?_
    exact h
theorem b88_2 {d : Nat} {Q : Option Value → px_S → Prop} {σ : px_S} {x3 : Int32} {y1 : Int64} {v4 v5 : Value} {k : Nat} (hk : k = 3 ∨ k = 4) (ht : (σ.1 1 7) ≤ x3 → Wp d tb_88 88 [.ref k, .long y1, .null, .int x3, v4, v5] [] σ Q) (hf : ¬ ((σ.1 1 7) ≤ x3) → Wp d tb_88 13 [.ref k, .long y1, .null, .int x3, v4, v5] [] σ Q) : Wp d tb_88 2 [.ref k, .long y1, .null, .int x3, v4, v5] [] σ Q := by
  rcases hk with rfl | rfl
  · refine Wp.adv (pc' := 10) (ls' := [.ref 3, .long y1, .null, .int x3, v4, v5]) (st' := [.int (σ.1 1 7), .int x3]) (σ' := σ) 4 rfl ?_
    exact Wp.icmp rfl ht hf
  · refine Wp.adv (pc' := 10) (ls' := [.ref 4, .long y1, .null, .int x3, v4, v5]) (st' := [.int (σ.1 1 7), .int x3]) (σ' := σ) 4 rfl ?_
    exact Wp.icmp rfl ht hf
theorem b88_13 {d : Nat} {Q : Option Value → px_S → Prop} {σ : px_S} {x3 : Int32} {y1 : Int64} {v4 v5 : Value} {k : Nat} (hk : k = 3 ∨ k = 4) (ht : (lg_cmp ((((y1).toUInt64 >>> ((x3).toInt64.toUInt64 &&& Int64.toUInt64 63)).toInt64) &&& (1 : Int64)) (0 : Int64)) = 0 → Wp d tb_88 27 [.ref k, .long y1, .null, .int x3, v4, v5] [] σ Q) (hf : ¬ ((lg_cmp ((((y1).toUInt64 >>> ((x3).toInt64.toUInt64 &&& Int64.toUInt64 63)).toInt64) &&& (1 : Int64)) (0 : Int64)) = 0) → Wp d tb_88 23 [.ref k, .long y1, .null, .int x3, v4, v5] [] σ Q) : Wp d tb_88 13 [.ref k, .long y1, .null, .int x3, v4, v5] [] σ Q := by
  rcases hk with rfl | rfl
  · refine Wp.adv (pc' := 20) (ls' := [.ref 3, .long y1, .null, .int x3, v4, v5]) (st' := [.int (lg_cmp ((((y1).toUInt64 >>> ((x3).toInt64.toUInt64 &&& Int64.toUInt64 63)).toInt64) &&& (1 : Int64)) (0 : Int64))]) (σ' := σ) 7 rfl ?_
    exact Wp.if_ rfl ht hf
  · refine Wp.adv (pc' := 20) (ls' := [.ref 4, .long y1, .null, .int x3, v4, v5]) (st' := [.int (lg_cmp ((((y1).toUInt64 >>> ((x3).toInt64.toUInt64 &&& Int64.toUInt64 63)).toInt64) &&& (1 : Int64)) (0 : Int64))]) (σ' := σ) 7 rfl ?_
    exact Wp.if_ rfl ht hf
theorem b88_23 {d : Nat} {Q : Option Value → px_S → Prop} {σ : px_S} {x3 : Int32} {y1 : Int64} {v4 v5 : Value} {k : Nat} (hk : k = 3 ∨ k = 4) (h : Wp d tb_88 28 [.ref k, .long y1, .null, .int x3, v4, v5] [.int (1 : Int32)] σ Q) : Wp d tb_88 23 [.ref k, .long y1, .null, .int x3, v4, v5] [] σ Q := by
  rcases hk with rfl | rfl
  · refine Wp.adv (pc' := 28) (ls' := [.ref 3, .long y1, .null, .int x3, v4, v5]) (st' := [.int (1 : Int32)]) (σ' := σ) 2 rfl ?_
    exact h
  · refine Wp.adv (pc' := 28) (ls' := [.ref 4, .long y1, .null, .int x3, v4, v5]) (st' := [.int (1 : Int32)]) (σ' := σ) 2 rfl ?_
    exact h
theorem b88_27 {d : Nat} {Q : Option Value → px_S → Prop} {σ : px_S} {x3 : Int32} {y1 : Int64} {v4 v5 : Value} {k : Nat} (hk : k = 3 ∨ k = 4) (h : Wp d tb_88 28 [.ref k, .long y1, .null, .int x3, v4, v5] [.int (0 : Int32)] σ Q) : Wp d tb_88 27 [.ref k, .long y1, .null, .int x3, v4, v5] [] σ Q := by
  rcases hk with rfl | rfl
  · refine Wp.adv (pc' := 28) (ls' := [.ref 3, .long y1, .null, .int x3, v4, v5]) (st' := [.int (0 : Int32)]) (σ' := σ) 1 rfl ?_
    exact h
  · refine Wp.adv (pc' := 28) (ls' := [.ref 4, .long y1, .null, .int x3, v4, v5]) (st' := [.int (0 : Int32)]) (σ' := σ) 1 rfl ?_
    exact h
theorem b88_28 {d : Nat} {Q : Option Value → px_S → Prop} {σ : px_S} {x3 s0 : Int32} {y1 : Int64} {v4 v5 : Value} {k : Nat} (hk : k = 3 ∨ k = 4) (c1 : vp_in x3 40) (ht : (σ.1 (2 * k + 15) (x3).toNatClampNeg) = (-1 : Int32) → Wp d tb_88 55 [.ref k, .long y1, .null, .int x3, .int s0, v5] [] σ Q) (hf : ¬ ((σ.1 (2 * k + 15) (x3).toNatClampNeg) = (-1 : Int32)) → Wp d tb_88 40 [.ref k, .long y1, .null, .int x3, .int s0, v5] [] σ Q) : Wp d tb_88 28 [.ref k, .long y1, .null, .int x3, v4, v5] [.int s0] σ Q := by
  rcases hk with rfl | rfl
  · refine Wp.adv (pc' := 35) (ls' := [.ref 3, .long y1, .null, .int x3, .int s0, v5]) (st' := [.int x3, .ref (2 * 3 + 15)]) (σ' := σ) 4 rfl ?_
    refine Wp.iald (N := 40) rfl rfl c1 ?_
    refine Wp.adv (pc' := 37) (ls' := [.ref 3, .long y1, .null, .int x3, .int s0, v5]) (st' := [.int (-1 : Int32), .int (σ.1 (2 * 3 + 15) (x3).toNatClampNeg)]) (σ' := σ) 1 rfl ?_
    exact Wp.icmp rfl ht hf
  · refine Wp.adv (pc' := 35) (ls' := [.ref 4, .long y1, .null, .int x3, .int s0, v5]) (st' := [.int x3, .ref (2 * 4 + 15)]) (σ' := σ) 4 rfl ?_
    refine Wp.iald (N := 40) rfl rfl c1 ?_
    refine Wp.adv (pc' := 37) (ls' := [.ref 4, .long y1, .null, .int x3, .int s0, v5]) (st' := [.int (-1 : Int32), .int (σ.1 (2 * 4 + 15) (x3).toNatClampNeg)]) (σ' := σ) 1 rfl ?_
    exact Wp.icmp rfl ht hf
theorem b88_40 {d : Nat} {Q : Option Value → px_S → Prop} {σ : px_S} {x3 x4 : Int32} {y1 : Int64} {v5 : Value} {k : Nat} (hk : k = 3 ∨ k = 4) (c1 : vp_in x3 40) (ht : (lg_cmp ((((y1).toUInt64 >>> (((σ.1 (2 * k + 15) (x3).toNatClampNeg)).toInt64.toUInt64 &&& Int64.toUInt64 63)).toInt64) &&& (1 : Int64)) (0 : Int64)) = 0 → Wp d tb_88 59 [.ref k, .long y1, .null, .int x3, .int x4, v5] [] σ Q) (hf : ¬ ((lg_cmp ((((y1).toUInt64 >>> (((σ.1 (2 * k + 15) (x3).toNatClampNeg)).toInt64.toUInt64 &&& Int64.toUInt64 63)).toInt64) &&& (1 : Int64)) (0 : Int64)) = 0) → Wp d tb_88 55 [.ref k, .long y1, .null, .int x3, .int x4, v5] [] σ Q) : Wp d tb_88 40 [.ref k, .long y1, .null, .int x3, .int x4, v5] [] σ Q := by
  rcases hk with rfl | rfl
  · refine Wp.adv (pc' := 46) (ls' := [.ref 3, .long y1, .null, .int x3, .int x4, v5]) (st' := [.int x3, .ref (2 * 3 + 15), .long y1]) (σ' := σ) 4 rfl ?_
    refine Wp.iald (N := 40) rfl rfl c1 ?_
    refine Wp.adv (pc' := 52) (ls' := [.ref 3, .long y1, .null, .int x3, .int x4, v5]) (st' := [.int (lg_cmp ((((y1).toUInt64 >>> (((σ.1 (2 * 3 + 15) (x3).toNatClampNeg)).toInt64.toUInt64 &&& Int64.toUInt64 63)).toInt64) &&& (1 : Int64)) (0 : Int64))]) (σ' := σ) 5 rfl ?_
    exact Wp.if_ rfl ht hf
  · refine Wp.adv (pc' := 46) (ls' := [.ref 4, .long y1, .null, .int x3, .int x4, v5]) (st' := [.int x3, .ref (2 * 4 + 15), .long y1]) (σ' := σ) 4 rfl ?_
    refine Wp.iald (N := 40) rfl rfl c1 ?_
    refine Wp.adv (pc' := 52) (ls' := [.ref 4, .long y1, .null, .int x3, .int x4, v5]) (st' := [.int (lg_cmp ((((y1).toUInt64 >>> (((σ.1 (2 * 4 + 15) (x3).toNatClampNeg)).toInt64.toUInt64 &&& Int64.toUInt64 63)).toInt64) &&& (1 : Int64)) (0 : Int64))]) (σ' := σ) 5 rfl ?_
    exact Wp.if_ rfl ht hf
theorem b88_55 {d : Nat} {Q : Option Value → px_S → Prop} {σ : px_S} {x3 x4 : Int32} {y1 : Int64} {v5 : Value} {k : Nat} (hk : k = 3 ∨ k = 4) (h : Wp d tb_88 60 [.ref k, .long y1, .null, .int x3, .int x4, v5] [.int (1 : Int32)] σ Q) : Wp d tb_88 55 [.ref k, .long y1, .null, .int x3, .int x4, v5] [] σ Q := by
  rcases hk with rfl | rfl
  · refine Wp.adv (pc' := 60) (ls' := [.ref 3, .long y1, .null, .int x3, .int x4, v5]) (st' := [.int (1 : Int32)]) (σ' := σ) 2 rfl ?_
    exact h
  · refine Wp.adv (pc' := 60) (ls' := [.ref 4, .long y1, .null, .int x3, .int x4, v5]) (st' := [.int (1 : Int32)]) (σ' := σ) 2 rfl ?_
    exact h
theorem b88_59 {d : Nat} {Q : Option Value → px_S → Prop} {σ : px_S} {x3 x4 : Int32} {y1 : Int64} {v5 : Value} {k : Nat} (hk : k = 3 ∨ k = 4) (h : Wp d tb_88 60 [.ref k, .long y1, .null, .int x3, .int x4, v5] [.int (0 : Int32)] σ Q) : Wp d tb_88 59 [.ref k, .long y1, .null, .int x3, .int x4, v5] [] σ Q := by
  rcases hk with rfl | rfl
  · refine Wp.adv (pc' := 60) (ls' := [.ref 3, .long y1, .null, .int x3, .int x4, v5]) (st' := [.int (0 : Int32)]) (σ' := σ) 1 rfl ?_
    exact h
  · refine Wp.adv (pc' := 60) (ls' := [.ref 4, .long y1, .null, .int x3, .int x4, v5]) (st' := [.int (0 : Int32)]) (σ' := σ) 1 rfl ?_
    exact h
theorem b88_60 {d : Nat} {Q : Option Value → px_S → Prop} {σ : px_S} {x3 x4 s0 : Int32} {y1 : Int64} {v5 : Value} {k : Nat} (hk : k = 3 ∨ k = 4) (h : Cw d 24 [.ref k, .int x3] σ (fun r τ => Wp d tb_88 67 [.ref k, .long y1, .null, .int x3, .int x4, .int s0] (r.toList ++ []) τ Q)) : Wp d tb_88 60 [.ref k, .long y1, .null, .int x3, .int x4, v5] [.int s0] σ Q := by
  rcases hk with rfl | rfl
  · refine Wp.adv (pc' := 64) (ls' := [.ref 3, .long y1, .null, .int x3, .int x4, .int s0]) (st' := [.int x3, .ref 3]) (σ' := σ) 3 rfl ?_
    exact Wp.call (q := (24, 2, 3, 67)) rfl (Nat.le_of_ble_eq_true rfl) rfl h
  · refine Wp.adv (pc' := 64) (ls' := [.ref 4, .long y1, .null, .int x3, .int x4, .int s0]) (st' := [.int x3, .ref 4]) (σ' := σ) 3 rfl ?_
    exact Wp.call (q := (24, 2, 3, 67)) rfl (Nat.le_of_ble_eq_true rfl) rfl h
theorem b88_67 {d : Nat} {Q : Option Value → px_S → Prop} {σ : px_S} {x3 x4 x5 s0 : Int32} {y1 : Int64} {k : Nat} (hk : k = 3 ∨ k = 4) (ht : s0 = 0 → Wp d tb_88 82 [.ref k, .long y1, .null, .int x3, .int x4, .int x5] [] σ Q) (hf : ¬ (s0 = 0) → Wp d tb_88 70 [.ref k, .long y1, .null, .int x3, .int x4, .int x5] [] σ Q) : Wp d tb_88 67 [.ref k, .long y1, .null, .int x3, .int x4, .int x5] [.int s0] σ Q := by
  rcases hk with rfl | rfl
  · exact Wp.if_ rfl ht hf
  · exact Wp.if_ rfl ht hf
theorem b88_70 {d : Nat} {Q : Option Value → px_S → Prop} {σ : px_S} {x3 x4 x5 : Int32} {y1 : Int64} {k : Nat} (hk : k = 3 ∨ k = 4) (ht : ¬ x4 = 0 → Wp d tb_88 82 [.ref k, .long y1, .null, .int x3, .int x4, .int x5] [] σ Q) (hf : ¬ (¬ x4 = 0) → Wp d tb_88 75 [.ref k, .long y1, .null, .int x3, .int x4, .int x5] [] σ Q) : Wp d tb_88 70 [.ref k, .long y1, .null, .int x3, .int x4, .int x5] [] σ Q := by
  rcases hk with rfl | rfl
  · refine Wp.adv (pc' := 72) (ls' := [.ref 3, .long y1, .null, .int x3, .int x4, .int x5]) (st' := [.int x4]) (σ' := σ) 1 rfl ?_
    exact Wp.if_ rfl ht hf
  · refine Wp.adv (pc' := 72) (ls' := [.ref 4, .long y1, .null, .int x3, .int x4, .int x5]) (st' := [.int x4]) (σ' := σ) 1 rfl ?_
    exact Wp.if_ rfl ht hf
theorem b88_75 {d : Nat} {Q : Option Value → px_S → Prop} {σ : px_S} {x3 x4 x5 : Int32} {y1 : Int64} {k : Nat} (hk : k = 3 ∨ k = 4) (ht : x5 = 0 → Wp d tb_88 82 [.ref k, .long y1, .null, .int x3, .int x4, .int x5] [] σ Q) (hf : ¬ (x5 = 0) → Wp d tb_88 80 [.ref k, .long y1, .null, .int x3, .int x4, .int x5] [] σ Q) : Wp d tb_88 75 [.ref k, .long y1, .null, .int x3, .int x4, .int x5] [] σ Q := by
  rcases hk with rfl | rfl
  · refine Wp.adv (pc' := 77) (ls' := [.ref 3, .long y1, .null, .int x3, .int x4, .int x5]) (st' := [.int x5]) (σ' := σ) 1 rfl ?_
    exact Wp.if_ rfl ht hf
  · refine Wp.adv (pc' := 77) (ls' := [.ref 4, .long y1, .null, .int x3, .int x4, .int x5]) (st' := [.int x5]) (σ' := σ) 1 rfl ?_
    exact Wp.if_ rfl ht hf
theorem b88_80 {d : Nat} {Q : Option Value → px_S → Prop} {σ : px_S} {x3 x4 x5 : Int32} {y1 : Int64} {k : Nat} (hk : k = 3 ∨ k = 4) (h : Q (some (.int x3)) σ) : Wp d tb_88 80 [.ref k, .long y1, .null, .int x3, .int x4, .int x5] [] σ Q := by
  rcases hk with rfl | rfl
  · refine Wp.adv (pc' := 81) (ls' := [.ref 3, .long y1, .null, .int x3, .int x4, .int x5]) (st' := [.int x3]) (σ' := σ) 1 rfl ?_
    exact Wp.ret rfl rfl h
  · refine Wp.adv (pc' := 81) (ls' := [.ref 4, .long y1, .null, .int x3, .int x4, .int x5]) (st' := [.int x3]) (σ' := σ) 1 rfl ?_
    exact Wp.ret rfl rfl h
theorem b88_82 {d : Nat} {Q : Option Value → px_S → Prop} {σ : px_S} {x3 x4 x5 : Int32} {y1 : Int64} {k : Nat} (hk : k = 3 ∨ k = 4) (h : Wp d tb_88 2 [.ref k, .long y1, .null, .int (x3 + 1), .int x4, .int x5] [] σ Q) : Wp d tb_88 82 [.ref k, .long y1, .null, .int x3, .int x4, .int x5] [] σ Q := by
  rcases hk with rfl | rfl
  · refine Wp.adv (pc' := 2) (ls' := [.ref 3, .long y1, .null, .int (x3 + 1), .int x4, .int x5]) (st' := []) (σ' := σ) 2 rfl ?_
    exact h
  · refine Wp.adv (pc' := 2) (ls' := [.ref 4, .long y1, .null, .int (x3 + 1), .int x4, .int x5]) (st' := []) (σ' := σ) 2 rfl ?_
    exact h
theorem b88_88 {d : Nat} {Q : Option Value → px_S → Prop} {σ : px_S} {x3 : Int32} {y1 : Int64} {v4 v5 : Value} {k : Nat} (hk : k = 3 ∨ k = 4) (h : Q (some (.int (-1 : Int32))) σ) : Wp d tb_88 88 [.ref k, .long y1, .null, .int x3, v4, v5] [] σ Q := by
  rcases hk with rfl | rfl
  · refine Wp.adv (pc' := 89) (ls' := [.ref 3, .long y1, .null, .int x3, v4, v5]) (st' := [.int (-1 : Int32)]) (σ' := σ) 1 rfl ?_
    exact Wp.ret rfl rfl h
  · refine Wp.adv (pc' := 89) (ls' := [.ref 4, .long y1, .null, .int x3, v4, v5]) (st' := [.int (-1 : Int32)]) (σ' := σ) 1 rfl ?_
    exact Wp.ret rfl rfl h
theorem e88 {d : Nat} {Q : Option Value → px_S → Prop} {σ : px_S} {y1 : Int64} {k : Nat} (h : Wp d tb_88 0 [.ref k, .long y1, .null, .null, .null, .null] [] σ Q) : Cw (d + 1) 88 [.ref k, .long y1] σ Q := Cw.of (nL := 6) (y := yX2_nextToWrite) (cc := cX2_nextToWrite) (rt := some .int) rfl (Nat.le_of_ble_eq_true rfl) h
theorem b89_0 {d : Nat} {Q : Option Value → px_S → Prop} {σ : px_S} {x1 : Int32} (ht : x1 < 0 → Wp d tb_89 15 [.ref 0, .int x1] [] σ Q) (hf : ¬ (x1 < 0) → Wp d tb_89 4 [.ref 0, .int x1] [] σ Q) : Wp d tb_89 0 [.ref 0, .int x1] [] σ Q := by
  refine Wp.adv (pc' := 1) (ls' := [.ref 0, .int x1]) (st' := [.int x1]) (σ' := σ) 1 rfl ?_
  exact Wp.if_ rfl ht hf
theorem b89_4 {d : Nat} {Q : Option Value → px_S → Prop} {σ : px_S} {x1 : Int32} (ht : x1 < (σ.1 1 7) → Wp d tb_89 17 [.ref 0, .int x1] [] σ Q) (hf : ¬ (x1 < (σ.1 1 7)) → Wp d tb_89 15 [.ref 0, .int x1] [] σ Q) : Wp d tb_89 4 [.ref 0, .int x1] [] σ Q := by
  refine Wp.adv (pc' := 12) (ls' := [.ref 0, .int x1]) (st' := [.int (σ.1 1 7), .int x1]) (σ' := σ) 4 rfl ?_
  exact Wp.icmp rfl ht hf
theorem b89_15 {d : Nat} {Q : Option Value → px_S → Prop} {σ : px_S} {x1 : Int32} (h : Q (some (.int (-1 : Int32))) σ) : Wp d tb_89 15 [.ref 0, .int x1] [] σ Q := by
  refine Wp.adv (pc' := 16) (ls' := [.ref 0, .int x1]) (st' := [.int (-1 : Int32)]) (σ' := σ) 1 rfl ?_
  exact Wp.ret rfl rfl h
theorem b89_17 {d : Nat} {Q : Option Value → px_S → Prop} {σ : px_S} {x1 : Int32} (h : Cw d 23 [.ref 3, .int (-1 : Int32)] σ (fun r τ => Wp d tb_89 25 [.ref 0, .int x1] (r.toList ++ []) τ Q)) : Wp d tb_89 17 [.ref 0, .int x1] [] σ Q := by
  refine Wp.adv (pc' := 22) (ls' := [.ref 0, .int x1]) (st' := [.int (-1 : Int32), .ref 3]) (σ' := σ) 3 rfl ?_
  exact Wp.call (q := (23, 2, 3, 25)) rfl (Nat.le_of_ble_eq_true rfl) rfl h
theorem b89_25 {d : Nat} {Q : Option Value → px_S → Prop} {σ : px_S} {x1 : Int32} (h : Cw d 90 [.ref 3, .int x1] σ (fun r τ => Wp d tb_89 33 [.ref 0, .int x1] (r.toList ++ []) τ Q)) : Wp d tb_89 25 [.ref 0, .int x1] [] σ Q := by
  refine Wp.adv (pc' := 30) (ls' := [.ref 0, .int x1]) (st' := [.int x1, .ref 3]) (σ' := σ) 3 rfl ?_
  exact Wp.call (q := (90, 2, 3, 33)) rfl (Nat.le_of_ble_eq_true rfl) rfl h
theorem b89_33 {d : Nat} {Q : Option Value → px_S → Prop} {σ : px_S} {x1 s0 : Int32} (h : Q (some (.int s0)) σ) : Wp d tb_89 33 [.ref 0, .int x1] [.int s0] σ Q := by
  exact Wp.ret rfl rfl h
theorem e89 {d : Nat} {Q : Option Value → px_S → Prop} {σ : px_S} {x1 : Int32} (h : Wp d tb_89 0 [.ref 0, .int x1] [] σ Q) : Cw (d + 1) 89 [.ref 0, .int x1] σ Q := Cw.of (nL := 2) (y := yX8_quarrel) (cc := cX8_quarrel) (rt := some .int) rfl (Nat.le_of_ble_eq_true rfl) h
theorem b90_0 {d : Nat} {Q : Option Value → px_S → Prop} {σ : px_S} {x1 : Int32} {k : Nat} (hk : k = 3 ∨ k = 4) (h : Wp d tb_90 4 [.ref k, .int x1, .int (0 : Int32), .int (0 : Int32)] [] σ Q) : Wp d tb_90 0 [.ref k, .int x1, .null, .null] [] σ Q := by
  rcases hk with rfl | rfl
  · refine Wp.adv (pc' := 4) (ls' := [.ref 3, .int x1, .int (0 : Int32), .int (0 : Int32)]) (st' := []) (σ' := σ) 4 rfl ?_
    exact h
  · refine Wp.adv (pc' := 4) (ls' := [.ref 4, .int x1, .int (0 : Int32), .int (0 : Int32)]) (st' := []) (σ' := σ) 4 rfl ?_
    exact h
theorem b90_4 {d : Nat} {Q : Option Value → px_S → Prop} {σ : px_S} {x1 x2 x3 : Int32} {k : Nat} (hk : k = 3 ∨ k = 4) (ht : (σ.1 1 7) ≤ x3 → Wp d tb_90 42 [.ref k, .int x1, .int x2, .int x3] [] σ Q) (hf : ¬ ((σ.1 1 7) ≤ x3) → Wp d tb_90 15 [.ref k, .int x1, .int x2, .int x3] [] σ Q) : Wp d tb_90 4 [.ref k, .int x1, .int x2, .int x3] [] σ Q := by
  rcases hk with rfl | rfl
  · refine Wp.adv (pc' := 12) (ls' := [.ref 3, .int x1, .int x2, .int x3]) (st' := [.int (σ.1 1 7), .int x3]) (σ' := σ) 4 rfl ?_
    exact Wp.icmp rfl ht hf
  · refine Wp.adv (pc' := 12) (ls' := [.ref 4, .int x1, .int x2, .int x3]) (st' := [.int (σ.1 1 7), .int x3]) (σ' := σ) 4 rfl ?_
    exact Wp.icmp rfl ht hf
theorem b90_15 {d : Nat} {Q : Option Value → px_S → Prop} {σ : px_S} {x1 x2 x3 : Int32} {k : Nat} (hk : k = 3 ∨ k = 4) (h : Cw d 62 [.ref k, .int x3] σ (fun r τ => Wp d tb_90 20 [.ref k, .int x1, .int x2, .int x3] (r.toList ++ []) τ Q)) : Wp d tb_90 15 [.ref k, .int x1, .int x2, .int x3] [] σ Q := by
  rcases hk with rfl | rfl
  · refine Wp.adv (pc' := 17) (ls' := [.ref 3, .int x1, .int x2, .int x3]) (st' := [.int x3, .ref 3]) (σ' := σ) 2 rfl ?_
    exact Wp.call (q := (62, 2, 3, 20)) rfl (Nat.le_of_ble_eq_true rfl) rfl h
  · refine Wp.adv (pc' := 17) (ls' := [.ref 4, .int x1, .int x2, .int x3]) (st' := [.int x3, .ref 4]) (σ' := σ) 2 rfl ?_
    exact Wp.call (q := (62, 2, 3, 20)) rfl (Nat.le_of_ble_eq_true rfl) rfl h
theorem b90_20 {d : Nat} {Q : Option Value → px_S → Prop} {σ : px_S} {x1 x2 x3 s0 : Int32} {k : Nat} (hk : k = 3 ∨ k = 4) (ht : ¬ s0 = 0 → Wp d tb_90 26 [.ref k, .int x1, .int x2, .int x3] [] σ Q) (hf : ¬ (¬ s0 = 0) → Wp d tb_90 23 [.ref k, .int x1, .int x2, .int x3] [] σ Q) : Wp d tb_90 20 [.ref k, .int x1, .int x2, .int x3] [.int s0] σ Q := by
  rcases hk with rfl | rfl
  · exact Wp.if_ rfl ht hf
  · exact Wp.if_ rfl ht hf
theorem b90_23 {d : Nat} {Q : Option Value → px_S → Prop} {σ : px_S} {x1 x2 x3 : Int32} {k : Nat} (hk : k = 3 ∨ k = 4) (h : Wp d tb_90 36 [.ref k, .int x1, .int x2, .int x3] [] σ Q) : Wp d tb_90 23 [.ref k, .int x1, .int x2, .int x3] [] σ Q := by
  rcases hk with rfl | rfl
  · refine Wp.adv (pc' := 36) (ls' := [.ref 3, .int x1, .int x2, .int x3]) (st' := []) (σ' := σ) 1 rfl ?_
    exact h
  · refine Wp.adv (pc' := 36) (ls' := [.ref 4, .int x1, .int x2, .int x3]) (st' := []) (σ' := σ) 1 rfl ?_
    exact h
theorem b90_26 {d : Nat} {Q : Option Value → px_S → Prop} {σ : px_S} {x1 x2 x3 : Int32} {k : Nat} (hk : k = 3 ∨ k = 4) (ht : ¬ x2 = x1 → Wp d tb_90 33 [.ref k, .int x1, .int x2, .int x3] [] σ Q) (hf : ¬ (¬ x2 = x1) → Wp d tb_90 31 [.ref k, .int x1, .int x2, .int x3] [] σ Q) : Wp d tb_90 26 [.ref k, .int x1, .int x2, .int x3] [] σ Q := by
  rcases hk with rfl | rfl
  · refine Wp.adv (pc' := 28) (ls' := [.ref 3, .int x1, .int x2, .int x3]) (st' := [.int x1, .int x2]) (σ' := σ) 2 rfl ?_
    exact Wp.icmp rfl ht hf
  · refine Wp.adv (pc' := 28) (ls' := [.ref 4, .int x1, .int x2, .int x3]) (st' := [.int x1, .int x2]) (σ' := σ) 2 rfl ?_
    exact Wp.icmp rfl ht hf
theorem b90_31 {d : Nat} {Q : Option Value → px_S → Prop} {σ : px_S} {x1 x2 x3 : Int32} {k : Nat} (hk : k = 3 ∨ k = 4) (h : Q (some (.int x3)) σ) : Wp d tb_90 31 [.ref k, .int x1, .int x2, .int x3] [] σ Q := by
  rcases hk with rfl | rfl
  · refine Wp.adv (pc' := 32) (ls' := [.ref 3, .int x1, .int x2, .int x3]) (st' := [.int x3]) (σ' := σ) 1 rfl ?_
    exact Wp.ret rfl rfl h
  · refine Wp.adv (pc' := 32) (ls' := [.ref 4, .int x1, .int x2, .int x3]) (st' := [.int x3]) (σ' := σ) 1 rfl ?_
    exact Wp.ret rfl rfl h
theorem b90_33 {d : Nat} {Q : Option Value → px_S → Prop} {σ : px_S} {x1 x2 x3 : Int32} {k : Nat} (hk : k = 3 ∨ k = 4) (h : Wp d tb_90 36 [.ref k, .int x1, .int (x2 + 1), .int x3] [] σ Q) : Wp d tb_90 33 [.ref k, .int x1, .int x2, .int x3] [] σ Q := by
  rcases hk with rfl | rfl
  · refine Wp.adv (pc' := 36) (ls' := [.ref 3, .int x1, .int (x2 + 1), .int x3]) (st' := []) (σ' := σ) 1 rfl ?_
    exact h
  · refine Wp.adv (pc' := 36) (ls' := [.ref 4, .int x1, .int (x2 + 1), .int x3]) (st' := []) (σ' := σ) 1 rfl ?_
    exact h
theorem b90_36 {d : Nat} {Q : Option Value → px_S → Prop} {σ : px_S} {x1 x2 x3 : Int32} {k : Nat} (hk : k = 3 ∨ k = 4) (h : Wp d tb_90 4 [.ref k, .int x1, .int x2, .int (x3 + 1)] [] σ Q) : Wp d tb_90 36 [.ref k, .int x1, .int x2, .int x3] [] σ Q := by
  rcases hk with rfl | rfl
  · refine Wp.adv (pc' := 4) (ls' := [.ref 3, .int x1, .int x2, .int (x3 + 1)]) (st' := []) (σ' := σ) 2 rfl ?_
    exact h
  · refine Wp.adv (pc' := 4) (ls' := [.ref 4, .int x1, .int x2, .int (x3 + 1)]) (st' := []) (σ' := σ) 2 rfl ?_
    exact h
theorem b90_42 {d : Nat} {Q : Option Value → px_S → Prop} {σ : px_S} {x1 x2 x3 : Int32} {k : Nat} (hk : k = 3 ∨ k = 4) (h : Q (some (.int (-1 : Int32))) σ) : Wp d tb_90 42 [.ref k, .int x1, .int x2, .int x3] [] σ Q := by
  rcases hk with rfl | rfl
  · refine Wp.adv (pc' := 43) (ls' := [.ref 3, .int x1, .int x2, .int x3]) (st' := [.int (-1 : Int32)]) (σ' := σ) 1 rfl ?_
    exact Wp.ret rfl rfl h
  · refine Wp.adv (pc' := 43) (ls' := [.ref 4, .int x1, .int x2, .int x3]) (st' := [.int (-1 : Int32)]) (σ' := σ) 1 rfl ?_
    exact Wp.ret rfl rfl h
theorem e90 {d : Nat} {Q : Option Value → px_S → Prop} {σ : px_S} {x1 : Int32} {k : Nat} (h : Wp d tb_90 0 [.ref k, .int x1, .null, .null] [] σ Q) : Cw (d + 1) 90 [.ref k, .int x1] σ Q := Cw.of (nL := 4) (y := yX2_quarrelAt) (cc := cX2_quarrelAt) (rt := some .int) rfl (Nat.le_of_ble_eq_true rfl) h
theorem b91_0 {d : Nat} {Q : Option Value → px_S → Prop} {σ : px_S} {x1 x2 : Int32} (h : Cw d 4 [.ref 1, .int x1] σ (fun r τ => Wp d tb_91 8 [.ref 0, .int x1, .int x2] (r.toList ++ []) τ Q)) : Wp d tb_91 0 [.ref 0, .int x1, .int x2] [] σ Q := by
  refine Wp.adv (pc' := 5) (ls' := [.ref 0, .int x1, .int x2]) (st' := [.int x1, .ref 1]) (σ' := σ) 3 rfl ?_
  exact Wp.call (q := (4, 2, 2, 8)) rfl (Nat.le_of_ble_eq_true rfl) rfl h
theorem b91_8 {d : Nat} {Q : Option Value → px_S → Prop} {σ : px_S} {x1 x2 s0 : Int32} (ht : ¬ s0 = 0 → Wp d tb_91 15 [.ref 0, .int x1, .int x2] [] σ Q) (hf : ¬ (¬ s0 = 0) → Wp d tb_91 11 [.ref 0, .int x1, .int x2] [] σ Q) : Wp d tb_91 8 [.ref 0, .int x1, .int x2] [.int s0] σ Q := by
  exact Wp.if_ rfl ht hf
theorem b91_11 {d : Nat} {Q : Option Value → px_S → Prop} {σ : px_S} {x1 x2 : Int32} (h : Q (some (.int (-1001 : Int32))) σ) : Wp d tb_91 11 [.ref 0, .int x1, .int x2] [] σ Q := by
  refine Wp.adv (pc' := 14) (ls' := [.ref 0, .int x1, .int x2]) (st' := [.int (-1001 : Int32)]) (σ' := σ) 1 rfl ?_
  exact Wp.ret rfl rfl h
theorem b91_15 {d : Nat} {Q : Option Value → px_S → Prop} {σ : px_S} {x1 x2 : Int32} (ht : x2 < 0 → Wp d tb_91 24 [.ref 0, .int x1, .int x2] [] σ Q) (hf : ¬ (x2 < 0) → Wp d tb_91 19 [.ref 0, .int x1, .int x2] [] σ Q) : Wp d tb_91 15 [.ref 0, .int x1, .int x2] [] σ Q := by
  refine Wp.adv (pc' := 16) (ls' := [.ref 0, .int x1, .int x2]) (st' := [.int x2]) (σ' := σ) 1 rfl ?_
  exact Wp.if_ rfl ht hf
theorem b91_19 {d : Nat} {Q : Option Value → px_S → Prop} {σ : px_S} {x1 x2 : Int32} (ht : x2 ≤ (1 : Int32) → Wp d tb_91 28 [.ref 0, .int x1, .int x2] [] σ Q) (hf : ¬ (x2 ≤ (1 : Int32)) → Wp d tb_91 24 [.ref 0, .int x1, .int x2] [] σ Q) : Wp d tb_91 19 [.ref 0, .int x1, .int x2] [] σ Q := by
  refine Wp.adv (pc' := 21) (ls' := [.ref 0, .int x1, .int x2]) (st' := [.int (1 : Int32), .int x2]) (σ' := σ) 2 rfl ?_
  exact Wp.icmp rfl ht hf
theorem b91_24 {d : Nat} {Q : Option Value → px_S → Prop} {σ : px_S} {x1 x2 : Int32} (h : Q (some (.int (-1002 : Int32))) σ) : Wp d tb_91 24 [.ref 0, .int x1, .int x2] [] σ Q := by
  refine Wp.adv (pc' := 27) (ls' := [.ref 0, .int x1, .int x2]) (st' := [.int (-1002 : Int32)]) (σ' := σ) 1 rfl ?_
  exact Wp.ret rfl rfl h
theorem b91_28 {d : Nat} {Q : Option Value → px_S → Prop} {σ : px_S} {x1 x2 : Int32} (h : Cw d 21 [.ref 1, .int x1] σ (fun r τ => Wp d tb_91 36 [.ref 0, .int x1, .int x2] (r.toList ++ []) τ Q)) : Wp d tb_91 28 [.ref 0, .int x1, .int x2] [] σ Q := by
  refine Wp.adv (pc' := 33) (ls' := [.ref 0, .int x1, .int x2]) (st' := [.int x1, .ref 1]) (σ' := σ) 3 rfl ?_
  exact Wp.call (q := (21, 2, 2, 36)) rfl (Nat.le_of_ble_eq_true rfl) rfl h
