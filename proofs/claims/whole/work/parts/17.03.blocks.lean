/-! ===== basic blocks, 3 ===== -/
theorem b91_36 {d : Nat} {Q : Option Value → px_S → Prop} {σ : px_S} {x1 x2 s0 : Int32} (ht : ¬ s0 = 0 → Wp d tb_91 43 [.ref 0, .int x1, .int x2] [] σ Q) (hf : ¬ (¬ s0 = 0) → Wp d tb_91 39 [.ref 0, .int x1, .int x2] [] σ Q) : Wp d tb_91 36 [.ref 0, .int x1, .int x2] [.int s0] σ Q := by
  exact Wp.if_ rfl ht hf
theorem b91_39 {d : Nat} {Q : Option Value → px_S → Prop} {σ : px_S} {x1 x2 : Int32} (h : Q (some (.int (-1003 : Int32))) σ) : Wp d tb_91 39 [.ref 0, .int x1, .int x2] [] σ Q := by
  refine Wp.adv (pc' := 42) (ls' := [.ref 0, .int x1, .int x2]) (st' := [.int (-1003 : Int32)]) (σ' := σ) 1 rfl ?_
  exact Wp.ret rfl rfl h
theorem b91_43 {d : Nat} {Q : Option Value → px_S → Prop} {σ : px_S} {x1 x2 : Int32} (c1 : vp_in x1 40) (ht : (σ.1 12 (x1).toNatClampNeg) = (-1 : Int32) → Wp d tb_91 66 [.ref 0, .int x1, .int x2] [] σ Q) (hf : ¬ ((σ.1 12 (x1).toNatClampNeg) = (-1 : Int32)) → Wp d tb_91 56 [.ref 0, .int x1, .int x2] [] σ Q) : Wp d tb_91 43 [.ref 0, .int x1, .int x2] [] σ Q := by
  refine Wp.adv (pc' := 51) (ls' := [.ref 0, .int x1, .int x2]) (st' := [.int x1, .ref 12]) (σ' := σ) 4 rfl ?_
  refine Wp.iald (N := 40) rfl rfl c1 ?_
  refine Wp.adv (pc' := 53) (ls' := [.ref 0, .int x1, .int x2]) (st' := [.int (-1 : Int32), .int (σ.1 12 (x1).toNatClampNeg)]) (σ' := σ) 1 rfl ?_
  exact Wp.icmp rfl ht hf
theorem b91_56 {d : Nat} {Q : Option Value → px_S → Prop} {σ : px_S} {x1 x2 : Int32} (c1 : vp_in x1 40) (h : Q (some (.int (σ.1 12 (x1).toNatClampNeg))) σ) : Wp d tb_91 56 [.ref 0, .int x1, .int x2] [] σ Q := by
  refine Wp.adv (pc' := 64) (ls' := [.ref 0, .int x1, .int x2]) (st' := [.int x1, .ref 12]) (σ' := σ) 4 rfl ?_
  refine Wp.iald (N := 40) rfl rfl c1 ?_
  exact Wp.ret rfl rfl h
theorem b91_66 {d : Nat} {Q : Option Value → px_S → Prop} {σ : px_S} {x1 x2 : Int32} (h : Cw d 23 [.ref 3, .int (-1 : Int32)] σ (fun r τ => Wp d tb_91 74 [.ref 0, .int x1, .int x2] (r.toList ++ []) τ Q)) : Wp d tb_91 66 [.ref 0, .int x1, .int x2] [] σ Q := by
  refine Wp.adv (pc' := 71) (ls' := [.ref 0, .int x1, .int x2]) (st' := [.int (-1 : Int32), .ref 3]) (σ' := σ) 3 rfl ?_
  exact Wp.call (q := (23, 2, 3, 74)) rfl (Nat.le_of_ble_eq_true rfl) rfl h
theorem b91_74 {d : Nat} {Q : Option Value → px_S → Prop} {σ : px_S} {x1 x2 : Int32} (ht : ¬ x2 = 0 → Wp d tb_91 89 [.ref 0, .int x1, .int x2] [] σ Q) (hf : ¬ (¬ x2 = 0) → Wp d tb_91 78 [.ref 0, .int x1, .int x2] [] σ Q) : Wp d tb_91 74 [.ref 0, .int x1, .int x2] [] σ Q := by
  refine Wp.adv (pc' := 75) (ls' := [.ref 0, .int x1, .int x2]) (st' := [.int x2]) (σ' := σ) 1 rfl ?_
  exact Wp.if_ rfl ht hf
theorem b91_78 {d : Nat} {Q : Option Value → px_S → Prop} {σ : px_S} {x1 x2 : Int32} (h : Cw d 92 [.ref 3, .int x1] σ (fun r τ => Wp d tb_91 86 [.ref 0, .int x1, .int x2] (r.toList ++ []) τ Q)) : Wp d tb_91 78 [.ref 0, .int x1, .int x2] [] σ Q := by
  refine Wp.adv (pc' := 83) (ls' := [.ref 0, .int x1, .int x2]) (st' := [.int x1, .ref 3]) (σ' := σ) 3 rfl ?_
  exact Wp.call (q := (92, 2, 3, 86)) rfl (Nat.le_of_ble_eq_true rfl) rfl h
theorem b91_86 {d : Nat} {Q : Option Value → px_S → Prop} {σ : px_S} {x1 x2 s0 : Int32} (h : Wp d tb_91 97 [.ref 0, .int x1, .int x2] [.int s0] σ Q) : Wp d tb_91 86 [.ref 0, .int x1, .int x2] [.int s0] σ Q := by
  refine Wp.adv (pc' := 97) (ls' := [.ref 0, .int x1, .int x2]) (st' := [.int s0]) (σ' := σ) 1 rfl ?_
  exact h
theorem b91_89 {d : Nat} {Q : Option Value → px_S → Prop} {σ : px_S} {x1 x2 : Int32} (h : Cw d 93 [.ref 3, .int x1] σ (fun r τ => Wp d tb_91 97 [.ref 0, .int x1, .int x2] (r.toList ++ []) τ Q)) : Wp d tb_91 89 [.ref 0, .int x1, .int x2] [] σ Q := by
  refine Wp.adv (pc' := 94) (ls' := [.ref 0, .int x1, .int x2]) (st' := [.int x1, .ref 3]) (σ' := σ) 3 rfl ?_
  exact Wp.call (q := (93, 2, 3, 97)) rfl (Nat.le_of_ble_eq_true rfl) rfl h
theorem b91_97 {d : Nat} {Q : Option Value → px_S → Prop} {σ : px_S} {x1 x2 s0 : Int32} (h : Q (some (.int s0)) σ) : Wp d tb_91 97 [.ref 0, .int x1, .int x2] [.int s0] σ Q := by
  exact Wp.ret rfl rfl h
theorem e91 {d : Nat} {Q : Option Value → px_S → Prop} {σ : px_S} {x1 x2 : Int32} (h : Wp d tb_91 0 [.ref 0, .int x1, .int x2] [] σ Q) : Cw (d + 1) 91 [.ref 0, .int x1, .int x2] σ Q := Cw.of (nL := 3) (y := yX8_span) (cc := cX8_span) (rt := some .int) rfl (Nat.le_of_ble_eq_true rfl) h
theorem b92_0 {d : Nat} {Q : Option Value → px_S → Prop} {σ : px_S} {x1 : Int32} {k : Nat} (hk : k = 3 ∨ k = 4) (c1 : vp_in x1 40) (h : Wp d tb_92 12 [.ref k, .int x1, .int (0 : Int32), .int (σ.1 (2 * k + 15) (x1).toNatClampNeg), .int (0 : Int32)] [] σ Q) : Wp d tb_92 0 [.ref k, .int x1, .null, .null, .null] [] σ Q := by
  rcases hk with rfl | rfl
  · refine Wp.adv (pc' := 7) (ls' := [.ref 3, .int x1, .int (0 : Int32), .null, .null]) (st' := [.int x1, .ref (2 * 3 + 15)]) (σ' := σ) 5 rfl ?_
    refine Wp.iald (N := 40) rfl rfl c1 ?_
    refine Wp.adv (pc' := 12) (ls' := [.ref 3, .int x1, .int (0 : Int32), .int (σ.1 (2 * 3 + 15) (x1).toNatClampNeg), .int (0 : Int32)]) (st' := []) (σ' := σ) 3 rfl ?_
    exact h
  · refine Wp.adv (pc' := 7) (ls' := [.ref 4, .int x1, .int (0 : Int32), .null, .null]) (st' := [.int x1, .ref (2 * 4 + 15)]) (σ' := σ) 5 rfl ?_
    refine Wp.iald (N := 40) rfl rfl c1 ?_
    refine Wp.adv (pc' := 12) (ls' := [.ref 4, .int x1, .int (0 : Int32), .int (σ.1 (2 * 4 + 15) (x1).toNatClampNeg), .int (0 : Int32)]) (st' := []) (σ' := σ) 3 rfl ?_
    exact h
theorem b92_12 {d : Nat} {Q : Option Value → px_S → Prop} {σ : px_S} {x1 x2 x3 x4 : Int32} {k : Nat} (hk : k = 3 ∨ k = 4) (ht : (40 : Int32) ≤ x4 → Wp d tb_92 51 [.ref k, .int x1, .int x2, .int x3, .int x4] [] σ Q) (hf : ¬ ((40 : Int32) ≤ x4) → Wp d tb_92 19 [.ref k, .int x1, .int x2, .int x3, .int x4] [] σ Q) : Wp d tb_92 12 [.ref k, .int x1, .int x2, .int x3, .int x4] [] σ Q := by
  rcases hk with rfl | rfl
  · refine Wp.adv (pc' := 16) (ls' := [.ref 3, .int x1, .int x2, .int x3, .int x4]) (st' := [.int (40 : Int32), .int x4]) (σ' := σ) 2 rfl ?_
    exact Wp.icmp rfl ht hf
  · refine Wp.adv (pc' := 16) (ls' := [.ref 4, .int x1, .int x2, .int x3, .int x4]) (st' := [.int (40 : Int32), .int x4]) (σ' := σ) 2 rfl ?_
    exact Wp.icmp rfl ht hf
theorem b92_19 {d : Nat} {Q : Option Value → px_S → Prop} {σ : px_S} {x1 x2 x3 x4 : Int32} {k : Nat} (hk : k = 3 ∨ k = 4) (ht : x3 = (-1 : Int32) → Wp d tb_92 51 [.ref k, .int x1, .int x2, .int x3, .int x4] [] σ Q) (hf : ¬ (x3 = (-1 : Int32)) → Wp d tb_92 24 [.ref k, .int x1, .int x2, .int x3, .int x4] [] σ Q) : Wp d tb_92 19 [.ref k, .int x1, .int x2, .int x3, .int x4] [] σ Q := by
  rcases hk with rfl | rfl
  · refine Wp.adv (pc' := 21) (ls' := [.ref 3, .int x1, .int x2, .int x3, .int x4]) (st' := [.int (-1 : Int32), .int x3]) (σ' := σ) 2 rfl ?_
    exact Wp.icmp rfl ht hf
  · refine Wp.adv (pc' := 21) (ls' := [.ref 4, .int x1, .int x2, .int x3, .int x4]) (st' := [.int (-1 : Int32), .int x3]) (σ' := σ) 2 rfl ?_
    exact Wp.icmp rfl ht hf
theorem b92_24 {d : Nat} {Q : Option Value → px_S → Prop} {σ : px_S} {x1 x2 x3 x4 : Int32} {k : Nat} (hk : k = 3 ∨ k = 4) (c1 : vp_in x3 40) (c2 : vp_in x3 40) (h : Wp d tb_92 12 [.ref k, .int x1, .int (if x2 < (σ.1 12 (x3).toNatClampNeg) then (σ.1 12 (x3).toNatClampNeg) else x2), .int (σ.1 (2 * k + 15) (x3).toNatClampNeg), .int (x4 + 1)] [] σ Q) : Wp d tb_92 24 [.ref k, .int x1, .int x2, .int x3, .int x4] [] σ Q := by
  rcases hk with rfl | rfl
  · refine Wp.adv (pc' := 33) (ls' := [.ref 3, .int x1, .int x2, .int x3, .int x4]) (st' := [.int x3, .ref 12, .int x2]) (σ' := σ) 5 rfl ?_
    refine Wp.iald (N := 40) rfl rfl c1 ?_
    refine Wp.adv (pc' := 43) (ls' := [.ref 3, .int x1, .int (if x2 < (σ.1 12 (x3).toNatClampNeg) then (σ.1 12 (x3).toNatClampNeg) else x2), .int x3, .int x4]) (st' := [.int x3, .ref (2 * 3 + 15)]) (σ' := σ) 5 rfl ?_
    refine Wp.iald (N := 40) rfl rfl c2 ?_
    refine Wp.adv (pc' := 12) (ls' := [.ref 3, .int x1, .int (if x2 < (σ.1 12 (x3).toNatClampNeg) then (σ.1 12 (x3).toNatClampNeg) else x2), .int (σ.1 (2 * 3 + 15) (x3).toNatClampNeg), .int (x4 + 1)]) (st' := []) (σ' := σ) 3 rfl ?_
    exact h
  · refine Wp.adv (pc' := 33) (ls' := [.ref 4, .int x1, .int x2, .int x3, .int x4]) (st' := [.int x3, .ref 12, .int x2]) (σ' := σ) 5 rfl ?_
    refine Wp.iald (N := 40) rfl rfl c1 ?_
    refine Wp.adv (pc' := 43) (ls' := [.ref 4, .int x1, .int (if x2 < (σ.1 12 (x3).toNatClampNeg) then (σ.1 12 (x3).toNatClampNeg) else x2), .int x3, .int x4]) (st' := [.int x3, .ref (2 * 4 + 15)]) (σ' := σ) 5 rfl ?_
    refine Wp.iald (N := 40) rfl rfl c2 ?_
    refine Wp.adv (pc' := 12) (ls' := [.ref 4, .int x1, .int (if x2 < (σ.1 12 (x3).toNatClampNeg) then (σ.1 12 (x3).toNatClampNeg) else x2), .int (σ.1 (2 * 4 + 15) (x3).toNatClampNeg), .int (x4 + 1)]) (st' := []) (σ' := σ) 3 rfl ?_
    exact h
theorem b92_51 {d : Nat} {Q : Option Value → px_S → Prop} {σ : px_S} {x1 x2 x3 x4 : Int32} {k : Nat} (hk : k = 3 ∨ k = 4) (h : Q (some (.int x2)) σ) : Wp d tb_92 51 [.ref k, .int x1, .int x2, .int x3, .int x4] [] σ Q := by
  rcases hk with rfl | rfl
  · refine Wp.adv (pc' := 52) (ls' := [.ref 3, .int x1, .int x2, .int x3, .int x4]) (st' := [.int x2]) (σ' := σ) 1 rfl ?_
    exact Wp.ret rfl rfl h
  · refine Wp.adv (pc' := 52) (ls' := [.ref 4, .int x1, .int x2, .int x3, .int x4]) (st' := [.int x2]) (σ' := σ) 1 rfl ?_
    exact Wp.ret rfl rfl h
theorem e92 {d : Nat} {Q : Option Value → px_S → Prop} {σ : px_S} {x1 : Int32} {k : Nat} (h : Wp d tb_92 0 [.ref k, .int x1, .null, .null, .null] [] σ Q) : Cw (d + 1) 92 [.ref k, .int x1] σ Q := Cw.of (nL := 5) (y := yX2_greatestDayAbove) (cc := cX2_greatestDayAbove) (rt := some .int) rfl (Nat.le_of_ble_eq_true rfl) h
theorem b93_0 {d : Nat} {Q : Option Value → px_S → Prop} {σ : px_S} {x1 : Int32} {k : Nat} (hk : k = 3 ∨ k = 4) (h : Wp d tb_93 6 [.ref k, .int x1, .int (9999 : Int32), .int (0 : Int32)] [] σ Q) : Wp d tb_93 0 [.ref k, .int x1, .null, .null] [] σ Q := by
  rcases hk with rfl | rfl
  · refine Wp.adv (pc' := 6) (ls' := [.ref 3, .int x1, .int (9999 : Int32), .int (0 : Int32)]) (st' := []) (σ' := σ) 4 rfl ?_
    exact h
  · refine Wp.adv (pc' := 6) (ls' := [.ref 4, .int x1, .int (9999 : Int32), .int (0 : Int32)]) (st' := []) (σ' := σ) 4 rfl ?_
    exact h
theorem b93_6 {d : Nat} {Q : Option Value → px_S → Prop} {σ : px_S} {x1 x2 x3 : Int32} {k : Nat} (hk : k = 3 ∨ k = 4) (ht : (σ.1 1 7) ≤ x3 → Wp d tb_93 72 [.ref k, .int x1, .int x2, .int x3] [] σ Q) (hf : ¬ ((σ.1 1 7) ≤ x3) → Wp d tb_93 17 [.ref k, .int x1, .int x2, .int x3] [] σ Q) : Wp d tb_93 6 [.ref k, .int x1, .int x2, .int x3] [] σ Q := by
  rcases hk with rfl | rfl
  · refine Wp.adv (pc' := 14) (ls' := [.ref 3, .int x1, .int x2, .int x3]) (st' := [.int (σ.1 1 7), .int x3]) (σ' := σ) 4 rfl ?_
    exact Wp.icmp rfl ht hf
  · refine Wp.adv (pc' := 14) (ls' := [.ref 4, .int x1, .int x2, .int x3]) (st' := [.int (σ.1 1 7), .int x3]) (σ' := σ) 4 rfl ?_
    exact Wp.icmp rfl ht hf
theorem b93_17 {d : Nat} {Q : Option Value → px_S → Prop} {σ : px_S} {x1 x2 x3 : Int32} {k : Nat} (hk : k = 3 ∨ k = 4) (ht : x3 = x1 → Wp d tb_93 66 [.ref k, .int x1, .int x2, .int x3] [] σ Q) (hf : ¬ (x3 = x1) → Wp d tb_93 22 [.ref k, .int x1, .int x2, .int x3] [] σ Q) : Wp d tb_93 17 [.ref k, .int x1, .int x2, .int x3] [] σ Q := by
  rcases hk with rfl | rfl
  · refine Wp.adv (pc' := 19) (ls' := [.ref 3, .int x1, .int x2, .int x3]) (st' := [.int x1, .int x3]) (σ' := σ) 2 rfl ?_
    exact Wp.icmp rfl ht hf
  · refine Wp.adv (pc' := 19) (ls' := [.ref 4, .int x1, .int x2, .int x3]) (st' := [.int x1, .int x3]) (σ' := σ) 2 rfl ?_
    exact Wp.icmp rfl ht hf
theorem b93_22 {d : Nat} {Q : Option Value → px_S → Prop} {σ : px_S} {x1 x2 x3 : Int32} {k : Nat} (hk : k = 3 ∨ k = 4) (c1 : vp_in x3 40) (ht : (σ.1 12 (x3).toNatClampNeg) = (-1 : Int32) → Wp d tb_93 66 [.ref k, .int x1, .int x2, .int x3] [] σ Q) (hf : ¬ ((σ.1 12 (x3).toNatClampNeg) = (-1 : Int32)) → Wp d tb_93 35 [.ref k, .int x1, .int x2, .int x3] [] σ Q) : Wp d tb_93 22 [.ref k, .int x1, .int x2, .int x3] [] σ Q := by
  rcases hk with rfl | rfl
  · refine Wp.adv (pc' := 30) (ls' := [.ref 3, .int x1, .int x2, .int x3]) (st' := [.int x3, .ref 12]) (σ' := σ) 4 rfl ?_
    refine Wp.iald (N := 40) rfl rfl c1 ?_
    refine Wp.adv (pc' := 32) (ls' := [.ref 3, .int x1, .int x2, .int x3]) (st' := [.int (-1 : Int32), .int (σ.1 12 (x3).toNatClampNeg)]) (σ' := σ) 1 rfl ?_
    exact Wp.icmp rfl ht hf
  · refine Wp.adv (pc' := 30) (ls' := [.ref 4, .int x1, .int x2, .int x3]) (st' := [.int x3, .ref 12]) (σ' := σ) 4 rfl ?_
    refine Wp.iald (N := 40) rfl rfl c1 ?_
    refine Wp.adv (pc' := 32) (ls' := [.ref 4, .int x1, .int x2, .int x3]) (st' := [.int (-1 : Int32), .int (σ.1 12 (x3).toNatClampNeg)]) (σ' := σ) 1 rfl ?_
    exact Wp.icmp rfl ht hf
theorem b93_35 {d : Nat} {Q : Option Value → px_S → Prop} {σ : px_S} {x1 x2 x3 : Int32} {k : Nat} (hk : k = 3 ∨ k = 4) (h : Cw d 24 [.ref k, .int x3] σ (fun r τ => Wp d tb_93 40 [.ref k, .int x1, .int x2, .int x3] (r.toList ++ []) τ Q)) : Wp d tb_93 35 [.ref k, .int x1, .int x2, .int x3] [] σ Q := by
  rcases hk with rfl | rfl
  · refine Wp.adv (pc' := 37) (ls' := [.ref 3, .int x1, .int x2, .int x3]) (st' := [.int x3, .ref 3]) (σ' := σ) 2 rfl ?_
    exact Wp.call (q := (24, 2, 3, 40)) rfl (Nat.le_of_ble_eq_true rfl) rfl h
  · refine Wp.adv (pc' := 37) (ls' := [.ref 4, .int x1, .int x2, .int x3]) (st' := [.int x3, .ref 4]) (σ' := σ) 2 rfl ?_
    exact Wp.call (q := (24, 2, 3, 40)) rfl (Nat.le_of_ble_eq_true rfl) rfl h
theorem b93_40 {d : Nat} {Q : Option Value → px_S → Prop} {σ : px_S} {x1 x2 x3 s0 : Int32} {k : Nat} (hk : k = 3 ∨ k = 4) (ht : s0 = 0 → Wp d tb_93 66 [.ref k, .int x1, .int x2, .int x3] [] σ Q) (hf : ¬ (s0 = 0) → Wp d tb_93 43 [.ref k, .int x1, .int x2, .int x3] [] σ Q) : Wp d tb_93 40 [.ref k, .int x1, .int x2, .int x3] [.int s0] σ Q := by
  rcases hk with rfl | rfl
  · exact Wp.if_ rfl ht hf
  · exact Wp.if_ rfl ht hf
theorem b93_43 {d : Nat} {Q : Option Value → px_S → Prop} {σ : px_S} {x1 x2 x3 : Int32} {k : Nat} (hk : k = 3 ∨ k = 4) (h : Cw d 27 [.ref k, .int x3, .int x1] σ (fun r τ => Wp d tb_93 49 [.ref k, .int x1, .int x2, .int x3] (r.toList ++ []) τ Q)) : Wp d tb_93 43 [.ref k, .int x1, .int x2, .int x3] [] σ Q := by
  rcases hk with rfl | rfl
  · refine Wp.adv (pc' := 46) (ls' := [.ref 3, .int x1, .int x2, .int x3]) (st' := [.int x1, .int x3, .ref 3]) (σ' := σ) 3 rfl ?_
    exact Wp.call (q := (27, 3, 3, 49)) rfl (Nat.le_of_ble_eq_true rfl) rfl h
  · refine Wp.adv (pc' := 46) (ls' := [.ref 4, .int x1, .int x2, .int x3]) (st' := [.int x1, .int x3, .ref 4]) (σ' := σ) 3 rfl ?_
    exact Wp.call (q := (27, 3, 3, 49)) rfl (Nat.le_of_ble_eq_true rfl) rfl h
theorem b93_49 {d : Nat} {Q : Option Value → px_S → Prop} {σ : px_S} {x1 x2 x3 s0 : Int32} {k : Nat} (hk : k = 3 ∨ k = 4) (ht : s0 = 0 → Wp d tb_93 66 [.ref k, .int x1, .int x2, .int x3] [] σ Q) (hf : ¬ (s0 = 0) → Wp d tb_93 52 [.ref k, .int x1, .int x2, .int x3] [] σ Q) : Wp d tb_93 49 [.ref k, .int x1, .int x2, .int x3] [.int s0] σ Q := by
  rcases hk with rfl | rfl
  · exact Wp.if_ rfl ht hf
  · exact Wp.if_ rfl ht hf
theorem b93_52 {d : Nat} {Q : Option Value → px_S → Prop} {σ : px_S} {x1 x2 x3 : Int32} {k : Nat} (hk : k = 3 ∨ k = 4) (c1 : vp_in x3 40) (h : Wp d tb_93 66 [.ref k, .int x1, .int (if (σ.1 12 (x3).toNatClampNeg) < x2 then (σ.1 12 (x3).toNatClampNeg) else x2), .int x3] [] σ Q) : Wp d tb_93 52 [.ref k, .int x1, .int x2, .int x3] [] σ Q := by
  rcases hk with rfl | rfl
  · refine Wp.adv (pc' := 61) (ls' := [.ref 3, .int x1, .int x2, .int x3]) (st' := [.int x3, .ref 12, .int x2]) (σ' := σ) 5 rfl ?_
    refine Wp.iald (N := 40) rfl rfl c1 ?_
    refine Wp.adv (pc' := 66) (ls' := [.ref 3, .int x1, .int (if (σ.1 12 (x3).toNatClampNeg) < x2 then (σ.1 12 (x3).toNatClampNeg) else x2), .int x3]) (st' := []) (σ' := σ) 2 rfl ?_
    exact h
  · refine Wp.adv (pc' := 61) (ls' := [.ref 4, .int x1, .int x2, .int x3]) (st' := [.int x3, .ref 12, .int x2]) (σ' := σ) 5 rfl ?_
    refine Wp.iald (N := 40) rfl rfl c1 ?_
    refine Wp.adv (pc' := 66) (ls' := [.ref 4, .int x1, .int (if (σ.1 12 (x3).toNatClampNeg) < x2 then (σ.1 12 (x3).toNatClampNeg) else x2), .int x3]) (st' := []) (σ' := σ) 2 rfl ?_
    exact h
theorem b93_66 {d : Nat} {Q : Option Value → px_S → Prop} {σ : px_S} {x1 x2 x3 : Int32} {k : Nat} (hk : k = 3 ∨ k = 4) (h : Wp d tb_93 6 [.ref k, .int x1, .int x2, .int (x3 + 1)] [] σ Q) : Wp d tb_93 66 [.ref k, .int x1, .int x2, .int x3] [] σ Q := by
  rcases hk with rfl | rfl
  · refine Wp.adv (pc' := 6) (ls' := [.ref 3, .int x1, .int x2, .int (x3 + 1)]) (st' := []) (σ' := σ) 2 rfl ?_
    exact h
  · refine Wp.adv (pc' := 6) (ls' := [.ref 4, .int x1, .int x2, .int (x3 + 1)]) (st' := []) (σ' := σ) 2 rfl ?_
    exact h
theorem b93_72 {d : Nat} {Q : Option Value → px_S → Prop} {σ : px_S} {x1 x2 x3 : Int32} {k : Nat} (hk : k = 3 ∨ k = 4) (h : Q (some (.int x2)) σ) : Wp d tb_93 72 [.ref k, .int x1, .int x2, .int x3] [] σ Q := by
  rcases hk with rfl | rfl
  · refine Wp.adv (pc' := 73) (ls' := [.ref 3, .int x1, .int x2, .int x3]) (st' := [.int x2]) (σ' := σ) 1 rfl ?_
    exact Wp.ret rfl rfl h
  · refine Wp.adv (pc' := 73) (ls' := [.ref 4, .int x1, .int x2, .int x3]) (st' := [.int x2]) (σ' := σ) 1 rfl ?_
    exact Wp.ret rfl rfl h
theorem e93 {d : Nat} {Q : Option Value → px_S → Prop} {σ : px_S} {x1 : Int32} {k : Nat} (h : Wp d tb_93 0 [.ref k, .int x1, .null, .null] [] σ Q) : Cw (d + 1) 93 [.ref k, .int x1] σ Q := Cw.of (nL := 4) (y := yX2_leastDayBelow) (cc := cX2_leastDayBelow) (rt := some .int) rfl (Nat.le_of_ble_eq_true rfl) h
theorem b94_0 {d : Nat} {Q : Option Value → px_S → Prop} {σ : px_S} {x1 : Int32} (ht : x1 < 0 → Wp d tb_94 10 [.ref 0, .int x1] [] σ Q) (hf : ¬ (x1 < 0) → Wp d tb_94 4 [.ref 0, .int x1] [] σ Q) : Wp d tb_94 0 [.ref 0, .int x1] [] σ Q := by
  refine Wp.adv (pc' := 1) (ls' := [.ref 0, .int x1]) (st' := [.int x1]) (σ' := σ) 1 rfl ?_
  exact Wp.if_ rfl ht hf
theorem b94_4 {d : Nat} {Q : Option Value → px_S → Prop} {σ : px_S} {x1 : Int32} (ht : x1 ≤ (63 : Int32) → Wp d tb_94 14 [.ref 0, .int x1] [] σ Q) (hf : ¬ (x1 ≤ (63 : Int32)) → Wp d tb_94 10 [.ref 0, .int x1] [] σ Q) : Wp d tb_94 4 [.ref 0, .int x1] [] σ Q := by
  refine Wp.adv (pc' := 7) (ls' := [.ref 0, .int x1]) (st' := [.int (63 : Int32), .int x1]) (σ' := σ) 2 rfl ?_
  exact Wp.icmp rfl ht hf
theorem b94_10 {d : Nat} {Q : Option Value → px_S → Prop} {σ : px_S} {x1 : Int32} (h : Q (some (.int (-1002 : Int32))) σ) : Wp d tb_94 10 [.ref 0, .int x1] [] σ Q := by
  refine Wp.adv (pc' := 13) (ls' := [.ref 0, .int x1]) (st' := [.int (-1002 : Int32)]) (σ' := σ) 1 rfl ?_
  exact Wp.ret rfl rfl h
theorem b94_14 {d : Nat} {Q : Option Value → px_S → Prop} {σ : px_S} {x1 : Int32} (ht : (σ.1 7 1) < (4 : Int32) → Wp d tb_94 31 [.ref 0, .int x1] [] σ Q) (hf : ¬ ((σ.1 7 1) < (4 : Int32)) → Wp d tb_94 25 [.ref 0, .int x1] [] σ Q) : Wp d tb_94 14 [.ref 0, .int x1] [] σ Q := by
  refine Wp.adv (pc' := 22) (ls' := [.ref 0, .int x1]) (st' := [.int (4 : Int32), .int (σ.1 7 1)]) (σ' := σ) 4 rfl ?_
  exact Wp.icmp rfl ht hf
theorem b94_25 {d : Nat} {Q : Option Value → px_S → Prop} {σ : px_S} {x1 : Int32} (h : Wp d tb_94 39 [.ref 0, .int x1] [.int (-1004 : Int32)] σ Q) : Wp d tb_94 25 [.ref 0, .int x1] [] σ Q := by
  refine Wp.adv (pc' := 39) (ls' := [.ref 0, .int x1]) (st' := [.int (-1004 : Int32)]) (σ' := σ) 2 rfl ?_
  exact h
theorem b94_31 {d : Nat} {Q : Option Value → px_S → Prop} {σ : px_S} {x1 : Int32} (h : Cw d 95 [.ref 7, .int x1] σ (fun r τ => Wp d tb_94 39 [.ref 0, .int x1] (r.toList ++ []) τ Q)) : Wp d tb_94 31 [.ref 0, .int x1] [] σ Q := by
  refine Wp.adv (pc' := 36) (ls' := [.ref 0, .int x1]) (st' := [.int x1, .ref 7]) (σ' := σ) 3 rfl ?_
  exact Wp.call (q := (95, 2, 5, 39)) rfl (Nat.le_of_ble_eq_true rfl) rfl h
theorem b94_39 {d : Nat} {Q : Option Value → px_S → Prop} {σ : px_S} {x1 s0 : Int32} (h : Q (some (.int s0)) σ) : Wp d tb_94 39 [.ref 0, .int x1] [.int s0] σ Q := by
  exact Wp.ret rfl rfl h
theorem e94 {d : Nat} {Q : Option Value → px_S → Prop} {σ : px_S} {x1 : Int32} (h : Wp d tb_94 0 [.ref 0, .int x1] [] σ Q) : Cw (d + 1) 94 [.ref 0, .int x1] σ Q := Cw.of (nL := 2) (y := yX8_sign) (cc := cX8_sign) (rt := some .int) rfl (Nat.le_of_ble_eq_true rfl) h
theorem b95_0 {d : Nat} {Q : Option Value → px_S → Prop} {σ : px_S} {x1 : Int32} (ht : (4 : Int32) ≤ (σ.1 7 1) → Wp d tb_95 28 [.ref 7, .int x1] [] σ Q) (hf : ¬ ((4 : Int32) ≤ (σ.1 7 1)) → Wp d tb_95 8 [.ref 7, .int x1] [] σ Q) : Wp d tb_95 0 [.ref 7, .int x1] [] σ Q := by
  refine Wp.adv (pc' := 5) (ls' := [.ref 7, .int x1]) (st' := [.int (4 : Int32), .int (σ.1 7 1)]) (σ' := σ) 3 rfl ?_
  exact Wp.icmp rfl ht hf
theorem b95_8 {d : Nat} {Q : Option Value → px_S → Prop} {σ : px_S} {x1 : Int32} (c1 : vp_in (σ.1 7 1) 4) (h : Wp d tb_95 18 [.ref 7, .int x1] [] (px_uI σ 34 ((σ.1 7 1)).toNatClampNeg x1) Q) : Wp d tb_95 8 [.ref 7, .int x1] [] σ Q := by
  refine Wp.adv (pc' := 17) (ls' := [.ref 7, .int x1]) (st' := [.int x1, .int (σ.1 7 1), .ref 34]) (σ' := σ) 5 rfl ?_
  refine Wp.iast (N := 4) rfl rfl c1 ?_
  exact h
theorem b95_18 {d : Nat} {Q : Option Value → px_S → Prop} {σ : px_S} {x1 : Int32} (h : Wp d tb_95 28 [.ref 7, .int x1] [] (px_uI σ 7 1 ((σ.1 7 1) + (1 : Int32))) Q) : Wp d tb_95 18 [.ref 7, .int x1] [] σ Q := by
  refine Wp.adv (pc' := 25) (ls' := [.ref 7, .int x1]) (st' := [.int ((σ.1 7 1) + (1 : Int32)), .ref 7]) (σ' := σ) 5 rfl ?_
  refine Wp.step (q := (28, [.ref 7, .int x1], [], (px_uI σ 7 1 ((σ.1 7 1) + (1 : Int32))))) rfl rfl ?_
  exact h
theorem b95_28 {d : Nat} {Q : Option Value → px_S → Prop} {σ : px_S} {x1 : Int32} (h : Q (some (.int (σ.1 7 1))) σ) : Wp d tb_95 28 [.ref 7, .int x1] [] σ Q := by
  refine Wp.adv (pc' := 32) (ls' := [.ref 7, .int x1]) (st' := [.int (σ.1 7 1)]) (σ' := σ) 2 rfl ?_
  exact Wp.ret rfl rfl h
theorem e95 {d : Nat} {Q : Option Value → px_S → Prop} {σ : px_S} {x1 : Int32} (h : Wp d tb_95 0 [.ref 7, .int x1] [] σ Q) : Cw (d + 1) 95 [.ref 7, .int x1] σ Q := Cw.of (nL := 2) (y := yX4_addSign) (cc := cX4_addSign) (rt := some .int) rfl (Nat.le_of_ble_eq_true rfl) h
theorem b96_0 {d : Nat} {Q : Option Value → px_S → Prop} {σ : px_S}  (h : Wp d tb_96 16 [.ref 0, .int (σ.1 7 1)] [] (px_uI σ 7 1 (0 : Int32)) Q) : Wp d tb_96 0 [.ref 0, .null] [] σ Q := by
  refine Wp.adv (pc' := 13) (ls' := [.ref 0, .int (σ.1 7 1)]) (st' := [.int (0 : Int32), .ref 7]) (σ' := σ) 7 rfl ?_
  refine Wp.step (q := (16, [.ref 0, .int (σ.1 7 1)], [], (px_uI σ 7 1 (0 : Int32)))) rfl rfl ?_
  exact h
theorem b96_16 {d : Nat} {Q : Option Value → px_S → Prop} {σ : px_S} {x1 : Int32} (h : Q (some (.int x1)) σ) : Wp d tb_96 16 [.ref 0, .int x1] [] σ Q := by
  refine Wp.adv (pc' := 17) (ls' := [.ref 0, .int x1]) (st' := [.int x1]) (σ' := σ) 1 rfl ?_
  exact Wp.ret rfl rfl h
theorem e96 {d : Nat} {Q : Option Value → px_S → Prop} {σ : px_S}  (h : Wp d tb_96 0 [.ref 0, .null] [] σ Q) : Cw (d + 1) 96 [.ref 0] σ Q := Cw.of (nL := 2) (y := yX8_clear) (cc := cX8_clear) (rt := some .int) rfl (Nat.le_of_ble_eq_true rfl) h
theorem b97_0 {d : Nat} {Q : Option Value → px_S → Prop} {σ : px_S} {x1 x2 x3 : Int32} (ht : x1 = (-1 : Int32) → Wp d tb_97 12 [.ref 0, .int x1, .int x2, .int x3, .null, .null, .null, .null] [] σ Q) (hf : ¬ (x1 = (-1 : Int32)) → Wp d tb_97 5 [.ref 0, .int x1, .int x2, .int x3, .null, .null, .null, .null] [] σ Q) : Wp d tb_97 0 [.ref 0, .int x1, .int x2, .int x3, .null, .null, .null, .null] [] σ Q := by
  refine Wp.adv (pc' := 2) (ls' := [.ref 0, .int x1, .int x2, .int x3, .null, .null, .null, .null]) (st' := [.int (-1 : Int32), .int x1]) (σ' := σ) 2 rfl ?_
  exact Wp.icmp rfl ht hf
theorem b97_5 {d : Nat} {Q : Option Value → px_S → Prop} {σ : px_S} {x1 x2 x3 : Int32} (h : Cw d 5 [.int x1] σ (fun r τ => Wp d tb_97 9 [.ref 0, .int x1, .int x2, .int x3, .null, .null, .null, .null] (r.toList ++ []) τ Q)) : Wp d tb_97 5 [.ref 0, .int x1, .int x2, .int x3, .null, .null, .null, .null] [] σ Q := by
  refine Wp.adv (pc' := 6) (ls' := [.ref 0, .int x1, .int x2, .int x3, .null, .null, .null, .null]) (st' := [.int x1]) (σ' := σ) 1 rfl ?_
  exact Wp.call (q := (5, 1, 0, 9)) rfl (Nat.le_of_ble_eq_true rfl) rfl h
theorem b97_9 {d : Nat} {Q : Option Value → px_S → Prop} {σ : px_S} {x1 x2 x3 s0 : Int32} (ht : ¬ s0 = 0 → Wp d tb_97 21 [.ref 0, .int x1, .int x2, .int x3, .null, .null, .null, .null] [] σ Q) (hf : ¬ (¬ s0 = 0) → Wp d tb_97 12 [.ref 0, .int x1, .int x2, .int x3, .null, .null, .null, .null] [] σ Q) : Wp d tb_97 9 [.ref 0, .int x1, .int x2, .int x3, .null, .null, .null, .null] [.int s0] σ Q := by
  exact Wp.if_ rfl ht hf
theorem b97_12 {d : Nat} {Q : Option Value → px_S → Prop} {σ : px_S} {x1 x2 x3 : Int32} (ht : x2 < 0 → Wp d tb_97 21 [.ref 0, .int x1, .int x2, .int x3, .null, .null, .null, .null] [] σ Q) (hf : ¬ (x2 < 0) → Wp d tb_97 16 [.ref 0, .int x1, .int x2, .int x3, .null, .null, .null, .null] [] σ Q) : Wp d tb_97 12 [.ref 0, .int x1, .int x2, .int x3, .null, .null, .null, .null] [] σ Q := by
  refine Wp.adv (pc' := 13) (ls' := [.ref 0, .int x1, .int x2, .int x3, .null, .null, .null, .null]) (st' := [.int x2]) (σ' := σ) 1 rfl ?_
  exact Wp.if_ rfl ht hf
theorem b97_16 {d : Nat} {Q : Option Value → px_S → Prop} {σ : px_S} {x1 x2 x3 : Int32} (ht : x2 ≤ (2 : Int32) → Wp d tb_97 25 [.ref 0, .int x1, .int x2, .int x3, .null, .null, .null, .null] [] σ Q) (hf : ¬ (x2 ≤ (2 : Int32)) → Wp d tb_97 21 [.ref 0, .int x1, .int x2, .int x3, .null, .null, .null, .null] [] σ Q) : Wp d tb_97 16 [.ref 0, .int x1, .int x2, .int x3, .null, .null, .null, .null] [] σ Q := by
  refine Wp.adv (pc' := 18) (ls' := [.ref 0, .int x1, .int x2, .int x3, .null, .null, .null, .null]) (st' := [.int (2 : Int32), .int x2]) (σ' := σ) 2 rfl ?_
  exact Wp.icmp rfl ht hf
theorem b97_21 {d : Nat} {Q : Option Value → px_S → Prop} {σ : px_S} {x1 x2 x3 : Int32} (h : Q (some (.int (-1002 : Int32))) σ) : Wp d tb_97 21 [.ref 0, .int x1, .int x2, .int x3, .null, .null, .null, .null] [] σ Q := by
  refine Wp.adv (pc' := 24) (ls' := [.ref 0, .int x1, .int x2, .int x3, .null, .null, .null, .null]) (st' := [.int (-1002 : Int32)]) (σ' := σ) 1 rfl ?_
  exact Wp.ret rfl rfl h
theorem b97_25 {d : Nat} {Q : Option Value → px_S → Prop} {σ : px_S} {x1 x2 x3 : Int32} (ht : ¬ (σ.1 7 1) = 0 → Wp d tb_97 39 [.ref 0, .int x1, .int x2, .int x3, .null, .null, .null, .null] [] σ Q) (hf : ¬ (¬ (σ.1 7 1) = 0) → Wp d tb_97 35 [.ref 0, .int x1, .int x2, .int x3, .null, .null, .null, .null] [] σ Q) : Wp d tb_97 25 [.ref 0, .int x1, .int x2, .int x3, .null, .null, .null, .null] [] σ Q := by
  refine Wp.adv (pc' := 32) (ls' := [.ref 0, .int x1, .int x2, .int x3, .null, .null, .null, .null]) (st' := [.int (σ.1 7 1)]) (σ' := σ) 3 rfl ?_
  exact Wp.if_ rfl ht hf
theorem b97_35 {d : Nat} {Q : Option Value → px_S → Prop} {σ : px_S} {x1 x2 x3 : Int32} (h : Q (some (.int (-1003 : Int32))) σ) : Wp d tb_97 35 [.ref 0, .int x1, .int x2, .int x3, .null, .null, .null, .null] [] σ Q := by
  refine Wp.adv (pc' := 38) (ls' := [.ref 0, .int x1, .int x2, .int x3, .null, .null, .null, .null]) (st' := [.int (-1003 : Int32)]) (σ' := σ) 1 rfl ?_
  exact Wp.ret rfl rfl h
theorem b97_39 {d : Nat} {Q : Option Value → px_S → Prop} {σ : px_S} {x1 x2 x3 : Int32} (h : Wp d tb_97 45 [.ref 0, .int x1, .int x2, .int x3, .int (0 : Int32), .int (0 : Int32), .null, .null] [] σ Q) : Wp d tb_97 39 [.ref 0, .int x1, .int x2, .int x3, .null, .null, .null, .null] [] σ Q := by
  refine Wp.adv (pc' := 45) (ls' := [.ref 0, .int x1, .int x2, .int x3, .int (0 : Int32), .int (0 : Int32), .null, .null]) (st' := []) (σ' := σ) 4 rfl ?_
  exact h
theorem b97_45 {d : Nat} {Q : Option Value → px_S → Prop} {σ : px_S} {x1 x2 x3 x4 x5 : Int32} {v6 v7 : Value} (ht : (σ.1 1 7) ≤ x5 → Wp d tb_97 182 [.ref 0, .int x1, .int x2, .int x3, .int x4, .int x5, v6, v7] [] σ Q) (hf : ¬ ((σ.1 1 7) ≤ x5) → Wp d tb_97 57 [.ref 0, .int x1, .int x2, .int x3, .int x4, .int x5, v6, v7] [] σ Q) : Wp d tb_97 45 [.ref 0, .int x1, .int x2, .int x3, .int x4, .int x5, v6, v7] [] σ Q := by
  refine Wp.adv (pc' := 54) (ls' := [.ref 0, .int x1, .int x2, .int x3, .int x4, .int x5, v6, v7]) (st' := [.int (σ.1 1 7), .int x5]) (σ' := σ) 4 rfl ?_
  exact Wp.icmp rfl ht hf
theorem b97_57 {d : Nat} {Q : Option Value → px_S → Prop} {σ : px_S} {x1 x2 x3 x4 x5 : Int32} {v6 v7 : Value} (nv6 : px_nc v6 = true) (nv7 : px_nc v7 = true) (h : Cw d 21 [.ref 1, .int x5] σ (fun r τ => Wp d tb_97 66 [.ref 0, .int x1, .int x2, .int x3, .int x4, .int x5, v6, v7] (r.toList ++ []) τ Q)) : Wp d tb_97 57 [.ref 0, .int x1, .int x2, .int x3, .int x4, .int x5, v6, v7] [] σ Q := by
  refine Wp.adv (pc' := 63) (ls' := [.ref 0, .int x1, .int x2, .int x3, .int x4, .int x5, v6, v7]) (st' := [.int x5, .ref 1]) (σ' := σ) 3 rfl ?_
  exact Wp.call (q := (21, 2, 2, 66)) rfl (Nat.le_of_ble_eq_true rfl) (px_okc_mk rfl rfl rfl (by simp only [List.all_cons, List.all_nil, nv6, nv7]; rfl)) h
theorem b97_66 {d : Nat} {Q : Option Value → px_S → Prop} {σ : px_S} {x1 x2 x3 x4 x5 s0 : Int32} {v6 v7 : Value} (ht : s0 = 0 → Wp d tb_97 176 [.ref 0, .int x1, .int x2, .int x3, .int x4, .int x5, v6, v7] [] σ Q) (hf : ¬ (s0 = 0) → Wp d tb_97 69 [.ref 0, .int x1, .int x2, .int x3, .int x4, .int x5, v6, v7] [] σ Q) : Wp d tb_97 66 [.ref 0, .int x1, .int x2, .int x3, .int x4, .int x5, v6, v7] [.int s0] σ Q := by
  exact Wp.if_ rfl ht hf
theorem b97_69 {d : Nat} {Q : Option Value → px_S → Prop} {σ : px_S} {x1 x2 x3 x4 x5 : Int32} {v6 v7 : Value} (ht : x1 = (-1 : Int32) → Wp d tb_97 91 [.ref 0, .int x1, .int x2, .int x3, .int x4, .int x5, v6, v7] [] σ Q) (hf : ¬ (x1 = (-1 : Int32)) → Wp d tb_97 74 [.ref 0, .int x1, .int x2, .int x3, .int x4, .int x5, v6, v7] [] σ Q) : Wp d tb_97 69 [.ref 0, .int x1, .int x2, .int x3, .int x4, .int x5, v6, v7] [] σ Q := by
  refine Wp.adv (pc' := 71) (ls' := [.ref 0, .int x1, .int x2, .int x3, .int x4, .int x5, v6, v7]) (st' := [.int (-1 : Int32), .int x1]) (σ' := σ) 2 rfl ?_
  exact Wp.icmp rfl ht hf
theorem b97_74 {d : Nat} {Q : Option Value → px_S → Prop} {σ : px_S} {x1 x2 x3 x4 x5 : Int32} {v6 v7 : Value} (c1 : vp_in x5 40) (ht : (σ.1 11 (x5).toNatClampNeg) = x1 → Wp d tb_97 91 [.ref 0, .int x1, .int x2, .int x3, .int x4, .int x5, v6, v7] [] σ Q) (hf : ¬ ((σ.1 11 (x5).toNatClampNeg) = x1) → Wp d tb_97 88 [.ref 0, .int x1, .int x2, .int x3, .int x4, .int x5, v6, v7] [] σ Q) : Wp d tb_97 74 [.ref 0, .int x1, .int x2, .int x3, .int x4, .int x5, v6, v7] [] σ Q := by
  refine Wp.adv (pc' := 83) (ls' := [.ref 0, .int x1, .int x2, .int x3, .int x4, .int x5, v6, v7]) (st' := [.int x5, .ref 11]) (σ' := σ) 4 rfl ?_
  refine Wp.iald (N := 40) rfl rfl c1 ?_
  refine Wp.adv (pc' := 85) (ls' := [.ref 0, .int x1, .int x2, .int x3, .int x4, .int x5, v6, v7]) (st' := [.int x1, .int (σ.1 11 (x5).toNatClampNeg)]) (σ' := σ) 1 rfl ?_
  exact Wp.icmp rfl ht hf
theorem b97_88 {d : Nat} {Q : Option Value → px_S → Prop} {σ : px_S} {x1 x2 x3 x4 x5 : Int32} {v6 v7 : Value} (h : Wp d tb_97 176 [.ref 0, .int x1, .int x2, .int x3, .int x4, .int x5, v6, v7] [] σ Q) : Wp d tb_97 88 [.ref 0, .int x1, .int x2, .int x3, .int x4, .int x5, v6, v7] [] σ Q := by
  refine Wp.adv (pc' := 176) (ls' := [.ref 0, .int x1, .int x2, .int x3, .int x4, .int x5, v6, v7]) (st' := []) (σ' := σ) 1 rfl ?_
  exact h
theorem b97_91 {d : Nat} {Q : Option Value → px_S → Prop} {σ : px_S} {x1 x2 x3 x4 x5 : Int32} {v6 v7 : Value} (h : Wp d tb_97 94 [.ref 0, .int x1, .int x2, .int x3, .int x4, .int x5, .int (0 : Int32), v7] [] σ Q) : Wp d tb_97 91 [.ref 0, .int x1, .int x2, .int x3, .int x4, .int x5, v6, v7] [] σ Q := by
  refine Wp.adv (pc' := 94) (ls' := [.ref 0, .int x1, .int x2, .int x3, .int x4, .int x5, .int (0 : Int32), v7]) (st' := []) (σ' := σ) 2 rfl ?_
  exact h
theorem b97_94 {d : Nat} {Q : Option Value → px_S → Prop} {σ : px_S} {x1 x2 x3 x4 x5 x6 : Int32} {v7 : Value} (c1 : vp_in x5 40) (ht : (σ.1 14 (x5).toNatClampNeg) ≤ x6 → Wp d tb_97 176 [.ref 0, .int x1, .int x2, .int x3, .int x4, .int x5, .int x6, v7] [] σ Q) (hf : ¬ ((σ.1 14 (x5).toNatClampNeg) ≤ x6) → Wp d tb_97 109 [.ref 0, .int x1, .int x2, .int x3, .int x4, .int x5, .int x6, v7] [] σ Q) : Wp d tb_97 94 [.ref 0, .int x1, .int x2, .int x3, .int x4, .int x5, .int x6, v7] [] σ Q := by
  refine Wp.adv (pc' := 105) (ls' := [.ref 0, .int x1, .int x2, .int x3, .int x4, .int x5, .int x6, v7]) (st' := [.int x5, .ref 14, .int x6]) (σ' := σ) 5 rfl ?_
  refine Wp.iald (N := 40) rfl rfl c1 ?_
  exact Wp.icmp rfl ht hf
theorem b97_109 {d : Nat} {Q : Option Value → px_S → Prop} {σ : px_S} {x1 x2 x3 x4 x5 x6 : Int32} {v7 : Value} (nv7 : px_nc v7 = true) (h : Cw d 11 [.int x5, .int x6] σ (fun r τ => Wp d tb_97 116 [.ref 0, .int x1, .int x2, .int x3, .int x4, .int x5, .int x6, v7] (r.toList ++ []) τ Q)) : Wp d tb_97 109 [.ref 0, .int x1, .int x2, .int x3, .int x4, .int x5, .int x6, v7] [] σ Q := by
  refine Wp.adv (pc' := 113) (ls' := [.ref 0, .int x1, .int x2, .int x3, .int x4, .int x5, .int x6, v7]) (st' := [.int x6, .int x5]) (σ' := σ) 2 rfl ?_
  exact Wp.call (q := (11, 2, 0, 116)) rfl (Nat.le_of_ble_eq_true rfl) (px_okc_mk rfl rfl rfl (by simp only [List.all_cons, List.all_nil, nv7]; rfl)) h
theorem b97_116 {d : Nat} {Q : Option Value → px_S → Prop} {σ : px_S} {x1 x2 x3 x4 x5 x6 s0 : Int32} {v7 : Value} (c1 : vp_in s0 560) (h : Cw d 98 [.int (σ.1 16 (s0).toNatClampNeg), .int x2] σ (fun r τ => Wp d tb_97 132 [.ref 0, .int x1, .int x2, .int x3, .int x4, .int x5, .int x6, .int s0] (r.toList ++ []) τ Q)) : Wp d tb_97 116 [.ref 0, .int x1, .int x2, .int x3, .int x4, .int x5, .int x6, v7] [.int s0] σ Q := by
  refine Wp.adv (pc' := 127) (ls' := [.ref 0, .int x1, .int x2, .int x3, .int x4, .int x5, .int x6, .int s0]) (st' := [.int s0, .ref 16]) (σ' := σ) 5 rfl ?_
  refine Wp.iald (N := 560) rfl rfl c1 ?_
  refine Wp.adv (pc' := 129) (ls' := [.ref 0, .int x1, .int x2, .int x3, .int x4, .int x5, .int x6, .int s0]) (st' := [.int x2, .int (σ.1 16 (s0).toNatClampNeg)]) (σ' := σ) 1 rfl ?_
  exact Wp.call (q := (98, 2, 0, 132)) rfl (Nat.le_of_ble_eq_true rfl) rfl h
theorem b97_132 {d : Nat} {Q : Option Value → px_S → Prop} {σ : px_S} {x1 x2 x3 x4 x5 x6 x7 s0 : Int32} (ht : s0 = 0 → Wp d tb_97 170 [.ref 0, .int x1, .int x2, .int x3, .int x4, .int x5, .int x6, .int x7] [] σ Q) (hf : ¬ (s0 = 0) → Wp d tb_97 135 [.ref 0, .int x1, .int x2, .int x3, .int x4, .int x5, .int x6, .int x7] [] σ Q) : Wp d tb_97 132 [.ref 0, .int x1, .int x2, .int x3, .int x4, .int x5, .int x6, .int x7] [.int s0] σ Q := by
  exact Wp.if_ rfl ht hf
theorem b97_135 {d : Nat} {Q : Option Value → px_S → Prop} {σ : px_S} {x1 x2 x3 x4 x5 x6 x7 : Int32} (c1 : vp_in x7 560) (h : Cw d 99 [.ref 7, .long (σ.2.1 17 (x7).toNatClampNeg)] σ (fun r τ => Wp d tb_97 152 [.ref 0, .int x1, .int x2, .int x3, .int x4, .int x5, .int x6, .int x7] (r.toList ++ []) τ Q)) : Wp d tb_97 135 [.ref 0, .int x1, .int x2, .int x3, .int x4, .int x5, .int x6, .int x7] [] σ Q := by
  refine Wp.adv (pc' := 148) (ls' := [.ref 0, .int x1, .int x2, .int x3, .int x4, .int x5, .int x6, .int x7]) (st' := [.int x7, .ref 17, .ref 7]) (σ' := σ) 6 rfl ?_
  refine Wp.lald (N := 560) rfl rfl c1 ?_
  exact Wp.call (q := (99, 2, 5, 152)) rfl (Nat.le_of_ble_eq_true rfl) rfl h
theorem b97_152 {d : Nat} {Q : Option Value → px_S → Prop} {σ : px_S} {x1 x2 x3 x4 x5 x6 x7 s0 : Int32} (ht : ¬ s0 = 0 → Wp d tb_97 158 [.ref 0, .int x1, .int x2, .int x3, .int x4, .int x5, .int x6, .int x7] [] σ Q) (hf : ¬ (¬ s0 = 0) → Wp d tb_97 155 [.ref 0, .int x1, .int x2, .int x3, .int x4, .int x5, .int x6, .int x7] [] σ Q) : Wp d tb_97 152 [.ref 0, .int x1, .int x2, .int x3, .int x4, .int x5, .int x6, .int x7] [.int s0] σ Q := by
  exact Wp.if_ rfl ht hf
theorem b97_155 {d : Nat} {Q : Option Value → px_S → Prop} {σ : px_S} {x1 x2 x3 x4 x5 x6 x7 : Int32} (h : Wp d tb_97 170 [.ref 0, .int x1, .int x2, .int x3, .int x4, .int x5, .int x6, .int x7] [] σ Q) : Wp d tb_97 155 [.ref 0, .int x1, .int x2, .int x3, .int x4, .int x5, .int x6, .int x7] [] σ Q := by
  refine Wp.adv (pc' := 170) (ls' := [.ref 0, .int x1, .int x2, .int x3, .int x4, .int x5, .int x6, .int x7]) (st' := []) (σ' := σ) 1 rfl ?_
  exact h
theorem b97_158 {d : Nat} {Q : Option Value → px_S → Prop} {σ : px_S} {x1 x2 x3 x4 x5 x6 x7 : Int32} (ht : ¬ x4 = x3 → Wp d tb_97 167 [.ref 0, .int x1, .int x2, .int x3, .int x4, .int x5, .int x6, .int x7] [] σ Q) (hf : ¬ (¬ x4 = x3) → Wp d tb_97 164 [.ref 0, .int x1, .int x2, .int x3, .int x4, .int x5, .int x6, .int x7] [] σ Q) : Wp d tb_97 158 [.ref 0, .int x1, .int x2, .int x3, .int x4, .int x5, .int x6, .int x7] [] σ Q := by
  refine Wp.adv (pc' := 161) (ls' := [.ref 0, .int x1, .int x2, .int x3, .int x4, .int x5, .int x6, .int x7]) (st' := [.int x3, .int x4]) (σ' := σ) 2 rfl ?_
  exact Wp.icmp rfl ht hf
theorem b97_164 {d : Nat} {Q : Option Value → px_S → Prop} {σ : px_S} {x1 x2 x3 x4 x5 x6 x7 : Int32} (h : Q (some (.int x7)) σ) : Wp d tb_97 164 [.ref 0, .int x1, .int x2, .int x3, .int x4, .int x5, .int x6, .int x7] [] σ Q := by
  refine Wp.adv (pc' := 166) (ls' := [.ref 0, .int x1, .int x2, .int x3, .int x4, .int x5, .int x6, .int x7]) (st' := [.int x7]) (σ' := σ) 1 rfl ?_
  exact Wp.ret rfl rfl h
theorem b97_167 {d : Nat} {Q : Option Value → px_S → Prop} {σ : px_S} {x1 x2 x3 x4 x5 x6 x7 : Int32} (h : Wp d tb_97 170 [.ref 0, .int x1, .int x2, .int x3, .int (x4 + 1), .int x5, .int x6, .int x7] [] σ Q) : Wp d tb_97 167 [.ref 0, .int x1, .int x2, .int x3, .int x4, .int x5, .int x6, .int x7] [] σ Q := by
  refine Wp.adv (pc' := 170) (ls' := [.ref 0, .int x1, .int x2, .int x3, .int (x4 + 1), .int x5, .int x6, .int x7]) (st' := []) (σ' := σ) 1 rfl ?_
  exact h
theorem b97_170 {d : Nat} {Q : Option Value → px_S → Prop} {σ : px_S} {x1 x2 x3 x4 x5 x6 x7 : Int32} (h : Wp d tb_97 94 [.ref 0, .int x1, .int x2, .int x3, .int x4, .int x5, .int (x6 + 1), .int x7] [] σ Q) : Wp d tb_97 170 [.ref 0, .int x1, .int x2, .int x3, .int x4, .int x5, .int x6, .int x7] [] σ Q := by
  refine Wp.adv (pc' := 94) (ls' := [.ref 0, .int x1, .int x2, .int x3, .int x4, .int x5, .int (x6 + 1), .int x7]) (st' := []) (σ' := σ) 2 rfl ?_
  exact h
theorem b97_176 {d : Nat} {Q : Option Value → px_S → Prop} {σ : px_S} {x1 x2 x3 x4 x5 : Int32} {v6 v7 : Value} (h : Wp d tb_97 45 [.ref 0, .int x1, .int x2, .int x3, .int x4, .int (x5 + 1), v6, v7] [] σ Q) : Wp d tb_97 176 [.ref 0, .int x1, .int x2, .int x3, .int x4, .int x5, v6, v7] [] σ Q := by
  refine Wp.adv (pc' := 45) (ls' := [.ref 0, .int x1, .int x2, .int x3, .int x4, .int (x5 + 1), v6, v7]) (st' := []) (σ' := σ) 2 rfl ?_
  exact h
theorem b97_182 {d : Nat} {Q : Option Value → px_S → Prop} {σ : px_S} {x1 x2 x3 x4 x5 : Int32} {v6 v7 : Value} (ht : ¬ x3 = (-1 : Int32) → Wp d tb_97 192 [.ref 0, .int x1, .int x2, .int x3, .int x4, .int x5, v6, v7] [] σ Q) (hf : ¬ (¬ x3 = (-1 : Int32)) → Wp d tb_97 187 [.ref 0, .int x1, .int x2, .int x3, .int x4, .int x5, v6, v7] [] σ Q) : Wp d tb_97 182 [.ref 0, .int x1, .int x2, .int x3, .int x4, .int x5, v6, v7] [] σ Q := by
  refine Wp.adv (pc' := 184) (ls' := [.ref 0, .int x1, .int x2, .int x3, .int x4, .int x5, v6, v7]) (st' := [.int (-1 : Int32), .int x3]) (σ' := σ) 2 rfl ?_
  exact Wp.icmp rfl ht hf
theorem b97_187 {d : Nat} {Q : Option Value → px_S → Prop} {σ : px_S} {x1 x2 x3 x4 x5 : Int32} {v6 v7 : Value} (h : Wp d tb_97 193 [.ref 0, .int x1, .int x2, .int x3, .int x4, .int x5, v6, v7] [.int x4] σ Q) : Wp d tb_97 187 [.ref 0, .int x1, .int x2, .int x3, .int x4, .int x5, v6, v7] [] σ Q := by
  refine Wp.adv (pc' := 193) (ls' := [.ref 0, .int x1, .int x2, .int x3, .int x4, .int x5, v6, v7]) (st' := [.int x4]) (σ' := σ) 2 rfl ?_
  exact h
theorem b97_192 {d : Nat} {Q : Option Value → px_S → Prop} {σ : px_S} {x1 x2 x3 x4 x5 : Int32} {v6 v7 : Value} (h : Wp d tb_97 193 [.ref 0, .int x1, .int x2, .int x3, .int x4, .int x5, v6, v7] [.int (-1 : Int32)] σ Q) : Wp d tb_97 192 [.ref 0, .int x1, .int x2, .int x3, .int x4, .int x5, v6, v7] [] σ Q := by
  refine Wp.adv (pc' := 193) (ls' := [.ref 0, .int x1, .int x2, .int x3, .int x4, .int x5, v6, v7]) (st' := [.int (-1 : Int32)]) (σ' := σ) 1 rfl ?_
  exact h
theorem b97_193 {d : Nat} {Q : Option Value → px_S → Prop} {σ : px_S} {x1 x2 x3 x4 x5 s0 : Int32} {v6 v7 : Value} (h : Q (some (.int s0)) σ) : Wp d tb_97 193 [.ref 0, .int x1, .int x2, .int x3, .int x4, .int x5, v6, v7] [.int s0] σ Q := by
  exact Wp.ret rfl rfl h
theorem e97 {d : Nat} {Q : Option Value → px_S → Prop} {σ : px_S} {x1 x2 x3 : Int32} (h : Wp d tb_97 0 [.ref 0, .int x1, .int x2, .int x3, .null, .null, .null, .null] [] σ Q) : Cw (d + 1) 97 [.ref 0, .int x1, .int x2, .int x3] σ Q := Cw.of (nL := 8) (y := yX8_seek) (cc := cX8_seek) (rt := some .int) rfl (Nat.le_of_ble_eq_true rfl) h
theorem b98_0 {d : Nat} {Q : Option Value → px_S → Prop} {σ : px_S} {x0 x1 : Int32} (ht : x1 = 0 → Wp d tb_98 26 [.int x0, .int x1] [] σ Q) (hf : ¬ (x1 = 0) → Wp d tb_98 4 [.int x0, .int x1] [] σ Q) : Wp d tb_98 0 [.int x0, .int x1] [] σ Q := by
  refine Wp.adv (pc' := 1) (ls' := [.int x0, .int x1]) (st' := [.int x1]) (σ' := σ) 1 rfl ?_
  exact Wp.if_ rfl ht hf
theorem b98_4 {d : Nat} {Q : Option Value → px_S → Prop} {σ : px_S} {x0 x1 : Int32} (ht : ¬ x0 = 0 → Wp d tb_98 12 [.int x0, .int x1] [] σ Q) (hf : ¬ (¬ x0 = 0) → Wp d tb_98 8 [.int x0, .int x1] [] σ Q) : Wp d tb_98 4 [.int x0, .int x1] [] σ Q := by
  refine Wp.adv (pc' := 5) (ls' := [.int x0, .int x1]) (st' := [.int x0]) (σ' := σ) 1 rfl ?_
  exact Wp.if_ rfl ht hf
theorem b98_8 {d : Nat} {Q : Option Value → px_S → Prop} {σ : px_S} {x0 x1 : Int32} (h : Wp d tb_98 13 [.int x0, .int x1] [.int (1 : Int32)] σ Q) : Wp d tb_98 8 [.int x0, .int x1] [] σ Q := by
  refine Wp.adv (pc' := 13) (ls' := [.int x0, .int x1]) (st' := [.int (1 : Int32)]) (σ' := σ) 2 rfl ?_
  exact h
theorem b98_12 {d : Nat} {Q : Option Value → px_S → Prop} {σ : px_S} {x0 x1 : Int32} (h : Wp d tb_98 13 [.int x0, .int x1] [.int (0 : Int32)] σ Q) : Wp d tb_98 12 [.int x0, .int x1] [] σ Q := by
  refine Wp.adv (pc' := 13) (ls' := [.int x0, .int x1]) (st' := [.int (0 : Int32)]) (σ' := σ) 1 rfl ?_
  exact h
theorem b98_13 {d : Nat} {Q : Option Value → px_S → Prop} {σ : px_S} {x0 x1 s0 : Int32} (ht : ¬ x1 = (1 : Int32) → Wp d tb_98 22 [.int x0, .int x1] [.int s0] σ Q) (hf : ¬ (¬ x1 = (1 : Int32)) → Wp d tb_98 18 [.int x0, .int x1] [.int s0] σ Q) : Wp d tb_98 13 [.int x0, .int x1] [.int s0] σ Q := by
  refine Wp.adv (pc' := 15) (ls' := [.int x0, .int x1]) (st' := [.int (1 : Int32), .int x1, .int s0]) (σ' := σ) 2 rfl ?_
  exact Wp.icmp rfl ht hf
theorem b98_18 {d : Nat} {Q : Option Value → px_S → Prop} {σ : px_S} {x0 x1 s0 : Int32} (h : Wp d tb_98 23 [.int x0, .int x1] [.int (1 : Int32), .int s0] σ Q) : Wp d tb_98 18 [.int x0, .int x1] [.int s0] σ Q := by
  refine Wp.adv (pc' := 23) (ls' := [.int x0, .int x1]) (st' := [.int (1 : Int32), .int s0]) (σ' := σ) 2 rfl ?_
  exact h
theorem b98_22 {d : Nat} {Q : Option Value → px_S → Prop} {σ : px_S} {x0 x1 s0 : Int32} (h : Wp d tb_98 23 [.int x0, .int x1] [.int (0 : Int32), .int s0] σ Q) : Wp d tb_98 22 [.int x0, .int x1] [.int s0] σ Q := by
  refine Wp.adv (pc' := 23) (ls' := [.int x0, .int x1]) (st' := [.int (0 : Int32), .int s0]) (σ' := σ) 1 rfl ?_
  exact h
theorem b98_23 {d : Nat} {Q : Option Value → px_S → Prop} {σ : px_S} {x0 x1 s0 s1 : Int32} (ht : ¬ s1 = s0 → Wp d tb_98 30 [.int x0, .int x1] [] σ Q) (hf : ¬ (¬ s1 = s0) → Wp d tb_98 26 [.int x0, .int x1] [] σ Q) : Wp d tb_98 23 [.int x0, .int x1] [.int s0, .int s1] σ Q := by
  exact Wp.icmp rfl ht hf
theorem b98_26 {d : Nat} {Q : Option Value → px_S → Prop} {σ : px_S} {x0 x1 : Int32} (h : Wp d tb_98 31 [.int x0, .int x1] [.int (1 : Int32)] σ Q) : Wp d tb_98 26 [.int x0, .int x1] [] σ Q := by
  refine Wp.adv (pc' := 31) (ls' := [.int x0, .int x1]) (st' := [.int (1 : Int32)]) (σ' := σ) 2 rfl ?_
  exact h
theorem b98_30 {d : Nat} {Q : Option Value → px_S → Prop} {σ : px_S} {x0 x1 : Int32} (h : Wp d tb_98 31 [.int x0, .int x1] [.int (0 : Int32)] σ Q) : Wp d tb_98 30 [.int x0, .int x1] [] σ Q := by
  refine Wp.adv (pc' := 31) (ls' := [.int x0, .int x1]) (st' := [.int (0 : Int32)]) (σ' := σ) 1 rfl ?_
  exact h
theorem b98_31 {d : Nat} {Q : Option Value → px_S → Prop} {σ : px_S} {x0 x1 s0 : Int32} (c1 : s0 = 0 ∨ s0 = 1) (h : Q (some (.int s0)) σ) : Wp d tb_98 31 [.int x0, .int x1] [.int s0] σ Q := by
  exact Wp.zret rfl c1 h
theorem e98 {d : Nat} {Q : Option Value → px_S → Prop} {σ : px_S} {x0 x1 : Int32} (h : Wp d tb_98 0 [.int x0, .int x1] [] σ Q) : Cw (d + 1) 98 [.int x0, .int x1] σ Q := Cw.of (nL := 2) (y := yX8_isWhere) (cc := cX8_isWhere) (rt := some .boolean) rfl (Nat.le_of_ble_eq_true rfl) h
theorem b99_0 {d : Nat} {Q : Option Value → px_S → Prop} {σ : px_S} {y1 : Int64} (h : Cw d 33 [.long y1] σ (fun r τ => Wp d tb_99 4 [.ref 7, .long y1, .null, .null, .null] (r.toList ++ []) τ Q)) : Wp d tb_99 0 [.ref 7, .long y1, .null, .null, .null] [] σ Q := by
  refine Wp.adv (pc' := 1) (ls' := [.ref 7, .long y1, .null, .null, .null]) (st' := [.long y1]) (σ' := σ) 1 rfl ?_
  exact Wp.call (q := (33, 1, 0, 4)) rfl (Nat.le_of_ble_eq_true rfl) rfl h
theorem b99_4 {d : Nat} {Q : Option Value → px_S → Prop} {σ : px_S} {s0 : Int32} {y1 : Int64} (h : Wp d tb_99 8 [.ref 7, .long y1, .null, .int s0, .int (0 : Int32)] [] σ Q) : Wp d tb_99 4 [.ref 7, .long y1, .null, .null, .null] [.int s0] σ Q := by
  refine Wp.adv (pc' := 8) (ls' := [.ref 7, .long y1, .null, .int s0, .int (0 : Int32)]) (st' := []) (σ' := σ) 3 rfl ?_
  exact h
theorem b99_8 {d : Nat} {Q : Option Value → px_S → Prop} {σ : px_S} {x3 x4 : Int32} {y1 : Int64} (ht : x3 < (x4 + (σ.1 7 1)) → Wp d tb_99 37 [.ref 7, .long y1, .null, .int x3, .int x4] [] σ Q) (hf : ¬ (x3 < (x4 + (σ.1 7 1))) → Wp d tb_99 19 [.ref 7, .long y1, .null, .int x3, .int x4] [] σ Q) : Wp d tb_99 8 [.ref 7, .long y1, .null, .int x3, .int x4] [] σ Q := by
  refine Wp.adv (pc' := 16) (ls' := [.ref 7, .long y1, .null, .int x3, .int x4]) (st' := [.int x3, .int (x4 + (σ.1 7 1))]) (σ' := σ) 5 rfl ?_
  exact Wp.icmp rfl ht hf
theorem b99_19 {d : Nat} {Q : Option Value → px_S → Prop} {σ : px_S} {x3 x4 : Int32} {y1 : Int64} (h : Cw d 100 [.ref 7, .long y1, .int x4] σ (fun r τ => Wp d tb_99 26 [.ref 7, .long y1, .null, .int x3, .int x4] (r.toList ++ []) τ Q)) : Wp d tb_99 19 [.ref 7, .long y1, .null, .int x3, .int x4] [] σ Q := by
  refine Wp.adv (pc' := 23) (ls' := [.ref 7, .long y1, .null, .int x3, .int x4]) (st' := [.int x4, .long y1, .ref 7]) (σ' := σ) 3 rfl ?_
  exact Wp.call (q := (100, 3, 5, 26)) rfl (Nat.le_of_ble_eq_true rfl) rfl h
theorem b99_26 {d : Nat} {Q : Option Value → px_S → Prop} {σ : px_S} {x3 x4 s0 : Int32} {y1 : Int64} (ht : s0 = 0 → Wp d tb_99 31 [.ref 7, .long y1, .null, .int x3, .int x4] [] σ Q) (hf : ¬ (s0 = 0) → Wp d tb_99 29 [.ref 7, .long y1, .null, .int x3, .int x4] [] σ Q) : Wp d tb_99 26 [.ref 7, .long y1, .null, .int x3, .int x4] [.int s0] σ Q := by
  exact Wp.if_ rfl ht hf
theorem b99_29 {d : Nat} {Q : Option Value → px_S → Prop} {σ : px_S} {x3 x4 : Int32} {y1 : Int64} (h : Q (some (.int (1 : Int32))) σ) : Wp d tb_99 29 [.ref 7, .long y1, .null, .int x3, .int x4] [] σ Q := by
  refine Wp.adv (pc' := 30) (ls' := [.ref 7, .long y1, .null, .int x3, .int x4]) (st' := [.int (1 : Int32)]) (σ' := σ) 1 rfl ?_
  exact Wp.zret rfl (by decide) h
theorem b99_31 {d : Nat} {Q : Option Value → px_S → Prop} {σ : px_S} {x3 x4 : Int32} {y1 : Int64} (h : Wp d tb_99 8 [.ref 7, .long y1, .null, .int x3, .int (x4 + 1)] [] σ Q) : Wp d tb_99 31 [.ref 7, .long y1, .null, .int x3, .int x4] [] σ Q := by
  refine Wp.adv (pc' := 8) (ls' := [.ref 7, .long y1, .null, .int x3, .int (x4 + 1)]) (st' := []) (σ' := σ) 2 rfl ?_
  exact h
theorem b99_37 {d : Nat} {Q : Option Value → px_S → Prop} {σ : px_S} {x3 x4 : Int32} {y1 : Int64} (h : Q (some (.int (0 : Int32))) σ) : Wp d tb_99 37 [.ref 7, .long y1, .null, .int x3, .int x4] [] σ Q := by
  refine Wp.adv (pc' := 38) (ls' := [.ref 7, .long y1, .null, .int x3, .int x4]) (st' := [.int (0 : Int32)]) (σ' := σ) 1 rfl ?_
  exact Wp.zret rfl (by decide) h
theorem e99 {d : Nat} {Q : Option Value → px_S → Prop} {σ : px_S} {y1 : Int64} (h : Wp d tb_99 0 [.ref 7, .long y1, .null, .null, .null] [] σ Q) : Cw (d + 1) 99 [.ref 7, .long y1] σ Q := Cw.of (nL := 5) (y := yX4_standsIn) (cc := cX4_standsIn) (rt := some .boolean) rfl (Nat.le_of_ble_eq_true rfl) h
theorem b100_0 {d : Nat} {Q : Option Value → px_S → Prop} {σ : px_S} {x3 : Int32} {y1 : Int64} (h : Wp d tb_100 3 [.ref 7, .long y1, .null, .int x3, .int (0 : Int32)] [] σ Q) : Wp d tb_100 0 [.ref 7, .long y1, .null, .int x3, .null] [] σ Q := by
  refine Wp.adv (pc' := 3) (ls' := [.ref 7, .long y1, .null, .int x3, .int (0 : Int32)]) (st' := []) (σ' := σ) 2 rfl ?_
  exact h
theorem b100_3 {d : Nat} {Q : Option Value → px_S → Prop} {σ : px_S} {x3 x4 : Int32} {y1 : Int64} (ht : (σ.1 7 1) ≤ x4 → Wp d tb_100 48 [.ref 7, .long y1, .null, .int x3, .int x4] [] σ Q) (hf : ¬ ((σ.1 7 1) ≤ x4) → Wp d tb_100 12 [.ref 7, .long y1, .null, .int x3, .int x4] [] σ Q) : Wp d tb_100 3 [.ref 7, .long y1, .null, .int x3, .int x4] [] σ Q := by
  refine Wp.adv (pc' := 9) (ls' := [.ref 7, .long y1, .null, .int x3, .int x4]) (st' := [.int (σ.1 7 1), .int x4]) (σ' := σ) 3 rfl ?_
  exact Wp.icmp rfl ht hf
theorem b100_12 {d : Nat} {Q : Option Value → px_S → Prop} {σ : px_S} {x3 x4 : Int32} {y1 : Int64} (c1 : vp_in x4 4) (ht : (σ.1 34 (x4).toNatClampNeg) = 0 → Wp d tb_100 42 [.ref 7, .long y1, .null, .int x3, .int x4] [] σ Q) (hf : ¬ ((σ.1 34 (x4).toNatClampNeg) = 0) → Wp d tb_100 22 [.ref 7, .long y1, .null, .int x3, .int x4] [] σ Q) : Wp d tb_100 12 [.ref 7, .long y1, .null, .int x3, .int x4] [] σ Q := by
  refine Wp.adv (pc' := 18) (ls' := [.ref 7, .long y1, .null, .int x3, .int x4]) (st' := [.int x4, .ref 34]) (σ' := σ) 3 rfl ?_
  refine Wp.iald (N := 4) rfl rfl c1 ?_
  exact Wp.if_ rfl ht hf
theorem b100_22 {d : Nat} {Q : Option Value → px_S → Prop} {σ : px_S} {x3 x4 : Int32} {y1 : Int64} (c1 : vp_in x4 4) (h : Cw d 34 [.long y1, .int (x3 + x4)] σ (fun r τ => Wp d tb_100 37 [.ref 7, .long y1, .null, .int x3, .int x4] (r.toList ++ [.int (σ.1 34 (x4).toNatClampNeg)]) τ Q)) : Wp d tb_100 22 [.ref 7, .long y1, .null, .int x3, .int x4] [] σ Q := by
  refine Wp.adv (pc' := 28) (ls' := [.ref 7, .long y1, .null, .int x3, .int x4]) (st' := [.int x4, .ref 34]) (σ' := σ) 3 rfl ?_
  refine Wp.iald (N := 4) rfl rfl c1 ?_
  refine Wp.adv (pc' := 34) (ls' := [.ref 7, .long y1, .null, .int x3, .int x4]) (st' := [.int (x3 + x4), .long y1, .int (σ.1 34 (x4).toNatClampNeg)]) (σ' := σ) 4 rfl ?_
  exact Wp.call (q := (34, 2, 0, 37)) rfl (Nat.le_of_ble_eq_true rfl) rfl h
theorem b100_37 {d : Nat} {Q : Option Value → px_S → Prop} {σ : px_S} {x3 x4 s0 s1 : Int32} {y1 : Int64} (ht : s1 = s0 → Wp d tb_100 42 [.ref 7, .long y1, .null, .int x3, .int x4] [] σ Q) (hf : ¬ (s1 = s0) → Wp d tb_100 40 [.ref 7, .long y1, .null, .int x3, .int x4] [] σ Q) : Wp d tb_100 37 [.ref 7, .long y1, .null, .int x3, .int x4] [.int s0, .int s1] σ Q := by
  exact Wp.icmp rfl ht hf
theorem b100_40 {d : Nat} {Q : Option Value → px_S → Prop} {σ : px_S} {x3 x4 : Int32} {y1 : Int64} (h : Q (some (.int (0 : Int32))) σ) : Wp d tb_100 40 [.ref 7, .long y1, .null, .int x3, .int x4] [] σ Q := by
  refine Wp.adv (pc' := 41) (ls' := [.ref 7, .long y1, .null, .int x3, .int x4]) (st' := [.int (0 : Int32)]) (σ' := σ) 1 rfl ?_
  exact Wp.zret rfl (by decide) h
theorem b100_42 {d : Nat} {Q : Option Value → px_S → Prop} {σ : px_S} {x3 x4 : Int32} {y1 : Int64} (h : Wp d tb_100 3 [.ref 7, .long y1, .null, .int x3, .int (x4 + 1)] [] σ Q) : Wp d tb_100 42 [.ref 7, .long y1, .null, .int x3, .int x4] [] σ Q := by
  refine Wp.adv (pc' := 3) (ls' := [.ref 7, .long y1, .null, .int x3, .int (x4 + 1)]) (st' := []) (σ' := σ) 2 rfl ?_
  exact h
theorem b100_48 {d : Nat} {Q : Option Value → px_S → Prop} {σ : px_S} {x3 x4 : Int32} {y1 : Int64} (h : Q (some (.int (1 : Int32))) σ) : Wp d tb_100 48 [.ref 7, .long y1, .null, .int x3, .int x4] [] σ Q := by
  refine Wp.adv (pc' := 49) (ls' := [.ref 7, .long y1, .null, .int x3, .int x4]) (st' := [.int (1 : Int32)]) (σ' := σ) 1 rfl ?_
  exact Wp.zret rfl (by decide) h
theorem e100 {d : Nat} {Q : Option Value → px_S → Prop} {σ : px_S} {x3 : Int32} {y1 : Int64} (h : Wp d tb_100 0 [.ref 7, .long y1, .null, .int x3, .null] [] σ Q) : Cw (d + 1) 100 [.ref 7, .long y1, .int x3] σ Q := Cw.of (nL := 5) (y := yX4_standsAt) (cc := cX4_standsAt) (rt := some .boolean) rfl (Nat.le_of_ble_eq_true rfl) h
theorem b101_0 {d : Nat} {Q : Option Value → px_S → Prop} {σ : px_S} {x1 : Int32} (h : Cw d 4 [.ref 1, .int x1] σ (fun r τ => Wp d tb_101 8 [.ref 0, .int x1] (r.toList ++ []) τ Q)) : Wp d tb_101 0 [.ref 0, .int x1] [] σ Q := by
  refine Wp.adv (pc' := 5) (ls' := [.ref 0, .int x1]) (st' := [.int x1, .ref 1]) (σ' := σ) 3 rfl ?_
  exact Wp.call (q := (4, 2, 2, 8)) rfl (Nat.le_of_ble_eq_true rfl) rfl h
theorem b101_8 {d : Nat} {Q : Option Value → px_S → Prop} {σ : px_S} {x1 s0 : Int32} (ht : ¬ s0 = 0 → Wp d tb_101 15 [.ref 0, .int x1] [] σ Q) (hf : ¬ (¬ s0 = 0) → Wp d tb_101 11 [.ref 0, .int x1] [] σ Q) : Wp d tb_101 8 [.ref 0, .int x1] [.int s0] σ Q := by
  exact Wp.if_ rfl ht hf
theorem b101_11 {d : Nat} {Q : Option Value → px_S → Prop} {σ : px_S} {x1 : Int32} (h : Q (some (.int (-1001 : Int32))) σ) : Wp d tb_101 11 [.ref 0, .int x1] [] σ Q := by
  refine Wp.adv (pc' := 14) (ls' := [.ref 0, .int x1]) (st' := [.int (-1001 : Int32)]) (σ' := σ) 1 rfl ?_
  exact Wp.ret rfl rfl h
theorem b101_15 {d : Nat} {Q : Option Value → px_S → Prop} {σ : px_S} {x1 : Int32} (h : Cw d 16 [.ref 1, .int x1] σ (fun r τ => Wp d tb_101 23 [.ref 0, .int x1] (r.toList ++ []) τ Q)) : Wp d tb_101 15 [.ref 0, .int x1] [] σ Q := by
  refine Wp.adv (pc' := 20) (ls' := [.ref 0, .int x1]) (st' := [.int x1, .ref 1]) (σ' := σ) 3 rfl ?_
  exact Wp.call (q := (16, 2, 2, 23)) rfl (Nat.le_of_ble_eq_true rfl) rfl h
theorem b101_23 {d : Nat} {Q : Option Value → px_S → Prop} {σ : px_S} {x1 s0 : Int32} (ht : ¬ s0 = 0 → Wp d tb_101 30 [.ref 0, .int x1] [] σ Q) (hf : ¬ (¬ s0 = 0) → Wp d tb_101 26 [.ref 0, .int x1] [] σ Q) : Wp d tb_101 23 [.ref 0, .int x1] [.int s0] σ Q := by
  exact Wp.if_ rfl ht hf
theorem b101_26 {d : Nat} {Q : Option Value → px_S → Prop} {σ : px_S} {x1 : Int32} (h : Q (some (.int (-1003 : Int32))) σ) : Wp d tb_101 26 [.ref 0, .int x1] [] σ Q := by
  refine Wp.adv (pc' := 29) (ls' := [.ref 0, .int x1]) (st' := [.int (-1003 : Int32)]) (σ' := σ) 1 rfl ?_
  exact Wp.ret rfl rfl h
theorem b101_30 {d : Nat} {Q : Option Value → px_S → Prop} {σ : px_S} {x1 : Int32} (h : Cw d 23 [.ref 4, .int x1] σ (fun r τ => Wp d tb_101 38 [.ref 0, .int x1] (r.toList ++ []) τ Q)) : Wp d tb_101 30 [.ref 0, .int x1] [] σ Q := by
  refine Wp.adv (pc' := 35) (ls' := [.ref 0, .int x1]) (st' := [.int x1, .ref 4]) (σ' := σ) 3 rfl ?_
  exact Wp.call (q := (23, 2, 3, 38)) rfl (Nat.le_of_ble_eq_true rfl) rfl h
theorem b101_38 {d : Nat} {Q : Option Value → px_S → Prop} {σ : px_S} {x1 : Int32} (h : Cw d 102 [.ref 4, .int x1] σ (fun r τ => Wp d tb_101 46 [.ref 0, .int x1] (r.toList ++ []) τ Q)) : Wp d tb_101 38 [.ref 0, .int x1] [] σ Q := by
  refine Wp.adv (pc' := 43) (ls' := [.ref 0, .int x1]) (st' := [.int x1, .ref 4]) (σ' := σ) 3 rfl ?_
  exact Wp.call (q := (102, 2, 3, 46)) rfl (Nat.le_of_ble_eq_true rfl) rfl h
theorem b101_46 {d : Nat} {Q : Option Value → px_S → Prop} {σ : px_S} {x1 s0 : Int32} (h : Q (some (.int s0)) σ) : Wp d tb_101 46 [.ref 0, .int x1] [.int s0] σ Q := by
  exact Wp.ret rfl rfl h
theorem e101 {d : Nat} {Q : Option Value → px_S → Prop} {σ : px_S} {x1 : Int32} (h : Wp d tb_101 0 [.ref 0, .int x1] [] σ Q) : Cw (d + 1) 101 [.ref 0, .int x1] σ Q := Cw.of (nL := 2) (y := yX8_still) (cc := cX8_still) (rt := some .int) rfl (Nat.le_of_ble_eq_true rfl) h
theorem b102_0 {d : Nat} {Q : Option Value → px_S → Prop} {σ : px_S} {x1 : Int32} {k : Nat} (hk : k = 3 ∨ k = 4) (h : Wp d tb_102 4 [.ref k, .int x1, .int (0 : Int32), .int (0 : Int32), .null, .null, .null] [] σ Q) : Wp d tb_102 0 [.ref k, .int x1, .null, .null, .null, .null, .null] [] σ Q := by
  rcases hk with rfl | rfl
  · refine Wp.adv (pc' := 4) (ls' := [.ref 3, .int x1, .int (0 : Int32), .int (0 : Int32), .null, .null, .null]) (st' := []) (σ' := σ) 4 rfl ?_
    exact h
  · refine Wp.adv (pc' := 4) (ls' := [.ref 4, .int x1, .int (0 : Int32), .int (0 : Int32), .null, .null, .null]) (st' := []) (σ' := σ) 4 rfl ?_
    exact h
theorem b102_4 {d : Nat} {Q : Option Value → px_S → Prop} {σ : px_S} {x1 x2 x3 : Int32} {v4 v5 v6 : Value} {k : Nat} (hk : k = 3 ∨ k = 4) (ht : (σ.1 1 7) ≤ x3 → Wp d tb_102 125 [.ref k, .int x1, .int x2, .int x3, v4, v5, v6] [] σ Q) (hf : ¬ ((σ.1 1 7) ≤ x3) → Wp d tb_102 15 [.ref k, .int x1, .int x2, .int x3, v4, v5, v6] [] σ Q) : Wp d tb_102 4 [.ref k, .int x1, .int x2, .int x3, v4, v5, v6] [] σ Q := by
  rcases hk with rfl | rfl
  · refine Wp.adv (pc' := 12) (ls' := [.ref 3, .int x1, .int x2, .int x3, v4, v5, v6]) (st' := [.int (σ.1 1 7), .int x3]) (σ' := σ) 4 rfl ?_
    exact Wp.icmp rfl ht hf
  · refine Wp.adv (pc' := 12) (ls' := [.ref 4, .int x1, .int x2, .int x3, v4, v5, v6]) (st' := [.int (σ.1 1 7), .int x3]) (σ' := σ) 4 rfl ?_
    exact Wp.icmp rfl ht hf
theorem b102_15 {d : Nat} {Q : Option Value → px_S → Prop} {σ : px_S} {x1 x2 x3 : Int32} {v4 v5 v6 : Value} {k : Nat} (hk : k = 3 ∨ k = 4) (ht : x3 = x1 → Wp d tb_102 119 [.ref k, .int x1, .int x2, .int x3, v4, v5, v6] [] σ Q) (hf : ¬ (x3 = x1) → Wp d tb_102 20 [.ref k, .int x1, .int x2, .int x3, v4, v5, v6] [] σ Q) : Wp d tb_102 15 [.ref k, .int x1, .int x2, .int x3, v4, v5, v6] [] σ Q := by
  rcases hk with rfl | rfl
  · refine Wp.adv (pc' := 17) (ls' := [.ref 3, .int x1, .int x2, .int x3, v4, v5, v6]) (st' := [.int x1, .int x3]) (σ' := σ) 2 rfl ?_
    exact Wp.icmp rfl ht hf
  · refine Wp.adv (pc' := 17) (ls' := [.ref 4, .int x1, .int x2, .int x3, v4, v5, v6]) (st' := [.int x1, .int x3]) (σ' := σ) 2 rfl ?_
    exact Wp.icmp rfl ht hf
theorem b102_20 {d : Nat} {Q : Option Value → px_S → Prop} {σ : px_S} {x1 x2 x3 : Int32} {v4 v5 v6 : Value} {k : Nat} (hk : k = 3 ∨ k = 4) (nv4 : px_nc v4 = true) (nv5 : px_nc v5 = true) (nv6 : px_nc v6 = true) (h : Cw d 24 [.ref k, .int x3] σ (fun r τ => Wp d tb_102 25 [.ref k, .int x1, .int x2, .int x3, v4, v5, v6] (r.toList ++ []) τ Q)) : Wp d tb_102 20 [.ref k, .int x1, .int x2, .int x3, v4, v5, v6] [] σ Q := by
  rcases hk with rfl | rfl
  · refine Wp.adv (pc' := 22) (ls' := [.ref 3, .int x1, .int x2, .int x3, v4, v5, v6]) (st' := [.int x3, .ref 3]) (σ' := σ) 2 rfl ?_
    exact Wp.call (q := (24, 2, 3, 25)) rfl (Nat.le_of_ble_eq_true rfl) (px_okc_mk rfl rfl rfl (by simp only [List.all_cons, List.all_nil, nv4, nv5, nv6]; rfl)) h
  · refine Wp.adv (pc' := 22) (ls' := [.ref 4, .int x1, .int x2, .int x3, v4, v5, v6]) (st' := [.int x3, .ref 4]) (σ' := σ) 2 rfl ?_
    exact Wp.call (q := (24, 2, 3, 25)) rfl (Nat.le_of_ble_eq_true rfl) (px_okc_mk rfl rfl rfl (by simp only [List.all_cons, List.all_nil, nv4, nv5, nv6]; rfl)) h
theorem b102_25 {d : Nat} {Q : Option Value → px_S → Prop} {σ : px_S} {x1 x2 x3 s0 : Int32} {v4 v5 v6 : Value} {k : Nat} (hk : k = 3 ∨ k = 4) (ht : ¬ s0 = 0 → Wp d tb_102 31 [.ref k, .int x1, .int x2, .int x3, v4, v5, v6] [] σ Q) (hf : ¬ (¬ s0 = 0) → Wp d tb_102 28 [.ref k, .int x1, .int x2, .int x3, v4, v5, v6] [] σ Q) : Wp d tb_102 25 [.ref k, .int x1, .int x2, .int x3, v4, v5, v6] [.int s0] σ Q := by
  rcases hk with rfl | rfl
  · exact Wp.if_ rfl ht hf
  · exact Wp.if_ rfl ht hf
theorem b102_28 {d : Nat} {Q : Option Value → px_S → Prop} {σ : px_S} {x1 x2 x3 : Int32} {v4 v5 v6 : Value} {k : Nat} (hk : k = 3 ∨ k = 4) (h : Wp d tb_102 119 [.ref k, .int x1, .int x2, .int x3, v4, v5, v6] [] σ Q) : Wp d tb_102 28 [.ref k, .int x1, .int x2, .int x3, v4, v5, v6] [] σ Q := by
  rcases hk with rfl | rfl
  · refine Wp.adv (pc' := 119) (ls' := [.ref 3, .int x1, .int x2, .int x3, v4, v5, v6]) (st' := []) (σ' := σ) 1 rfl ?_
    exact h
  · refine Wp.adv (pc' := 119) (ls' := [.ref 4, .int x1, .int x2, .int x3, v4, v5, v6]) (st' := []) (σ' := σ) 1 rfl ?_
    exact h
theorem b102_31 {d : Nat} {Q : Option Value → px_S → Prop} {σ : px_S} {x1 x2 x3 : Int32} {v4 v5 v6 : Value} {k : Nat} (hk : k = 3 ∨ k = 4) (h : Wp d tb_102 34 [.ref k, .int x1, .int x2, .int x3, .int (0 : Int32), v5, v6] [] σ Q) : Wp d tb_102 31 [.ref k, .int x1, .int x2, .int x3, v4, v5, v6] [] σ Q := by
  rcases hk with rfl | rfl
  · refine Wp.adv (pc' := 34) (ls' := [.ref 3, .int x1, .int x2, .int x3, .int (0 : Int32), v5, v6]) (st' := []) (σ' := σ) 2 rfl ?_
    exact h
  · refine Wp.adv (pc' := 34) (ls' := [.ref 4, .int x1, .int x2, .int x3, .int (0 : Int32), v5, v6]) (st' := []) (σ' := σ) 2 rfl ?_
    exact h
theorem b102_34 {d : Nat} {Q : Option Value → px_S → Prop} {σ : px_S} {x1 x2 x3 x4 : Int32} {v5 v6 : Value} {k : Nat} (hk : k = 3 ∨ k = 4) (c1 : vp_in x3 40) (ht : (σ.1 14 (x3).toNatClampNeg) ≤ x4 → Wp d tb_102 119 [.ref k, .int x1, .int x2, .int x3, .int x4, v5, v6] [] σ Q) (hf : ¬ ((σ.1 14 (x3).toNatClampNeg) ≤ x4) → Wp d tb_102 48 [.ref k, .int x1, .int x2, .int x3, .int x4, v5, v6] [] σ Q) : Wp d tb_102 34 [.ref k, .int x1, .int x2, .int x3, .int x4, v5, v6] [] σ Q := by
  rcases hk with rfl | rfl
  · refine Wp.adv (pc' := 44) (ls' := [.ref 3, .int x1, .int x2, .int x3, .int x4, v5, v6]) (st' := [.int x3, .ref 14, .int x4]) (σ' := σ) 5 rfl ?_
    refine Wp.iald (N := 40) rfl rfl c1 ?_
    exact Wp.icmp rfl ht hf
  · refine Wp.adv (pc' := 44) (ls' := [.ref 4, .int x1, .int x2, .int x3, .int x4, v5, v6]) (st' := [.int x3, .ref 14, .int x4]) (σ' := σ) 5 rfl ?_
    refine Wp.iald (N := 40) rfl rfl c1 ?_
    exact Wp.icmp rfl ht hf
theorem b102_48 {d : Nat} {Q : Option Value → px_S → Prop} {σ : px_S} {x1 x2 x3 x4 : Int32} {v5 v6 : Value} {k : Nat} (hk : k = 3 ∨ k = 4) (nv5 : px_nc v5 = true) (nv6 : px_nc v6 = true) (h : Cw d 11 [.int x3, .int x4] σ (fun r τ => Wp d tb_102 54 [.ref k, .int x1, .int x2, .int x3, .int x4, v5, v6] (r.toList ++ []) τ Q)) : Wp d tb_102 48 [.ref k, .int x1, .int x2, .int x3, .int x4, v5, v6] [] σ Q := by
  rcases hk with rfl | rfl
  · refine Wp.adv (pc' := 51) (ls' := [.ref 3, .int x1, .int x2, .int x3, .int x4, v5, v6]) (st' := [.int x4, .int x3]) (σ' := σ) 2 rfl ?_
    exact Wp.call (q := (11, 2, 0, 54)) rfl (Nat.le_of_ble_eq_true rfl) (px_okc_mk rfl rfl rfl (by simp only [List.all_cons, List.all_nil, nv5, nv6]; rfl)) h
  · refine Wp.adv (pc' := 51) (ls' := [.ref 4, .int x1, .int x2, .int x3, .int x4, v5, v6]) (st' := [.int x4, .int x3]) (σ' := σ) 2 rfl ?_
    exact Wp.call (q := (11, 2, 0, 54)) rfl (Nat.le_of_ble_eq_true rfl) (px_okc_mk rfl rfl rfl (by simp only [List.all_cons, List.all_nil, nv5, nv6]; rfl)) h
theorem b102_54 {d : Nat} {Q : Option Value → px_S → Prop} {σ : px_S} {x1 x2 x3 x4 s0 : Int32} {v5 v6 : Value} {k : Nat} (hk : k = 3 ∨ k = 4) (nv6 : px_nc v6 = true) (h : Cw d 54 [.ref k, .int s0] σ (fun r τ => Wp d tb_102 62 [.ref k, .int x1, .int x2, .int x3, .int x4, .int s0, v6] (r.toList ++ []) τ Q)) : Wp d tb_102 54 [.ref k, .int x1, .int x2, .int x3, .int x4, v5, v6] [.int s0] σ Q := by
  rcases hk with rfl | rfl
  · refine Wp.adv (pc' := 59) (ls' := [.ref 3, .int x1, .int x2, .int x3, .int x4, .int s0, v6]) (st' := [.int s0, .ref 3]) (σ' := σ) 3 rfl ?_
    exact Wp.call (q := (54, 2, 3, 62)) rfl (Nat.le_of_ble_eq_true rfl) (px_okc_mk rfl rfl rfl (by simp only [List.all_cons, List.all_nil, nv6]; rfl)) h
  · refine Wp.adv (pc' := 59) (ls' := [.ref 4, .int x1, .int x2, .int x3, .int x4, .int s0, v6]) (st' := [.int s0, .ref 4]) (σ' := σ) 3 rfl ?_
    exact Wp.call (q := (54, 2, 3, 62)) rfl (Nat.le_of_ble_eq_true rfl) (px_okc_mk rfl rfl rfl (by simp only [List.all_cons, List.all_nil, nv6]; rfl)) h
theorem b102_62 {d : Nat} {Q : Option Value → px_S → Prop} {σ : px_S} {x1 x2 x3 x4 x5 s0 : Int32} {v6 : Value} {k : Nat} (hk : k = 3 ∨ k = 4) (ht : s0 = (-1 : Int32) → Wp d tb_102 113 [.ref k, .int x1, .int x2, .int x3, .int x4, .int x5, .int s0] [] σ Q) (hf : ¬ (s0 = (-1 : Int32)) → Wp d tb_102 70 [.ref k, .int x1, .int x2, .int x3, .int x4, .int x5, .int s0] [] σ Q) : Wp d tb_102 62 [.ref k, .int x1, .int x2, .int x3, .int x4, .int x5, v6] [.int s0] σ Q := by
  rcases hk with rfl | rfl
  · refine Wp.adv (pc' := 67) (ls' := [.ref 3, .int x1, .int x2, .int x3, .int x4, .int x5, .int s0]) (st' := [.int (-1 : Int32), .int s0]) (σ' := σ) 3 rfl ?_
    exact Wp.icmp rfl ht hf
  · refine Wp.adv (pc' := 67) (ls' := [.ref 4, .int x1, .int x2, .int x3, .int x4, .int x5, .int s0]) (st' := [.int (-1 : Int32), .int s0]) (σ' := σ) 3 rfl ?_
    exact Wp.icmp rfl ht hf
theorem b102_70 {d : Nat} {Q : Option Value → px_S → Prop} {σ : px_S} {x1 x2 x3 x4 x5 x6 : Int32} {k : Nat} (hk : k = 3 ∨ k = 4) (ht : ¬ (x6 / (14 : Int32)) = x1 → Wp d tb_102 113 [.ref k, .int x1, .int x2, .int x3, .int x4, .int x5, .int x6] [] σ Q) (hf : ¬ (¬ (x6 / (14 : Int32)) = x1) → Wp d tb_102 79 [.ref k, .int x1, .int x2, .int x3, .int x4, .int x5, .int x6] [] σ Q) : Wp d tb_102 70 [.ref k, .int x1, .int x2, .int x3, .int x4, .int x5, .int x6] [] σ Q := by
  rcases hk with rfl | rfl
  · refine Wp.adv (pc' := 74) (ls' := [.ref 3, .int x1, .int x2, .int x3, .int x4, .int x5, .int x6]) (st' := [.int (14 : Int32), .int x6]) (σ' := σ) 2 rfl ?_
    refine Wp.binz rfl (by decide) ?_
    refine Wp.adv (pc' := 76) (ls' := [.ref 3, .int x1, .int x2, .int x3, .int x4, .int x5, .int x6]) (st' := [.int x1, .int (x6 / (14 : Int32))]) (σ' := σ) 1 rfl ?_
    exact Wp.icmp rfl ht hf
  · refine Wp.adv (pc' := 74) (ls' := [.ref 4, .int x1, .int x2, .int x3, .int x4, .int x5, .int x6]) (st' := [.int (14 : Int32), .int x6]) (σ' := σ) 2 rfl ?_
    refine Wp.binz rfl (by decide) ?_
    refine Wp.adv (pc' := 76) (ls' := [.ref 4, .int x1, .int x2, .int x3, .int x4, .int x5, .int x6]) (st' := [.int x1, .int (x6 / (14 : Int32))]) (σ' := σ) 1 rfl ?_
    exact Wp.icmp rfl ht hf
theorem b102_79 {d : Nat} {Q : Option Value → px_S → Prop} {σ : px_S} {x1 x2 x3 x4 x5 x6 : Int32} {k : Nat} (hk : k = 3 ∨ k = 4) (c1 : vp_in x6 560) (c2 : vp_in x5 560) (ht : ¬ (lg_cmp (σ.2.1 17 (x6).toNatClampNeg) (σ.2.1 17 (x5).toNatClampNeg)) = 0 → Wp d tb_102 113 [.ref k, .int x1, .int x2, .int x3, .int x4, .int x5, .int x6] [] σ Q) (hf : ¬ (¬ (lg_cmp (σ.2.1 17 (x6).toNatClampNeg) (σ.2.1 17 (x5).toNatClampNeg)) = 0) → Wp d tb_102 103 [.ref k, .int x1, .int x2, .int x3, .int x4, .int x5, .int x6] [] σ Q) : Wp d tb_102 79 [.ref k, .int x1, .int x2, .int x3, .int x4, .int x5, .int x6] [] σ Q := by
  rcases hk with rfl | rfl
  · refine Wp.adv (pc' := 88) (ls' := [.ref 3, .int x1, .int x2, .int x3, .int x4, .int x5, .int x6]) (st' := [.int x6, .ref 17]) (σ' := σ) 4 rfl ?_
    refine Wp.lald (N := 560) rfl rfl c1 ?_
    refine Wp.adv (pc' := 98) (ls' := [.ref 3, .int x1, .int x2, .int x3, .int x4, .int x5, .int x6]) (st' := [.int x5, .ref 17, .long (σ.2.1 17 (x6).toNatClampNeg)]) (σ' := σ) 4 rfl ?_
    refine Wp.lald (N := 560) rfl rfl c2 ?_
    refine Wp.adv (pc' := 100) (ls' := [.ref 3, .int x1, .int x2, .int x3, .int x4, .int x5, .int x6]) (st' := [.int (lg_cmp (σ.2.1 17 (x6).toNatClampNeg) (σ.2.1 17 (x5).toNatClampNeg))]) (σ' := σ) 1 rfl ?_
    exact Wp.if_ rfl ht hf
  · refine Wp.adv (pc' := 88) (ls' := [.ref 4, .int x1, .int x2, .int x3, .int x4, .int x5, .int x6]) (st' := [.int x6, .ref 17]) (σ' := σ) 4 rfl ?_
    refine Wp.lald (N := 560) rfl rfl c1 ?_
    refine Wp.adv (pc' := 98) (ls' := [.ref 4, .int x1, .int x2, .int x3, .int x4, .int x5, .int x6]) (st' := [.int x5, .ref 17, .long (σ.2.1 17 (x6).toNatClampNeg)]) (σ' := σ) 4 rfl ?_
    refine Wp.lald (N := 560) rfl rfl c2 ?_
    refine Wp.adv (pc' := 100) (ls' := [.ref 4, .int x1, .int x2, .int x3, .int x4, .int x5, .int x6]) (st' := [.int (lg_cmp (σ.2.1 17 (x6).toNatClampNeg) (σ.2.1 17 (x5).toNatClampNeg))]) (σ' := σ) 1 rfl ?_
    exact Wp.if_ rfl ht hf
theorem b102_103 {d : Nat} {Q : Option Value → px_S → Prop} {σ : px_S} {x1 x2 x3 x4 x5 x6 : Int32} {k : Nat} (hk : k = 3 ∨ k = 4) (h : Wp d tb_102 113 [.ref k, .int x1, .int (x2 ||| ((1 : Int32) <<< ((x6 - x6 / (14 : Int32) * (14 : Int32)) &&& 31))), .int x3, .int x4, .int x5, .int x6] [] σ Q) : Wp d tb_102 103 [.ref k, .int x1, .int x2, .int x3, .int x4, .int x5, .int x6] [] σ Q := by
  rcases hk with rfl | rfl
  · refine Wp.adv (pc' := 109) (ls' := [.ref 3, .int x1, .int x2, .int x3, .int x4, .int x5, .int x6]) (st' := [.int (14 : Int32), .int x6, .int (1 : Int32), .int x2]) (σ' := σ) 4 rfl ?_
    refine Wp.binz rfl (by decide) ?_
    refine Wp.adv (pc' := 113) (ls' := [.ref 3, .int x1, .int (x2 ||| ((1 : Int32) <<< ((x6 - x6 / (14 : Int32) * (14 : Int32)) &&& 31))), .int x3, .int x4, .int x5, .int x6]) (st' := []) (σ' := σ) 3 rfl ?_
    exact h
  · refine Wp.adv (pc' := 109) (ls' := [.ref 4, .int x1, .int x2, .int x3, .int x4, .int x5, .int x6]) (st' := [.int (14 : Int32), .int x6, .int (1 : Int32), .int x2]) (σ' := σ) 4 rfl ?_
    refine Wp.binz rfl (by decide) ?_
    refine Wp.adv (pc' := 113) (ls' := [.ref 4, .int x1, .int (x2 ||| ((1 : Int32) <<< ((x6 - x6 / (14 : Int32) * (14 : Int32)) &&& 31))), .int x3, .int x4, .int x5, .int x6]) (st' := []) (σ' := σ) 3 rfl ?_
    exact h
theorem b102_113 {d : Nat} {Q : Option Value → px_S → Prop} {σ : px_S} {x1 x2 x3 x4 x5 x6 : Int32} {k : Nat} (hk : k = 3 ∨ k = 4) (h : Wp d tb_102 34 [.ref k, .int x1, .int x2, .int x3, .int (x4 + 1), .int x5, .int x6] [] σ Q) : Wp d tb_102 113 [.ref k, .int x1, .int x2, .int x3, .int x4, .int x5, .int x6] [] σ Q := by
  rcases hk with rfl | rfl
  · refine Wp.adv (pc' := 34) (ls' := [.ref 3, .int x1, .int x2, .int x3, .int (x4 + 1), .int x5, .int x6]) (st' := []) (σ' := σ) 2 rfl ?_
    exact h
  · refine Wp.adv (pc' := 34) (ls' := [.ref 4, .int x1, .int x2, .int x3, .int (x4 + 1), .int x5, .int x6]) (st' := []) (σ' := σ) 2 rfl ?_
    exact h
theorem b102_119 {d : Nat} {Q : Option Value → px_S → Prop} {σ : px_S} {x1 x2 x3 : Int32} {v4 v5 v6 : Value} {k : Nat} (hk : k = 3 ∨ k = 4) (h : Wp d tb_102 4 [.ref k, .int x1, .int x2, .int (x3 + 1), v4, v5, v6] [] σ Q) : Wp d tb_102 119 [.ref k, .int x1, .int x2, .int x3, v4, v5, v6] [] σ Q := by
  rcases hk with rfl | rfl
  · refine Wp.adv (pc' := 4) (ls' := [.ref 3, .int x1, .int x2, .int (x3 + 1), v4, v5, v6]) (st' := []) (σ' := σ) 2 rfl ?_
    exact h
  · refine Wp.adv (pc' := 4) (ls' := [.ref 4, .int x1, .int x2, .int (x3 + 1), v4, v5, v6]) (st' := []) (σ' := σ) 2 rfl ?_
    exact h
theorem b102_125 {d : Nat} {Q : Option Value → px_S → Prop} {σ : px_S} {x1 x2 x3 : Int32} {v4 v5 v6 : Value} {k : Nat} (hk : k = 3 ∨ k = 4) (h : Q (some (.int x2)) σ) : Wp d tb_102 125 [.ref k, .int x1, .int x2, .int x3, v4, v5, v6] [] σ Q := by
  rcases hk with rfl | rfl
  · refine Wp.adv (pc' := 126) (ls' := [.ref 3, .int x1, .int x2, .int x3, v4, v5, v6]) (st' := [.int x2]) (σ' := σ) 1 rfl ?_
    exact Wp.ret rfl rfl h
  · refine Wp.adv (pc' := 126) (ls' := [.ref 4, .int x1, .int x2, .int x3, v4, v5, v6]) (st' := [.int x2]) (σ' := σ) 1 rfl ?_
    exact Wp.ret rfl rfl h
theorem e102 {d : Nat} {Q : Option Value → px_S → Prop} {σ : px_S} {x1 : Int32} {k : Nat} (h : Wp d tb_102 0 [.ref k, .int x1, .null, .null, .null, .null, .null] [] σ Q) : Cw (d + 1) 102 [.ref k, .int x1] σ Q := Cw.of (nL := 7) (y := yX2_linesQuotedAlike) (cc := cX2_linesQuotedAlike) (rt := some .int) rfl (Nat.le_of_ble_eq_true rfl) h
theorem b103_0 {d : Nat} {Q : Option Value → px_S → Prop} {σ : px_S} {x1 : Int32} {y2 : Int64} (ht : x1 < (1 : Int32) → Wp d tb_103 11 [.ref 0, .int x1, .long y2, .null] [] σ Q) (hf : ¬ (x1 < (1 : Int32)) → Wp d tb_103 5 [.ref 0, .int x1, .long y2, .null] [] σ Q) : Wp d tb_103 0 [.ref 0, .int x1, .long y2, .null] [] σ Q := by
  refine Wp.adv (pc' := 2) (ls' := [.ref 0, .int x1, .long y2, .null]) (st' := [.int (1 : Int32), .int x1]) (σ' := σ) 2 rfl ?_
  exact Wp.icmp rfl ht hf
theorem b103_5 {d : Nat} {Q : Option Value → px_S → Prop} {σ : px_S} {x1 : Int32} {y2 : Int64} (ht : x1 ≤ (8 : Int32) → Wp d tb_103 15 [.ref 0, .int x1, .long y2, .null] [] σ Q) (hf : ¬ (x1 ≤ (8 : Int32)) → Wp d tb_103 11 [.ref 0, .int x1, .long y2, .null] [] σ Q) : Wp d tb_103 5 [.ref 0, .int x1, .long y2, .null] [] σ Q := by
  refine Wp.adv (pc' := 8) (ls' := [.ref 0, .int x1, .long y2, .null]) (st' := [.int (8 : Int32), .int x1]) (σ' := σ) 2 rfl ?_
  exact Wp.icmp rfl ht hf
theorem b103_11 {d : Nat} {Q : Option Value → px_S → Prop} {σ : px_S} {x1 : Int32} {y2 : Int64} (h : Q (some (.int (-1002 : Int32))) σ) : Wp d tb_103 11 [.ref 0, .int x1, .long y2, .null] [] σ Q := by
  refine Wp.adv (pc' := 14) (ls' := [.ref 0, .int x1, .long y2, .null]) (st' := [.int (-1002 : Int32)]) (σ' := σ) 1 rfl ?_
  exact Wp.ret rfl rfl h
theorem b103_15 {d : Nat} {Q : Option Value → px_S → Prop} {σ : px_S} {x1 : Int32} {y2 : Int64} (ht : ((σ.1 8 2) + x1) ≤ (120 : Int32) → Wp d tb_103 35 [.ref 0, .int x1, .long y2, .null] [] σ Q) (hf : ¬ (((σ.1 8 2) + x1) ≤ (120 : Int32)) → Wp d tb_103 29 [.ref 0, .int x1, .long y2, .null] [] σ Q) : Wp d tb_103 15 [.ref 0, .int x1, .long y2, .null] [] σ Q := by
  refine Wp.adv (pc' := 26) (ls' := [.ref 0, .int x1, .long y2, .null]) (st' := [.int (120 : Int32), .int ((σ.1 8 2) + x1)]) (σ' := σ) 6 rfl ?_
  exact Wp.icmp rfl ht hf
theorem b103_29 {d : Nat} {Q : Option Value → px_S → Prop} {σ : px_S} {x1 : Int32} {y2 : Int64} (h : Wp d tb_103 44 [.ref 0, .int x1, .long y2, .null] [.int (-1004 : Int32)] σ Q) : Wp d tb_103 29 [.ref 0, .int x1, .long y2, .null] [] σ Q := by
  refine Wp.adv (pc' := 44) (ls' := [.ref 0, .int x1, .long y2, .null]) (st' := [.int (-1004 : Int32)]) (σ' := σ) 2 rfl ?_
  exact h
theorem b103_35 {d : Nat} {Q : Option Value → px_S → Prop} {σ : px_S} {x1 : Int32} {y2 : Int64} (h : Cw d 104 [.ref 8, .int x1, .long y2] σ (fun r τ => Wp d tb_103 44 [.ref 0, .int x1, .long y2, .null] (r.toList ++ []) τ Q)) : Wp d tb_103 35 [.ref 0, .int x1, .long y2, .null] [] σ Q := by
  refine Wp.adv (pc' := 41) (ls' := [.ref 0, .int x1, .long y2, .null]) (st' := [.long y2, .int x1, .ref 8]) (σ' := σ) 4 rfl ?_
  exact Wp.call (q := (104, 3, 7, 44)) rfl (Nat.le_of_ble_eq_true rfl) rfl h
theorem b103_44 {d : Nat} {Q : Option Value → px_S → Prop} {σ : px_S} {x1 s0 : Int32} {y2 : Int64} (h : Q (some (.int s0)) σ) : Wp d tb_103 44 [.ref 0, .int x1, .long y2, .null] [.int s0] σ Q := by
  exact Wp.ret rfl rfl h
theorem e103 {d : Nat} {Q : Option Value → px_S → Prop} {σ : px_S} {x1 : Int32} {y2 : Int64} (h : Wp d tb_103 0 [.ref 0, .int x1, .long y2, .null] [] σ Q) : Cw (d + 1) 103 [.ref 0, .int x1, .long y2] σ Q := Cw.of (nL := 4) (y := yX8_feed) (cc := cX8_feed) (rt := some .int) rfl (Nat.le_of_ble_eq_true rfl) h
theorem b104_0 {d : Nat} {Q : Option Value → px_S → Prop} {σ : px_S} {x1 : Int32} {y2 : Int64} (h : Wp d tb_104 5 [.ref 8, .int x1, .long y2, .null, .int (x1 - (1 : Int32))] [] σ Q) : Wp d tb_104 0 [.ref 8, .int x1, .long y2, .null, .null] [] σ Q := by
  refine Wp.adv (pc' := 5) (ls' := [.ref 8, .int x1, .long y2, .null, .int (x1 - (1 : Int32))]) (st' := []) (σ' := σ) 4 rfl ?_
  exact h
theorem b104_5 {d : Nat} {Q : Option Value → px_S → Prop} {σ : px_S} {x1 x4 : Int32} {y2 : Int64} (ht : x4 < 0 → Wp d tb_104 56 [.ref 8, .int x1, .long y2, .null, .int x4] [] σ Q) (hf : ¬ (x4 < 0) → Wp d tb_104 10 [.ref 8, .int x1, .long y2, .null, .int x4] [] σ Q) : Wp d tb_104 5 [.ref 8, .int x1, .long y2, .null, .int x4] [] σ Q := by
  refine Wp.adv (pc' := 7) (ls' := [.ref 8, .int x1, .long y2, .null, .int x4]) (st' := [.int x4]) (σ' := σ) 1 rfl ?_
  exact Wp.if_ rfl ht hf
theorem b104_10 {d : Nat} {Q : Option Value → px_S → Prop} {σ : px_S} {x1 x4 : Int32} {y2 : Int64} (ht : (120 : Int32) ≤ (σ.1 8 2) → Wp d tb_104 56 [.ref 8, .int x1, .long y2, .null, .int x4] [] σ Q) (hf : ¬ ((120 : Int32) ≤ (σ.1 8 2)) → Wp d tb_104 19 [.ref 8, .int x1, .long y2, .null, .int x4] [] σ Q) : Wp d tb_104 10 [.ref 8, .int x1, .long y2, .null, .int x4] [] σ Q := by
  refine Wp.adv (pc' := 16) (ls' := [.ref 8, .int x1, .long y2, .null, .int x4]) (st' := [.int (120 : Int32), .int (σ.1 8 2)]) (σ' := σ) 3 rfl ?_
  exact Wp.icmp rfl ht hf
theorem b104_19 {d : Nat} {Q : Option Value → px_S → Prop} {σ : px_S} {x1 x4 : Int32} {y2 : Int64} (c1 : vp_in (σ.1 8 2) 120) (h : Wp d tb_104 40 [.ref 8, .int x1, .long y2, .null, .int x4] [] (px_uI σ 35 ((σ.1 8 2)).toNatClampNeg (((((y2).toUInt64 >>> ((((8 : Int32) * x4)).toInt64.toUInt64 &&& Int64.toUInt64 63)).toInt64)).toInt32 &&& (255 : Int32))) Q) : Wp d tb_104 19 [.ref 8, .int x1, .long y2, .null, .int x4] [] σ Q := by
  refine Wp.adv (pc' := 39) (ls' := [.ref 8, .int x1, .long y2, .null, .int x4]) (st' := [.int (((((y2).toUInt64 >>> ((((8 : Int32) * x4)).toInt64.toUInt64 &&& Int64.toUInt64 63)).toInt64)).toInt32 &&& (255 : Int32)), .int (σ.1 8 2), .ref 35]) (σ' := σ) 12 rfl ?_
  refine Wp.iast (N := 120) rfl rfl c1 ?_
  exact h
theorem b104_40 {d : Nat} {Q : Option Value → px_S → Prop} {σ : px_S} {x1 x4 : Int32} {y2 : Int64} (h : Wp d tb_104 50 [.ref 8, .int x1, .long y2, .null, .int x4] [] (px_uI σ 8 2 ((σ.1 8 2) + (1 : Int32))) Q) : Wp d tb_104 40 [.ref 8, .int x1, .long y2, .null, .int x4] [] σ Q := by
  refine Wp.adv (pc' := 47) (ls' := [.ref 8, .int x1, .long y2, .null, .int x4]) (st' := [.int ((σ.1 8 2) + (1 : Int32)), .ref 8]) (σ' := σ) 5 rfl ?_
  refine Wp.step (q := (50, [.ref 8, .int x1, .long y2, .null, .int x4], [], (px_uI σ 8 2 ((σ.1 8 2) + (1 : Int32))))) rfl rfl ?_
  exact h
theorem b104_50 {d : Nat} {Q : Option Value → px_S → Prop} {σ : px_S} {x1 x4 : Int32} {y2 : Int64} (h : Wp d tb_104 5 [.ref 8, .int x1, .long y2, .null, .int (x4 + (-1))] [] σ Q) : Wp d tb_104 50 [.ref 8, .int x1, .long y2, .null, .int x4] [] σ Q := by
  refine Wp.adv (pc' := 5) (ls' := [.ref 8, .int x1, .long y2, .null, .int (x4 + (-1))]) (st' := []) (σ' := σ) 2 rfl ?_
  exact h
theorem b104_56 {d : Nat} {Q : Option Value → px_S → Prop} {σ : px_S} {x1 x4 : Int32} {y2 : Int64} (h : Q (some (.int (σ.1 8 2))) σ) : Wp d tb_104 56 [.ref 8, .int x1, .long y2, .null, .int x4] [] σ Q := by
  refine Wp.adv (pc' := 60) (ls' := [.ref 8, .int x1, .long y2, .null, .int x4]) (st' := [.int (σ.1 8 2)]) (σ' := σ) 2 rfl ?_
  exact Wp.ret rfl rfl h
theorem e104 {d : Nat} {Q : Option Value → px_S → Prop} {σ : px_S} {x1 : Int32} {y2 : Int64} (h : Wp d tb_104 0 [.ref 8, .int x1, .long y2, .null, .null] [] σ Q) : Cw (d + 1) 104 [.ref 8, .int x1, .long y2] σ Q := Cw.of (nL := 5) (y := yX6_addBytes) (cc := cX6_addBytes) (rt := some .int) rfl (Nat.le_of_ble_eq_true rfl) h
theorem b105_0 {d : Nat} {Q : Option Value → px_S → Prop} {σ : px_S}  (h : Cw d 106 [.ref 8] σ (fun r τ => Wp d tb_105 7 [.ref 0, .null] (r.toList ++ []) τ Q)) : Wp d tb_105 0 [.ref 0, .null] [] σ Q := by
  refine Wp.adv (pc' := 4) (ls' := [.ref 0, .null]) (st' := [.ref 8]) (σ' := σ) 2 rfl ?_
  exact Wp.call (q := (106, 1, 7, 7)) rfl (Nat.le_of_ble_eq_true rfl) rfl h
theorem b105_7 {d : Nat} {Q : Option Value → px_S → Prop} {σ : px_S} {s0 : Int32} (h : Wp d tb_105 16 [.ref 0, .int s0] [] (px_uI σ 8 2 (0 : Int32)) Q) : Wp d tb_105 7 [.ref 0, .null] [.int s0] σ Q := by
  refine Wp.adv (pc' := 13) (ls' := [.ref 0, .int s0]) (st' := [.int (0 : Int32), .ref 8]) (σ' := σ) 4 rfl ?_
  refine Wp.step (q := (16, [.ref 0, .int s0], [], (px_uI σ 8 2 (0 : Int32)))) rfl rfl ?_
  exact h
theorem b105_16 {d : Nat} {Q : Option Value → px_S → Prop} {σ : px_S} {x1 : Int32} (ht : (σ.1 8 3) = (-1 : Int32) → Wp d tb_105 38 [.ref 0, .int x1] [] σ Q) (hf : ¬ ((σ.1 8 3) = (-1 : Int32)) → Wp d tb_105 27 [.ref 0, .int x1] [] σ Q) : Wp d tb_105 16 [.ref 0, .int x1] [] σ Q := by
  refine Wp.adv (pc' := 24) (ls' := [.ref 0, .int x1]) (st' := [.int (-1 : Int32), .int (σ.1 8 3)]) (σ' := σ) 4 rfl ?_
  exact Wp.icmp rfl ht hf
theorem b105_27 {d : Nat} {Q : Option Value → px_S → Prop} {σ : px_S} {x1 : Int32} (h : Q (some (.int ((-10 : Int32) - (σ.1 8 4)))) σ) : Wp d tb_105 27 [.ref 0, .int x1] [] σ Q := by
  refine Wp.adv (pc' := 37) (ls' := [.ref 0, .int x1]) (st' := [.int ((-10 : Int32) - (σ.1 8 4))]) (σ' := σ) 5 rfl ?_
  exact Wp.ret rfl rfl h
theorem b105_38 {d : Nat} {Q : Option Value → px_S → Prop} {σ : px_S} {x1 : Int32} (c1 : vp_in (0 : Int32) 5) (c2 : vp_in (0 : Int32) 5) (ht : (σ.1 10 ((0 : Int32)).toNatClampNeg) = (σ.1 36 ((0 : Int32)).toNatClampNeg) → Wp d tb_105 63 [.ref 0, .int x1] [] σ Q) (hf : ¬ ((σ.1 10 ((0 : Int32)).toNatClampNeg) = (σ.1 36 ((0 : Int32)).toNatClampNeg)) → Wp d tb_105 56 [.ref 0, .int x1] [] σ Q) : Wp d tb_105 38 [.ref 0, .int x1] [] σ Q := by
  refine Wp.adv (pc' := 43) (ls' := [.ref 0, .int x1]) (st' := [.int (0 : Int32), .ref 10]) (σ' := σ) 3 rfl ?_
  refine Wp.iald (N := 5) rfl rfl c1 ?_
  refine Wp.adv (pc' := 52) (ls' := [.ref 0, .int x1]) (st' := [.int (0 : Int32), .ref 36, .int (σ.1 10 ((0 : Int32)).toNatClampNeg)]) (σ' := σ) 4 rfl ?_
  refine Wp.iald (N := 5) rfl rfl c2 ?_
  exact Wp.icmp rfl ht hf
theorem b105_56 {d : Nat} {Q : Option Value → px_S → Prop} {σ : px_S} {x1 : Int32} (h : Cw d 125 [.ref 2] σ (fun r τ => Wp d tb_105 63 [.ref 0, .int x1] (r.toList ++ []) τ Q)) : Wp d tb_105 56 [.ref 0, .int x1] [] σ Q := by
  refine Wp.adv (pc' := 60) (ls' := [.ref 0, .int x1]) (st' := [.ref 2]) (σ' := σ) 2 rfl ?_
  exact Wp.call (q := (125, 1, 1, 63)) rfl (Nat.le_of_ble_eq_true rfl) rfl h
theorem b105_63 {d : Nat} {Q : Option Value → px_S → Prop} {σ : px_S} {x1 : Int32} (h : Wp d tb_105 80 [.ref 0, .int x1] [] (px_cp σ 10 (σ.1 36) 5) Q) : Wp d tb_105 63 [.ref 0, .int x1] [] σ Q := by
  refine Wp.adv (pc' := 77) (ls' := [.ref 0, .int x1]) (st' := [.int (5 : Int32), .int (0 : Int32), .ref 10, .int (0 : Int32), .ref 36]) (σ' := σ) 8 rfl ?_
  refine Wp.step (q := (80, [.ref 0, .int x1], [], (px_cp σ 10 (σ.1 36) 5))) rfl (by rfl) ?_
  exact h
theorem b105_80 {d : Nat} {Q : Option Value → px_S → Prop} {σ : px_S} {x1 : Int32} (h : Cw d 7 [.ref 0] σ (fun r τ => Wp d tb_105 84 [.ref 0, .int x1] (r.toList ++ []) τ Q)) : Wp d tb_105 80 [.ref 0, .int x1] [] σ Q := by
  refine Wp.adv (pc' := 81) (ls' := [.ref 0, .int x1]) (st' := [.ref 0]) (σ' := σ) 1 rfl ?_
  exact Wp.call (q := (7, 1, 8, 84)) rfl (Nat.le_of_ble_eq_true rfl) rfl h
theorem b105_84 {d : Nat} {Q : Option Value → px_S → Prop} {σ : px_S} {x1 : Int32} (h : Q (some (.int x1)) σ) : Wp d tb_105 84 [.ref 0, .int x1] [] σ Q := by
  refine Wp.adv (pc' := 85) (ls' := [.ref 0, .int x1]) (st' := [.int x1]) (σ' := σ) 1 rfl ?_
  exact Wp.ret rfl rfl h
theorem e105 {d : Nat} {Q : Option Value → px_S → Prop} {σ : px_S}  (h : Wp d tb_105 0 [.ref 0, .null] [] σ Q) : Cw (d + 1) 105 [.ref 0] σ Q := Cw.of (nL := 2) (y := yX8_read) (cc := cX8_read) (rt := some .int) rfl (Nat.le_of_ble_eq_true rfl) h
theorem b106_0 {d : Nat} {Q : Option Value → px_S → Prop} {σ : px_S}  (h : Wp d tb_106 13 [.ref 8, .null] [] (px_cp σ 36 px_FR 5) Q) : Wp d tb_106 0 [.ref 8, .null] [] σ Q := by
  refine Wp.adv (pc' := 10) (ls' := [.ref 8, .null]) (st' := [.int (5 : Int32), .int (0 : Int32), .ref 36, .int (0 : Int32), .ref 100]) (σ' := σ) 6 rfl ?_
  refine Wp.step (q := (13, [.ref 8, .null], [], (px_cp σ 36 px_FR 5))) rfl (by rfl) ?_
  exact h
theorem b106_13 {d : Nat} {Q : Option Value → px_S → Prop} {σ : px_S}  (h : Wp d tb_106 18 [.ref 8, .null] [] (px_uI σ 8 5 (0 : Int32)) Q) : Wp d tb_106 13 [.ref 8, .null] [] σ Q := by
  refine Wp.adv (pc' := 15) (ls' := [.ref 8, .null]) (st' := [.int (0 : Int32), .ref 8]) (σ' := σ) 2 rfl ?_
  refine Wp.step (q := (18, [.ref 8, .null], [], (px_uI σ 8 5 (0 : Int32)))) rfl rfl ?_
  exact h
theorem b106_18 {d : Nat} {Q : Option Value → px_S → Prop} {σ : px_S}  (h : Wp d tb_106 23 [.ref 8, .null] [] (px_uI σ 8 6 (0 : Int32)) Q) : Wp d tb_106 18 [.ref 8, .null] [] σ Q := by
  refine Wp.adv (pc' := 20) (ls' := [.ref 8, .null]) (st' := [.int (0 : Int32), .ref 8]) (σ' := σ) 2 rfl ?_
  refine Wp.step (q := (23, [.ref 8, .null], [], (px_uI σ 8 6 (0 : Int32)))) rfl rfl ?_
  exact h
theorem b106_23 {d : Nat} {Q : Option Value → px_S → Prop} {σ : px_S}  (h : Wp d tb_106 28 [.ref 8, .null] [] (px_uI σ 8 3 (-1 : Int32)) Q) : Wp d tb_106 23 [.ref 8, .null] [] σ Q := by
  refine Wp.adv (pc' := 25) (ls' := [.ref 8, .null]) (st' := [.int (-1 : Int32), .ref 8]) (σ' := σ) 2 rfl ?_
  refine Wp.step (q := (28, [.ref 8, .null], [], (px_uI σ 8 3 (-1 : Int32)))) rfl rfl ?_
  exact h
theorem b106_28 {d : Nat} {Q : Option Value → px_S → Prop} {σ : px_S}  (h : Wp d tb_106 33 [.ref 8, .null] [] (px_uI σ 8 4 (0 : Int32)) Q) : Wp d tb_106 28 [.ref 8, .null] [] σ Q := by
  refine Wp.adv (pc' := 30) (ls' := [.ref 8, .null]) (st' := [.int (0 : Int32), .ref 8]) (σ' := σ) 2 rfl ?_
  refine Wp.step (q := (33, [.ref 8, .null], [], (px_uI σ 8 4 (0 : Int32)))) rfl rfl ?_
  exact h
theorem b106_33 {d : Nat} {Q : Option Value → px_S → Prop} {σ : px_S}  (h : Cw d 107 [.ref 8] σ (fun r τ => Wp d tb_106 39 [.ref 8, .int (0 : Int32)] (r.toList ++ []) τ Q)) : Wp d tb_106 33 [.ref 8, .null] [] σ Q := by
  refine Wp.adv (pc' := 36) (ls' := [.ref 8, .int (0 : Int32)]) (st' := [.ref 8]) (σ' := σ) 3 rfl ?_
  exact Wp.call (q := (107, 1, 7, 39)) rfl (Nat.le_of_ble_eq_true rfl) rfl h
theorem b106_39 {d : Nat} {Q : Option Value → px_S → Prop} {σ : px_S} {x1 : Int32} (ht : (120 : Int32) ≤ x1 → Wp d tb_106 73 [.ref 8, .int x1] [] σ Q) (hf : ¬ ((120 : Int32) ≤ x1) → Wp d tb_106 45 [.ref 8, .int x1] [] σ Q) : Wp d tb_106 39 [.ref 8, .int x1] [] σ Q := by
  refine Wp.adv (pc' := 42) (ls' := [.ref 8, .int x1]) (st' := [.int (120 : Int32), .int x1]) (σ' := σ) 2 rfl ?_
  exact Wp.icmp rfl ht hf
theorem b106_45 {d : Nat} {Q : Option Value → px_S → Prop} {σ : px_S} {x1 : Int32} (ht : (σ.1 8 2) ≤ (σ.1 8 5) → Wp d tb_106 73 [.ref 8, .int x1] [] σ Q) (hf : ¬ ((σ.1 8 2) ≤ (σ.1 8 5)) → Wp d tb_106 56 [.ref 8, .int x1] [] σ Q) : Wp d tb_106 45 [.ref 8, .int x1] [] σ Q := by
  refine Wp.adv (pc' := 53) (ls' := [.ref 8, .int x1]) (st' := [.int (σ.1 8 2), .int (σ.1 8 5)]) (σ' := σ) 4 rfl ?_
  exact Wp.icmp rfl ht hf
theorem b106_56 {d : Nat} {Q : Option Value → px_S → Prop} {σ : px_S} {x1 : Int32} (h : Cw d 108 [.ref 8] σ (fun r τ => Wp d tb_106 60 [.ref 8, .int x1] (r.toList ++ []) τ Q)) : Wp d tb_106 56 [.ref 8, .int x1] [] σ Q := by
  refine Wp.adv (pc' := 57) (ls' := [.ref 8, .int x1]) (st' := [.ref 8]) (σ' := σ) 1 rfl ?_
  exact Wp.call (q := (108, 1, 7, 60)) rfl (Nat.le_of_ble_eq_true rfl) rfl h
theorem b106_60 {d : Nat} {Q : Option Value → px_S → Prop} {σ : px_S} {x1 s0 : Int32} (ht : s0 = 0 → Wp d tb_106 73 [.ref 8, .int x1] [] σ Q) (hf : ¬ (s0 = 0) → Wp d tb_106 63 [.ref 8, .int x1] [] σ Q) : Wp d tb_106 60 [.ref 8, .int x1] [.int s0] σ Q := by
  exact Wp.if_ rfl ht hf
theorem b106_63 {d : Nat} {Q : Option Value → px_S → Prop} {σ : px_S} {x1 : Int32} (h : Cw d 107 [.ref 8] σ (fun r τ => Wp d tb_106 70 [.ref 8, .int (x1 + 1)] (r.toList ++ []) τ Q)) : Wp d tb_106 63 [.ref 8, .int x1] [] σ Q := by
  refine Wp.adv (pc' := 67) (ls' := [.ref 8, .int (x1 + 1)]) (st' := [.ref 8]) (σ' := σ) 2 rfl ?_
  exact Wp.call (q := (107, 1, 7, 70)) rfl (Nat.le_of_ble_eq_true rfl) rfl h
theorem b106_70 {d : Nat} {Q : Option Value → px_S → Prop} {σ : px_S} {x1 : Int32} (h : Wp d tb_106 39 [.ref 8, .int x1] [] σ Q) : Wp d tb_106 70 [.ref 8, .int x1] [] σ Q := by
  refine Wp.adv (pc' := 39) (ls' := [.ref 8, .int x1]) (st' := []) (σ' := σ) 1 rfl ?_
  exact h
theorem b106_73 {d : Nat} {Q : Option Value → px_S → Prop} {σ : px_S} {x1 : Int32} (h : Q (some (.int x1)) σ) : Wp d tb_106 73 [.ref 8, .int x1] [] σ Q := by
  refine Wp.adv (pc' := 74) (ls' := [.ref 8, .int x1]) (st' := [.int x1]) (σ' := σ) 1 rfl ?_
  exact Wp.ret rfl rfl h
theorem e106 {d : Nat} {Q : Option Value → px_S → Prop} {σ : px_S}  (h : Wp d tb_106 0 [.ref 8, .null] [] σ Q) : Cw (d + 1) 106 [.ref 8] σ Q := Cw.of (nL := 2) (y := yX6_readClauses) (cc := cX6_readClauses) (rt := some .int) rfl (Nat.le_of_ble_eq_true rfl) h
theorem b107_0 {d : Nat} {Q : Option Value → px_S → Prop} {σ : px_S}  (ht : (σ.1 8 2) ≤ (σ.1 8 5) → Wp d tb_107 38 [.ref 8] [] σ Q) (hf : ¬ ((σ.1 8 2) ≤ (σ.1 8 5)) → Wp d tb_107 11 [.ref 8] [] σ Q) : Wp d tb_107 0 [.ref 8] [] σ Q := by
  refine Wp.adv (pc' := 8) (ls' := [.ref 8]) (st' := [.int (σ.1 8 2), .int (σ.1 8 5)]) (σ' := σ) 4 rfl ?_
  exact Wp.icmp rfl ht hf
theorem b107_11 {d : Nat} {Q : Option Value → px_S → Prop} {σ : px_S}  (c1 : vp_in (σ.1 8 5) 120) (ht : ¬ (σ.1 35 ((σ.1 8 5)).toNatClampNeg) = (32 : Int32) → Wp d tb_107 38 [.ref 8] [] σ Q) (hf : ¬ (¬ (σ.1 35 ((σ.1 8 5)).toNatClampNeg) = (32 : Int32)) → Wp d tb_107 25 [.ref 8] [] σ Q) : Wp d tb_107 11 [.ref 8] [] σ Q := by
  refine Wp.adv (pc' := 19) (ls' := [.ref 8]) (st' := [.int (σ.1 8 5), .ref 35]) (σ' := σ) 4 rfl ?_
  refine Wp.iald (N := 120) rfl rfl c1 ?_
  refine Wp.adv (pc' := 22) (ls' := [.ref 8]) (st' := [.int (32 : Int32), .int (σ.1 35 ((σ.1 8 5)).toNatClampNeg)]) (σ' := σ) 1 rfl ?_
  exact Wp.icmp rfl ht hf
theorem b107_25 {d : Nat} {Q : Option Value → px_S → Prop} {σ : px_S}  (h : Wp d tb_107 35 [.ref 8] [] (px_uI σ 8 5 ((σ.1 8 5) + (1 : Int32))) Q) : Wp d tb_107 25 [.ref 8] [] σ Q := by
  refine Wp.adv (pc' := 32) (ls' := [.ref 8]) (st' := [.int ((σ.1 8 5) + (1 : Int32)), .ref 8]) (σ' := σ) 5 rfl ?_
  refine Wp.step (q := (35, [.ref 8], [], (px_uI σ 8 5 ((σ.1 8 5) + (1 : Int32))))) rfl rfl ?_
  exact h
theorem b107_35 {d : Nat} {Q : Option Value → px_S → Prop} {σ : px_S}  (h : Wp d tb_107 0 [.ref 8] [] σ Q) : Wp d tb_107 35 [.ref 8] [] σ Q := by
  refine Wp.adv (pc' := 0) (ls' := [.ref 8]) (st' := []) (σ' := σ) 1 rfl ?_
  exact h
theorem b107_38 {d : Nat} {Q : Option Value → px_S → Prop} {σ : px_S}  (h : Q none σ) : Wp d tb_107 38 [.ref 8] [] σ Q := by
  exact Wp.ret rfl rfl h
theorem e107 {d : Nat} {Q : Option Value → px_S → Prop} {σ : px_S}  (h : Wp d tb_107 0 [.ref 8] [] σ Q) : Cw (d + 1) 107 [.ref 8] σ Q := Cw.of (nL := 1) (y := yX6_skipBlanks) (cc := cX6_skipBlanks) (rt := none) rfl (Nat.le_of_ble_eq_true rfl) h
theorem b108_0 {d : Nat} {Q : Option Value → px_S → Prop} {σ : px_S}  (h : Cw d 109 [.ref 8] σ (fun r τ => Wp d tb_108 9 [.ref 8, .int (σ.1 8 5), .null, .null, .null] (r.toList ++ []) τ Q)) : Wp d tb_108 0 [.ref 8, .null, .null, .null, .null] [] σ Q := by
  refine Wp.adv (pc' := 6) (ls' := [.ref 8, .int (σ.1 8 5), .null, .null, .null]) (st' := [.ref 8]) (σ' := σ) 4 rfl ?_
  exact Wp.call (q := (109, 1, 7, 9)) rfl (Nat.le_of_ble_eq_true rfl) rfl h
theorem b108_9 {d : Nat} {Q : Option Value → px_S → Prop} {σ : px_S} {x1 s0 : Int32} (h : Cw d 110 [.ref 8, .int x1, .int s0] σ (fun r τ => Wp d tb_108 16 [.ref 8, .int x1, .int s0, .null, .null] (r.toList ++ []) τ Q)) : Wp d tb_108 9 [.ref 8, .int x1, .null, .null, .null] [.int s0] σ Q := by
  refine Wp.adv (pc' := 13) (ls' := [.ref 8, .int x1, .int s0, .null, .null]) (st' := [.int s0, .int x1, .ref 8]) (σ' := σ) 4 rfl ?_
  exact Wp.call (q := (110, 3, 7, 16)) rfl (Nat.le_of_ble_eq_true rfl) rfl h
theorem b108_16 {d : Nat} {Q : Option Value → px_S → Prop} {σ : px_S} {x1 x2 s0 : Int32} (ht : ¬ s0 = (-1 : Int32) → Wp d tb_108 29 [.ref 8, .int x1, .int x2, .int s0, .null] [] σ Q) (hf : ¬ (¬ s0 = (-1 : Int32)) → Wp d tb_108 22 [.ref 8, .int x1, .int x2, .int s0, .null] [] σ Q) : Wp d tb_108 16 [.ref 8, .int x1, .int x2, .null, .null] [.int s0] σ Q := by
  refine Wp.adv (pc' := 19) (ls' := [.ref 8, .int x1, .int x2, .int s0, .null]) (st' := [.int (-1 : Int32), .int s0]) (σ' := σ) 3 rfl ?_
  exact Wp.icmp rfl ht hf
theorem b108_22 {d : Nat} {Q : Option Value → px_S → Prop} {σ : px_S} {x1 x2 x3 : Int32} (h : Cw d 120 [.ref 8, .int (1 : Int32), .int x1] σ (fun r τ => Wp d tb_108 28 [.ref 8, .int x1, .int x2, .int x3, .null] (r.toList ++ []) τ Q)) : Wp d tb_108 22 [.ref 8, .int x1, .int x2, .int x3, .null] [] σ Q := by
  refine Wp.adv (pc' := 25) (ls' := [.ref 8, .int x1, .int x2, .int x3, .null]) (st' := [.int x1, .int (1 : Int32), .ref 8]) (σ' := σ) 3 rfl ?_
  exact Wp.call (q := (120, 3, 7, 28)) rfl (Nat.le_of_ble_eq_true rfl) rfl h
theorem b108_28 {d : Nat} {Q : Option Value → px_S → Prop} {σ : px_S} {x1 x2 x3 s0 : Int32} (c1 : s0 = 0 ∨ s0 = 1) (h : Q (some (.int s0)) σ) : Wp d tb_108 28 [.ref 8, .int x1, .int x2, .int x3, .null] [.int s0] σ Q := by
  exact Wp.zret rfl c1 h
theorem b108_29 {d : Nat} {Q : Option Value → px_S → Prop} {σ : px_S} {x1 x2 x3 : Int32} (ht : ((((σ.1 8 6)).toUInt32 >>> ((x3).toUInt32 &&& Int32.toUInt32 31)).toInt32 &&& (1 : Int32)) = 0 → Wp d tb_108 47 [.ref 8, .int x1, .int x2, .int x3, .null] [] σ Q) (hf : ¬ (((((σ.1 8 6)).toUInt32 >>> ((x3).toUInt32 &&& Int32.toUInt32 31)).toInt32 &&& (1 : Int32)) = 0) → Wp d tb_108 40 [.ref 8, .int x1, .int x2, .int x3, .null] [] σ Q) : Wp d tb_108 29 [.ref 8, .int x1, .int x2, .int x3, .null] [] σ Q := by
  refine Wp.adv (pc' := 37) (ls' := [.ref 8, .int x1, .int x2, .int x3, .null]) (st' := [.int ((((σ.1 8 6)).toUInt32 >>> ((x3).toUInt32 &&& Int32.toUInt32 31)).toInt32 &&& (1 : Int32))]) (σ' := σ) 6 rfl ?_
  exact Wp.if_ rfl ht hf
theorem b108_40 {d : Nat} {Q : Option Value → px_S → Prop} {σ : px_S} {x1 x2 x3 : Int32} (h : Cw d 120 [.ref 8, .int (3 : Int32), .int x1] σ (fun r τ => Wp d tb_108 46 [.ref 8, .int x1, .int x2, .int x3, .null] (r.toList ++ []) τ Q)) : Wp d tb_108 40 [.ref 8, .int x1, .int x2, .int x3, .null] [] σ Q := by
  refine Wp.adv (pc' := 43) (ls' := [.ref 8, .int x1, .int x2, .int x3, .null]) (st' := [.int x1, .int (3 : Int32), .ref 8]) (σ' := σ) 3 rfl ?_
  exact Wp.call (q := (120, 3, 7, 46)) rfl (Nat.le_of_ble_eq_true rfl) rfl h
theorem b108_46 {d : Nat} {Q : Option Value → px_S → Prop} {σ : px_S} {x1 x2 x3 s0 : Int32} (c1 : s0 = 0 ∨ s0 = 1) (h : Q (some (.int s0)) σ) : Wp d tb_108 46 [.ref 8, .int x1, .int x2, .int x3, .null] [.int s0] σ Q := by
  exact Wp.zret rfl c1 h
theorem b108_47 {d : Nat} {Q : Option Value → px_S → Prop} {σ : px_S} {x1 x2 x3 : Int32} (h : Wp d tb_108 59 [.ref 8, .int x1, .int x2, .int x3, .null] [] (px_uI σ 8 6 ((σ.1 8 6) ||| ((1 : Int32) <<< (x3 &&& 31)))) Q) : Wp d tb_108 47 [.ref 8, .int x1, .int x2, .int x3, .null] [] σ Q := by
  refine Wp.adv (pc' := 56) (ls' := [.ref 8, .int x1, .int x2, .int x3, .null]) (st' := [.int ((σ.1 8 6) ||| ((1 : Int32) <<< (x3 &&& 31))), .ref 8]) (σ' := σ) 7 rfl ?_
  refine Wp.step (q := (59, [.ref 8, .int x1, .int x2, .int x3, .null], [], (px_uI σ 8 6 ((σ.1 8 6) ||| ((1 : Int32) <<< (x3 &&& 31)))))) rfl rfl ?_
  exact h
theorem b108_59 {d : Nat} {Q : Option Value → px_S → Prop} {σ : px_S} {x1 x2 x3 : Int32} (h : Wp d tb_108 64 [.ref 8, .int x1, .int x2, .int x3, .null] [] (px_uI σ 8 5 x2) Q) : Wp d tb_108 59 [.ref 8, .int x1, .int x2, .int x3, .null] [] σ Q := by
  refine Wp.adv (pc' := 61) (ls' := [.ref 8, .int x1, .int x2, .int x3, .null]) (st' := [.int x2, .ref 8]) (σ' := σ) 2 rfl ?_
  refine Wp.step (q := (64, [.ref 8, .int x1, .int x2, .int x3, .null], [], (px_uI σ 8 5 x2))) rfl rfl ?_
  exact h
theorem b108_64 {d : Nat} {Q : Option Value → px_S → Prop} {σ : px_S} {x1 x2 x3 : Int32} (h : Cw d 107 [.ref 8] σ (fun r τ => Wp d tb_108 68 [.ref 8, .int x1, .int x2, .int x3, .null] (r.toList ++ []) τ Q)) : Wp d tb_108 64 [.ref 8, .int x1, .int x2, .int x3, .null] [] σ Q := by
  refine Wp.adv (pc' := 65) (ls' := [.ref 8, .int x1, .int x2, .int x3, .null]) (st' := [.ref 8]) (σ' := σ) 1 rfl ?_
  exact Wp.call (q := (107, 1, 7, 68)) rfl (Nat.le_of_ble_eq_true rfl) rfl h
theorem b108_68 {d : Nat} {Q : Option Value → px_S → Prop} {σ : px_S} {x1 x2 x3 : Int32} (ht : ¬ x3 = (2 : Int32) → Wp d tb_108 80 [.ref 8, .int x1, .int x2, .int x3, .null] [] σ Q) (hf : ¬ (¬ x3 = (2 : Int32)) → Wp d tb_108 73 [.ref 8, .int x1, .int x2, .int x3, .null] [] σ Q) : Wp d tb_108 68 [.ref 8, .int x1, .int x2, .int x3, .null] [] σ Q := by
  refine Wp.adv (pc' := 70) (ls' := [.ref 8, .int x1, .int x2, .int x3, .null]) (st' := [.int (2 : Int32), .int x3]) (σ' := σ) 2 rfl ?_
  exact Wp.icmp rfl ht hf
theorem b108_73 {d : Nat} {Q : Option Value → px_S → Prop} {σ : px_S} {x1 x2 x3 : Int32} (h : Cw d 121 [.ref 8] σ (fun r τ => Wp d tb_108 77 [.ref 8, .int x1, .int x2, .int x3, .null] (r.toList ++ []) τ Q)) : Wp d tb_108 73 [.ref 8, .int x1, .int x2, .int x3, .null] [] σ Q := by
  refine Wp.adv (pc' := 74) (ls' := [.ref 8, .int x1, .int x2, .int x3, .null]) (st' := [.ref 8]) (σ' := σ) 1 rfl ?_
  exact Wp.call (q := (121, 1, 7, 77)) rfl (Nat.le_of_ble_eq_true rfl) rfl h
theorem b108_77 {d : Nat} {Q : Option Value → px_S → Prop} {σ : px_S} {x1 x2 x3 s0 : Int32} (h : Wp d tb_108 85 [.ref 8, .int x1, .int x2, .int x3, .null] [.int s0] σ Q) : Wp d tb_108 77 [.ref 8, .int x1, .int x2, .int x3, .null] [.int s0] σ Q := by
  refine Wp.adv (pc' := 85) (ls' := [.ref 8, .int x1, .int x2, .int x3, .null]) (st' := [.int s0]) (σ' := σ) 1 rfl ?_
  exact h
theorem b108_80 {d : Nat} {Q : Option Value → px_S → Prop} {σ : px_S} {x1 x2 x3 : Int32} (h : Cw d 122 [.ref 8, .int x3] σ (fun r τ => Wp d tb_108 85 [.ref 8, .int x1, .int x2, .int x3, .null] (r.toList ++ []) τ Q)) : Wp d tb_108 80 [.ref 8, .int x1, .int x2, .int x3, .null] [] σ Q := by
  refine Wp.adv (pc' := 82) (ls' := [.ref 8, .int x1, .int x2, .int x3, .null]) (st' := [.int x3, .ref 8]) (σ' := σ) 2 rfl ?_
  exact Wp.call (q := (122, 2, 7, 85)) rfl (Nat.le_of_ble_eq_true rfl) rfl h
theorem b108_85 {d : Nat} {Q : Option Value → px_S → Prop} {σ : px_S} {x1 x2 x3 s0 : Int32} (ht : s0 = 0 → Wp d tb_108 103 [.ref 8, .int x1, .int x2, .int x3, .int s0] [] σ Q) (hf : ¬ (s0 = 0) → Wp d tb_108 92 [.ref 8, .int x1, .int x2, .int x3, .int s0] [] σ Q) : Wp d tb_108 85 [.ref 8, .int x1, .int x2, .int x3, .null] [.int s0] σ Q := by
  refine Wp.adv (pc' := 89) (ls' := [.ref 8, .int x1, .int x2, .int x3, .int s0]) (st' := [.int s0]) (σ' := σ) 2 rfl ?_
  exact Wp.if_ rfl ht hf
theorem b108_92 {d : Nat} {Q : Option Value → px_S → Prop} {σ : px_S} {x1 x2 x3 x4 : Int32} (h : Cw d 124 [.ref 8] σ (fun r τ => Wp d tb_108 96 [.ref 8, .int x1, .int x2, .int x3, .int x4] (r.toList ++ []) τ Q)) : Wp d tb_108 92 [.ref 8, .int x1, .int x2, .int x3, .int x4] [] σ Q := by
  refine Wp.adv (pc' := 93) (ls' := [.ref 8, .int x1, .int x2, .int x3, .int x4]) (st' := [.ref 8]) (σ' := σ) 1 rfl ?_
  exact Wp.call (q := (124, 1, 7, 96)) rfl (Nat.le_of_ble_eq_true rfl) rfl h
theorem b108_96 {d : Nat} {Q : Option Value → px_S → Prop} {σ : px_S} {x1 x2 x3 x4 s0 : Int32} (ht : s0 = 0 → Wp d tb_108 103 [.ref 8, .int x1, .int x2, .int x3, .int x4] [] σ Q) (hf : ¬ (s0 = 0) → Wp d tb_108 99 [.ref 8, .int x1, .int x2, .int x3, .int x4] [] σ Q) : Wp d tb_108 96 [.ref 8, .int x1, .int x2, .int x3, .int x4] [.int s0] σ Q := by
  exact Wp.if_ rfl ht hf
theorem b108_99 {d : Nat} {Q : Option Value → px_S → Prop} {σ : px_S} {x1 x2 x3 x4 : Int32} (h : Wp d tb_108 104 [.ref 8, .int x1, .int x2, .int x3, .int x4] [.int (1 : Int32)] σ Q) : Wp d tb_108 99 [.ref 8, .int x1, .int x2, .int x3, .int x4] [] σ Q := by
  refine Wp.adv (pc' := 104) (ls' := [.ref 8, .int x1, .int x2, .int x3, .int x4]) (st' := [.int (1 : Int32)]) (σ' := σ) 2 rfl ?_
  exact h
theorem b108_103 {d : Nat} {Q : Option Value → px_S → Prop} {σ : px_S} {x1 x2 x3 x4 : Int32} (h : Wp d tb_108 104 [.ref 8, .int x1, .int x2, .int x3, .int x4] [.int (0 : Int32)] σ Q) : Wp d tb_108 103 [.ref 8, .int x1, .int x2, .int x3, .int x4] [] σ Q := by
  refine Wp.adv (pc' := 104) (ls' := [.ref 8, .int x1, .int x2, .int x3, .int x4]) (st' := [.int (0 : Int32)]) (σ' := σ) 1 rfl ?_
  exact h
theorem b108_104 {d : Nat} {Q : Option Value → px_S → Prop} {σ : px_S} {x1 x2 x3 x4 s0 : Int32} (c1 : s0 = 0 ∨ s0 = 1) (h : Q (some (.int s0)) σ) : Wp d tb_108 104 [.ref 8, .int x1, .int x2, .int x3, .int x4] [.int s0] σ Q := by
  exact Wp.zret rfl c1 h
theorem e108 {d : Nat} {Q : Option Value → px_S → Prop} {σ : px_S}  (h : Wp d tb_108 0 [.ref 8, .null, .null, .null, .null] [] σ Q) : Cw (d + 1) 108 [.ref 8] σ Q := Cw.of (nL := 5) (y := yX6_readClause) (cc := cX6_readClause) (rt := some .boolean) rfl (Nat.le_of_ble_eq_true rfl) h
theorem b109_0 {d : Nat} {Q : Option Value → px_S → Prop} {σ : px_S}  (h : Wp d tb_109 5 [.ref 8, .int (σ.1 8 5)] [] σ Q) : Wp d tb_109 0 [.ref 8, .null] [] σ Q := by
  refine Wp.adv (pc' := 5) (ls' := [.ref 8, .int (σ.1 8 5)]) (st' := []) (σ' := σ) 3 rfl ?_
  exact h
theorem b109_5 {d : Nat} {Q : Option Value → px_S → Prop} {σ : px_S} {x1 : Int32} (ht : (σ.1 8 2) ≤ x1 → Wp d tb_109 41 [.ref 8, .int x1] [] σ Q) (hf : ¬ ((σ.1 8 2) ≤ x1) → Wp d tb_109 13 [.ref 8, .int x1] [] σ Q) : Wp d tb_109 5 [.ref 8, .int x1] [] σ Q := by
  refine Wp.adv (pc' := 10) (ls' := [.ref 8, .int x1]) (st' := [.int (σ.1 8 2), .int x1]) (σ' := σ) 3 rfl ?_
  exact Wp.icmp rfl ht hf
theorem b109_13 {d : Nat} {Q : Option Value → px_S → Prop} {σ : px_S} {x1 : Int32} (c1 : vp_in x1 120) (ht : (σ.1 35 (x1).toNatClampNeg) < (97 : Int32) → Wp d tb_109 41 [.ref 8, .int x1] [] σ Q) (hf : ¬ ((σ.1 35 (x1).toNatClampNeg) < (97 : Int32)) → Wp d tb_109 24 [.ref 8, .int x1] [] σ Q) : Wp d tb_109 13 [.ref 8, .int x1] [] σ Q := by
  refine Wp.adv (pc' := 18) (ls' := [.ref 8, .int x1]) (st' := [.int x1, .ref 35]) (σ' := σ) 3 rfl ?_
  refine Wp.iald (N := 120) rfl rfl c1 ?_
  refine Wp.adv (pc' := 21) (ls' := [.ref 8, .int x1]) (st' := [.int (97 : Int32), .int (σ.1 35 (x1).toNatClampNeg)]) (σ' := σ) 1 rfl ?_
  exact Wp.icmp rfl ht hf
theorem b109_24 {d : Nat} {Q : Option Value → px_S → Prop} {σ : px_S} {x1 : Int32} (c1 : vp_in x1 120) (ht : (122 : Int32) < (σ.1 35 (x1).toNatClampNeg) → Wp d tb_109 41 [.ref 8, .int x1] [] σ Q) (hf : ¬ ((122 : Int32) < (σ.1 35 (x1).toNatClampNeg)) → Wp d tb_109 35 [.ref 8, .int x1] [] σ Q) : Wp d tb_109 24 [.ref 8, .int x1] [] σ Q := by
  refine Wp.adv (pc' := 29) (ls' := [.ref 8, .int x1]) (st' := [.int x1, .ref 35]) (σ' := σ) 3 rfl ?_
  refine Wp.iald (N := 120) rfl rfl c1 ?_
  refine Wp.adv (pc' := 32) (ls' := [.ref 8, .int x1]) (st' := [.int (122 : Int32), .int (σ.1 35 (x1).toNatClampNeg)]) (σ' := σ) 1 rfl ?_
  exact Wp.icmp rfl ht hf
theorem b109_35 {d : Nat} {Q : Option Value → px_S → Prop} {σ : px_S} {x1 : Int32} (h : Wp d tb_109 5 [.ref 8, .int (x1 + 1)] [] σ Q) : Wp d tb_109 35 [.ref 8, .int x1] [] σ Q := by
  refine Wp.adv (pc' := 5) (ls' := [.ref 8, .int (x1 + 1)]) (st' := []) (σ' := σ) 2 rfl ?_
  exact h
theorem b109_41 {d : Nat} {Q : Option Value → px_S → Prop} {σ : px_S} {x1 : Int32} (h : Q (some (.int x1)) σ) : Wp d tb_109 41 [.ref 8, .int x1] [] σ Q := by
  refine Wp.adv (pc' := 42) (ls' := [.ref 8, .int x1]) (st' := [.int x1]) (σ' := σ) 1 rfl ?_
  exact Wp.ret rfl rfl h
theorem e109 {d : Nat} {Q : Option Value → px_S → Prop} {σ : px_S}  (h : Wp d tb_109 0 [.ref 8, .null] [] σ Q) : Cw (d + 1) 109 [.ref 8] σ Q := Cw.of (nL := 2) (y := yX6_endOfWord) (cc := cX6_endOfWord) (rt := some .int) rfl (Nat.le_of_ble_eq_true rfl) h
theorem b110_0 {d : Nat} {Q : Option Value → px_S → Prop} {σ : px_S} {x1 x2 : Int32} (h : Wp d tb_110 2 [.ref 8, .int x1, .int x2, .int (0 : Int32)] [] σ Q) : Wp d tb_110 0 [.ref 8, .int x1, .int x2, .null] [] σ Q := by
  refine Wp.adv (pc' := 2) (ls' := [.ref 8, .int x1, .int x2, .int (0 : Int32)]) (st' := []) (σ' := σ) 2 rfl ?_
  exact h
theorem b110_2 {d : Nat} {Q : Option Value → px_S → Prop} {σ : px_S} {x1 x2 x3 : Int32} (ht : (5 : Int32) ≤ x3 → Wp d tb_110 28 [.ref 8, .int x1, .int x2, .int x3] [] σ Q) (hf : ¬ ((5 : Int32) ≤ x3) → Wp d tb_110 7 [.ref 8, .int x1, .int x2, .int x3] [] σ Q) : Wp d tb_110 2 [.ref 8, .int x1, .int x2, .int x3] [] σ Q := by
  refine Wp.adv (pc' := 4) (ls' := [.ref 8, .int x1, .int x2, .int x3]) (st' := [.int (5 : Int32), .int x3]) (σ' := σ) 2 rfl ?_
  exact Wp.icmp rfl ht hf
theorem b110_7 {d : Nat} {Q : Option Value → px_S → Prop} {σ : px_S} {x1 x2 x3 : Int32} (h : Cw d 111 [.int x3] σ (fun r τ => Wp d tb_110 14 [.ref 8, .int x1, .int x2, .int x3] (r.toList ++ [.int x2, .int x1, .ref 8]) τ Q)) : Wp d tb_110 7 [.ref 8, .int x1, .int x2, .int x3] [] σ Q := by
  refine Wp.adv (pc' := 11) (ls' := [.ref 8, .int x1, .int x2, .int x3]) (st' := [.int x3, .int x2, .int x1, .ref 8]) (σ' := σ) 4 rfl ?_
  exact Wp.call (q := (111, 1, 0, 14)) rfl (Nat.le_of_ble_eq_true rfl) rfl h
theorem b110_14 {d : Nat} {Q : Option Value → px_S → Prop} {σ : px_S} {x1 x2 x3 s1 s2 : Int32} {z9 : Nat} (h : Cw d 112 [.ref 8, .int s2, .int s1, .ref z9] σ (fun r τ => Wp d tb_110 17 [.ref 8, .int x1, .int x2, .int x3] (r.toList ++ []) τ Q)) : Wp d tb_110 14 [.ref 8, .int x1, .int x2, .int x3] [.ref z9, .int s1, .int s2, .ref 8] σ Q := by
  exact Wp.call (q := (112, 4, 7, 17)) rfl (Nat.le_of_ble_eq_true rfl) rfl h
theorem b110_17 {d : Nat} {Q : Option Value → px_S → Prop} {σ : px_S} {x1 x2 x3 s0 : Int32} (ht : s0 = 0 → Wp d tb_110 22 [.ref 8, .int x1, .int x2, .int x3] [] σ Q) (hf : ¬ (s0 = 0) → Wp d tb_110 20 [.ref 8, .int x1, .int x2, .int x3] [] σ Q) : Wp d tb_110 17 [.ref 8, .int x1, .int x2, .int x3] [.int s0] σ Q := by
  exact Wp.if_ rfl ht hf
theorem b110_20 {d : Nat} {Q : Option Value → px_S → Prop} {σ : px_S} {x1 x2 x3 : Int32} (h : Q (some (.int x3)) σ) : Wp d tb_110 20 [.ref 8, .int x1, .int x2, .int x3] [] σ Q := by
  refine Wp.adv (pc' := 21) (ls' := [.ref 8, .int x1, .int x2, .int x3]) (st' := [.int x3]) (σ' := σ) 1 rfl ?_
  exact Wp.ret rfl rfl h
theorem b110_22 {d : Nat} {Q : Option Value → px_S → Prop} {σ : px_S} {x1 x2 x3 : Int32} (h : Wp d tb_110 2 [.ref 8, .int x1, .int x2, .int (x3 + 1)] [] σ Q) : Wp d tb_110 22 [.ref 8, .int x1, .int x2, .int x3] [] σ Q := by
  refine Wp.adv (pc' := 2) (ls' := [.ref 8, .int x1, .int x2, .int (x3 + 1)]) (st' := []) (σ' := σ) 2 rfl ?_
  exact h
theorem b110_28 {d : Nat} {Q : Option Value → px_S → Prop} {σ : px_S} {x1 x2 x3 : Int32} (h : Q (some (.int (-1 : Int32))) σ) : Wp d tb_110 28 [.ref 8, .int x1, .int x2, .int x3] [] σ Q := by
  refine Wp.adv (pc' := 29) (ls' := [.ref 8, .int x1, .int x2, .int x3]) (st' := [.int (-1 : Int32)]) (σ' := σ) 1 rfl ?_
  exact Wp.ret rfl rfl h
theorem e110 {d : Nat} {Q : Option Value → px_S → Prop} {σ : px_S} {x1 x2 : Int32} (h : Wp d tb_110 0 [.ref 8, .int x1, .int x2, .null] [] σ Q) : Cw (d + 1) 110 [.ref 8, .int x1, .int x2] σ Q := Cw.of (nL := 4) (y := yX6_kindOf) (cc := cX6_kindOf) (rt := some .int) rfl (Nat.le_of_ble_eq_true rfl) h
theorem b111_0 {d : Nat} {Q : Option Value → px_S → Prop} {σ : px_S} {x0 : Int32} (hd : (x0).toInt < 0 ∨ 3 < (x0).toInt → Wp d tb_111 44 [.int x0] [] σ Q) (hs : ∀ (j t : Nat), ([32, 35, 38, 41] : List Nat)[j]? = some t → (x0).toInt = 0 + (j : Int) → Wp d tb_111 t [.int x0] [] σ Q) : Wp d tb_111 0 [.int x0] [] σ Q := by
  refine Wp.adv (pc' := 1) (ls' := [.int x0]) (st' := [.int x0]) (σ' := σ) 1 rfl ?_
  exact Wp.tsw rfl rfl hd hs
theorem b111_32 {d : Nat} {Q : Option Value → px_S → Prop} {σ : px_S} {x0 : Int32} (h : Q (some (.ref 110)) σ) : Wp d tb_111 32 [.int x0] [] σ Q := by
  refine Wp.adv (pc' := 34) (ls' := [.int x0]) (st' := [.ref 110]) (σ' := σ) 1 rfl ?_
  exact Wp.ret rfl rfl h
theorem b111_35 {d : Nat} {Q : Option Value → px_S → Prop} {σ : px_S} {x0 : Int32} (h : Q (some (.ref 111)) σ) : Wp d tb_111 35 [.int x0] [] σ Q := by
  refine Wp.adv (pc' := 37) (ls' := [.int x0]) (st' := [.ref 111]) (σ' := σ) 1 rfl ?_
  exact Wp.ret rfl rfl h
theorem b111_38 {d : Nat} {Q : Option Value → px_S → Prop} {σ : px_S} {x0 : Int32} (h : Q (some (.ref 112)) σ) : Wp d tb_111 38 [.int x0] [] σ Q := by
  refine Wp.adv (pc' := 40) (ls' := [.int x0]) (st' := [.ref 112]) (σ' := σ) 1 rfl ?_
  exact Wp.ret rfl rfl h
theorem b111_41 {d : Nat} {Q : Option Value → px_S → Prop} {σ : px_S} {x0 : Int32} (h : Q (some (.ref 113)) σ) : Wp d tb_111 41 [.int x0] [] σ Q := by
  refine Wp.adv (pc' := 43) (ls' := [.int x0]) (st' := [.ref 113]) (σ' := σ) 1 rfl ?_
  exact Wp.ret rfl rfl h
theorem b111_44 {d : Nat} {Q : Option Value → px_S → Prop} {σ : px_S} {x0 : Int32} (h : Q (some (.ref 114)) σ) : Wp d tb_111 44 [.int x0] [] σ Q := by
  refine Wp.adv (pc' := 46) (ls' := [.int x0]) (st' := [.ref 114]) (σ' := σ) 1 rfl ?_
  exact Wp.ret rfl rfl h
theorem e111 {d : Nat} {Q : Option Value → px_S → Prop} {σ : px_S} {x0 : Int32} (h : Wp d tb_111 0 [.int x0] [] σ Q) : Cw (d + 1) 111 [.int x0] σ Q := Cw.of (nL := 1) (y := yX6_nameOf) (cc := cX6_nameOf) (rt := some (.object "java/lang/String")) rfl (Nat.le_of_ble_eq_true rfl) h
theorem b112_0 {d : Nat} {Q : Option Value → px_S → Prop} {σ : px_S} {x1 x2 : Int32} {z3 : Nat} (c1 : px_okc 100 [.ref z3] [.int (x2 - x1)] [.ref 8, .int x1, .int x2, .ref z3, .null] = true) (h : Cw d 113 [.ref z3] σ (fun r τ => Wp d tb_112 7 [.ref 8, .int x1, .int x2, .ref z3, .null] (r.toList ++ [.int (x2 - x1)]) τ Q)) : Wp d tb_112 0 [.ref 8, .int x1, .int x2, .ref z3, .null] [] σ Q := by
  refine Wp.adv (pc' := 4) (ls' := [.ref 8, .int x1, .int x2, .ref z3, .null]) (st' := [.ref z3, .int (x2 - x1)]) (σ' := σ) 4 rfl ?_
  exact Wp.call (q := (113, 1, 100, 7)) rfl (Nat.le_of_ble_eq_true rfl) c1 h
theorem b112_7 {d : Nat} {Q : Option Value → px_S → Prop} {σ : px_S} {x1 x2 s0 s1 : Int32} {z3 : Nat} (ht : s1 = s0 → Wp d tb_112 12 [.ref 8, .int x1, .int x2, .ref z3, .null] [] σ Q) (hf : ¬ (s1 = s0) → Wp d tb_112 10 [.ref 8, .int x1, .int x2, .ref z3, .null] [] σ Q) : Wp d tb_112 7 [.ref 8, .int x1, .int x2, .ref z3, .null] [.int s0, .int s1] σ Q := by
  exact Wp.icmp rfl ht hf
theorem b112_10 {d : Nat} {Q : Option Value → px_S → Prop} {σ : px_S} {x1 x2 : Int32} {z3 : Nat} (h : Q (some (.int (0 : Int32))) σ) : Wp d tb_112 10 [.ref 8, .int x1, .int x2, .ref z3, .null] [] σ Q := by
  refine Wp.adv (pc' := 11) (ls' := [.ref 8, .int x1, .int x2, .ref z3, .null]) (st' := [.int (0 : Int32)]) (σ' := σ) 1 rfl ?_
  exact Wp.zret rfl (by decide) h
theorem b112_12 {d : Nat} {Q : Option Value → px_S → Prop} {σ : px_S} {x1 x2 : Int32} {z3 : Nat} (h : Wp d tb_112 15 [.ref 8, .int x1, .int x2, .ref z3, .int (0 : Int32)] [] σ Q) : Wp d tb_112 12 [.ref 8, .int x1, .int x2, .ref z3, .null] [] σ Q := by
  refine Wp.adv (pc' := 15) (ls' := [.ref 8, .int x1, .int x2, .ref z3, .int (0 : Int32)]) (st' := []) (σ' := σ) 2 rfl ?_
  exact h
theorem b112_15 {d : Nat} {Q : Option Value → px_S → Prop} {σ : px_S} {x1 x2 x4 : Int32} {z3 : Nat} (c1 : px_okc 100 [.ref z3] [.int x4] [.ref 8, .int x1, .int x2, .ref z3, .int x4] = true) (h : Cw d 113 [.ref z3] σ (fun r τ => Wp d tb_112 21 [.ref 8, .int x1, .int x2, .ref z3, .int x4] (r.toList ++ [.int x4]) τ Q)) : Wp d tb_112 15 [.ref 8, .int x1, .int x2, .ref z3, .int x4] [] σ Q := by
  refine Wp.adv (pc' := 18) (ls' := [.ref 8, .int x1, .int x2, .ref z3, .int x4]) (st' := [.ref z3, .int x4]) (σ' := σ) 2 rfl ?_
  exact Wp.call (q := (113, 1, 100, 21)) rfl (Nat.le_of_ble_eq_true rfl) c1 h
theorem b112_21 {d : Nat} {Q : Option Value → px_S → Prop} {σ : px_S} {x1 x2 x4 s0 s1 : Int32} {z3 : Nat} (ht : s0 ≤ s1 → Wp d tb_112 50 [.ref 8, .int x1, .int x2, .ref z3, .int x4] [] σ Q) (hf : ¬ (s0 ≤ s1) → Wp d tb_112 24 [.ref 8, .int x1, .int x2, .ref z3, .int x4] [] σ Q) : Wp d tb_112 21 [.ref 8, .int x1, .int x2, .ref z3, .int x4] [.int s0, .int s1] σ Q := by
  exact Wp.icmp rfl ht hf
theorem b112_24 {d : Nat} {Q : Option Value → px_S → Prop} {σ : px_S} {x1 x2 x4 : Int32} {z3 : Nat} (c1 : vp_in (x1 + x4) 120) (c2 : px_okc 100 [.ref z3, .int x4] [.int (σ.1 35 ((x1 + x4)).toNatClampNeg)] [.ref 8, .int x1, .int x2, .ref z3, .int x4] = true) (h : Cw d 115 [.ref z3, .int x4] σ (fun r τ => Wp d tb_112 39 [.ref 8, .int x1, .int x2, .ref z3, .int x4] (r.toList ++ [.int (σ.1 35 ((x1 + x4)).toNatClampNeg)]) τ Q)) : Wp d tb_112 24 [.ref 8, .int x1, .int x2, .ref z3, .int x4] [] σ Q := by
  refine Wp.adv (pc' := 32) (ls' := [.ref 8, .int x1, .int x2, .ref z3, .int x4]) (st' := [.int (x1 + x4), .ref 35]) (σ' := σ) 5 rfl ?_
  refine Wp.iald (N := 120) rfl rfl c1 ?_
  refine Wp.adv (pc' := 36) (ls' := [.ref 8, .int x1, .int x2, .ref z3, .int x4]) (st' := [.int x4, .ref z3, .int (σ.1 35 ((x1 + x4)).toNatClampNeg)]) (σ' := σ) 2 rfl ?_
  exact Wp.call (q := (115, 2, 100, 39)) rfl (Nat.le_of_ble_eq_true rfl) c2 h
theorem b112_39 {d : Nat} {Q : Option Value → px_S → Prop} {σ : px_S} {x1 x2 x4 s0 s1 : Int32} {z3 : Nat} (ht : s1 = s0 → Wp d tb_112 44 [.ref 8, .int x1, .int x2, .ref z3, .int x4] [] σ Q) (hf : ¬ (s1 = s0) → Wp d tb_112 42 [.ref 8, .int x1, .int x2, .ref z3, .int x4] [] σ Q) : Wp d tb_112 39 [.ref 8, .int x1, .int x2, .ref z3, .int x4] [.int s0, .int s1] σ Q := by
  exact Wp.icmp rfl ht hf
theorem b112_42 {d : Nat} {Q : Option Value → px_S → Prop} {σ : px_S} {x1 x2 x4 : Int32} {z3 : Nat} (h : Q (some (.int (0 : Int32))) σ) : Wp d tb_112 42 [.ref 8, .int x1, .int x2, .ref z3, .int x4] [] σ Q := by
  refine Wp.adv (pc' := 43) (ls' := [.ref 8, .int x1, .int x2, .ref z3, .int x4]) (st' := [.int (0 : Int32)]) (σ' := σ) 1 rfl ?_
  exact Wp.zret rfl (by decide) h
theorem b112_44 {d : Nat} {Q : Option Value → px_S → Prop} {σ : px_S} {x1 x2 x4 : Int32} {z3 : Nat} (h : Wp d tb_112 15 [.ref 8, .int x1, .int x2, .ref z3, .int (x4 + 1)] [] σ Q) : Wp d tb_112 44 [.ref 8, .int x1, .int x2, .ref z3, .int x4] [] σ Q := by
  refine Wp.adv (pc' := 15) (ls' := [.ref 8, .int x1, .int x2, .ref z3, .int (x4 + 1)]) (st' := []) (σ' := σ) 2 rfl ?_
  exact h
theorem b112_50 {d : Nat} {Q : Option Value → px_S → Prop} {σ : px_S} {x1 x2 x4 : Int32} {z3 : Nat} (h : Q (some (.int (1 : Int32))) σ) : Wp d tb_112 50 [.ref 8, .int x1, .int x2, .ref z3, .int x4] [] σ Q := by
  refine Wp.adv (pc' := 51) (ls' := [.ref 8, .int x1, .int x2, .ref z3, .int x4]) (st' := [.int (1 : Int32)]) (σ' := σ) 1 rfl ?_
  exact Wp.zret rfl (by decide) h
theorem e112 {d : Nat} {Q : Option Value → px_S → Prop} {σ : px_S} {x1 x2 : Int32} {z3 : Nat} (h : Wp d tb_112 0 [.ref 8, .int x1, .int x2, .ref z3, .null] [] σ Q) : Cw (d + 1) 112 [.ref 8, .int x1, .int x2, .ref z3] σ Q := Cw.of (nL := 5) (y := yX6_isWord) (cc := cX6_isWord) (rt := some .boolean) rfl (Nat.le_of_ble_eq_true rfl) h
theorem b120_0 {d : Nat} {Q : Option Value → px_S → Prop} {σ : px_S} {x1 x2 : Int32} (h : Wp d tb_120 5 [.ref 8, .int x1, .int x2] [] (px_uI σ 8 4 x1) Q) : Wp d tb_120 0 [.ref 8, .int x1, .int x2] [] σ Q := by
  refine Wp.adv (pc' := 2) (ls' := [.ref 8, .int x1, .int x2]) (st' := [.int x1, .ref 8]) (σ' := σ) 2 rfl ?_
  refine Wp.step (q := (5, [.ref 8, .int x1, .int x2], [], (px_uI σ 8 4 x1))) rfl rfl ?_
  exact h
theorem b120_5 {d : Nat} {Q : Option Value → px_S → Prop} {σ : px_S} {x1 x2 : Int32} (h : Wp d tb_120 10 [.ref 8, .int x1, .int x2] [] (px_uI σ 8 3 x2) Q) : Wp d tb_120 5 [.ref 8, .int x1, .int x2] [] σ Q := by
  refine Wp.adv (pc' := 7) (ls' := [.ref 8, .int x1, .int x2]) (st' := [.int x2, .ref 8]) (σ' := σ) 2 rfl ?_
  refine Wp.step (q := (10, [.ref 8, .int x1, .int x2], [], (px_uI σ 8 3 x2))) rfl rfl ?_
  exact h
theorem b120_10 {d : Nat} {Q : Option Value → px_S → Prop} {σ : px_S} {x1 x2 : Int32} (h : Q (some (.int (0 : Int32))) σ) : Wp d tb_120 10 [.ref 8, .int x1, .int x2] [] σ Q := by
  refine Wp.adv (pc' := 11) (ls' := [.ref 8, .int x1, .int x2]) (st' := [.int (0 : Int32)]) (σ' := σ) 1 rfl ?_
  exact Wp.zret rfl (by decide) h
theorem e120 {d : Nat} {Q : Option Value → px_S → Prop} {σ : px_S} {x1 x2 : Int32} (h : Wp d tb_120 0 [.ref 8, .int x1, .int x2] [] σ Q) : Cw (d + 1) 120 [.ref 8, .int x1, .int x2] σ Q := Cw.of (nL := 3) (y := yX6_blame) (cc := cX6_blame) (rt := some .boolean) rfl (Nat.le_of_ble_eq_true rfl) h
theorem b121_0 {d : Nat} {Q : Option Value → px_S → Prop} {σ : px_S}  (h : Cw d 109 [.ref 8] σ (fun r τ => Wp d tb_121 4 [.ref 8, .null, .null] (r.toList ++ []) τ Q)) : Wp d tb_121 0 [.ref 8, .null, .null] [] σ Q := by
  refine Wp.adv (pc' := 1) (ls' := [.ref 8, .null, .null]) (st' := [.ref 8]) (σ' := σ) 1 rfl ?_
  exact Wp.call (q := (109, 1, 7, 4)) rfl (Nat.le_of_ble_eq_true rfl) rfl h
theorem b121_4 {d : Nat} {Q : Option Value → px_S → Prop} {σ : px_S} {s0 : Int32} (h : Cw d 112 [.ref 8, .int (σ.1 8 5), .int s0, .ref 115] σ (fun r τ => Wp d tb_121 16 [.ref 8, .int s0, .null] (r.toList ++ []) τ Q)) : Wp d tb_121 4 [.ref 8, .null, .null] [.int s0] σ Q := by
  refine Wp.adv (pc' := 13) (ls' := [.ref 8, .int s0, .null]) (st' := [.ref 115, .int s0, .int (σ.1 8 5), .ref 8]) (σ' := σ) 6 rfl ?_
  exact Wp.call (q := (112, 4, 7, 16)) rfl (Nat.le_of_ble_eq_true rfl) rfl h
theorem b121_16 {d : Nat} {Q : Option Value → px_S → Prop} {σ : px_S} {x1 s0 : Int32} (ht : ¬ s0 = 0 → Wp d tb_121 45 [.ref 8, .int x1, .int s0] [] σ Q) (hf : ¬ (¬ s0 = 0) → Wp d tb_121 21 [.ref 8, .int x1, .int s0] [] σ Q) : Wp d tb_121 16 [.ref 8, .int x1, .null] [.int s0] σ Q := by
  refine Wp.adv (pc' := 18) (ls' := [.ref 8, .int x1, .int s0]) (st' := [.int s0]) (σ' := σ) 2 rfl ?_
  exact Wp.if_ rfl ht hf
theorem b121_21 {d : Nat} {Q : Option Value → px_S → Prop} {σ : px_S} {x1 x2 : Int32} (h : Cw d 112 [.ref 8, .int (σ.1 8 5), .int x1, .ref 116] σ (fun r τ => Wp d tb_121 32 [.ref 8, .int x1, .int x2] (r.toList ++ []) τ Q)) : Wp d tb_121 21 [.ref 8, .int x1, .int x2] [] σ Q := by
  refine Wp.adv (pc' := 29) (ls' := [.ref 8, .int x1, .int x2]) (st' := [.ref 116, .int x1, .int (σ.1 8 5), .ref 8]) (σ' := σ) 5 rfl ?_
  exact Wp.call (q := (112, 4, 7, 32)) rfl (Nat.le_of_ble_eq_true rfl) rfl h
theorem b121_32 {d : Nat} {Q : Option Value → px_S → Prop} {σ : px_S} {x1 x2 s0 : Int32} (ht : ¬ s0 = 0 → Wp d tb_121 45 [.ref 8, .int x1, .int x2] [] σ Q) (hf : ¬ (¬ s0 = 0) → Wp d tb_121 35 [.ref 8, .int x1, .int x2] [] σ Q) : Wp d tb_121 32 [.ref 8, .int x1, .int x2] [.int s0] σ Q := by
  exact Wp.if_ rfl ht hf
theorem b121_35 {d : Nat} {Q : Option Value → px_S → Prop} {σ : px_S} {x1 x2 : Int32} (h : Cw d 120 [.ref 8, .int (1 : Int32), .int (σ.1 8 5)] σ (fun r τ => Wp d tb_121 44 [.ref 8, .int x1, .int x2] (r.toList ++ []) τ Q)) : Wp d tb_121 35 [.ref 8, .int x1, .int x2] [] σ Q := by
  refine Wp.adv (pc' := 41) (ls' := [.ref 8, .int x1, .int x2]) (st' := [.int (σ.1 8 5), .int (1 : Int32), .ref 8]) (σ' := σ) 4 rfl ?_
  exact Wp.call (q := (120, 3, 7, 44)) rfl (Nat.le_of_ble_eq_true rfl) rfl h
theorem b121_44 {d : Nat} {Q : Option Value → px_S → Prop} {σ : px_S} {x1 x2 s0 : Int32} (c1 : s0 = 0 ∨ s0 = 1) (h : Q (some (.int s0)) σ) : Wp d tb_121 44 [.ref 8, .int x1, .int x2] [.int s0] σ Q := by
  exact Wp.zret rfl c1 h
theorem b121_45 {d : Nat} {Q : Option Value → px_S → Prop} {σ : px_S} {x1 x2 : Int32} (ht : x2 = 0 → Wp d tb_121 58 [.ref 8, .int x1, .int x2] [.int (2 : Int32), .ref 36] σ Q) (hf : ¬ (x2 = 0) → Wp d tb_121 54 [.ref 8, .int x1, .int x2] [.int (2 : Int32), .ref 36] σ Q) : Wp d tb_121 45 [.ref 8, .int x1, .int x2] [] σ Q := by
  refine Wp.adv (pc' := 51) (ls' := [.ref 8, .int x1, .int x2]) (st' := [.int x2, .int (2 : Int32), .ref 36]) (σ' := σ) 4 rfl ?_
  exact Wp.if_ rfl ht hf
theorem b121_54 {d : Nat} {Q : Option Value → px_S → Prop} {σ : px_S} {x1 x2 s0 : Int32} (h : Wp d tb_121 59 [.ref 8, .int x1, .int x2] [.int (1 : Int32), .int s0, .ref 36] σ Q) : Wp d tb_121 54 [.ref 8, .int x1, .int x2] [.int s0, .ref 36] σ Q := by
  refine Wp.adv (pc' := 59) (ls' := [.ref 8, .int x1, .int x2]) (st' := [.int (1 : Int32), .int s0, .ref 36]) (σ' := σ) 2 rfl ?_
  exact h
theorem b121_58 {d : Nat} {Q : Option Value → px_S → Prop} {σ : px_S} {x1 x2 s0 : Int32} (h : Wp d tb_121 59 [.ref 8, .int x1, .int x2] [.int (0 : Int32), .int s0, .ref 36] σ Q) : Wp d tb_121 58 [.ref 8, .int x1, .int x2] [.int s0, .ref 36] σ Q := by
  refine Wp.adv (pc' := 59) (ls' := [.ref 8, .int x1, .int x2]) (st' := [.int (0 : Int32), .int s0, .ref 36]) (σ' := σ) 1 rfl ?_
  exact h
theorem b121_59 {d : Nat} {Q : Option Value → px_S → Prop} {σ : px_S} {x1 x2 s0 s1 : Int32} (c1 : vp_in s1 5) (h : Wp d tb_121 60 [.ref 8, .int x1, .int x2] [] (px_uI σ 36 (s1).toNatClampNeg s0) Q) : Wp d tb_121 59 [.ref 8, .int x1, .int x2] [.int s0, .int s1, .ref 36] σ Q := by
  refine Wp.iast (N := 5) rfl rfl c1 ?_
  exact h
theorem b121_60 {d : Nat} {Q : Option Value → px_S → Prop} {σ : px_S} {x1 x2 : Int32} (h : Wp d tb_121 65 [.ref 8, .int x1, .int x2] [] (px_uI σ 8 5 x1) Q) : Wp d tb_121 60 [.ref 8, .int x1, .int x2] [] σ Q := by
  refine Wp.adv (pc' := 62) (ls' := [.ref 8, .int x1, .int x2]) (st' := [.int x1, .ref 8]) (σ' := σ) 2 rfl ?_
  refine Wp.step (q := (65, [.ref 8, .int x1, .int x2], [], (px_uI σ 8 5 x1))) rfl rfl ?_
  exact h
theorem b121_65 {d : Nat} {Q : Option Value → px_S → Prop} {σ : px_S} {x1 x2 : Int32} (h : Q (some (.int (1 : Int32))) σ) : Wp d tb_121 65 [.ref 8, .int x1, .int x2] [] σ Q := by
  refine Wp.adv (pc' := 66) (ls' := [.ref 8, .int x1, .int x2]) (st' := [.int (1 : Int32)]) (σ' := σ) 1 rfl ?_
  exact Wp.zret rfl (by decide) h
theorem e121 {d : Nat} {Q : Option Value → px_S → Prop} {σ : px_S}  (h : Wp d tb_121 0 [.ref 8, .null, .null] [] σ Q) : Cw (d + 1) 121 [.ref 8] σ Q := Cw.of (nL := 3) (y := yX6_readYes) (cc := cX6_readYes) (rt := some .boolean) rfl (Nat.le_of_ble_eq_true rfl) h
theorem b122_0 {d : Nat} {Q : Option Value → px_S → Prop} {σ : px_S} {x1 : Int32} (h : Wp d tb_122 7 [.ref 8, .int x1, .int (σ.1 8 5), .int (0 : Int32)] [] σ Q) : Wp d tb_122 0 [.ref 8, .int x1, .null, .null] [] σ Q := by
  refine Wp.adv (pc' := 7) (ls' := [.ref 8, .int x1, .int (σ.1 8 5), .int (0 : Int32)]) (st' := []) (σ' := σ) 5 rfl ?_
  exact h
theorem b122_7 {d : Nat} {Q : Option Value → px_S → Prop} {σ : px_S} {x1 x2 x3 : Int32} (ht : (σ.1 8 2) ≤ (σ.1 8 5) → Wp d tb_122 74 [.ref 8, .int x1, .int x2, .int x3] [] σ Q) (hf : ¬ ((σ.1 8 2) ≤ (σ.1 8 5)) → Wp d tb_122 18 [.ref 8, .int x1, .int x2, .int x3] [] σ Q) : Wp d tb_122 7 [.ref 8, .int x1, .int x2, .int x3] [] σ Q := by
  refine Wp.adv (pc' := 15) (ls' := [.ref 8, .int x1, .int x2, .int x3]) (st' := [.int (σ.1 8 2), .int (σ.1 8 5)]) (σ' := σ) 4 rfl ?_
  exact Wp.icmp rfl ht hf
theorem b122_18 {d : Nat} {Q : Option Value → px_S → Prop} {σ : px_S} {x1 x2 x3 : Int32} (c1 : vp_in (σ.1 8 5) 120) (h : Cw d 123 [.int (σ.1 35 ((σ.1 8 5)).toNatClampNeg)] σ (fun r τ => Wp d tb_122 30 [.ref 8, .int x1, .int x2, .int x3] (r.toList ++ []) τ Q)) : Wp d tb_122 18 [.ref 8, .int x1, .int x2, .int x3] [] σ Q := by
  refine Wp.adv (pc' := 26) (ls' := [.ref 8, .int x1, .int x2, .int x3]) (st' := [.int (σ.1 8 5), .ref 35]) (σ' := σ) 4 rfl ?_
  refine Wp.iald (N := 120) rfl rfl c1 ?_
  exact Wp.call (q := (123, 1, 0, 30)) rfl (Nat.le_of_ble_eq_true rfl) rfl h
theorem b122_30 {d : Nat} {Q : Option Value → px_S → Prop} {σ : px_S} {x1 x2 x3 s0 : Int32} (ht : s0 = 0 → Wp d tb_122 74 [.ref 8, .int x1, .int x2, .int x3] [] σ Q) (hf : ¬ (s0 = 0) → Wp d tb_122 33 [.ref 8, .int x1, .int x2, .int x3] [] σ Q) : Wp d tb_122 30 [.ref 8, .int x1, .int x2, .int x3] [.int s0] σ Q := by
  exact Wp.if_ rfl ht hf
theorem b122_33 {d : Nat} {Q : Option Value → px_S → Prop} {σ : px_S} {x1 x2 x3 : Int32} (ht : (3 : Int32) ≤ ((σ.1 8 5) - x2) → Wp d tb_122 61 [.ref 8, .int x1, .int x2, .int x3] [] σ Q) (hf : ¬ ((3 : Int32) ≤ ((σ.1 8 5) - x2)) → Wp d tb_122 43 [.ref 8, .int x1, .int x2, .int x3] [] σ Q) : Wp d tb_122 33 [.ref 8, .int x1, .int x2, .int x3] [] σ Q := by
  refine Wp.adv (pc' := 40) (ls' := [.ref 8, .int x1, .int x2, .int x3]) (st' := [.int (3 : Int32), .int ((σ.1 8 5) - x2)]) (σ' := σ) 5 rfl ?_
  exact Wp.icmp rfl ht hf
theorem b122_43 {d : Nat} {Q : Option Value → px_S → Prop} {σ : px_S} {x1 x2 x3 : Int32} (c1 : vp_in (σ.1 8 5) 120) (h : Wp d tb_122 61 [.ref 8, .int x1, .int x2, .int ((((10 : Int32) * x3) + (σ.1 35 ((σ.1 8 5)).toNatClampNeg)) - (48 : Int32))] [] σ Q) : Wp d tb_122 43 [.ref 8, .int x1, .int x2, .int x3] [] σ Q := by
  refine Wp.adv (pc' := 55) (ls' := [.ref 8, .int x1, .int x2, .int x3]) (st' := [.int (σ.1 8 5), .ref 35, .int ((10 : Int32) * x3)]) (σ' := σ) 7 rfl ?_
  refine Wp.iald (N := 120) rfl rfl c1 ?_
  refine Wp.adv (pc' := 61) (ls' := [.ref 8, .int x1, .int x2, .int ((((10 : Int32) * x3) + (σ.1 35 ((σ.1 8 5)).toNatClampNeg)) - (48 : Int32))]) (st' := []) (σ' := σ) 4 rfl ?_
  exact h
theorem b122_61 {d : Nat} {Q : Option Value → px_S → Prop} {σ : px_S} {x1 x2 x3 : Int32} (h : Wp d tb_122 71 [.ref 8, .int x1, .int x2, .int x3] [] (px_uI σ 8 5 ((σ.1 8 5) + (1 : Int32))) Q) : Wp d tb_122 61 [.ref 8, .int x1, .int x2, .int x3] [] σ Q := by
  refine Wp.adv (pc' := 68) (ls' := [.ref 8, .int x1, .int x2, .int x3]) (st' := [.int ((σ.1 8 5) + (1 : Int32)), .ref 8]) (σ' := σ) 5 rfl ?_
  refine Wp.step (q := (71, [.ref 8, .int x1, .int x2, .int x3], [], (px_uI σ 8 5 ((σ.1 8 5) + (1 : Int32))))) rfl rfl ?_
  exact h
theorem b122_71 {d : Nat} {Q : Option Value → px_S → Prop} {σ : px_S} {x1 x2 x3 : Int32} (h : Wp d tb_122 7 [.ref 8, .int x1, .int x2, .int x3] [] σ Q) : Wp d tb_122 71 [.ref 8, .int x1, .int x2, .int x3] [] σ Q := by
  refine Wp.adv (pc' := 7) (ls' := [.ref 8, .int x1, .int x2, .int x3]) (st' := []) (σ' := σ) 1 rfl ?_
  exact h
theorem b122_74 {d : Nat} {Q : Option Value → px_S → Prop} {σ : px_S} {x1 x2 x3 : Int32} (ht : ¬ (σ.1 8 5) = x2 → Wp d tb_122 89 [.ref 8, .int x1, .int x2, .int x3] [] σ Q) (hf : ¬ (¬ (σ.1 8 5) = x2) → Wp d tb_122 82 [.ref 8, .int x1, .int x2, .int x3] [] σ Q) : Wp d tb_122 74 [.ref 8, .int x1, .int x2, .int x3] [] σ Q := by
  refine Wp.adv (pc' := 79) (ls' := [.ref 8, .int x1, .int x2, .int x3]) (st' := [.int x2, .int (σ.1 8 5)]) (σ' := σ) 3 rfl ?_
  exact Wp.icmp rfl ht hf
theorem b122_82 {d : Nat} {Q : Option Value → px_S → Prop} {σ : px_S} {x1 x2 x3 : Int32} (h : Cw d 120 [.ref 8, .int (1 : Int32), .int x2] σ (fun r τ => Wp d tb_122 88 [.ref 8, .int x1, .int x2, .int x3] (r.toList ++ []) τ Q)) : Wp d tb_122 82 [.ref 8, .int x1, .int x2, .int x3] [] σ Q := by
  refine Wp.adv (pc' := 85) (ls' := [.ref 8, .int x1, .int x2, .int x3]) (st' := [.int x2, .int (1 : Int32), .ref 8]) (σ' := σ) 3 rfl ?_
  exact Wp.call (q := (120, 3, 7, 88)) rfl (Nat.le_of_ble_eq_true rfl) rfl h
theorem b122_88 {d : Nat} {Q : Option Value → px_S → Prop} {σ : px_S} {x1 x2 x3 s0 : Int32} (c1 : s0 = 0 ∨ s0 = 1) (h : Q (some (.int s0)) σ) : Wp d tb_122 88 [.ref 8, .int x1, .int x2, .int x3] [.int s0] σ Q := by
  exact Wp.zret rfl c1 h
theorem b122_89 {d : Nat} {Q : Option Value → px_S → Prop} {σ : px_S} {x1 x2 x3 : Int32} (ht : (3 : Int32) < ((σ.1 8 5) - x2) → Wp d tb_122 108 [.ref 8, .int x1, .int x2, .int x3] [] σ Q) (hf : ¬ ((3 : Int32) < ((σ.1 8 5) - x2)) → Wp d tb_122 99 [.ref 8, .int x1, .int x2, .int x3] [] σ Q) : Wp d tb_122 89 [.ref 8, .int x1, .int x2, .int x3] [] σ Q := by
  refine Wp.adv (pc' := 96) (ls' := [.ref 8, .int x1, .int x2, .int x3]) (st' := [.int (3 : Int32), .int ((σ.1 8 5) - x2)]) (σ' := σ) 5 rfl ?_
  exact Wp.icmp rfl ht hf
theorem b122_99 {d : Nat} {Q : Option Value → px_S → Prop} {σ : px_S} {x1 x2 x3 : Int32} (c1 : vp_in x1 5) (ht : x3 ≤ (px_RB (x1).toNatClampNeg) → Wp d tb_122 115 [.ref 8, .int x1, .int x2, .int x3] [] σ Q) (hf : ¬ (x3 ≤ (px_RB (x1).toNatClampNeg)) → Wp d tb_122 108 [.ref 8, .int x1, .int x2, .int x3] [] σ Q) : Wp d tb_122 99 [.ref 8, .int x1, .int x2, .int x3] [] σ Q := by
  refine Wp.adv (pc' := 104) (ls' := [.ref 8, .int x1, .int x2, .int x3]) (st' := [.int x1, .ref 101, .int x3]) (σ' := σ) 3 rfl ?_
  refine Wp.rb rfl c1 ?_
  exact Wp.icmp rfl ht hf
theorem b122_108 {d : Nat} {Q : Option Value → px_S → Prop} {σ : px_S} {x1 x2 x3 : Int32} (h : Cw d 120 [.ref 8, .int (2 : Int32), .int x2] σ (fun r τ => Wp d tb_122 114 [.ref 8, .int x1, .int x2, .int x3] (r.toList ++ []) τ Q)) : Wp d tb_122 108 [.ref 8, .int x1, .int x2, .int x3] [] σ Q := by
  refine Wp.adv (pc' := 111) (ls' := [.ref 8, .int x1, .int x2, .int x3]) (st' := [.int x2, .int (2 : Int32), .ref 8]) (σ' := σ) 3 rfl ?_
  exact Wp.call (q := (120, 3, 7, 114)) rfl (Nat.le_of_ble_eq_true rfl) rfl h
theorem b122_114 {d : Nat} {Q : Option Value → px_S → Prop} {σ : px_S} {x1 x2 x3 s0 : Int32} (c1 : s0 = 0 ∨ s0 = 1) (h : Q (some (.int s0)) σ) : Wp d tb_122 114 [.ref 8, .int x1, .int x2, .int x3] [.int s0] σ Q := by
  exact Wp.zret rfl c1 h
theorem b122_115 {d : Nat} {Q : Option Value → px_S → Prop} {σ : px_S} {x1 x2 x3 : Int32} (c1 : vp_in x1 5) (h : Wp d tb_122 122 [.ref 8, .int x1, .int x2, .int x3] [] (px_uI σ 36 (x1).toNatClampNeg x3) Q) : Wp d tb_122 115 [.ref 8, .int x1, .int x2, .int x3] [] σ Q := by
  refine Wp.adv (pc' := 121) (ls' := [.ref 8, .int x1, .int x2, .int x3]) (st' := [.int x3, .int x1, .ref 36]) (σ' := σ) 4 rfl ?_
  refine Wp.iast (N := 5) rfl rfl c1 ?_
  exact h
theorem b122_122 {d : Nat} {Q : Option Value → px_S → Prop} {σ : px_S} {x1 x2 x3 : Int32} (h : Q (some (.int (1 : Int32))) σ) : Wp d tb_122 122 [.ref 8, .int x1, .int x2, .int x3] [] σ Q := by
  refine Wp.adv (pc' := 123) (ls' := [.ref 8, .int x1, .int x2, .int x3]) (st' := [.int (1 : Int32)]) (σ' := σ) 1 rfl ?_
  exact Wp.zret rfl (by decide) h
theorem e122 {d : Nat} {Q : Option Value → px_S → Prop} {σ : px_S} {x1 : Int32} (h : Wp d tb_122 0 [.ref 8, .int x1, .null, .null] [] σ Q) : Cw (d + 1) 122 [.ref 8, .int x1] σ Q := Cw.of (nL := 4) (y := yX6_readNumber) (cc := cX6_readNumber) (rt := some .boolean) rfl (Nat.le_of_ble_eq_true rfl) h
theorem b123_0 {d : Nat} {Q : Option Value → px_S → Prop} {σ : px_S} {x0 : Int32} (ht : x0 < (48 : Int32) → Wp d tb_123 16 [.int x0] [] σ Q) (hf : ¬ (x0 < (48 : Int32)) → Wp d tb_123 6 [.int x0] [] σ Q) : Wp d tb_123 0 [.int x0] [] σ Q := by
  refine Wp.adv (pc' := 3) (ls' := [.int x0]) (st' := [.int (48 : Int32), .int x0]) (σ' := σ) 2 rfl ?_
  exact Wp.icmp rfl ht hf
theorem b123_6 {d : Nat} {Q : Option Value → px_S → Prop} {σ : px_S} {x0 : Int32} (ht : (57 : Int32) < x0 → Wp d tb_123 16 [.int x0] [] σ Q) (hf : ¬ ((57 : Int32) < x0) → Wp d tb_123 12 [.int x0] [] σ Q) : Wp d tb_123 6 [.int x0] [] σ Q := by
  refine Wp.adv (pc' := 9) (ls' := [.int x0]) (st' := [.int (57 : Int32), .int x0]) (σ' := σ) 2 rfl ?_
  exact Wp.icmp rfl ht hf
theorem b123_12 {d : Nat} {Q : Option Value → px_S → Prop} {σ : px_S} {x0 : Int32} (h : Wp d tb_123 17 [.int x0] [.int (1 : Int32)] σ Q) : Wp d tb_123 12 [.int x0] [] σ Q := by
  refine Wp.adv (pc' := 17) (ls' := [.int x0]) (st' := [.int (1 : Int32)]) (σ' := σ) 2 rfl ?_
  exact h
theorem b123_16 {d : Nat} {Q : Option Value → px_S → Prop} {σ : px_S} {x0 : Int32} (h : Wp d tb_123 17 [.int x0] [.int (0 : Int32)] σ Q) : Wp d tb_123 16 [.int x0] [] σ Q := by
  refine Wp.adv (pc' := 17) (ls' := [.int x0]) (st' := [.int (0 : Int32)]) (σ' := σ) 1 rfl ?_
  exact h
theorem b123_17 {d : Nat} {Q : Option Value → px_S → Prop} {σ : px_S} {x0 s0 : Int32} (c1 : s0 = 0 ∨ s0 = 1) (h : Q (some (.int s0)) σ) : Wp d tb_123 17 [.int x0] [.int s0] σ Q := by
  exact Wp.zret rfl c1 h
theorem e123 {d : Nat} {Q : Option Value → px_S → Prop} {σ : px_S} {x0 : Int32} (h : Wp d tb_123 0 [.int x0] [] σ Q) : Cw (d + 1) 123 [.int x0] σ Q := Cw.of (nL := 1) (y := yX6_isFigure) (cc := cX6_isFigure) (rt := some .boolean) rfl (Nat.le_of_ble_eq_true rfl) h
theorem b124_0 {d : Nat} {Q : Option Value → px_S → Prop} {σ : px_S}  (h : Cw d 107 [.ref 8] σ (fun r τ => Wp d tb_124 4 [.ref 8] (r.toList ++ []) τ Q)) : Wp d tb_124 0 [.ref 8] [] σ Q := by
  refine Wp.adv (pc' := 1) (ls' := [.ref 8]) (st' := [.ref 8]) (σ' := σ) 1 rfl ?_
  exact Wp.call (q := (107, 1, 7, 4)) rfl (Nat.le_of_ble_eq_true rfl) rfl h
theorem b124_4 {d : Nat} {Q : Option Value → px_S → Prop} {σ : px_S}  (ht : (σ.1 8 2) ≤ (σ.1 8 5) → Wp d tb_124 29 [.ref 8] [] σ Q) (hf : ¬ ((σ.1 8 2) ≤ (σ.1 8 5)) → Wp d tb_124 15 [.ref 8] [] σ Q) : Wp d tb_124 4 [.ref 8] [] σ Q := by
  refine Wp.adv (pc' := 12) (ls' := [.ref 8]) (st' := [.int (σ.1 8 2), .int (σ.1 8 5)]) (σ' := σ) 4 rfl ?_
  exact Wp.icmp rfl ht hf
theorem b124_15 {d : Nat} {Q : Option Value → px_S → Prop} {σ : px_S}  (c1 : vp_in (σ.1 8 5) 120) (ht : (σ.1 35 ((σ.1 8 5)).toNatClampNeg) = (59 : Int32) → Wp d tb_124 39 [.ref 8] [] σ Q) (hf : ¬ ((σ.1 35 ((σ.1 8 5)).toNatClampNeg) = (59 : Int32)) → Wp d tb_124 29 [.ref 8] [] σ Q) : Wp d tb_124 15 [.ref 8] [] σ Q := by
  refine Wp.adv (pc' := 23) (ls' := [.ref 8]) (st' := [.int (σ.1 8 5), .ref 35]) (σ' := σ) 4 rfl ?_
  refine Wp.iald (N := 120) rfl rfl c1 ?_
  refine Wp.adv (pc' := 26) (ls' := [.ref 8]) (st' := [.int (59 : Int32), .int (σ.1 35 ((σ.1 8 5)).toNatClampNeg)]) (σ' := σ) 1 rfl ?_
  exact Wp.icmp rfl ht hf
theorem b124_29 {d : Nat} {Q : Option Value → px_S → Prop} {σ : px_S}  (h : Cw d 120 [.ref 8, .int (1 : Int32), .int (σ.1 8 5)] σ (fun r τ => Wp d tb_124 38 [.ref 8] (r.toList ++ []) τ Q)) : Wp d tb_124 29 [.ref 8] [] σ Q := by
  refine Wp.adv (pc' := 35) (ls' := [.ref 8]) (st' := [.int (σ.1 8 5), .int (1 : Int32), .ref 8]) (σ' := σ) 4 rfl ?_
  exact Wp.call (q := (120, 3, 7, 38)) rfl (Nat.le_of_ble_eq_true rfl) rfl h
theorem b124_38 {d : Nat} {Q : Option Value → px_S → Prop} {σ : px_S} {s0 : Int32} (c1 : s0 = 0 ∨ s0 = 1) (h : Q (some (.int s0)) σ) : Wp d tb_124 38 [.ref 8] [.int s0] σ Q := by
  exact Wp.zret rfl c1 h
theorem b124_39 {d : Nat} {Q : Option Value → px_S → Prop} {σ : px_S}  (h : Wp d tb_124 49 [.ref 8] [] (px_uI σ 8 5 ((σ.1 8 5) + (1 : Int32))) Q) : Wp d tb_124 39 [.ref 8] [] σ Q := by
  refine Wp.adv (pc' := 46) (ls' := [.ref 8]) (st' := [.int ((σ.1 8 5) + (1 : Int32)), .ref 8]) (σ' := σ) 5 rfl ?_
  refine Wp.step (q := (49, [.ref 8], [], (px_uI σ 8 5 ((σ.1 8 5) + (1 : Int32))))) rfl rfl ?_
  exact h
theorem b124_49 {d : Nat} {Q : Option Value → px_S → Prop} {σ : px_S}  (h : Q (some (.int (1 : Int32))) σ) : Wp d tb_124 49 [.ref 8] [] σ Q := by
  refine Wp.adv (pc' := 50) (ls' := [.ref 8]) (st' := [.int (1 : Int32)]) (σ' := σ) 1 rfl ?_
  exact Wp.zret rfl (by decide) h
theorem e124 {d : Nat} {Q : Option Value → px_S → Prop} {σ : px_S}  (h : Wp d tb_124 0 [.ref 8] [] σ Q) : Cw (d + 1) 124 [.ref 8] σ Q := Cw.of (nL := 1) (y := yX6_readSemicolon) (cc := cX6_readSemicolon) (rt := some .boolean) rfl (Nat.le_of_ble_eq_true rfl) h
theorem b125_0 {d : Nat} {Q : Option Value → px_S → Prop} {σ : px_S}  (h : Cw d 0 [.ref 18, .int (-1 : Int32)] σ (fun r τ => Wp d tb_125 8 [.ref 2] (r.toList ++ []) τ Q)) : Wp d tb_125 0 [.ref 2] [] σ Q := by
  refine Wp.adv (pc' := 5) (ls' := [.ref 2]) (st' := [.int (-1 : Int32), .ref 18]) (σ' := σ) 3 rfl ?_
  exact Wp.call (q := (0, 2, 0, 8)) rfl (Nat.le_of_ble_eq_true rfl) rfl h
theorem b125_8 {d : Nat} {Q : Option Value → px_S → Prop} {σ : px_S}  (h : Q none σ) : Wp d tb_125 8 [.ref 2] [] σ Q := by
  exact Wp.ret rfl rfl h
theorem e125 {d : Nat} {Q : Option Value → px_S → Prop} {σ : px_S}  (h : Wp d tb_125 0 [.ref 2] [] σ Q) : Cw (d + 1) 125 [.ref 2] σ Q := Cw.of (nL := 1) (y := yX0_forgetAll) (cc := cX0_forgetAll) (rt := none) rfl (Nat.le_of_ble_eq_true rfl) h
theorem b126_0 {d : Nat} {Q : Option Value → px_S → Prop} {σ : px_S}  (h : Q (some (.int (σ.1 8 3))) σ) : Wp d tb_126 0 [.ref 0] [] σ Q := by
  refine Wp.adv (pc' := 7) (ls' := [.ref 0]) (st' := [.int (σ.1 8 3)]) (σ' := σ) 3 rfl ?_
  exact Wp.ret rfl rfl h
theorem e126 {d : Nat} {Q : Option Value → px_S → Prop} {σ : px_S}  (h : Wp d tb_126 0 [.ref 0] [] σ Q) : Cw (d + 1) 126 [.ref 0] σ Q := Cw.of (nL := 1) (y := yX8_fault) (cc := cX8_fault) (rt := some .int) rfl (Nat.le_of_ble_eq_true rfl) h
theorem b127_0 {d : Nat} {Q : Option Value → px_S → Prop} {σ : px_S} {x1 : Int32} (ht : x1 < 0 → Wp d tb_127 9 [.ref 0, .int x1] [] σ Q) (hf : ¬ (x1 < 0) → Wp d tb_127 4 [.ref 0, .int x1] [] σ Q) : Wp d tb_127 0 [.ref 0, .int x1] [] σ Q := by
  refine Wp.adv (pc' := 1) (ls' := [.ref 0, .int x1]) (st' := [.int x1]) (σ' := σ) 1 rfl ?_
  exact Wp.if_ rfl ht hf
theorem b127_4 {d : Nat} {Q : Option Value → px_S → Prop} {σ : px_S} {x1 : Int32} (ht : x1 < (5 : Int32) → Wp d tb_127 15 [.ref 0, .int x1] [] σ Q) (hf : ¬ (x1 < (5 : Int32)) → Wp d tb_127 9 [.ref 0, .int x1] [] σ Q) : Wp d tb_127 4 [.ref 0, .int x1] [] σ Q := by
  refine Wp.adv (pc' := 6) (ls' := [.ref 0, .int x1]) (st' := [.int (5 : Int32), .int x1]) (σ' := σ) 2 rfl ?_
  exact Wp.icmp rfl ht hf
theorem b127_9 {d : Nat} {Q : Option Value → px_S → Prop} {σ : px_S} {x1 : Int32} (h : Wp d tb_127 21 [.ref 0, .int x1] [.int (-1002 : Int32)] σ Q) : Wp d tb_127 9 [.ref 0, .int x1] [] σ Q := by
  refine Wp.adv (pc' := 21) (ls' := [.ref 0, .int x1]) (st' := [.int (-1002 : Int32)]) (σ' := σ) 2 rfl ?_
  exact h
theorem b127_15 {d : Nat} {Q : Option Value → px_S → Prop} {σ : px_S} {x1 : Int32} (c1 : vp_in x1 5) (h : Wp d tb_127 21 [.ref 0, .int x1] [.int (σ.1 10 (x1).toNatClampNeg)] σ Q) : Wp d tb_127 15 [.ref 0, .int x1] [] σ Q := by
  refine Wp.adv (pc' := 20) (ls' := [.ref 0, .int x1]) (st' := [.int x1, .ref 10]) (σ' := σ) 3 rfl ?_
  refine Wp.iald (N := 5) rfl rfl c1 ?_
  exact h
theorem b127_21 {d : Nat} {Q : Option Value → px_S → Prop} {σ : px_S} {x1 s0 : Int32} (h : Q (some (.int s0)) σ) : Wp d tb_127 21 [.ref 0, .int x1] [.int s0] σ Q := by
  exact Wp.ret rfl rfl h
theorem e127 {d : Nat} {Q : Option Value → px_S → Prop} {σ : px_S} {x1 : Int32} (h : Wp d tb_127 0 [.ref 0, .int x1] [] σ Q) : Cw (d + 1) 127 [.ref 0, .int x1] σ Q := Cw.of (nL := 2) (y := yX8_rule) (cc := cX8_rule) (rt := some .int) rfl (Nat.le_of_ble_eq_true rfl) h
theorem b128_0 {d : Nat} {Q : Option Value → px_S → Prop} {σ : px_S} {x0 : Int32} (ht : ¬ x0 = (1 : Int32) → Wp d tb_128 10 [.int x0] [] σ Q) (hf : ¬ (¬ x0 = (1 : Int32)) → Wp d tb_128 5 [.int x0] [] σ Q) : Wp d tb_128 0 [.int x0] [] σ Q := by
  refine Wp.adv (pc' := 2) (ls' := [.int x0]) (st' := [.int (1 : Int32), .int x0]) (σ' := σ) 2 rfl ?_
  exact Wp.icmp rfl ht hf
theorem b128_5 {d : Nat} {Q : Option Value → px_S → Prop} {σ : px_S} {x0 : Int32} (h : Wp d tb_128 39 [.int x0] [.int (50 : Int32)] σ Q) : Wp d tb_128 5 [.int x0] [] σ Q := by
  refine Wp.adv (pc' := 39) (ls' := [.int x0]) (st' := [.int (50 : Int32)]) (σ' := σ) 2 rfl ?_
  exact h
theorem b128_10 {d : Nat} {Q : Option Value → px_S → Prop} {σ : px_S} {x0 : Int32} (ht : ¬ x0 = (2 : Int32) → Wp d tb_128 19 [.int x0] [] σ Q) (hf : ¬ (¬ x0 = (2 : Int32)) → Wp d tb_128 15 [.int x0] [] σ Q) : Wp d tb_128 10 [.int x0] [] σ Q := by
  refine Wp.adv (pc' := 12) (ls' := [.int x0]) (st' := [.int (2 : Int32), .int x0]) (σ' := σ) 2 rfl ?_
  exact Wp.icmp rfl ht hf
theorem b128_15 {d : Nat} {Q : Option Value → px_S → Prop} {σ : px_S} {x0 : Int32} (h : Wp d tb_128 39 [.int x0] [.int (1 : Int32)] σ Q) : Wp d tb_128 15 [.int x0] [] σ Q := by
  refine Wp.adv (pc' := 39) (ls' := [.int x0]) (st' := [.int (1 : Int32)]) (σ' := σ) 2 rfl ?_
  exact h
theorem b128_19 {d : Nat} {Q : Option Value → px_S → Prop} {σ : px_S} {x0 : Int32} (ht : ¬ x0 = (3 : Int32) → Wp d tb_128 29 [.int x0] [] σ Q) (hf : ¬ (¬ x0 = (3 : Int32)) → Wp d tb_128 24 [.int x0] [] σ Q) : Wp d tb_128 19 [.int x0] [] σ Q := by
  refine Wp.adv (pc' := 21) (ls' := [.int x0]) (st' := [.int (3 : Int32), .int x0]) (σ' := σ) 2 rfl ?_
  exact Wp.icmp rfl ht hf
theorem b128_24 {d : Nat} {Q : Option Value → px_S → Prop} {σ : px_S} {x0 : Int32} (h : Wp d tb_128 39 [.int x0] [.int (14 : Int32)] σ Q) : Wp d tb_128 24 [.int x0] [] σ Q := by
  refine Wp.adv (pc' := 39) (ls' := [.int x0]) (st' := [.int (14 : Int32)]) (σ' := σ) 2 rfl ?_
  exact h
theorem b128_29 {d : Nat} {Q : Option Value → px_S → Prop} {σ : px_S} {x0 : Int32} (ht : ¬ x0 = (4 : Int32) → Wp d tb_128 38 [.int x0] [] σ Q) (hf : ¬ (¬ x0 = (4 : Int32)) → Wp d tb_128 34 [.int x0] [] σ Q) : Wp d tb_128 29 [.int x0] [] σ Q := by
  refine Wp.adv (pc' := 31) (ls' := [.int x0]) (st' := [.int (4 : Int32), .int x0]) (σ' := σ) 2 rfl ?_
  exact Wp.icmp rfl ht hf
theorem b128_34 {d : Nat} {Q : Option Value → px_S → Prop} {σ : px_S} {x0 : Int32} (h : Wp d tb_128 39 [.int x0] [.int (5 : Int32)] σ Q) : Wp d tb_128 34 [.int x0] [] σ Q := by
  refine Wp.adv (pc' := 39) (ls' := [.int x0]) (st' := [.int (5 : Int32)]) (σ' := σ) 2 rfl ?_
  exact h
theorem b128_38 {d : Nat} {Q : Option Value → px_S → Prop} {σ : px_S} {x0 : Int32} (h : Wp d tb_128 39 [.int x0] [.int (0 : Int32)] σ Q) : Wp d tb_128 38 [.int x0] [] σ Q := by
  refine Wp.adv (pc' := 39) (ls' := [.int x0]) (st' := [.int (0 : Int32)]) (σ' := σ) 1 rfl ?_
  exact h
theorem b128_39 {d : Nat} {Q : Option Value → px_S → Prop} {σ : px_S} {x0 s0 : Int32} (h : Q (some (.int s0)) σ) : Wp d tb_128 39 [.int x0] [.int s0] σ Q := by
  exact Wp.ret rfl rfl h
theorem e128 {d : Nat} {Q : Option Value → px_S → Prop} {σ : px_S} {x0 : Int32} (h : Wp d tb_128 0 [.int x0] [] σ Q) : Cw (d + 1) 128 [.int x0] σ Q := Cw.of (nL := 1) (y := yX9_atFirst) (cc := cX9_atFirst) (rt := some .int) rfl (Nat.le_of_ble_eq_true rfl) h
theorem b129_0 {d : Nat} {Q : Option Value → px_S → Prop} {σ : px_S} {x1 : Int32} (h : Cw d 130 [.long (x1).toInt64, .long (1 : Int64), .long (63 : Int64)] σ (fun r τ => Wp d tb_129 9 [.ref 9, .int x1] (r.toList ++ []) τ Q)) : Wp d tb_129 0 [.ref 9, .int x1] [] σ Q := by
  refine Wp.adv (pc' := 6) (ls' := [.ref 9, .int x1]) (st' := [.long (63 : Int64), .long (1 : Int64), .long (x1).toInt64]) (σ' := σ) 4 rfl ?_
  exact Wp.call (q := (130, 3, 0, 9)) rfl (Nat.le_of_ble_eq_true rfl) rfl h
theorem b129_9 {d : Nat} {Q : Option Value → px_S → Prop} {σ : px_S} {x1 s0 : Int32} (ht : ¬ s0 = 0 → Wp d tb_129 16 [.ref 9, .int x1] [] σ Q) (hf : ¬ (¬ s0 = 0) → Wp d tb_129 12 [.ref 9, .int x1] [] σ Q) : Wp d tb_129 9 [.ref 9, .int x1] [.int s0] σ Q := by
  exact Wp.if_ rfl ht hf
theorem b129_12 {d : Nat} {Q : Option Value → px_S → Prop} {σ : px_S} {x1 : Int32} (h : Q (some (.int (-1002 : Int32))) σ) : Wp d tb_129 12 [.ref 9, .int x1] [] σ Q := by
  refine Wp.adv (pc' := 15) (ls' := [.ref 9, .int x1]) (st' := [.int (-1002 : Int32)]) (σ' := σ) 1 rfl ?_
  exact Wp.ret rfl rfl h
theorem b129_16 {d : Nat} {Q : Option Value → px_S → Prop} {σ : px_S} {x1 : Int32} (ht : ¬ (σ.1 9 10) = (8 : Int32) → Wp d tb_129 29 [.ref 9, .int x1] [] σ Q) (hf : ¬ (¬ (σ.1 9 10) = (8 : Int32)) → Wp d tb_129 25 [.ref 9, .int x1] [] σ Q) : Wp d tb_129 16 [.ref 9, .int x1] [] σ Q := by
  refine Wp.adv (pc' := 22) (ls' := [.ref 9, .int x1]) (st' := [.int (8 : Int32), .int (σ.1 9 10)]) (σ' := σ) 3 rfl ?_
  exact Wp.icmp rfl ht hf
theorem b129_25 {d : Nat} {Q : Option Value → px_S → Prop} {σ : px_S} {x1 : Int32} (h : Q (some (.int (-1004 : Int32))) σ) : Wp d tb_129 25 [.ref 9, .int x1] [] σ Q := by
  refine Wp.adv (pc' := 28) (ls' := [.ref 9, .int x1]) (st' := [.int (-1004 : Int32)]) (σ' := σ) 1 rfl ?_
  exact Wp.ret rfl rfl h
theorem b129_29 {d : Nat} {Q : Option Value → px_S → Prop} {σ : px_S} {x1 : Int32} (c1 : vp_in (σ.1 9 10) 8) (h : Wp d tb_129 39 [.ref 9, .int x1] [] (px_uI σ 46 ((σ.1 9 10)).toNatClampNeg x1) Q) : Wp d tb_129 29 [.ref 9, .int x1] [] σ Q := by
  refine Wp.adv (pc' := 38) (ls' := [.ref 9, .int x1]) (st' := [.int x1, .int (σ.1 9 10), .ref 46]) (σ' := σ) 5 rfl ?_
  refine Wp.iast (N := 8) rfl rfl c1 ?_
  exact h
theorem b129_39 {d : Nat} {Q : Option Value → px_S → Prop} {σ : px_S} {x1 : Int32} (h : Wp d tb_129 49 [.ref 9, .int x1] [] (px_uI σ 9 10 ((σ.1 9 10) + (1 : Int32))) Q) : Wp d tb_129 39 [.ref 9, .int x1] [] σ Q := by
  refine Wp.adv (pc' := 46) (ls' := [.ref 9, .int x1]) (st' := [.int ((σ.1 9 10) + (1 : Int32)), .ref 9]) (σ' := σ) 5 rfl ?_
  refine Wp.step (q := (49, [.ref 9, .int x1], [], (px_uI σ 9 10 ((σ.1 9 10) + (1 : Int32))))) rfl rfl ?_
  exact h
theorem b129_49 {d : Nat} {Q : Option Value → px_S → Prop} {σ : px_S} {x1 : Int32} (h : Q (some (.int (σ.1 9 10))) σ) : Wp d tb_129 49 [.ref 9, .int x1] [] σ Q := by
  refine Wp.adv (pc' := 53) (ls' := [.ref 9, .int x1]) (st' := [.int (σ.1 9 10)]) (σ' := σ) 2 rfl ?_
  exact Wp.ret rfl rfl h
theorem e129 {d : Nat} {Q : Option Value → px_S → Prop} {σ : px_S} {x1 : Int32} (h : Wp d tb_129 0 [.ref 9, .int x1] [] σ Q) : Cw (d + 1) 129 [.ref 9, .int x1] σ Q := Cw.of (nL := 2) (y := yX9_word) (cc := cX9_word) (rt := some .int) rfl (Nat.le_of_ble_eq_true rfl) h
theorem b130_0 {d : Nat} {Q : Option Value → px_S → Prop} {σ : px_S} {y0 y2 y4 : Int64} (ht : (lg_cmp y0 y2) < 0 → Wp d tb_130 17 [.long y0, .null, .long y2, .null, .long y4, .null] [] σ Q) (hf : ¬ ((lg_cmp y0 y2) < 0) → Wp d tb_130 6 [.long y0, .null, .long y2, .null, .long y4, .null] [] σ Q) : Wp d tb_130 0 [.long y0, .null, .long y2, .null, .long y4, .null] [] σ Q := by
  refine Wp.adv (pc' := 3) (ls' := [.long y0, .null, .long y2, .null, .long y4, .null]) (st' := [.int (lg_cmp y0 y2)]) (σ' := σ) 3 rfl ?_
  exact Wp.if_ rfl ht hf
theorem b130_6 {d : Nat} {Q : Option Value → px_S → Prop} {σ : px_S} {y0 y2 y4 : Int64} (ht : 0 < (lg_cmp y0 y4) → Wp d tb_130 17 [.long y0, .null, .long y2, .null, .long y4, .null] [] σ Q) (hf : ¬ (0 < (lg_cmp y0 y4)) → Wp d tb_130 13 [.long y0, .null, .long y2, .null, .long y4, .null] [] σ Q) : Wp d tb_130 6 [.long y0, .null, .long y2, .null, .long y4, .null] [] σ Q := by
  refine Wp.adv (pc' := 10) (ls' := [.long y0, .null, .long y2, .null, .long y4, .null]) (st' := [.int (lg_cmp y0 y4)]) (σ' := σ) 3 rfl ?_
  exact Wp.if_ rfl ht hf
theorem b130_13 {d : Nat} {Q : Option Value → px_S → Prop} {σ : px_S} {y0 y2 y4 : Int64} (h : Wp d tb_130 18 [.long y0, .null, .long y2, .null, .long y4, .null] [.int (1 : Int32)] σ Q) : Wp d tb_130 13 [.long y0, .null, .long y2, .null, .long y4, .null] [] σ Q := by
  refine Wp.adv (pc' := 18) (ls' := [.long y0, .null, .long y2, .null, .long y4, .null]) (st' := [.int (1 : Int32)]) (σ' := σ) 2 rfl ?_
  exact h
theorem b130_17 {d : Nat} {Q : Option Value → px_S → Prop} {σ : px_S} {y0 y2 y4 : Int64} (h : Wp d tb_130 18 [.long y0, .null, .long y2, .null, .long y4, .null] [.int (0 : Int32)] σ Q) : Wp d tb_130 17 [.long y0, .null, .long y2, .null, .long y4, .null] [] σ Q := by
  refine Wp.adv (pc' := 18) (ls' := [.long y0, .null, .long y2, .null, .long y4, .null]) (st' := [.int (0 : Int32)]) (σ' := σ) 1 rfl ?_
  exact h
theorem b130_18 {d : Nat} {Q : Option Value → px_S → Prop} {σ : px_S} {s0 : Int32} {y0 y2 y4 : Int64} (c1 : s0 = 0 ∨ s0 = 1) (h : Q (some (.int s0)) σ) : Wp d tb_130 18 [.long y0, .null, .long y2, .null, .long y4, .null] [.int s0] σ Q := by
  exact Wp.zret rfl c1 h
theorem e130 {d : Nat} {Q : Option Value → px_S → Prop} {σ : px_S} {y0 y2 y4 : Int64} (h : Wp d tb_130 0 [.long y0, .null, .long y2, .null, .long y4, .null] [] σ Q) : Cw (d + 1) 130 [.long y0, .long y2, .long y4] σ Q := Cw.of (nL := 6) (y := yX9_in) (cc := cX9_in) (rt := some .boolean) rfl (Nat.le_of_ble_eq_true rfl) h
theorem b131_0 {d : Nat} {Q : Option Value → px_S → Prop} {σ : px_S} {x1 x2 x3 : Int32} (ht : x3 = (-1 : Int32) → Wp d tb_131 17 [.ref 9, .int x1, .int x2, .int x3] [] σ Q) (hf : ¬ (x3 = (-1 : Int32)) → Wp d tb_131 5 [.ref 9, .int x1, .int x2, .int x3] [] σ Q) : Wp d tb_131 0 [.ref 9, .int x1, .int x2, .int x3] [] σ Q := by
  refine Wp.adv (pc' := 2) (ls' := [.ref 9, .int x1, .int x2, .int x3]) (st' := [.int (-1 : Int32), .int x3]) (σ' := σ) 2 rfl ?_
  exact Wp.icmp rfl ht hf
theorem b131_5 {d : Nat} {Q : Option Value → px_S → Prop} {σ : px_S} {x1 x2 x3 : Int32} (h : Cw d 132 [.ref 9, .int x3] σ (fun r τ => Wp d tb_131 10 [.ref 9, .int x1, .int x2, .int x3] (r.toList ++ []) τ Q)) : Wp d tb_131 5 [.ref 9, .int x1, .int x2, .int x3] [] σ Q := by
  refine Wp.adv (pc' := 7) (ls' := [.ref 9, .int x1, .int x2, .int x3]) (st' := [.int x3, .ref 9]) (σ' := σ) 2 rfl ?_
  exact Wp.call (q := (132, 2, 9, 10)) rfl (Nat.le_of_ble_eq_true rfl) rfl h
theorem b131_10 {d : Nat} {Q : Option Value → px_S → Prop} {σ : px_S} {x1 x2 x3 s0 : Int32} (ht : s0 = 0 → Wp d tb_131 17 [.ref 9, .int x1, .int x2, .int x3] [] σ Q) (hf : ¬ (s0 = 0) → Wp d tb_131 13 [.ref 9, .int x1, .int x2, .int x3] [] σ Q) : Wp d tb_131 10 [.ref 9, .int x1, .int x2, .int x3] [.int s0] σ Q := by
  exact Wp.if_ rfl ht hf
theorem b131_13 {d : Nat} {Q : Option Value → px_S → Prop} {σ : px_S} {x1 x2 x3 : Int32} (h : Q (some (.int (-1001 : Int32))) σ) : Wp d tb_131 13 [.ref 9, .int x1, .int x2, .int x3] [] σ Q := by
  refine Wp.adv (pc' := 16) (ls' := [.ref 9, .int x1, .int x2, .int x3]) (st' := [.int (-1001 : Int32)]) (σ' := σ) 1 rfl ?_
  exact Wp.ret rfl rfl h
theorem b131_17 {d : Nat} {Q : Option Value → px_S → Prop} {σ : px_S} {x1 x2 x3 : Int32} (h : Cw d 130 [.long (x1).toInt64, .long (0 : Int64), .long (9 : Int64)] σ (fun r τ => Wp d tb_131 26 [.ref 9, .int x1, .int x2, .int x3] (r.toList ++ []) τ Q)) : Wp d tb_131 17 [.ref 9, .int x1, .int x2, .int x3] [] σ Q := by
  refine Wp.adv (pc' := 23) (ls' := [.ref 9, .int x1, .int x2, .int x3]) (st' := [.long (9 : Int64), .long (0 : Int64), .long (x1).toInt64]) (σ' := σ) 4 rfl ?_
  exact Wp.call (q := (130, 3, 0, 26)) rfl (Nat.le_of_ble_eq_true rfl) rfl h
theorem b131_26 {d : Nat} {Q : Option Value → px_S → Prop} {σ : px_S} {x1 x2 x3 s0 : Int32} (ht : s0 = 0 → Wp d tb_131 43 [.ref 9, .int x1, .int x2, .int x3] [] σ Q) (hf : ¬ (s0 = 0) → Wp d tb_131 29 [.ref 9, .int x1, .int x2, .int x3] [] σ Q) : Wp d tb_131 26 [.ref 9, .int x1, .int x2, .int x3] [.int s0] σ Q := by
  exact Wp.if_ rfl ht hf
theorem b131_29 {d : Nat} {Q : Option Value → px_S → Prop} {σ : px_S} {x1 x2 x3 : Int32} (h : Cw d 130 [.long (x2).toInt64, .long (-1 : Int64), .long (9999 : Int64)] σ (fun r τ => Wp d tb_131 40 [.ref 9, .int x1, .int x2, .int x3] (r.toList ++ []) τ Q)) : Wp d tb_131 29 [.ref 9, .int x1, .int x2, .int x3] [] σ Q := by
  refine Wp.adv (pc' := 37) (ls' := [.ref 9, .int x1, .int x2, .int x3]) (st' := [.long (9999 : Int64), .long (-1 : Int64), .long (x2).toInt64]) (σ' := σ) 4 rfl ?_
  exact Wp.call (q := (130, 3, 0, 40)) rfl (Nat.le_of_ble_eq_true rfl) rfl h
theorem b131_40 {d : Nat} {Q : Option Value → px_S → Prop} {σ : px_S} {x1 x2 x3 s0 : Int32} (ht : ¬ s0 = 0 → Wp d tb_131 47 [.ref 9, .int x1, .int x2, .int x3] [] σ Q) (hf : ¬ (¬ s0 = 0) → Wp d tb_131 43 [.ref 9, .int x1, .int x2, .int x3] [] σ Q) : Wp d tb_131 40 [.ref 9, .int x1, .int x2, .int x3] [.int s0] σ Q := by
  exact Wp.if_ rfl ht hf
theorem b131_43 {d : Nat} {Q : Option Value → px_S → Prop} {σ : px_S} {x1 x2 x3 : Int32} (h : Q (some (.int (-1002 : Int32))) σ) : Wp d tb_131 43 [.ref 9, .int x1, .int x2, .int x3] [] σ Q := by
  refine Wp.adv (pc' := 46) (ls' := [.ref 9, .int x1, .int x2, .int x3]) (st' := [.int (-1002 : Int32)]) (σ' := σ) 1 rfl ?_
  exact Wp.ret rfl rfl h
theorem b131_47 {d : Nat} {Q : Option Value → px_S → Prop} {σ : px_S} {x1 x2 x3 : Int32} (ht : ¬ (σ.1 9 1) = (40 : Int32) → Wp d tb_131 60 [.ref 9, .int x1, .int x2, .int x3] [] σ Q) (hf : ¬ (¬ (σ.1 9 1) = (40 : Int32)) → Wp d tb_131 56 [.ref 9, .int x1, .int x2, .int x3] [] σ Q) : Wp d tb_131 47 [.ref 9, .int x1, .int x2, .int x3] [] σ Q := by
  refine Wp.adv (pc' := 53) (ls' := [.ref 9, .int x1, .int x2, .int x3]) (st' := [.int (40 : Int32), .int (σ.1 9 1)]) (σ' := σ) 3 rfl ?_
  exact Wp.icmp rfl ht hf
theorem b131_56 {d : Nat} {Q : Option Value → px_S → Prop} {σ : px_S} {x1 x2 x3 : Int32} (h : Q (some (.int (-1004 : Int32))) σ) : Wp d tb_131 56 [.ref 9, .int x1, .int x2, .int x3] [] σ Q := by
  refine Wp.adv (pc' := 59) (ls' := [.ref 9, .int x1, .int x2, .int x3]) (st' := [.int (-1004 : Int32)]) (σ' := σ) 1 rfl ?_
  exact Wp.ret rfl rfl h
theorem b131_60 {d : Nat} {Q : Option Value → px_S → Prop} {σ : px_S} {x1 x2 x3 : Int32} (c1 : vp_in (σ.1 9 1) 40) (h : Wp d tb_131 70 [.ref 9, .int x1, .int x2, .int x3] [] (px_uI σ 38 ((σ.1 9 1)).toNatClampNeg x1) Q) : Wp d tb_131 60 [.ref 9, .int x1, .int x2, .int x3] [] σ Q := by
  refine Wp.adv (pc' := 69) (ls' := [.ref 9, .int x1, .int x2, .int x3]) (st' := [.int x1, .int (σ.1 9 1), .ref 38]) (σ' := σ) 5 rfl ?_
  refine Wp.iast (N := 40) rfl rfl c1 ?_
  exact h
theorem b131_70 {d : Nat} {Q : Option Value → px_S → Prop} {σ : px_S} {x1 x2 x3 : Int32} (c1 : vp_in (σ.1 9 1) 40) (h : Wp d tb_131 80 [.ref 9, .int x1, .int x2, .int x3] [] (px_uI σ 39 ((σ.1 9 1)).toNatClampNeg x2) Q) : Wp d tb_131 70 [.ref 9, .int x1, .int x2, .int x3] [] σ Q := by
  refine Wp.adv (pc' := 79) (ls' := [.ref 9, .int x1, .int x2, .int x3]) (st' := [.int x2, .int (σ.1 9 1), .ref 39]) (σ' := σ) 5 rfl ?_
  refine Wp.iast (N := 40) rfl rfl c1 ?_
  exact h
theorem b131_80 {d : Nat} {Q : Option Value → px_S → Prop} {σ : px_S} {x1 x2 x3 : Int32} (c1 : vp_in (σ.1 9 1) 40) (h : Wp d tb_131 90 [.ref 9, .int x1, .int x2, .int x3] [] (px_uI σ 40 ((σ.1 9 1)).toNatClampNeg x3) Q) : Wp d tb_131 80 [.ref 9, .int x1, .int x2, .int x3] [] σ Q := by
  refine Wp.adv (pc' := 89) (ls' := [.ref 9, .int x1, .int x2, .int x3]) (st' := [.int x3, .int (σ.1 9 1), .ref 40]) (σ' := σ) 5 rfl ?_
  refine Wp.iast (N := 40) rfl rfl c1 ?_
  exact h
