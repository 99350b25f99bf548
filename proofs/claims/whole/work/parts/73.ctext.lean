/-! ===== the class: texts of the program; words of the rules' text ===== -/
def k_w (i : Nat) : List Nat := [[110, 101, 97, 114], [102, 105, 116], [116, 114, 117, 115, 116], [107, 101, 101, 112], [100, 101, 101, 112], [121, 101, 115], [110, 111]].getD i []
theorem k_7 {i : Nat} (h : i < 7) : i = 0 ∨ i = 1 ∨ i = 2 ∨ i = 3 ∨ i = 4 ∨ i = 5 ∨ i = 6 := by omega
theorem k_ix0 {i : Nat} (hi : i < 7) : px_ix 110 (110 + i) = some i := by
  unfold px_ix; rw [if_pos ⟨by omega, by omega⟩]; congr 1; omega
theorem k_ix1 {i : Nat} (hi : i < 7) : px_ix 120 (120 + i) = some i := by
  unfold px_ix; rw [if_pos ⟨by omega, by omega⟩]; congr 1; omega
theorem k_wsl {i : Nat} (hi : i < 7) : px_sl.getD i 0 = (k_w i).length ∧ (k_w i).length ≤ 5 := by
  rcases k_7 hi with rfl | rfl | rfl | rfl | rfl | rfl | rfl <;> decide
theorem k_sc {i k : Nat} (hi : i < 7) (hk : k < (k_w i).length) : ((((px_sb.getD i []).getD k 0 &&& 255).toUInt32 % 65536).toInt32) = nI ((k_w i).getD k 0) ∧ narrow .char (.int (nI ((k_w i).getD k 0))) = .int (nI ((k_w i).getD k 0)) ∧ (k_w i).getD k 0 ≤ 255 := by
  have h5 := (k_wsl hi).2
  have h : ∀ i : Fin 7, ∀ k : Fin 5, k.val < (k_w i.val).length → ((((px_sb.getD i.val []).getD k.val 0 &&& 255).toUInt32 % 65536).toInt32) = nI ((k_w i.val).getD k.val 0) ∧ (k_w i.val).getD k.val 0 ≤ 255 := by decide +kernel
  obtain ⟨h1, h2⟩ := h ⟨i, hi⟩ ⟨k, by omega⟩ hk
  have h2 : (k_w i).getD k 0 ≤ 255 := h2
  exact ⟨h1, (pk_charN (q := (k_w i).getD k 0) (by omega)).1, h2⟩
theorem k_okc {i : Nat} (hi : i < 7) {as rest ls : List Value} (h2 : decide (px_cat rest ≤ 8) = true) (h3 : rest.all px_nc = true) (h4 : ls.all px_nc = true) : px_okc 100 (.ref (110 + i) :: as) rest ls = true := by
  refine px_okc_mk ?_ h2 h3 h4
  rcases k_7 hi with rfl | rfl | rfl | rfl | rfl | rfl | rfl <;> rfl
theorem k_nc0 {i : Nat} (hi : i < 7) : px_nc (.ref (110 + i)) = true := by
  rcases k_7 hi with rfl | rfl | rfl | rfl | rfl | rfl | rfl <;> rfl
theorem k_nc1 {i : Nat} (hi : i < 7) : px_nc (.ref (120 + i)) = true := by
  rcases k_7 hi with rfl | rfl | rfl | rfl | rfl | rfl | rfl <;> rfl
section KT2
variable {d : Nat} {Q : Option Value → px_S → Prop} {σ : px_S}
theorem c_coder {i : Nat} (hi : i < 7) (h : Q (some (.int 0)) σ) : Cw (d + 1) 114 [.ref (110 + i)] σ Q := by
  refine Cw.of (tb := tb_114) (nL := 1) (y := yJ0_coder_7d493) (cc := cJ0_coder_7d493) (rt := some .byte) rfl (Nat.le_of_ble_eq_true rfl) ?_
  refine Wp.adv (pc' := 3) (ls' := [.ref (110 + i)]) (st' := [.int 1]) (σ' := σ) 1 rfl ?_
  refine Wp.if_ rfl (fun g => absurd g (by decide)) (fun _ => ?_)
  refine Wp.adv (pc' := 7) (ls' := [.ref (110 + i)]) (st' := [.ref (110 + i)]) (σ' := σ) 1 rfl ?_
  refine Wp.step (f := pi_scod 10) (q := (10, [.ref (110 + i)], [.int 0], σ)) rfl (by unfold pi_scod; dsimp only; rw [k_ix0 hi]) ?_
  refine Wp.adv (pc' := 14) (ls' := [.ref (110 + i)]) (st' := [.int 0]) (σ' := σ) 1 rfl ?_
  exact Wp.ret (g := pr_b) (r := some (.int 0)) rfl rfl h
theorem c_latin {i : Nat} (hi : i < 7) (h : Q (some (.int 1)) σ) : Cw (d + 1) 116 [.ref (110 + i)] σ Q := by
  refine Cw.of (tb := tb_116) (nL := 1) (y := yJ0_isLatin1_aae02) (cc := cJ0_isLatin1_aae02) (rt := some .boolean) rfl (Nat.le_of_ble_eq_true rfl) ?_
  refine Wp.adv (pc' := 3) (ls' := [.ref (110 + i)]) (st' := [.int 1]) (σ' := σ) 1 rfl ?_
  refine Wp.if_ rfl (fun g => absurd g (by decide)) (fun _ => ?_)
  refine Wp.adv (pc' := 7) (ls' := [.ref (110 + i)]) (st' := [.ref (110 + i)]) (σ' := σ) 1 rfl ?_
  refine Wp.step (f := pi_scod 10) (q := (10, [.ref (110 + i)], [.int 0], σ)) rfl (by unfold pi_scod; dsimp only; rw [k_ix0 hi]) ?_
  refine Wp.if_ rfl (fun g => absurd rfl g) (fun _ => ?_)
  refine Wp.adv (pc' := 18) (ls' := [.ref (110 + i)]) (st' := [.int 1]) (σ' := σ) 2 rfl ?_
  exact Wp.zret rfl (Or.inr rfl) h
theorem c_slen {i : Nat} (hi : i < 7) (h : Q (some (.int (nI (k_w i).length))) σ) : Cw (d + 2) 113 [.ref (110 + i)] σ Q := by
  refine Cw.of (tb := tb_113) (nL := 1) (y := yJ0_length_8abf5) (cc := cJ0_length_8abf5) (rt := some .int) rfl (Nat.le_of_ble_eq_true rfl) ?_
  refine Wp.adv (pc' := 1) (ls' := [.ref (110 + i)]) (st' := [.ref (110 + i)]) (σ' := σ) 1 rfl ?_
  refine Wp.step (f := pi_sval 4) (q := (4, [.ref (110 + i)], [.ref (120 + i)], σ)) rfl (by unfold pi_sval; dsimp only; rw [k_ix0 hi]) ?_
  refine Wp.step (f := pi_slen 5) (q := (5, [.ref (110 + i)], [.int (nI (k_w i).length)], σ)) rfl (by unfold pi_slen; dsimp only; rw [k_ix1 hi]; dsimp only; rw [(k_wsl hi).1]; rfl) ?_
  refine Wp.adv (pc' := 6) (ls' := [.ref (110 + i)]) (st' := [.ref (110 + i), .int (nI (k_w i).length)]) (σ' := σ) 1 rfl ?_
  refine Wp.call (q := (114, 1, 100, 9)) rfl (Nat.le_of_ble_eq_true rfl) (k_okc hi rfl rfl (by rw [List.all_cons, k_nc0 hi]; rfl)) (c_coder hi ?_)
  refine Wp.adv (pc' := 10) (ls' := [.ref (110 + i)]) (st' := [.int (nI (k_w i).length >>> ((0 : Int32) &&& 31))]) (σ' := σ) 1 rfl ?_
  have e : nI (k_w i).length >>> ((0 : Int32) &&& 31) = nI (k_w i).length := by
    rcases k_7 hi with rfl | rfl | rfl | rfl | rfl | rfl | rfl <;> decide
  rw [e]
  exact Wp.ret (g := pr_i) (r := some (.int (nI (k_w i).length))) rfl rfl h
theorem c_chk {k n : Nat} (hk : k < n) (hn : n ≤ 5) (h : Q none σ) : Cw (d + 2) 118 [.int (nI k), .int (nI n)] σ Q := by
  refine Cw.of (tb := tb_118) (nL := 2) (y := yJ0_checkIndex_df160) (cc := cJ0_checkIndex_df160) (rt := none) rfl (Nat.le_of_ble_eq_true rfl) ?_
  refine Wp.adv (pc' := 5) (ls' := [.int (nI k), .int (nI n)]) (st' := [.float 0, .int (nI n), .int (nI k)]) (σ' := σ) 3 rfl ?_
  refine Wp.call (q := (119, 3, 0, 8)) rfl (Nat.le_of_ble_eq_true rfl) rfl ?_
  refine Cw.of (tb := tb_119) (nL := 3) (y := yJ3_checkIndex_8e157) (cc := cJ3_checkIndex_8e157) (rt := some .int) rfl (Nat.le_of_ble_eq_true rfl) ?_
  refine Wp.adv (pc' := 1) (ls' := [.int (nI k), .int (nI n), .float 0]) (st' := [.int (nI k)]) (σ' := σ) 1 rfl ?_
  refine Wp.if_ rfl (fun g => absurd g (nI_pos (by omega))) (fun _ => ?_)
  refine Wp.adv (pc' := 6) (ls' := [.int (nI k), .int (nI n), .float 0]) (st' := [.int (nI n), .int (nI k)]) (σ' := σ) 2 rfl ?_
  refine Wp.icmp rfl (fun _ => ?_) (fun g => absurd (nI_lt hk (by omega)) g)
  refine Wp.adv (pc' := 17) (ls' := [.int (nI k), .int (nI n), .float 0]) (st' := [.int (nI k)]) (σ' := σ) 1 rfl ?_
  refine Wp.ret (g := pr_i) (r := some (.int (nI k))) rfl rfl ?_
  refine Wp.adv (pc' := 9) (ls' := [.int (nI k), .int (nI n)]) (st' := []) (σ' := σ) 1 rfl ?_
  exact Wp.ret (g := pr_v) (r := none) rfl rfl h
theorem c_charL {i k : Nat} (hi : i < 7) (hk : k < (k_w i).length) (h : Q (some (.int (nI ((k_w i).getD k 0)))) σ) : Cw (d + 3) 117 [.ref (120 + i), .int (nI k)] σ Q := by
  obtain ⟨hl, h5⟩ := k_wsl hi
  obtain ⟨h1, h2, h3⟩ := k_sc hi hk
  refine Cw.of (tb := tb_117) (nL := 2) (y := yJ1_charAt_3b067) (cc := cJ1_charAt_3b067) (rt := some .char) rfl (Nat.le_of_ble_eq_true rfl) ?_
  refine Wp.adv (pc' := 2) (ls' := [.ref (120 + i), .int (nI k)]) (st' := [.ref (120 + i), .int (nI k)]) (σ' := σ) 2 rfl ?_
  refine Wp.step (f := pi_slen 3) (q := (3, [.ref (120 + i), .int (nI k)], [.int (nI (k_w i).length), .int (nI k)], σ)) rfl (by unfold pi_slen; dsimp only; rw [k_ix1 hi]; dsimp only; rw [hl]; rfl) ?_
  refine Wp.call (q := (118, 2, 0, 6)) rfl (Nat.le_of_ble_eq_true rfl) (px_okc_mk rfl rfl rfl (by rw [List.all_cons, k_nc1 hi]; rfl)) (c_chk hk h5 ?_)
  refine Wp.adv (pc' := 8) (ls' := [.ref (120 + i), .int (nI k)]) (st' := [.int (nI k), .ref (120 + i)]) (σ' := σ) 2 rfl ?_
  refine Wp.step (f := pi_sald 9) (q := (9, [.ref (120 + i), .int (nI k)], [.int ((px_sb.getD i []).getD k 0)], σ)) rfl (by
    unfold pi_sald; dsimp only; rw [k_ix1 hi]; dsimp only
    rw [nI_clamp (by omega), if_neg (fun z => by
      rcases z with z | z
      · exact nI_pos (by omega) z
      · rw [hl] at z; omega)]) ?_
  refine Wp.adv (pc' := 14) (ls' := [.ref (120 + i), .int (nI k)]) (st' := [.int ((((px_sb.getD i []).getD k 0 &&& 255).toUInt32 % 65536).toInt32)]) (σ' := σ) 3 rfl ?_
  rw [h1]
  exact Wp.ret (g := pr_c) (r := some (.int (nI ((k_w i).getD k 0)))) rfl (by unfold pr_c; dsimp only; rw [if_pos h2]) h
theorem c_charAt {i k : Nat} (hi : i < 7) (hk : k < (k_w i).length) (h : Q (some (.int (nI ((k_w i).getD k 0)))) σ) : Cw (d + 4) 115 [.ref (110 + i), .int (nI k)] σ Q := by
  obtain ⟨h1, h2, h3⟩ := k_sc hi hk
  refine Cw.of (tb := tb_115) (nL := 2) (y := yJ0_charAt_5068e) (cc := cJ0_charAt_5068e) (rt := some .char) rfl (Nat.le_of_ble_eq_true rfl) ?_
  refine Wp.adv (pc' := 1) (ls' := [.ref (110 + i), .int (nI k)]) (st' := [.ref (110 + i)]) (σ' := σ) 1 rfl ?_
  refine Wp.call (q := (116, 1, 100, 4)) rfl (Nat.le_of_ble_eq_true rfl) (k_okc hi rfl rfl (by rw [List.all_cons, k_nc0 hi]; rfl)) (c_latin hi ?_)
  refine Wp.if_ rfl (fun g => absurd g (by decide)) (fun _ => ?_)
  refine Wp.adv (pc' := 8) (ls' := [.ref (110 + i), .int (nI k)]) (st' := [.ref (110 + i)]) (σ' := σ) 1 rfl ?_
  refine Wp.step (f := pi_sval 11) (q := (11, [.ref (110 + i), .int (nI k)], [.ref (120 + i)], σ)) rfl (by unfold pi_sval; dsimp only; rw [k_ix0 hi]) ?_
  refine Wp.adv (pc' := 12) (ls' := [.ref (110 + i), .int (nI k)]) (st' := [.int (nI k), .ref (120 + i)]) (σ' := σ) 1 rfl ?_
  refine Wp.call (q := (117, 2, 0, 15)) rfl (Nat.le_of_ble_eq_true rfl) (px_okc_mk rfl rfl rfl (by rw [List.all_cons, k_nc0 hi]; rfl)) (c_charL hi hk ?_)
  exact Wp.ret (g := pr_c) (r := some (.int (nI ((k_w i).getD k 0)))) rfl (by unfold pr_c; dsimp only [Option.toList, List.drop, List.append_nil, List.cons_append, List.nil_append]; rw [if_pos h2]) h
end KT2
def r_B (bs : List Nat) (σ : px_S) : Prop := σ.1 8 2 = nI bs.length ∧ (∀ k, k < bs.length → σ.1 35 k = nI (bs.getD k 0)) ∧ bs.length ≤ 120 ∧ ∀ k, bs.getD k 0 ≤ 255
def r_e (J : Nat → Prop) (σ τ : px_S) : Prop := τ.2 = σ.2 ∧ (∀ k, k ≠ 8 → τ.1 k = σ.1 k) ∧ ∀ j, ¬ J j → τ.1 8 j = σ.1 8 j
theorem r_e.rf {J : Nat → Prop} {σ : px_S} : r_e J σ σ := ⟨rfl, fun _ _ => rfl, fun _ _ => rfl⟩
theorem r_e.tr {J : Nat → Prop} {σ τ υ : px_S} (h1 : r_e J σ τ) (h2 : r_e J τ υ) : r_e J σ υ := ⟨h2.1.trans h1.1, fun k hk => (h2.2.1 k hk).trans (h1.2.1 k hk), fun j hj => (h2.2.2 j hj).trans (h1.2.2 j hj)⟩
theorem r_e.u {J : Nat → Prop} {σ : px_S} {j : Nat} {x : Int32} (hj : J j) : r_e J σ (px_uI σ 8 j x) := ⟨rfl, fun _ hk => q_uc hk, fun i hi => by rw [q_u, if_neg (fun z => hi (by rw [z.2]; exact hj))]⟩
theorem r_B.e {bs : List Nat} {J : Nat → Prop} {σ τ : px_S} (h : r_B bs σ) (he : r_e J σ τ) (hJ : ¬ J 2) : r_B bs τ := ⟨by rw [he.2.2 2 hJ]; exact h.1, fun k hk => by rw [he.2.1 35 (by decide)]; exact h.2.1 k hk, h.2.2⟩
theorem r_B.lt {bs : List Nat} {σ : px_S} (h : r_B bs σ) {i : Nat} (hi : σ.1 8 5 = nI i) (hlt : i < bs.length) : ¬ σ.1 8 2 ≤ σ.1 8 5 := by have := h.2.2.1; rw [h.1, hi]; exact nI_ge hlt (by omega)
theorem r_B.ge {bs : List Nat} {σ : px_S} (h : r_B bs σ) {i : Nat} (hi : σ.1 8 5 = nI i) (hlt : bs.length ≤ i) (h2 : i ≤ 120) : σ.1 8 2 ≤ σ.1 8 5 := by rw [h.1, hi]; exact nI_le hlt (by omega)
abbrev r_j5 (j : Nat) : Prop := j = 5
section KRT
variable {d : Nat} {Q : Option Value → px_S → Prop} {σ : px_S} {bs : List Nat}
theorem c_skip {i : Nat} (hB : r_B bs σ) (hi : i ≤ bs.length) (h5 : σ.1 8 5 = nI i) (h : ∀ τ, r_e r_j5 σ τ → τ.1 8 5 = nI (q_skp bs i) → Q none τ) : Cw (d + 1) 107 [.ref 8] σ Q := by
  have h120 := hB.2.2.1
  have loop : ∀ m k (τ : px_S), k + m = bs.length → r_e r_j5 σ τ → τ.1 8 5 = nI k → q_run (fun k => decide (bs.getD k 0 = 32)) m k = q_skp bs i → Wp d tb_107 0 [.ref 8] [] τ Q := by
    intro m
    induction m with
    | zero =>
      intro k τ hk he e5 er
      have hBt := hB.e he (by decide)
      have er : k = q_skp bs i := er
      exact b107_0 (fun _ => b107_38 (h τ he (by rw [e5, er]))) (fun g => absurd (hBt.ge e5 (by omega) (by omega)) g)
    | succ m ih =>
      intro k τ hk he e5 er
      have hBt := hB.e he (by decide)
      obtain ⟨ik, ck⟩ := q_lt (j := k) (N := 120) (by omega) (by decide)
      have l255 := hB.2.2.2 k
      rw [q_run] at er
      refine b107_0 (fun g => absurd g (hBt.lt e5 (by omega))) (fun _ => b107_11 (by rw [e5]; exact ik) (fun g => b107_38 (h τ he ?_)) (fun g => b107_25 (b107_35 ?_)))
      · rw [e5, ck, hBt.2.1 k (by omega)] at g
        rw [decide_eq_false (fun z => g (by rw [z]; rfl)), if_neg (by decide)] at er
        rw [e5, er]
      · rw [e5, ck, hBt.2.1 k (by omega)] at g
        have g := (nI_eq (b := 32) (by omega) (by decide)).mp (Decidable.not_not.mp g)
        rw [decide_eq_true g, if_pos rfl] at er
        rw [e5, nI_1]
        exact ih (k + 1) _ (by omega) (he.tr (r_e.u rfl)) (by rw [q_u, if_pos ⟨rfl, rfl⟩]) er
  exact e107 (loop (bs.length - i) i σ (by omega) r_e.rf h5 rfl)
theorem c_endOfWord {i : Nat} (hB : r_B bs σ) (hi : i ≤ bs.length) (h5 : σ.1 8 5 = nI i) (h : Q (some (.int (nI (q_wen bs i)))) σ) : Cw (d + 1) 109 [.ref 8] σ Q := by
  have h120 := hB.2.2.1
  have loop : ∀ m k, k + m = bs.length → q_run (fun k => decide (97 ≤ bs.getD k 0) && decide (bs.getD k 0 ≤ 122)) m k = q_wen bs i → Wp d tb_109 5 [.ref 8, .int (nI k)] [] σ Q := by
    intro m
    induction m with
    | zero =>
      intro k hk er
      have er : k = q_wen bs i := er
      rw [← er] at h
      exact b109_5 (fun _ => b109_41 h) (fun g => absurd (by rw [hB.1]; exact nI_le (by omega) (by omega)) g)
    | succ m ih =>
      intro k hk er
      obtain ⟨ik, ck⟩ := q_lt (j := k) (N := 120) (by omega) (by decide)
      have l255 := hB.2.2.2 k
      have eb := hB.2.1 k (by omega)
      rw [q_run] at er
      have stop : (decide (97 ≤ bs.getD k 0) && decide (bs.getD k 0 ≤ 122)) = false → Wp d tb_109 41 [.ref 8, .int (nI k)] [] σ Q := fun hz => by
        rw [hz, if_neg (by decide)] at er
        rw [← er] at h
        exact b109_41 h
      refine b109_5 (fun g => absurd g (by rw [hB.1]; exact nI_ge (by omega) (by omega))) (fun _ => b109_13 ik (fun g => stop ?_) (fun g => b109_24 ik (fun g2 => stop ?_) (fun g2 => b109_35 ?_)))
      · rw [ck, eb, show (97 : Int32) = nI 97 from rfl, nI_ltI (by omega) (by decide)] at g
        rw [decide_eq_false (by omega)]; rfl
      · rw [ck, eb, show (122 : Int32) = nI 122 from rfl, nI_ltI (by decide) (by omega)] at g2
        rw [decide_eq_false (p := bs.getD k 0 ≤ 122) (by omega), Bool.and_false]
      · rw [ck, eb, show (97 : Int32) = nI 97 from rfl, nI_ltI (by omega) (by decide)] at g
        rw [ck, eb, show (122 : Int32) = nI 122 from rfl, nI_ltI (by decide) (by omega)] at g2
        rw [decide_eq_true (p := 97 ≤ bs.getD k 0) (by omega), decide_eq_true (p := bs.getD k 0 ≤ 122) (by omega), if_pos (by decide)] at er
        rw [nI_1]
        exact ih (k + 1) (by omega) er
  refine e109 (b109_0 ?_)
  rw [h5]
  exact loop (bs.length - i) i (by omega) rfl
theorem c_isWord {b e z : Nat} (hB : r_B bs σ) (hbe : b ≤ e) (he : e ≤ bs.length) (hz : z < 7) (h : Q (some (.int (q_b (q_isw bs b (e - b) (k_w z))))) σ) : Cw (d + 5) 112 [.ref 8, .int (nI b), .int (nI e), .ref (110 + z)] σ Q := by
  have h120 := hB.2.2.1
  obtain ⟨-, h5⟩ := k_wsl hz
  have ok1 : ∀ y : Int32, px_okc 100 [.ref (110 + z)] [.int y] [.ref 8, .int (nI b), .int (nI e), .ref (110 + z), .null] = true := fun y => k_okc hz rfl rfl (by
    rcases k_7 hz with rfl | rfl | rfl | rfl | rfl | rfl | rfl <;> rfl)
  have ok2 : ∀ (y x4 : Int32), px_okc 100 [.ref (110 + z)] [.int y] [.ref 8, .int (nI b), .int (nI e), .ref (110 + z), .int x4] = true := fun y x4 => k_okc hz rfl rfl (by
    rcases k_7 hz with rfl | rfl | rfl | rfl | rfl | rfl | rfl <;> rfl)
  have ok3 : ∀ (y x4 : Int32), px_okc 100 [.ref (110 + z), .int x4] [.int y] [.ref 8, .int (nI b), .int (nI e), .ref (110 + z), .int x4] = true := fun y x4 => k_okc hz rfl rfl (by
    rcases k_7 hz with rfl | rfl | rfl | rfl | rfl | rfl | rfl <;> rfl)
  have loop : e - b = (k_w z).length → ∀ m k, k + m = (k_w z).length → (∀ i, i < k → bs.getD (b + i) 0 = (k_w z).getD i 0) → Wp (d + 4) tb_112 15 [.ref 8, .int (nI b), .int (nI e), .ref (110 + z), .int (nI k)] [] σ Q := by
    intro hl m
    induction m with
    | zero =>
      intro k hk hall
      have e1 : q_isw bs b (e - b) (k_w z) = true := by
        unfold q_isw
        rw [decide_eq_true hl, Bool.true_and]
        exact (q_all_iff _).mpr (fun i hi => decide_eq_true (hall i (by omega)))
      rw [e1] at h
      exact b112_15 (ok2 _ _) (c_slen hz (b112_21 (fun _ => b112_50 h) (fun g => absurd (nI_le (by omega) (by omega)) g)))
    | succ m ih =>
      intro k hk hall
      obtain ⟨ik, ck⟩ := q_lt (j := b + k) (N := 120) (by omega) (by decide)
      have l255 := hB.2.2.2 (b + k)
      have eb := hB.2.1 (b + k) (by omega)
      obtain ⟨-, -, w255⟩ := k_sc hz (show k < (k_w z).length by omega)
      refine b112_15 (ok2 _ _) (c_slen hz (b112_21 (fun g => absurd g (nI_ge (by omega) (by omega))) (fun _ => b112_24 (by rw [nI_add]; exact ik) (ok3 _ _) (c_charAt hz (by omega) (b112_39 (fun g => b112_44 ?_) (fun g => b112_42 ?_))))))
      · rw [nI_add, ck, eb] at g
        have g := (nI_eq (by omega) (by omega)).mp g
        rw [nI_1]
        refine ih (k + 1) (by omega) (fun i hi => ?_)
        by_cases hik : i = k
        · rw [hik]; exact g
        · exact hall i (by omega)
      · rw [nI_add, ck, eb] at g
        have e1 : q_isw bs b (e - b) (k_w z) = false := by
          cases hb : q_isw bs b (e - b) (k_w z) with
          | false => rfl
          | true =>
            unfold q_isw at hb
            rw [Bool.and_eq_true] at hb
            have := (q_all_iff _).mp hb.2 k (by omega)
            rw [decide_eq_true_eq] at this
            exact absurd (by rw [this]) g
        rw [e1] at h
        exact h
  refine e112 (b112_0 (ok1 _) (c_slen hz (b112_7 (fun g => b112_12 (loop ?_ (k_w z).length 0 (by omega) (fun i hi => absurd hi (Nat.not_lt_zero _)))) (fun g => b112_10 ?_))))
  · rw [pk_sub hbe, nI_eq (by omega) (by omega)] at g; exact g
  · rw [pk_sub hbe, nI_eq (by omega) (by omega)] at g
    have e1 : q_isw bs b (e - b) (k_w z) = false := by unfold q_isw; rw [decide_eq_false g]; rfl
    rw [e1] at h
    exact h
theorem c_nameOf {k : Nat} (hk : k < 5) (h : Q (some (.ref (110 + k))) σ) : Cw (d + 1) 111 [.int (nI k)] σ Q := by
  have ek : (nI k).toInt = (k : Int) := nI_toInt (by omega)
  refine e111 (b111_0 (fun hd => ?_) (fun j t hjt hj => ?_))
  · have : k = 4 := by omega
    subst this
    exact b111_44 h
  · match j, hjt, hj with
    | 0, hjt, hj => cases hjt; have : k = 0 := by omega
                    subst this; exact b111_32 h
    | 1, hjt, hj => cases hjt; have : k = 1 := by omega
                    subst this; exact b111_35 h
    | 2, hjt, hj => cases hjt; have : k = 2 := by omega
                    subst this; exact b111_38 h
    | 3, hjt, hj => cases hjt; have : k = 3 := by omega
                    subst this; exact b111_41 h
    | j + 4, hjt, hj => cases hjt
theorem q_knd_up (bs : List Nat) (b m : Nat) : q_knd bs b m = q_up (fun k => q_isw bs b m (k_w k)) 5 0 := by
  unfold q_knd
  simp only [q_up]
  rfl
theorem c_kindOf {b e : Nat} (hB : r_B bs σ) (hbe : b ≤ e) (he : e ≤ bs.length) (h : Q (some (.int (q_bi (q_knd bs b (e - b))))) σ) : Cw (d + 6) 110 [.ref 8, .int (nI b), .int (nI e)] σ Q := by
  rw [q_knd_up] at h
  have loop : ∀ m k, k + m = 5 → q_up (fun k => q_isw bs b (e - b) (k_w k)) m k = q_up (fun k => q_isw bs b (e - b) (k_w k)) 5 0 → Wp (d + 5) tb_110 2 [.ref 8, .int (nI b), .int (nI e), .int (nI k)] [] σ Q := by
    intro m
    induction m with
    | zero =>
      intro k hk hq
      rw [← hq] at h
      exact b110_2 (fun _ => b110_28 h) (fun g => absurd (nI_le (a := 5) (by omega) (by omega)) g)
    | succ m ih =>
      intro k hk hq
      rw [q_up] at hq
      refine b110_2 (fun g => absurd g (nI_ge (b := 5) (by omega) (by decide))) (fun _ => b110_7 (c_nameOf (by omega) (b110_14 (c_isWord hB hbe he (by omega) ?_))))
      cases hb : q_isw bs b (e - b) (k_w k) with
      | false =>
        rw [hb, if_neg (by decide)] at hq
        refine b110_17 (fun _ => b110_22 ?_) (fun g => absurd rfl g)
        rw [nI_1]
        exact ih (k + 1) (by omega) hq
      | true =>
        rw [hb, if_pos rfl] at hq
        rw [← hq] at h
        exact b110_17 (fun g => absurd g (by decide)) (fun _ => b110_20 h)
  exact e110 (b110_0 (loop 5 0 rfl rfl))
theorem c_isFigure {n : Nat} (hn : n ≤ 255) (h : Q (some (.int (q_b (decide (48 ≤ n) && decide (n ≤ 57))))) σ) : Cw (d + 1) 123 [.int (nI n)] σ Q := by
  have no : (decide (48 ≤ n) && decide (n ≤ 57)) = false → Wp d tb_123 16 [.int (nI n)] [] σ Q := fun z => by rw [z] at h; exact b123_16 (b123_17 (Or.inl rfl) h)
  refine e123 (b123_0 (fun g => no ?_) (fun g => b123_6 (fun g2 => no ?_) (fun g2 => b123_12 (b123_17 (Or.inr rfl) ?_))))
  · rw [show (48 : Int32) = nI 48 from rfl, nI_ltI (by omega) (by decide)] at g
    rw [decide_eq_false (by omega)]; rfl
  · rw [show (57 : Int32) = nI 57 from rfl, nI_ltI (by decide) (by omega)] at g2
    rw [decide_eq_false (p := n ≤ 57) (by omega), Bool.and_false]
  · rw [show (48 : Int32) = nI 48 from rfl, nI_ltI (by omega) (by decide)] at g
    rw [show (57 : Int32) = nI 57 from rfl, nI_ltI (by decide) (by omega)] at g2
    rw [decide_eq_true (p := 48 ≤ n) (by omega), decide_eq_true (p := n ≤ 57) (by omega)] at h
    exact h
theorem c_blame {x1 x2 : Int32} (h : Q (some (.int 0)) (px_uI (px_uI σ 8 4 x1) 8 3 x2)) : Cw (d + 1) 120 [.ref 8, .int x1, .int x2] σ Q := e120 (b120_0 (b120_5 (b120_10 h)))
end KRT
