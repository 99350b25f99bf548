/-! ===== the class: texts are longs ===== -/
theorem lb_lN (n i : Nat) : lb (lN n) i = (decide (i < 64) && n.testBit i) := by
  unfold lb lN
  show (BitVec.ofNat 64 n).getLsbD i = _
  rw [BitVec.getLsbD_ofNat]
theorem k_tb {n i j : Nat} (hn : n < 2 ^ j) (h : j ≤ i) : n.testBit i = false := Nat.testBit_lt_two_pow (Nat.lt_of_lt_of_le hn (Nat.pow_le_pow_right (by decide) h))
theorem lN_ushr {n s : Nat} (hn : n < 2 ^ 63) (hs : s < 64) : ((lN n).toUInt64 >>> ((nI s).toInt64.toUInt64 &&& Int64.toUInt64 63)).toInt64 = lN (n / 2 ^ s) := by
  apply lb_ext
  intro i hi
  rw [lb_ushr hs, lb_lN, lb_lN, Nat.testBit_div_two_pow, Nat.add_comm i s]
  by_cases h : s + i < 64
  · simp [h, hi]
  · rw [k_tb hn (by omega)]; simp
theorem lN_and63 (n : Nat) : lN n &&& (63 : Int64) = lN (n % 64) := by
  apply lb_ext
  intro i hi
  have h63 : ∀ i : Fin 64, lb 63 i.val = decide (i.val < 6) := by decide +kernel
  have em : (n % 64).testBit i = (decide (i < 6) && n.testBit i) := Nat.testBit_mod_two_pow n 6 i
  rw [lb_and, h63 ⟨i, hi⟩, lb_lN, lb_lN, em]
  by_cases h : i < 6
  · simp [h]
  · simp [h]
theorem lN_i63 (n : Nat) : (lN n).toInt32 &&& (63 : Int32) = nI (n % 64) := by
  rw [lN_i, pk_and (nI n) (m := 63) 6 (by decide)]
  congr 1
  have e : (nI n).toBitVec.toNat = n % 2 ^ 32 := rfl
  rw [e]
  omega
theorem k_sh {k : Nat} (hk : k ≤ 7) : (6 : Int32) * ((7 : Int32) - nI k) = nI (6 * (7 - k)) := by
  rw [show (6 : Int32) = nI 6 from rfl, show (7 : Int32) = nI 7 from rfl, pk_sub hk, pk_mul]
theorem k_64 (m : Nat) : 2 ^ (6 * m) = 64 ^ m := by rw [Nat.pow_mul]
theorem q_pkd_tail {f : Nat → Nat} {m : Nat} (h : ∀ i, m ≤ i → f i = 0) : ∀ j, q_pkd f (m + j) = q_pkd f m * 64 ^ j
  | 0 => by simp
  | j + 1 => by rw [← Nat.add_assoc, q_pkd, q_pkd_tail h j, h (m + j) (by omega), Nat.pow_succ, Nat.add_zero, Nat.mul_comm 64, Nat.mul_assoc]
theorem q_pn_app {t : List Nat} {w : Nat} (hl : t.length < 8) (hw : w < 64) : q_pn (t ++ [w]) = q_pn t ||| (w <<< (6 * (7 - t.length))) := by
  have e1 : q_pn t = q_pkd (fun k => t.getD k 0) t.length * 64 ^ (8 - t.length) := by
    unfold q_pn
    rw [← q_pkd_tail (fun i hi => q_getD_ge hi), show t.length + (8 - t.length) = 8 by omega]
  have e2 : q_pn (t ++ [w]) = q_pkd (fun k => (t ++ [w]).getD k 0) (t.length + 1) * 64 ^ (7 - t.length) := by
    unfold q_pn
    rw [← q_pkd_tail (m := t.length + 1) (fun i hi => q_getD_ge (by simp; omega)), show t.length + 1 + (7 - t.length) = 8 by omega]
  have e3 : q_pkd (fun k => (t ++ [w]).getD k 0) (t.length + 1) = 64 * q_pkd (fun k => t.getD k 0) t.length + w := by
    rw [q_pkd]
    have h1 : (t ++ [w]).getD t.length 0 = w := q_getD_ar
    have h2 : q_pkd (fun k => (t ++ [w]).getD k 0) t.length = q_pkd (fun k => t.getD k 0) t.length := q_pkd_eq _ (fun i hi => q_getD_al hi)
    rw [h1, h2]
  generalize q_pkd (fun k => t.getD k 0) t.length = A at e1 e3
  have e4 : w <<< (6 * (7 - t.length)) < 2 ^ (6 * (8 - t.length)) := by
    rw [Nat.shiftLeft_eq, show 6 * (8 - t.length) = 6 * (7 - t.length) + 6 by omega, Nat.pow_add, Nat.mul_comm]
    exact Nat.mul_lt_mul_of_pos_left hw (Nat.two_pow_pos _)
  have e5 : q_pn t = A <<< (6 * (8 - t.length)) := by rw [e1, Nat.shiftLeft_eq, k_64]
  rw [e5, ← Nat.shiftLeft_add_eq_or_of_lt e4, e2, e3, Nat.shiftLeft_eq, Nat.shiftLeft_eq, k_64, k_64, show 8 - t.length = (7 - t.length) + 1 by omega, Nat.pow_succ, Nat.add_mul]
  congr 1
  rw [Nat.mul_comm (64 ^ (7 - t.length)) 64, ← Nat.mul_assoc, Nat.mul_comm 64 A]
theorem k_with {t : List Nat} {w : Nat} (ht : q_words t) (hl : t.length < 8) (hw : w < 64) : lN (q_pn t) ||| ((nI w).toInt64 <<< (((6 : Int32) * ((7 : Int32) - nI t.length)).toInt64 &&& 63)) = lN (q_pn (t ++ [w])) := by
  rw [k_sh (by omega), nI_l (by omega), q_pn_app hl hw]
  apply lb_ext
  intro i hi
  rw [lb_or, lb_shl (by omega) _ hi, lb_lN, lb_lN, lb_lN, Nat.testBit_or, Nat.testBit_shiftLeft]
  by_cases h : 6 * (7 - t.length) ≤ i
  · simp [hi, h, show i - 6 * (7 - t.length) < 64 by omega]
  · simp [hi, h]
theorem k_pn_ap {t : List Nat} {w : Nat} (ht : q_words t) (hl : t.length < 8) (hw1 : 1 ≤ w) (hw : w ≤ 63) : q_words (t ++ [w]) := by
  refine ⟨by simp; omega, fun x hx => ?_⟩
  rw [List.mem_append] at hx
  rcases hx with hx | hx
  · exact ht.2 x hx
  · simp at hx; omega
section KT
variable {d : Nat} {Q : Option Value → px_S → Prop} {σ : px_S} {V : QV}
theorem c_wordAt {t : List Nat} {k : Nat} (ht : q_words t) (hk : k < 8) (h : Q (some (.int (nI (t.getD k 0)))) σ) : Cw (d + 1) 34 [.long (lN (q_pn t)), .int (nI k)] σ Q := by
  refine e34 (b34_0 ?_)
  have hlt := q_pn_lt ht
  rw [k_sh (by omega), lN_ushr (by omega) (by omega), lN_i63, k_64, q_pn_dig ht hk]
  exact h
theorem c_wordsIn {t : List Nat} (ht : q_words t) (h : Q (some (.int (nI t.length))) σ) : Cw (d + 1) 33 [.long (lN (q_pn t))] σ Q := by
  have hlt := q_pn_lt ht
  have loop : ∀ w, t.length ≤ w → w ≤ 8 → Wp d tb_33 5 [.long (lN (q_pn t)), .null, .int (nI w), .long (lN (q_pn t / 64 ^ (8 - w))), .null] [] σ Q := by
    intro w
    induction w with
    | zero =>
      intro h1 h2
      refine b33_5 (fun _ => b33_30 ?_) (fun g => absurd (by decide) g)
      rw [show t.length = 0 by omega] at h
      exact h
    | succ w ih =>
      intro h1 h2
      have hd := q_pn_dig ht (k := w) (by omega)
      rw [show 7 - w = 8 - (w + 1) by omega] at hd
      have hz : ∀ m : Nat, lg_cmp (lN m &&& (63 : Int64)) (0 : Int64) = 0 ↔ m % 64 = 0 := fun m => by
        rw [lg_cmp_eq, lN_and63, show (0 : Int64) = lN 0 from rfl, pk_lEQ (by omega) (by omega)]
      refine b33_5 (fun g => absurd g (nI_nle (by omega) (by omega))) (fun _ => b33_9 (fun g => b33_30 ?_) (fun g => b33_19 ?_))
      · rw [hz, hd] at g
        have e : t.length = w + 1 := by
          rcases Nat.lt_or_ge w t.length with z | z
          · omega
          · exact absurd (q_getD_ge z) g
        rw [e] at h
        exact h
      · have g2 := (hz _).mp (Decidable.not_not.mp g)
        rw [hd] at g2
        have e : t.length ≤ w := by
          rcases Nat.lt_or_ge w t.length with z | z
          · have := q_getD_pos ht z; omega
          · exact z
        have es : (((lN (q_pn t / 64 ^ (8 - (w + 1)))).toUInt64 >>> ((6 : Int32).toInt64.toUInt64 &&& Int64.toUInt64 63)).toInt64) = lN (q_pn t / 64 ^ (8 - w)) := by
          have e6 := lN_ushr (n := q_pn t / 64 ^ (8 - (w + 1))) (s := 6) (Nat.lt_of_le_of_lt (Nat.div_le_self _ _) (by omega)) (by decide)
          rw [show (6 : Int32) = nI 6 from rfl, e6, Nat.div_div_eq_div_mul, show 8 - w = (8 - (w + 1)) + 1 by omega]
          show lN (q_pn t / (64 ^ (8 - (w + 1)) * 64)) = _
          rw [← Nat.pow_succ]
        rw [pk_m1, es]
        exact ih e (by omega)
  have e := loop 8 ht.1 (Nat.le_refl _)
  rw [show q_pn t / 64 ^ (8 - 8) = q_pn t by simp] at e
  exact e33 (b33_0 e)
theorem c_wordOrNone {t : List Nat} {x : Int32} (ht : q_words t) (h : Q (some (.int (if q_in x 0 7 then q_wd t x.toNatClampNeg else -1))) σ) : Cw (d + 2) 44 [.long (lN (q_pn t)), .int x] σ Q := by
  refine e44 (b44_0 (fun g => b44_18 ?_) (fun g => b44_4 (fun g2 => b44_18 ?_) (fun g2 => ?_)))
  · rw [Int32.lt_iff_toInt_lt] at g
    have g' : x.toInt < 0 := g
    rw [if_neg (by intro z; have := z.1; omega)] at h
    exact h
  · rw [Int32.le_iff_toInt_le] at g2
    have g' : (8 : Int) ≤ x.toInt := g2
    rw [if_neg (by intro z; have := z.2; omega)] at h
    exact h
  · rw [Int32.lt_iff_toInt_lt] at g
    rw [Int32.le_iff_toInt_le] at g2
    have ga : ¬ x.toInt < 0 := g
    have gb : ¬ (8 : Int) ≤ x.toInt := g2
    obtain ⟨k, ek⟩ : ∃ k : Nat, x.toInt = (k : Int) := ⟨x.toInt.toNat, by omega⟩
    have hin : q_in x 0 7 := ⟨by omega, by omega⟩
    have ek2 := q_ofInt ek
    subst ek2
    have hk : k < 8 := by omega
    have b1 := q_word_lt ht k
    rw [if_pos hin, nI_clamp (by omega)] at h
    unfold q_wd at h
    refine b44_10 (c_wordAt ht hk (b44_15 (fun g3 => b44_20 (c_wordAt ht hk (b44_25 ?_))) (fun g3 => b44_18 ?_)))
    · have : k < t.length := by
        rcases Nat.lt_or_ge k t.length with z | z
        · exact z
        · rw [q_getD_ge z] at g3; exact absurd rfl g3
      rw [if_pos this] at h
      exact h
    · have : ¬ k < t.length := fun z => by
        have h1 := q_getD_pos ht z
        exact g3 (nI_ne0 (by omega) (by omega))
      rw [if_neg this] at h
      exact h
end KT
/-! ===== the class's state holds the view ===== -/
def k_H (V : QV) (σ : px_S) : Prop :=
  σ.1 1 7 = nI (v_n V) ∧ σ.1 1 8 = v_kn V ∧ q_set (σ.2.1 1 9) (fun x => decide (x < v_n V) && v_tk V x) ∧
  (∀ x, x < v_n V → σ.1 11 x = v_wr V x ∧ σ.1 12 x = v_dy V x ∧ σ.1 13 x = v_nm V x ∧ σ.1 14 x = nI (v_sz V x) ∧ σ.1 15 x = nI (q_quo V x)) ∧
  (∀ x, v_n V ≤ x → x < 40 → σ.1 14 x = 0 ∧ σ.1 15 x = 0) ∧
  (∀ x l, x < v_n V → l < v_sz V x → σ.1 16 (14 * x + l) = nI (v_dp V (14 * x + l)) ∧ σ.2.1 17 (14 * x + l) = lN (q_pn (v_tx V (14 * x + l))))
def k_R (V : QV) (σ : px_S) : Prop := ∀ k, k < 5 → σ.1 10 k = v_ru V k
def k_D (V : QV) (σ : px_S) : Prop := σ.2.1 0 8 = lN (q_pn (v_dr V)) ∧ σ.1 0 9 = nI (v_dr V).length
def k_S (V : QV) (σ : px_S) : Prop := σ.1 7 1 = nI (v_sg V).length ∧ ∀ k, k < (v_sg V).length → σ.1 34 k = nI ((v_sg V).getD k 0)
def k_B (V : QV) (σ : px_S) : Prop := σ.1 8 2 = nI (v_by V).length ∧ (∀ k, k < (v_by V).length → σ.1 35 k = nI ((v_by V).getD k 0)) ∧ σ.1 8 3 = v_fa V
def k_F (V : QV) (σ : px_S) : Prop := ∀ x y, x < 40 → y < 40 → σ.1 18 (40 * x + y) = -1 ∨ (x < v_n V ∧ y < v_n V ∧ σ.1 18 (40 * x + y) = nI (q_fit V x y))
def k_kin (V : QV) (a : Int32) (k : Nat) (σ : px_S) : Prop := (∀ x, x < v_n V → σ.1 (2 * k + 15) x = q_rw (q_par V a) x) ∧ (∀ x l, x < v_n V → l < v_sz V x → σ.1 (2 * k + 16) (14 * x + l) = q_bi (q_held V (q_par V a) (14 * x + l))) ∧ q_set (σ.2.1 k 7) (fun x => decide (x < v_n V) && q_seen V a x)
def k_K (V : QV) (k : Nat) (σ : px_S) : Prop := σ.1 k 5 = 0 ∨ (σ.1 k 5 = 1 ∧ k_kin V (σ.1 k 6) k σ)
def k_grp (V : QV) (σ : px_S) : Prop := (∀ x, x < v_n V → σ.1 25 x = q_bi (q_gn V (-1) (q_par V (-1)) x)) ∧ σ.1 5 7 = nI (q_gs V (-1) (q_par V (-1))) ∧ ∀ g, g < q_gs V (-1) (q_par V (-1)) → σ.1 26 g = nI (q_ms V (-1) (q_par V (-1)) g).length ∧ σ.1 27 g = nI ((q_ms V (-1) (q_par V (-1)) g).getD 0 0)
def k_row (V : QV) (g : Nat) (σ : px_S) : Prop := σ.1 6 4 = nI (q_rowOf V (q_par V (-1)) (q_ms V (-1) (q_par V (-1)) g)).length ∧ (q_rowOf V (q_par V (-1)) (q_ms V (-1) (q_par V (-1)) g)).length ≤ 56 ∧ ∀ i, i < (q_rowOf V (q_par V (-1)) (q_ms V (-1) (q_par V (-1)) g)).length → σ.2.1 32 i = lN ((q_rowOf V (q_par V (-1)) (q_ms V (-1) (q_par V (-1)) g)).getD i 0) ∧ ∃ t, q_words t ∧ (q_rowOf V (q_par V (-1)) (q_ms V (-1) (q_par V (-1)) g)).getD i 0 = q_pn t
def k_L (V : QV) (σ : px_S) : Prop := σ.1 5 8 = 0 ∨ (σ.1 5 8 = 1 ∧ k_grp V σ ∧ (σ.1 5 9 = -1 ∨ ∃ g, g < q_gs V (-1) (q_par V (-1)) ∧ σ.1 5 9 = nI g ∧ k_row V g σ))
def k_C (σ : px_S) : Prop := (∀ i, σ.1 33 i = 0) ∧ (σ.2.2.1 = 16 ∨ σ.2.2.1 = 256 ∨ σ.2.2.1 = 4096 ∨ σ.2.2.1 = 65536) ∧ px_cc σ ≤ σ.2.2.1 ∧ px_cs σ ≤ 2 * σ.2.2.1
def k_I (V : QV) (σ : px_S) : Prop := k_H V σ ∧ k_R V σ ∧ k_D V σ ∧ k_S V σ ∧ k_B V σ ∧ k_F V σ ∧ k_K V 3 σ ∧ k_K V 4 σ ∧ k_L V σ ∧ k_C σ
/-- the class leaves the reference's cells -/
def k_fr (σ τ : px_S) : Prop := ∀ k, (k = 9 ∨ 37 ≤ k) → τ.1 k = σ.1 k
theorem k_fr.rf {σ : px_S} : k_fr σ σ := fun _ _ => rfl
theorem k_fr.tr {σ τ υ : px_S} (h1 : k_fr σ τ) (h2 : k_fr τ υ) : k_fr σ υ := fun k hk => (h2 k hk).trans (h1 k hk)
/-- what a step changes: ints of S, longs of T; the length of cells and the counters stay -/
def k_e (S T : Nat → Prop) (σ τ : px_S) : Prop := (∀ k, ¬ S k → τ.1 k = σ.1 k) ∧ (∀ k, ¬ T k → τ.2.1 k = σ.2.1 k) ∧ τ.2.2 = σ.2.2
theorem k_e.rf {S T : Nat → Prop} {σ : px_S} : k_e S T σ σ := ⟨fun _ _ => rfl, fun _ _ => rfl, rfl⟩
theorem k_e.tr {S T : Nat → Prop} {σ τ υ : px_S} (h1 : k_e S T σ τ) (h2 : k_e S T τ υ) : k_e S T σ υ := ⟨fun k hk => (h2.1 k hk).trans (h1.1 k hk), fun k hk => (h2.2.1 k hk).trans (h1.2.1 k hk), h2.2.2.trans h1.2.2⟩
theorem k_e.mono {S T S' T' : Nat → Prop} {σ τ : px_S} (h : k_e S T σ τ) (hS : ∀ k, S k → S' k) (hT : ∀ k, T k → T' k) : k_e S' T' σ τ := ⟨fun k hk => h.1 k (fun z => hk (hS k z)), fun k hk => h.2.1 k (fun z => hk (hT k z)), h.2.2⟩
theorem k_e.uI {S T : Nat → Prop} {σ : px_S} {k j : Nat} {x : Int32} (hk : S k) : k_e S T σ (px_uI σ k j x) := ⟨fun a ha => q_uc (fun e => ha (by rw [e]; exact hk)), fun _ _ => rfl, rfl⟩
theorem k_uL (σ : px_S) (k j : Nat) (x : Int64) (a b : Nat) : (px_uL σ k j x).2.1 a b = if a = k ∧ b = j then x else σ.2.1 a b := by
  unfold px_uL vp_updL
  by_cases h : a = k
  · subst h; by_cases h2 : b = j <;> simp [h2]
  · simp [h]
theorem k_uLc {σ : px_S} {k j : Nat} {x : Int64} {a : Nat} (h : a ≠ k) : (px_uL σ k j x).2.1 a = σ.2.1 a := by simp [px_uL, h]
theorem k_e.uL {S T : Nat → Prop} {σ : px_S} {k j : Nat} {x : Int64} (hk : T k) : k_e S T σ (px_uL σ k j x) := ⟨fun _ _ => rfl, fun a ha => k_uLc (fun e => ha (by rw [e]; exact hk)), rfl⟩
theorem k_e.fr {S T : Nat → Prop} {σ τ : px_S} (h : k_e S T σ τ) (hS : ∀ k, S k → k ≠ 9 ∧ k < 37) : k_fr σ τ := fun k hk => h.1 k (fun z => by have := hS k z; omega)
theorem k_H.fr {V : QV} {σ τ : px_S} (h : k_H V σ) (h1 : τ.1 1 = σ.1 1) (hc : ∀ k, 11 ≤ k → k ≤ 16 → τ.1 k = σ.1 k) (l1 : τ.2.1 1 = σ.2.1 1) (l17 : τ.2.1 17 = σ.2.1 17) : k_H V τ := by
  unfold k_H
  rw [h1, hc 11 (by decide) (by decide), hc 12 (by decide) (by decide), hc 13 (by decide) (by decide), hc 14 (by decide) (by decide), hc 15 (by decide) (by decide), hc 16 (by decide) (by decide), l1, l17]
  exact h
theorem k_R.fr {V : QV} {σ τ : px_S} (h : k_R V σ) (h1 : τ.1 10 = σ.1 10) : k_R V τ := by unfold k_R; rw [h1]; exact h
theorem k_D.fr {V : QV} {σ τ : px_S} (h : k_D V σ) (h1 : τ.1 0 = σ.1 0) (l1 : τ.2.1 0 = σ.2.1 0) : k_D V τ := by unfold k_D; rw [h1, l1]; exact h
theorem k_S.fr {V : QV} {σ τ : px_S} (h : k_S V σ) (h1 : τ.1 7 = σ.1 7) (h2 : τ.1 34 = σ.1 34) : k_S V τ := by unfold k_S; rw [h1, h2]; exact h
theorem k_B.fr {V : QV} {σ τ : px_S} (h : k_B V σ) (h1 : τ.1 8 = σ.1 8) (h2 : τ.1 35 = σ.1 35) : k_B V τ := by unfold k_B; rw [h1, h2]; exact h
theorem k_F.fr {V : QV} {σ τ : px_S} (h : k_F V σ) (h1 : τ.1 18 = σ.1 18) : k_F V τ := by unfold k_F; rw [h1]; exact h
theorem k_kin.fr {V : QV} {a : Int32} {k : Nat} {σ τ : px_S} (h : k_kin V a k σ) (h1 : τ.1 (2 * k + 15) = σ.1 (2 * k + 15)) (h2 : τ.1 (2 * k + 16) = σ.1 (2 * k + 16)) (l : τ.2.1 k = σ.2.1 k) : k_kin V a k τ := by unfold k_kin; rw [h1, h2, l]; exact h
theorem k_K.fr {V : QV} {k : Nat} {σ τ : px_S} (h : k_K V k σ) (h0 : τ.1 k = σ.1 k) (h1 : τ.1 (2 * k + 15) = σ.1 (2 * k + 15)) (h2 : τ.1 (2 * k + 16) = σ.1 (2 * k + 16)) (l : τ.2.1 k = σ.2.1 k) : k_K V k τ := by
  unfold k_K k_kin; rw [h0, h1, h2, l]; exact h
theorem k_L.fr {V : QV} {σ τ : px_S} (h : k_L V σ) (h5 : τ.1 5 = σ.1 5) (h25 : τ.1 25 = σ.1 25) (h26 : τ.1 26 = σ.1 26) (h27 : τ.1 27 = σ.1 27) (h6 : τ.1 6 = σ.1 6) (l : τ.2.1 32 = σ.2.1 32) : k_L V τ := by
  unfold k_L k_grp k_row; rw [h5, h25, h26, h27, h6, l]; exact h
theorem k_C.fr {σ τ : px_S} (h : k_C σ) (h33 : τ.1 33 = σ.1 33) (l : τ.2.2 = σ.2.2) : k_C τ := by
  unfold k_C px_cc px_cs; rw [h33, l]; exact h
/-- all that is told, and nothing else, changes: the findings are forgotten -/
theorem k_0 {V : QV} {k : Nat} {τ : px_S} (h : τ.1 k 5 = 0) : k_K V k τ := Or.inl h
theorem q_M.fr {V : QV} {a : Int32} {σ τ : px_S} (h : q_Ma V a σ) (hf : k_fr σ τ) : q_Ma V a τ := by
  unfold q_Ma
  rw [hf 9 (Or.inl rfl), hf 37 (Or.inr (by decide)), hf 38 (Or.inr (by decide)), hf 39 (Or.inr (by decide)), hf 40 (Or.inr (by decide)), hf 41 (Or.inr (by decide)), hf 42 (Or.inr (by decide)), hf 43 (Or.inr (by decide)), hf 44 (Or.inr (by decide)), hf 45 (Or.inr (by decide)), hf 46 (Or.inr (by decide)), hf 56 (Or.inr (by decide)), hf 57 (Or.inr (by decide))]
  exact h
/-- the reference leaves the class's cells -/
theorem k_I.mk {V : QV} {σ τ : px_S} (h : k_I V σ) (hk : q_mk σ τ) : k_I V τ := by
  obtain ⟨h2, hc⟩ := hk.1
  have e : ∀ k, k ≠ 9 → k < 37 → τ.1 k = σ.1 k := fun k h9 h37 => hc k (fun z => by unfold q_md at z; omega)
  obtain ⟨i1, i2, i3, i4, i5, i6, i7, i8, i9, i10⟩ := h
  have l : ∀ k, τ.2.1 k = σ.2.1 k := fun k => by rw [h2]
  exact ⟨i1.fr (e 1 (by decide) (by decide)) (fun k g1 g2 => e k (by omega) (by omega)) (l 1) (l 17), i2.fr (e 10 (by decide) (by decide)), i3.fr (e 0 (by decide) (by decide)) (l 0), i4.fr (e 7 (by decide) (by decide)) (e 34 (by decide) (by decide)), i5.fr (e 8 (by decide) (by decide)) (e 35 (by decide) (by decide)), i6.fr (e 18 (by decide) (by decide)),
    i7.fr (e 3 (by decide) (by decide)) (e 21 (by decide) (by decide)) (e 22 (by decide) (by decide)) (l 3), i8.fr (e 4 (by decide) (by decide)) (e 23 (by decide) (by decide)) (e 24 (by decide) (by decide)) (l 4), i9.fr (e 5 (by decide) (by decide)) (e 25 (by decide) (by decide)) (e 26 (by decide) (by decide)) (e 27 (by decide) (by decide)) (e 6 (by decide) (by decide)) (l 32), i10.fr (e 33 (by decide) (by decide)) (by rw [h2])⟩
