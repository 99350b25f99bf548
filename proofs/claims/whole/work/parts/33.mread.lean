/-! ===== the reference reads: seen, quoted, lines, like texts ===== -/
def q_seen (V : QV) (a : Int32) (x : Nat) : Bool := (decide (v_kn V < 0) || decide (nI x < v_kn V)) && (!(v_tk V x) || decide (nI x = a))
def q_cnt (p : Nat → Bool) : Nat → Nat
  | 0 => 0
  | n + 1 => q_cnt p n + (if p n then 1 else 0)
def q_quo (V : QV) (x : Nat) : Nat := q_cnt (fun l => decide (0 < v_dp V (14 * x + l))) (v_sz V x)
theorem q_cnt_le (p : Nat → Bool) : ∀ n, q_cnt p n ≤ n
  | 0 => Nat.le_refl _
  | n + 1 => by have := q_cnt_le p n; unfold q_cnt; split <;> omega
/-- a spot that holds a line -/
def q_sp (V : QV) (a : Nat) : Prop := ∃ x l, x < v_n V ∧ l < v_sz V x ∧ a = 14 * x + l
theorem q_sp_lt {V : QV} {a : Nat} (hV : q_wf V) (h : q_sp V a) : a < 560 := by
  obtain ⟨x, l, h1, h2, rfl⟩ := h
  have := hV.1
  have := (hV.2.1 x h1).1
  omega
theorem q_ix14 (x l : Nat) : (14 : Int32) * nI x + nI l = nI (14 * x + l) := by
  rw [show (14 : Int32) = nI 14 from rfl, pk_mul, nI_add]
theorem q_ix8 (x l : Nat) : (8 : Int32) * nI x + nI l = nI (8 * x + l) := by
  rw [show (8 : Int32) = nI 8 from rfl, pk_mul, nI_add]
theorem q_ix9 (x l : Nat) : (9 : Int32) * nI x + nI l = nI (9 * x + l) := by
  rw [show (9 : Int32) = nI 9 from rfl, pk_mul, nI_add]
theorem q_ix15 (x l : Nat) : (15 : Int32) * nI x + nI l = nI (15 * x + l) := by
  rw [show (15 : Int32) = nI 15 from rfl, pk_mul, nI_add]
theorem q_ix40 (x l : Nat) : (40 : Int32) * nI x + nI l = nI (40 * x + l) := by
  rw [show (40 : Int32) = nI 40 from rfl, pk_mul, nI_add]
theorem q_Ma.sp {V : QV} {a : Int32} {σ : px_S} (hM : q_Ma V a σ) {s : Nat} (hs : q_sp V s) : σ.1 43 s = nI (v_dp V s) ∧ σ.1 44 s = nI (v_tx V s).length ∧ ∀ k, k < (v_tx V s).length → σ.1 45 (8 * s + k) = nI ((v_tx V s).getD k 0) := by
  obtain ⟨x, l, h1, h2, rfl⟩ := hs
  exact hM.2.2.1 x l h1 h2
theorem q_wf.sp {V : QV} (hV : q_wf V) {s : Nat} (hs : q_sp V s) : v_dp V s ≤ 5 ∧ q_words (v_tx V s) := by
  obtain ⟨x, l, h1, h2, rfl⟩ := hs
  exact hV.2.2.1 x l h1 h2
section QR
variable {d : Nat} {Q : Option Value → px_S → Prop} {σ : px_S} {V : QV} {a : Int32}
theorem m_isSeen {x : Nat} (hV : q_wf V) (hM : q_Ma V a σ) (hx : x < v_n V) (h : Q (some (.int (if q_seen V a x then 1 else 0))) σ) : Cw (d + 1) 143 [.ref 9, .int (nI x)] σ Q := by
  have hn := hV.1
  obtain ⟨hin, hcl⟩ := q_lt (j := x) (N := 40) (by omega) (by decide)
  have ht := (hM.2.1 x hx).2.2.2.2
  have hk := hM.2.2.2.2.1
  have ha := hM.2.2.2.2.2.1
  have no : q_seen V a x = false → Wp d tb_143 36 [.ref 9, .int (nI x)] [] σ Q := by
    intro hz
    rw [hz] at h
    exact b143_36 (b143_37 (Or.inl rfl) h)
  have yes : q_seen V a x = true → Wp d tb_143 32 [.ref 9, .int (nI x)] [] σ Q := by
    intro hz
    rw [hz] at h
    exact b143_32 (b143_37 (Or.inr rfl) h)
  have mid : (v_kn V < 0 ∨ nI x < v_kn V) → Wp d tb_143 15 [.ref 9, .int (nI x)] [] σ Q := by
    intro hz
    have hz' : (decide (v_kn V < 0) || decide (nI x < v_kn V)) = true := by simpa using hz
    refine b143_15 hin (fun g => ?_) (fun g => ?_)
    · rw [hcl, ht] at g
      have hb : v_tk V x = false := by
        cases hb : v_tk V x with
        | false => rfl
        | true => rw [hb] at g; exact absurd g (by decide)
      exact yes (by unfold q_seen; rw [hz', hb]; rfl)
    · rw [hcl, ht] at g
      have hb : v_tk V x = true := by
        cases hb : v_tk V x with
        | true => rfl
        | false => rw [hb] at g; exact absurd rfl g
      refine b143_24 (fun g2 => ?_) (fun g2 => ?_)
      · rw [ha] at g2
        exact no (by unfold q_seen; rw [hz', hb, decide_eq_false g2]; rfl)
      · rw [ha] at g2
        exact yes (by unfold q_seen; rw [hz', hb, decide_eq_true (Decidable.not_not.mp g2)]; rfl)
  refine e143 (b143_0 (fun g => ?_) (fun g => b143_7 (fun g2 => ?_) (fun g2 => ?_)))
  · rw [hk] at g
    exact mid (Or.inl g)
  · rw [hk] at g g2
    exact no (by unfold q_seen; rw [decide_eq_false g, decide_eq_false (Int32.not_lt.mpr g2)]; rfl)
  · rw [hk] at g2
    exact mid (Or.inr (Int32.not_le.mp g2))
theorem m_quoted {x : Nat} (hV : q_wf V) (hM : q_Ma V a σ) (hx : x < v_n V) (h : Q (some (.int (nI (q_quo V x)))) σ) : Cw (d + 2) 147 [.ref 9, .int (nI x)] σ Q := by
  have hn := hV.1
  have hsz := (hV.2.1 x hx).1
  obtain ⟨hin, hcl⟩ := q_lt (j := x) (N := 40) (by omega) (by decide)
  have hs := (hM.2.1 x hx).2.2.2.1
  have loop : ∀ n l, l + n = v_sz V x → Wp (d + 1) tb_147 4 [.ref 9, .int (nI x), .int (nI (q_cnt (fun l => decide (0 < v_dp V (14 * x + l))) l)), .int (nI l)] [] σ Q := by
    intro n
    induction n with
    | zero =>
      intro l hl
      have : l = v_sz V x := by omega
      subst this
      refine b147_4 hin (fun _ => b147_45 h) (fun g => absurd ?_ g)
      rw [hcl, hs]; exact Int32.le_refl _
    | succ n ih =>
      intro l hl
      have hsp : q_sp V (14 * x + l) := ⟨x, l, hx, by omega, rfl⟩
      obtain ⟨hi2, hc2⟩ := q_lt (j := 14 * x + l) (N := 560) (q_sp_lt hV hsp) (by decide)
      have hd5 := (hV.sp hsp).1
      have hdp := (hM.sp hsp).1
      refine b147_4 hin (fun g => absurd g ?_) (fun _ => ?_)
      · rw [hcl, hs]; exact nI_ge (by omega) (by omega)
      refine b147_14 (by rw [q_ix14]; exact hi2) (fun g => ?_) (fun g => ?_)
      · rw [q_ix14, hc2, hdp] at g
        have h0 : v_dp V (14 * x + l) = 0 := by
          have := (nI_leI (a := v_dp V (14 * x + l)) (b := 0) (by omega) (by decide)).mp g
          omega
        refine b147_33 (b147_34 (m_one (b147_37 ?_)))
        have e1 : nI (q_cnt (fun l => decide (0 < v_dp V (14 * x + l))) l) + (if (0 : Int32) = 0 then 0 else 1) = nI (q_cnt (fun l => decide (0 < v_dp V (14 * x + l))) (l + 1)) := by
          rw [if_pos rfl]; simp [q_cnt, h0]
        rw [e1, nI_1]
        exact ih (l + 1) (by omega)
      · rw [q_ix14, hc2, hdp] at g
        have h0 : 0 < v_dp V (14 * x + l) := by
          rcases Nat.eq_zero_or_pos (v_dp V (14 * x + l)) with z | z
          · rw [z] at g; exact absurd (Int32.le_refl _) g
          · exact z
        refine b147_29 (b147_34 (m_one (b147_37 ?_)))
        have e1 : nI (q_cnt (fun l => decide (0 < v_dp V (14 * x + l))) l) + (if (1 : Int32) = 0 then 0 else 1) = nI (q_cnt (fun l => decide (0 < v_dp V (14 * x + l))) (l + 1)) := by
          rw [if_neg (by decide)]; simp [q_cnt, h0, nI_1]
        rw [e1, nI_1]
        exact ih (l + 1) (by omega)
  exact e147 (b147_0 (loop (v_sz V x) 0 (by omega)))
/-- noLine: whether (x, l) is no line -/
theorem m_noLine {x l : Int32} (hV : q_wf V) (hM : q_Ma V a σ) (h0 : ∀ j k, j < v_n V → k < v_sz V j → x = nI j → l = nI k → Q (some (.int 0)) σ) (h1 : (∀ j k, j < v_n V → k < v_sz V j → x = nI j → ¬ l = nI k) → Q (some (.int 1)) σ) : Cw (d + 3) 140 [.ref 9, .int x, .int l] σ Q := by
  have hn := hV.1
  refine e140 (b140_0 (m_noLetter hV hM (fun j hj ej => ?_) (fun hno => ?_)))
  · subst ej
    obtain ⟨hin, hcl⟩ := q_lt (j := j) (N := 40) (by omega) (by decide)
    have hsz := (hV.2.1 j hj).1
    have hs := (hM.2.1 j hj).2.2.2.1
    refine b140_5 (fun z => absurd rfl z) (fun _ => b140_8 hin (m_inI (a' := 0) (b' := (v_sz V j : Int) - 1) (by decide) (by rw [q_i64, hcl, hs]; exact q_m1 (by omega)) (fun g1 g2 => ?_) (fun g => ?_)))
    · obtain ⟨k, hk⟩ : ∃ k : Nat, l.toInt = (k : Int) := ⟨l.toInt.toNat, by omega⟩
      exact b140_23 (fun _ => b140_30 (b140_31 (Or.inl rfl) (h0 j k hj (by omega) rfl (q_ofInt hk)))) (fun z => absurd (by decide) z)
    · refine b140_23 (fun z => absurd rfl z) (fun _ => b140_26 (b140_31 (Or.inr rfl) (h1 (fun j' k hj' hk ej el => g ?_))))
      have : j = j' := (nI_eq (by omega) (by omega)).mp ej
      subst this
      rw [el, nI_toInt (by omega)]
      omega
  · exact b140_5 (fun _ => b140_26 (b140_31 (Or.inr rfl) (h1 (fun j k hj hk ej _ => hno j hj ej)))) (fun z => absurd (by decide) z)
theorem q_list_eq {s t : List Nat} (hl : s.length = t.length) (h : ∀ k, k < s.length → s.getD k 0 = t.getD k 0) : s = t := by
  apply List.ext_getElem hl
  intro k h1 h2
  have := h k h1
  simpa [List.getD_eq_getElem?_getD, h1, h2] using this
theorem q_word_lt {t : List Nat} (ht : q_words t) (k : Nat) : t.getD k 0 ≤ 63 := by
  rw [List.getD_eq_getElem?_getD]
  cases h : t[k]? with
  | none => simp
  | some w => exact (ht.2 w (List.mem_of_getElem? h)).2
theorem m_isSame {s t : Nat} (hV : q_wf V) (hM : q_Ma V a σ) (hs : q_sp V s) (ht : q_sp V t) (h : Q (some (.int (if v_tx V s = v_tx V t then 1 else 0))) σ) : Cw (d + 1) 157 [.ref 9, .int (nI s), .int (nI t)] σ Q := by
  have ls := q_sp_lt hV hs
  have lt := q_sp_lt hV ht
  obtain ⟨i1, c1⟩ := q_lt (j := s) (N := 560) ls (by decide)
  obtain ⟨i2, c2⟩ := q_lt (j := t) (N := 560) lt (by decide)
  obtain ⟨-, m1, w1⟩ := hM.sp hs
  obtain ⟨-, m2, w2⟩ := hM.sp ht
  obtain ⟨-, v1⟩ := hV.sp hs
  obtain ⟨-, v2⟩ := hV.sp ht
  have n1 := v1.1
  have n2 := v2.1
  have fin0 : ∀ k, ¬ v_tx V s = v_tx V t → Wp d tb_157 24 [.ref 9, .int (nI s), .int (nI t), .int 0, .int k] [] σ Q := by
    intro k hne
    rw [if_neg hne] at h
    exact b157_24 i1 (fun _ => b157_78 (Or.inl rfl) h) (fun _ => b157_35 (fun _ => b157_78 (Or.inl rfl) h) (fun z => absurd rfl z))
  refine e157 (b157_0 i1 i2 (fun g => ?_) (fun g => ?_))
  · rw [c1, c2, m1, m2] at g
    exact b157_19 (b157_20 (fin0 0 (fun e => g (by rw [e]))))
  · rw [c1, c2, m1, m2] at g
    have hl : (v_tx V s).length = (v_tx V t).length := (nI_eq (by omega) (by omega)).mp (Decidable.not_not.mp g)
    have loop : ∀ n k, k + n = (v_tx V s).length → (∀ j, j < k → (v_tx V s).getD j 0 = (v_tx V t).getD j 0) → Wp d tb_157 24 [.ref 9, .int (nI s), .int (nI t), .int 1, .int (nI k)] [] σ Q := by
      intro n
      induction n with
      | zero =>
        intro k hk hall
        have e : v_tx V s = v_tx V t := q_list_eq hl (fun j hj => hall j (by omega))
        rw [if_pos e] at h
        refine b157_24 i1 (fun _ => b157_78 (Or.inr rfl) h) (fun z => absurd ?_ z)
        rw [c1, m1, show k = (v_tx V s).length by omega]; exact Int32.le_refl _
      | succ n ih =>
        intro k hk hall
        obtain ⟨i3, c3⟩ := q_lt (j := 8 * s + k) (N := 4480) (by omega) (by decide)
        obtain ⟨i4, c4⟩ := q_lt (j := 8 * t + k) (N := 4480) (by omega) (by decide)
        have b1 := q_word_lt v1 k
        have b2 := q_word_lt v2 k
        refine b157_24 i1 (fun z => absurd z ?_) (fun _ => b157_35 (fun z => absurd z (by decide)) (fun _ => b157_39 (by rw [q_ix8]; exact i3) (by rw [q_ix8]; exact i4) (fun g => ?_) (fun g => ?_)))
        · rw [c1, m1]; exact nI_ge (by omega) (by omega)
        · rw [q_ix8, q_ix8, c3, c4, w1 k (by omega), w2 k (by omega)] at g
          refine b157_70 (b157_71 (fin0 _ (fun e => g (by rw [e]))))
        · rw [q_ix8, q_ix8, c3, c4, w1 k (by omega), w2 k (by omega)] at g
          have e : (v_tx V s).getD k 0 = (v_tx V t).getD k 0 := (nI_eq (by omega) (by omega)).mp (Decidable.not_not.mp g)
          refine b157_66 (b157_71 ?_)
          rw [nI_1]
          exact ih (k + 1) (by omega) (fun j hj => by
            by_cases hjk : j = k
            · rw [hjk]; exact e
            · exact hall j (by omega))
    exact b157_15 (b157_20 (loop (v_tx V s).length 0 (by omega) (fun j hj => absurd hj (Nat.not_lt_zero _))))
end QR
