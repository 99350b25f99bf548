/-! ===== line and answer: the reference ===== -/
def vs_ln (V : QV) (x dd : Nat) (t : List Nat) : QV := (V.1, V.2.1, V.2.2.1, V.2.2.2.1, va_up (v_sz V) x (v_sz V x + 1), V.2.2.2.2.2.1, va_up (v_dp V) (14 * x + v_sz V x) dd, va_up (v_tx V) (14 * x + v_sz V x) t, V.2.2.2.2.2.2.2.2)
theorem q_spne {x l y m : Nat} (hl : l < 14) (hm : m < 14) (h : ¬ (x = y ∧ l = m)) : 14 * x + l ≠ 14 * y + m := fun e => h (by omega)
theorem q_wf.ln {V : QV} {x dd : Nat} {t : List Nat} (hV : q_wf V) (hx : x < v_n V) (hsz : v_sz V x < 14) (hd : dd ≤ 5) (ht : q_words t) : q_wf (vs_ln V x dd t) := by
  obtain ⟨h1, h2, h3, h4⟩ := hV
  refine ⟨h1, fun y hy => ?_, fun y l hy hl => ?_, h4⟩
  · obtain ⟨g1, g2⟩ := h2 y hy
    refine ⟨?_, g2⟩
    show va_up (v_sz V) x (v_sz V x + 1) y ≤ 14
    by_cases hyx : y = x
    · subst hyx; rw [va_up_self]; omega
    · rw [va_up_ne _ _ hyx]; exact g1
  · have hl : l < va_up (v_sz V) x (v_sz V x + 1) y := hl
    have hy : y < v_n V := hy
    show va_up (v_dp V) (14 * x + v_sz V x) dd (14 * y + l) ≤ 5 ∧ q_words (va_up (v_tx V) (14 * x + v_sz V x) t (14 * y + l))
    by_cases hyx : y = x
    · subst hyx
      rw [va_up_self] at hl
      by_cases hll : l = v_sz V y
      · subst hll; rw [va_up_self, va_up_self]; exact ⟨hd, ht⟩
      · rw [va_up_ne _ _ (by omega), va_up_ne _ _ (by omega)]; exact h3 y l hy (by omega)
    · rw [va_up_ne _ _ hyx] at hl
      have := (h2 y hy).1
      have hne := q_spne (x := y) (l := l) (y := x) (m := v_sz V x) (by omega) hsz (fun z => hyx z.1)
      rw [va_up_ne _ _ hne, va_up_ne _ _ hne]; exact h3 y l hy hl
theorem q_Ma.ln {V : QV} {a : Int32} {σ τ : px_S} {x dd : Nat} {t : List Nat} (h : q_Ma V a σ) (hV : q_wf V) (hx : x < v_n V) (hsz : v_sz V x < 14) (h9 : ∀ j, τ.1 9 j = σ.1 9 j) (ha : ∀ k, 37 ≤ k → k ≠ 41 → k ≠ 43 → k ≠ 44 → k ≠ 45 → τ.1 k = σ.1 k)
    (h41 : ∀ y, y < v_n V → τ.1 41 y = nI (va_up (v_sz V) x (v_sz V x + 1) y)) (hs : ∀ s, q_sp V s → τ.1 43 s = σ.1 43 s ∧ τ.1 44 s = σ.1 44 s ∧ ∀ k, k < 8 → τ.1 45 (8 * s + k) = σ.1 45 (8 * s + k))
    (hn : τ.1 43 (14 * x + v_sz V x) = nI dd ∧ τ.1 44 (14 * x + v_sz V x) = nI t.length ∧ ∀ k, k < t.length → τ.1 45 (8 * (14 * x + v_sz V x) + k) = nI (t.getD k 0)) : q_Ma (vs_ln V x dd t) a τ := by
  obtain ⟨h1, h2, h3, h4, h5, h6, h7, h8, h10, h11⟩ := h
  refine ⟨?_, fun y hy => ?_, fun y l hy hl => ?_, ?_, ?_, ?_, fun k hk => ?_, ?_, ?_, ?_⟩
  · rw [h9]; exact h1
  · rw [ha 38 (by decide) (by decide) (by decide) (by decide) (by decide), ha 39 (by decide) (by decide) (by decide) (by decide) (by decide), ha 40 (by decide) (by decide) (by decide) (by decide) (by decide), ha 42 (by decide) (by decide) (by decide) (by decide) (by decide)]
    obtain ⟨g1, g2, g3, -, g5⟩ := h2 y hy
    exact ⟨g1, g2, g3, h41 y hy, g5⟩
  · have hl : l < va_up (v_sz V) x (v_sz V x + 1) y := hl
    have hy : y < v_n V := hy
    show τ.1 43 (14 * y + l) = nI (va_up (v_dp V) (14 * x + v_sz V x) dd (14 * y + l)) ∧ τ.1 44 (14 * y + l) = nI (va_up (v_tx V) (14 * x + v_sz V x) t (14 * y + l)).length ∧ ∀ k, k < (va_up (v_tx V) (14 * x + v_sz V x) t (14 * y + l)).length → τ.1 45 (8 * (14 * y + l) + k) = nI ((va_up (v_tx V) (14 * x + v_sz V x) t (14 * y + l)).getD k 0)
    by_cases hc : y = x ∧ l = v_sz V x
    · obtain ⟨rfl, rfl⟩ := hc
      rw [va_up_self, va_up_self]; exact hn
    · have hl' : l < v_sz V y := by
        by_cases hyx : y = x
        · subst hyx; rw [va_up_self] at hl; have : l ≠ v_sz V y := fun z => hc ⟨rfl, z⟩; omega
        · rw [va_up_ne _ _ hyx] at hl; exact hl
      have := (hV.2.1 y hy).1
      have hne := q_spne (x := y) (l := l) (y := x) (m := v_sz V x) (by omega) hsz hc
      rw [va_up_ne _ _ hne, va_up_ne _ _ hne]
      obtain ⟨s1, s2, s3⟩ := hs (14 * y + l) ⟨y, l, hy, hl', rfl⟩
      obtain ⟨f1, f2, f3⟩ := h3 y l hy hl'
      have hw := (hV.2.2.1 y l hy hl').2.1
      exact ⟨by rw [s1]; exact f1, by rw [s2]; exact f2, fun k hk => by rw [s3 k (by omega)]; exact f3 k hk⟩
  · rw [h9, ha 46 (by decide) (by decide) (by decide) (by decide) (by decide)]; exact h4
  · rw [h9]; exact h5
  · rw [h9]; exact h6
  · rw [ha 37 (by decide) (by decide) (by decide) (by decide) (by decide)]; exact h7 k hk
  · rw [h9, ha 56 (by decide) (by decide) (by decide) (by decide) (by decide)]; exact h8
  · rw [h9, ha 57 (by decide) (by decide) (by decide) (by decide) (by decide)]; exact h10
  · rw [h9]; exact h11
def sp_line (V : QV) (x e : Int32) : Int32 × QV := if q_has V x then (if q_in e 0 5 then (if v_sz V x.toNatClampNeg = 14 then (-1004, V) else (nI (v_sz V x.toNatClampNeg), vs_dr (vs_ln V x.toNatClampNeg e.toInt.toNat (v_dr V)) [])) else (-1002, V)) else (-1001, V)
def q_few (V : QV) (x l : Nat) : Bool := decide (nI (v_dp V (14 * x + l)) < v_ru V 4)
def q_out (V : QV) (x : Nat) : Nat := q_cnt (q_few V x) (v_sz V x) - (v_ru V 3).toNatClampNeg
def q_qt (V : QV) (x y : Nat) : Nat → Nat × QV
  | 0 => (q_out V x, V)
  | l + 1 => if q_few V x l then (if 0 < (q_qt V x y l).1 then ((q_qt V x y l).1 - 1, (q_qt V x y l).2) else (0, vs_ln (q_qt V x y l).2 y (v_dp V (14 * x + l) + 1) (v_tx V (14 * x + l)))) else q_qt V x y l
def sp_answer (V : QV) (x w e : Int32) : Int32 × QV := if q_has V x then (if (sp_letter V w e x).1 < 0 then sp_letter V w e x else ((sp_letter V w e x).1, (q_qt (sp_letter V w e x).2 x.toNatClampNeg (v_n V) (v_sz V x.toNatClampNeg)).2)) else (-1001, V)
/-- what answer's copying leaves -/
def q_qtI (V : QV) (x y l : Nat) (W : QV) : Prop := q_wf W ∧ W.1 = V.1 ∧ v_ru W = v_ru V ∧ (∀ z, z ≠ y → v_sz W z = v_sz V z) ∧ (∀ z k, z ≠ y → k < 14 → v_dp W (14 * z + k) = v_dp V (14 * z + k) ∧ v_tx W (14 * z + k) = v_tx V (14 * z + k)) ∧ v_sz W y ≤ l
theorem q_few_lt {V : QV} (hV : q_wf V) {x l : Nat} (hd : v_dp V (14 * x + l) ≤ 5) (h : q_few V x l = true) : v_dp V (14 * x + l) + 1 ≤ 5 := by
  unfold q_few at h
  have h := of_decide_eq_true h
  obtain ⟨c, hc, ec⟩ := hV.2.2.2.2.2.1.2.2.2.2
  rw [ec, nI_ltI (by omega) (by omega)] at h
  omega
theorem q_qt_ok {V : QV} {x y : Nat} (hV : q_wf V) (hx : x < v_n V) (hy : y < v_n V) (hxy : x ≠ y) (h0 : v_sz V y = 0) : ∀ l, l ≤ v_sz V x → q_qtI V x y l (q_qt V x y l).2
  | 0, _ => ⟨hV, rfl, rfl, fun _ _ => rfl, fun _ _ _ _ => ⟨rfl, rfl⟩, by show v_sz V y ≤ 0; omega⟩
  | l + 1, hl => by
    have ih := q_qt_ok hV hx hy hxy h0 l (by omega)
    have hsz := (hV.2.1 x hx).1
    obtain ⟨i1, i2, i3, i4, i5, i6⟩ := ih
    have keep : q_qtI V x y (l + 1) (q_qt V x y l).2 := ⟨i1, i2, i3, i4, i5, by omega⟩
    unfold q_qt
    split
    · rename_i hf
      split
      · exact keep
      · obtain ⟨d5, hw⟩ := hV.2.2.1 x l hx (by omega)
        have hyn : y < v_n (q_qt V x y l).2 := by show y < (q_qt V x y l).2.1; rw [i2]; exact hy
        refine ⟨i1.ln hyn (by omega) (q_few_lt hV d5 hf) hw, i2, i3, fun z hz => ?_, fun z k hz hk => ?_, ?_⟩
        · show va_up (v_sz (q_qt V x y l).2) y _ z = _
          rw [va_up_ne _ _ hz]; exact i4 z hz
        · have hne := q_spne (x := z) (l := k) (y := y) (m := v_sz (q_qt V x y l).2 y) hk (by omega) (fun e => hz e.1)
          show va_up (v_dp (q_qt V x y l).2) _ _ (14 * z + k) = _ ∧ va_up (v_tx (q_qt V x y l).2) _ _ (14 * z + k) = _
          rw [va_up_ne _ _ hne, va_up_ne _ _ hne]; exact i5 z k hz hk
        · show va_up (v_sz (q_qt V x y l).2) y _ y ≤ _
          rw [va_up_self]; omega
    · exact keep
section QLN
variable {d : Nat} {Q : Option Value → px_S → Prop} {σ : px_S} {V : QV}
theorem m_line {x e : Int32} (hV : q_wf V) (hM : q_M V σ) (h : ∀ τ, q_M (sp_line V x e).2 τ → q_eqx q_mc σ τ → Q (some (.int (sp_line V x e).1)) τ) : Cw (d + 3) 133 [.ref 9, .int x, .int e] σ Q := by
  have hn := hV.1
  have hdl := hV.2.2.2.1.1
  refine e133 (b133_0 (m_noLetter hV hM (fun j hj ej => ?_) (fun hno => ?_)))
  · subst ej
    have hh : q_has V (nI j) := q_has_nI hn hj
    obtain ⟨ij, cj⟩ := q_lt (j := j) (N := 40) (by omega) (by decide)
    have hsz := (hV.2.1 j hj).1
    have es := (hM.2.1 j hj).2.2.2.1
    refine b133_5 (fun _ => b133_12 (m_inI (a' := 0) (b' := 5) (by decide) (by decide) (fun g1 g2 => ?_) (fun g => ?_))) (fun z => absurd rfl z)
    · have hin : q_in e 0 5 := ⟨g1, g2⟩
      refine b133_21 (fun _ => ?_) (fun z => absurd (by decide) z)
      by_cases h14 : v_sz V j = 14
      · have es2 : sp_line V (nI j) e = (-1004, V) := by unfold sp_line; rw [if_pos hh, if_pos hin, cj, if_pos h14]
        rw [es2] at h
        exact b133_28 ij (fun z => absurd (by rw [cj, es, h14]; rfl) z) (fun _ => b133_39 (h σ hM q_eqx.rf))
      · have es2 : sp_line V (nI j) e = (nI (v_sz V j), vs_dr (vs_ln V j e.toInt.toNat (v_dr V)) []) := by unfold sp_line; rw [if_pos hh, if_pos hin, cj, if_neg h14]
        rw [es2] at h
        have hlt : v_sz V j < 14 := by omega
        obtain ⟨is, cs⟩ := q_lt (j := 14 * j + v_sz V j) (N := 560) (by omega) (by decide)
        refine b133_28 ij (fun _ => b133_43 ij (by rw [cj, es, q_ix14]; exact is) ?_) (fun z => absurd (fun g => h14 ((nI_eq (by omega) (by decide)).mp (by rw [cj, es] at g; exact g))) z)
        rw [cj, es, q_ix14, cs]
        refine b133_62 is ?_
        rw [cs, q_uc (by decide), hM.2.2.2.1.1]
        refine b133_72 ?_
        have loop : ∀ m k (τ : px_S), k + m = (v_dr V).length → τ.2 = σ.2 → (∀ c, c ≠ 45 → τ.1 c = (px_uI (px_uI σ 43 (14 * j + v_sz V j) e) 44 (14 * j + v_sz V j) (nI (v_dr V).length)).1 c) → (∀ i, i < k → τ.1 45 (8 * (14 * j + v_sz V j) + i) = nI ((v_dr V).getD i 0)) → (∀ i, ¬ (8 * (14 * j + v_sz V j) ≤ i ∧ i < 8 * (14 * j + v_sz V j) + 8) → τ.1 45 i = σ.1 45 i) → Wp (d + 2) tb_133 75 [.ref 9, .int (nI j), .int e, .int (nI (14 * j + v_sz V j)), .int (nI k)] [] τ Q := by
          intro m
          induction m with
          | zero =>
            intro k τ hk h2 hc h45 hot
            have e10 : τ.1 9 10 = nI (v_dr V).length := by rw [hc 9 (by decide), q_uc (by decide), q_uc (by decide)]; exact hM.2.2.2.1.1
            have e41 : (px_uI τ 9 10 0).1 41 j = nI (v_sz V j) := by rw [q_uc (by decide), hc 41 (by decide), q_uc (by decide), q_uc (by decide)]; exact es
            refine b133_75 (fun _ => b133_109 (b133_114 ij ij (b133_124 ij ?_))) (fun g => absurd (by rw [e10, show k = (v_dr V).length by omega]; exact Int32.le_refl _) g)
            rw [cj, e41, nI_1]
            have er : (px_uI (px_uI τ 9 10 0) 41 j (nI (v_sz V j + 1))).1 41 j = nI (v_sz V j + 1) := by rw [q_u, if_pos ⟨rfl, rfl⟩]
            rw [er, nI_pred]
            refine h _ ?_ ⟨h2, fun c hcm => ?_⟩
            · have key : q_M (vs_ln V j e.toInt.toNat (v_dr V)) (px_uI (px_uI (px_uI τ 9 10 0) 41 j (nI (v_sz V j + 1))) 9 10 (nI (v_dr V).length)) := by
                refine hM.ln hV hj hlt (fun i => ?_) (fun c c1 c2 c3 c4 c5 => ?_) (fun y hy => ?_) (fun s hs => ?_) ⟨?_, ?_, fun i hi => ?_⟩
                · by_cases hi : i = 10
                  · subst hi; rw [q_u9]; exact hM.2.2.2.1.1.symm
                  · rw [q_u9n hi, q_uc (by decide), q_u9n hi, hc 9 (by decide), q_uc (by decide), q_uc (by decide)]
                · rw [q_uc (by omega), q_uc c2, q_uc (by omega), hc c c5, q_uc c4, q_uc c3]
                · rw [q_uc (by decide), q_u]
                  by_cases hyj : y = j
                  · subst hyj; rw [if_pos ⟨rfl, rfl⟩, va_up_self]
                  · rw [if_neg (fun z => hyj z.2), va_up_ne _ _ hyj, q_uc (by decide), hc 41 (by decide), q_uc (by decide), q_uc (by decide)]; exact (hM.2.1 y hy).2.2.2.1
                · have hne : s ≠ 14 * j + v_sz V j := by
                    obtain ⟨y, l, hy, hl, rfl⟩ := hs
                    have := (hV.2.1 y hy).1
                    exact q_spne (by omega) hlt (fun z => by obtain ⟨rfl, rfl⟩ := z; omega)
                  refine ⟨?_, ?_, fun k hk => ?_⟩
                  · rw [q_uc (by decide), q_uc (by decide), q_uc (by decide), hc 43 (by decide), q_uc (by decide), q_u, if_neg (fun z => hne z.2)]
                  · rw [q_uc (by decide), q_uc (by decide), q_uc (by decide), hc 44 (by decide), q_u, if_neg (fun z => hne z.2), q_uc (by decide)]
                  · rw [q_uc (by decide), q_uc (by decide), q_uc (by decide)]; exact hot _ (by omega)
                · rw [q_uc (by decide), q_uc (by decide), q_uc (by decide), hc 43 (by decide), q_uc (by decide), q_u, if_pos ⟨rfl, rfl⟩]; exact q_nat hin (by decide)
                · rw [q_uc (by decide), q_uc (by decide), q_uc (by decide), hc 44 (by decide), q_u, if_pos ⟨rfl, rfl⟩]
                · rw [q_uc (by decide), q_uc (by decide), q_uc (by decide)]; exact h45 i (by omega)
              refine key.dr (fun c hc1 hc2 => ?_) (fun i hi => ?_) ⟨?_, fun i hi => absurd hi (Nat.not_lt_zero _)⟩
              · exact (q_uc (by omega)).symm
              · exact (q_u9n hi).symm
              · rw [q_uc (by decide), q_u9]; rfl
            · have h1 : c ≠ 9 := fun z => hcm (Or.inl z)
              have h2 : ¬ (37 ≤ c ∧ c ≠ 49) := fun z => hcm (Or.inr z)
              rw [q_uc (by omega), q_uc h1, hc c (by omega), q_uc (by omega), q_uc (by omega)]
          | succ m ih =>
            intro k τ hk h2 hc h45 hot
            have e10 : τ.1 9 10 = nI (v_dr V).length := by rw [hc 9 (by decide), q_uc (by decide), q_uc (by decide)]; exact hM.2.2.2.1.1
            obtain ⟨i8, c8⟩ := q_lt (j := k) (N := 8) (by omega) (by decide)
            obtain ⟨i9, c9⟩ := q_lt (j := 8 * (14 * j + v_sz V j) + k) (N := 4480) (by omega) (by decide)
            refine b133_75 (fun g => absurd g (by rw [e10]; exact nI_ge (by omega) (by omega))) (fun _ => b133_84 i8 (by rw [q_ix8]; exact i9) (b133_103 ?_))
            rw [q_ix8, c9, c8, nI_1]
            have e46 : τ.1 46 k = nI ((v_dr V).getD k 0) := by rw [hc 46 (by decide), q_uc (by decide), q_uc (by decide)]; exact hM.2.2.2.1.2 k (by omega)
            rw [e46]
            refine ih (k + 1) _ (by omega) h2 (fun c hcc => ?_) (fun i hi => ?_) (fun i hi => ?_)
            · rw [q_uc hcc]; exact hc c hcc
            · rw [q_u]
              by_cases hik : i = k
              · subst hik; rw [if_pos ⟨rfl, rfl⟩]
              · rw [if_neg (fun z => hik (by have := z.2; omega))]; exact h45 i (by omega)
            · rw [q_u, if_neg (fun z => hi (by have := z.2; omega))]; exact hot i hi
        exact loop (v_dr V).length 0 _ (by omega) rfl (fun c _ => rfl) (fun i hi => absurd hi (Nat.not_lt_zero _)) (fun i _ => by rw [q_uc (by decide), q_uc (by decide)])
    · have es2 : sp_line V (nI j) e = (-1002, V) := by unfold sp_line; rw [if_pos hh, if_neg g]
      rw [es2] at h
      exact b133_21 (fun z => absurd rfl z) (fun _ => b133_24 (h σ hM q_eqx.rf))
  · have hh : ¬ q_has V x := fun z => by obtain ⟨j, h1, h2⟩ := q_has_of z; exact hno j h1 h2
    have es2 : sp_line V x e = (-1001, V) := by unfold sp_line; rw [if_neg hh]
    rw [es2] at h
    exact b133_5 (fun z => absurd z (by decide)) (fun _ => b133_8 (h σ hM q_eqx.rf))
/-- answer, behind the new letter: the lines of j copied into y -/
theorem m_quote {x2 x3 : Int32} {j y : Nat} (hV : q_wf V) (hM : q_M V σ) (hj : j < v_n V) (hy : y < v_n V) (hjy : j ≠ y) (h0 : v_sz V y = 0) (h : ∀ τ, q_M (q_qt V j y (v_sz V j)).2 τ → q_eqx q_mc σ τ → Q (some (.int (nI y))) τ) : Wp (d + 3) tb_134 29 [.ref 9, .int (nI j), .int x2, .int x3, .int (nI y), .null, .null, .null, .null, .null, .null] [] σ Q := by
  have hn := hV.1
  have hsz := (hV.2.1 j hj).1
  obtain ⟨ij, cj⟩ := q_lt (j := j) (N := 40) (by omega) (by decide)
  obtain ⟨iy, cy⟩ := q_lt (j := y) (N := 40) (by omega) (by decide)
  have es := (hM.2.1 j hj).2.2.2.1
  have i5 : vp_in (4 : Int32) 5 := by unfold vp_in; decide
  have i3 : vp_in (3 : Int32) 5 := by unfold vp_in; decide
  obtain ⟨ke, hke, eke⟩ := hV.2.2.2.2.2.1.2.2.2.1
  obtain ⟨de, hde, ede⟩ := hV.2.2.2.2.2.1.2.2.2.2
  have copy : ∀ m l (τ : px_S) (z : Int32) (v8 v9 v10 : Value), l + m = v_sz V j → q_M (q_qt V j y l).2 τ → q_eqx q_mc σ τ → Wp (d + 3) tb_134 115 [.ref 9, .int (nI j), .int x2, .int x3, .int (nI y), .int z, .int (nI (q_qt V j y l).1), .int (nI l), v8, v9, v10] [] τ Q := by
    intro m
    induction m with
    | zero =>
      intro l τ z v8 v9 v10 hl hMt he
      obtain ⟨f1, f2, f3, f4, f5, f6⟩ := q_qt_ok hV hj hy hjy h0 l (by omega)
      have e : l = v_sz V j := by omega
      subst e
      refine b134_115 ij (fun _ => b134_266 (h τ hMt he)) (fun g => absurd ?_ g)
      rw [cj, (hMt.2.1 j (by show j < (q_qt V j y (v_sz V j)).2.1; rw [f2]; exact hj)).2.2.2.1, f4 j hjy]; exact Int32.le_refl _
    | succ m ih =>
      intro l τ z v8 v9 v10 hl hMt he
      obtain ⟨f1, f2, f3, f4, f5, f6⟩ := q_qt_ok hV hj hy hjy h0 l (by omega)
      have hjn : j < v_n (q_qt V j y l).2 := by show j < (q_qt V j y l).2.1; rw [f2]; exact hj
      have hyn : y < v_n (q_qt V j y l).2 := by show y < (q_qt V j y l).2.1; rw [f2]; exact hy
      have hsp : q_sp (q_qt V j y l).2 (14 * j + l) := ⟨j, l, hjn, by rw [f4 j hjy]; omega, rfl⟩
      obtain ⟨g1, g2, g3⟩ := hMt.sp hsp
      obtain ⟨t1, t2⟩ := f5 j l hjy (by omega)
      rw [t1] at g1
      rw [t2] at g2 g3
      obtain ⟨d5, hw⟩ := hV.2.2.1 j l hj (by omega)
      obtain ⟨is, cs⟩ := q_lt (j := 14 * j + l) (N := 560) (by omega) (by decide)
      have er : τ.1 37 (4 : Int32).toNatClampNeg = v_ru V 4 := by have := hMt.2.2.2.2.2.2.1 4 (by decide); rw [f3] at this; exact this
      refine b134_115 ij (fun g => absurd g ?_) (fun _ => b134_126 (by rw [q_ix14]; exact is) i5 (fun g => ?_) (fun g => ?_))
      · rw [cj, (hMt.2.1 j hjn).2.2.2.1, f4 j hjy]; exact nI_ge (by omega) (by omega)
      · rw [q_ix14, cs, g1, er] at g
        have hf : q_few V j l = false := by unfold q_few; exact decide_eq_false (Int32.not_lt.mpr g)
        have eq : q_qt V j y (l + 1) = q_qt V j y l := by rw [q_qt, hf]; rfl
        refine b134_260 ?_
        have e2 := ih (l + 1) τ z (.int (nI (14 * j + l))) v9 v10 (by omega) (by rw [eq]; exact hMt) he
        rw [eq] at e2
        rw [nI_1, q_ix14]
        exact e2
      · rw [q_ix14, cs, g1, er] at g
        have hf : q_few V j l = true := by unfold q_few; exact decide_eq_true (Int32.not_le.mp g)
        have hle : (q_qt V j y l).1 ≤ 14 := by
          have h1 : ∀ i, (q_qt V j y i).1 ≤ q_out V j := by
            intro i
            induction i with
            | zero => exact Nat.le_refl _
            | succ i ih =>
              rw [q_qt]
              split
              · split
                · exact Nat.le_trans (Nat.sub_le _ _) ih
                · exact Nat.zero_le _
              · exact ih
          have h2 := h1 l
          have h3 := q_cnt_le (q_few V j) (v_sz V j)
          unfold q_out at h2
          omega
        refine b134_151 (fun g4 => ?_) (fun g4 => ?_)
        · have hz : (q_qt V j y l).1 = 0 := by
            rcases Nat.eq_zero_or_pos (q_qt V j y l).1 with e | e
            · exact e
            · exact absurd g4 (nI_nle e (by omega))
          have eq : q_qt V j y (l + 1) = (0, vs_ln (q_qt V j y l).2 y (v_dp V (14 * j + l) + 1) (v_tx V (14 * j + l))) := by
            rw [q_qt, hf, if_pos rfl, if_neg (by omega)]
          have hlt : v_sz (q_qt V j y l).2 y < 14 := by omega
          have ey := (hMt.2.1 y hyn).2.2.2.1
          obtain ⟨it, ct⟩ := q_lt (j := 14 * y + v_sz (q_qt V j y l).2 y) (N := 560) (by omega) (by decide)
          have hne : 14 * j + l ≠ 14 * y + v_sz (q_qt V j y l).2 y := q_spne (by omega) hlt (fun z => hjy z.1)
          refine b134_162 iy (by rw [q_ix14]; exact is) (by rw [cy, ey, q_ix14]; exact it) ?_
          rw [cy, ey, q_ix14, q_ix14, ct, cs, g1, nI_1]
          refine b134_193 is it ?_
          rw [cs, ct, q_uc (by decide), g2]
          refine b134_207 ?_
          have cpy : ∀ m k (τ' : px_S), k + m = 8 → τ'.2 = τ.2 → (∀ c, c ≠ 45 → τ'.1 c = (px_uI (px_uI τ 43 (14 * y + v_sz (q_qt V j y l).2 y) (nI (v_dp V (14 * j + l) + 1))) 44 (14 * y + v_sz (q_qt V j y l).2 y) (nI (v_tx V (14 * j + l)).length)).1 c) → (∀ i, i < k → τ'.1 45 (8 * (14 * y + v_sz (q_qt V j y l).2 y) + i) = τ.1 45 (8 * (14 * j + l) + i)) → (∀ i, ¬ (8 * (14 * y + v_sz (q_qt V j y l).2 y) ≤ i ∧ i < 8 * (14 * y + v_sz (q_qt V j y l).2 y) + 8) → τ'.1 45 i = τ.1 45 i) → Wp (d + 3) tb_134 210 [.ref 9, .int (nI j), .int x2, .int x3, .int (nI y), .int z, .int (nI (q_qt V j y l).1), .int (nI l), .int (nI (14 * j + l)), .int (nI (14 * y + v_sz (q_qt V j y l).2 y)), .int (nI k)] [] τ' Q := by
            intro m
            induction m with
            | zero =>
              intro k τ' hk h2 hc h45 hot
              have e41 : τ'.1 41 y = nI (v_sz (q_qt V j y l).2 y) := by rw [hc 41 (by decide), q_uc (by decide), q_uc (by decide)]; exact ey
              refine b134_210 (fun _ => b134_249 iy iy (b134_260 ?_)) (fun g => absurd (by rw [show k = 8 by omega]; decide) g)
              rw [cy, e41, nI_1, nI_1]
              have e2 := ih (l + 1) (px_uI τ' 41 y (nI (v_sz (q_qt V j y l).2 y + 1))) z (.int (nI (14 * j + l))) (.int (nI (14 * y + v_sz (q_qt V j y l).2 y))) (.int (nI k)) (by omega) ?_ ?_
              · rw [eq] at e2
                rw [hz]
                exact e2
              · rw [eq]
                refine hMt.ln f1 hyn hlt (fun i => ?_) (fun c c1 c2 c3 c4 c5 => ?_) (fun u hu => ?_) (fun s hs => ?_) ⟨?_, ?_, fun i hi => ?_⟩
                · rw [q_uc (by decide), hc 9 (by decide), q_uc (by decide), q_uc (by decide)]
                · rw [q_uc c2, hc c c5, q_uc c4, q_uc c3]
                · rw [q_u]
                  by_cases huy : u = y
                  · subst huy; rw [if_pos ⟨rfl, rfl⟩, va_up_self]
                  · rw [if_neg (fun z => huy z.2), va_up_ne _ _ huy, hc 41 (by decide), q_uc (by decide), q_uc (by decide)]; exact (hMt.2.1 u hu).2.2.2.1
                · have hne2 : s ≠ 14 * y + v_sz (q_qt V j y l).2 y := by
                    obtain ⟨u, i, hu, hi, rfl⟩ := hs
                    have := (f1.2.1 u hu).1
                    exact q_spne (by omega) hlt (fun z => by obtain ⟨rfl, rfl⟩ := z; omega)
                  refine ⟨?_, ?_, fun k hk => ?_⟩
                  · rw [q_uc (by decide), hc 43 (by decide), q_uc (by decide), q_u, if_neg (fun z => hne2 z.2)]
                  · rw [q_uc (by decide), hc 44 (by decide), q_u, if_neg (fun z => hne2 z.2), q_uc (by decide)]
                  · rw [q_uc (by decide)]; exact hot _ (by omega)
                · rw [q_uc (by decide), hc 43 (by decide), q_uc (by decide), q_u, if_pos ⟨rfl, rfl⟩]
                · rw [q_uc (by decide), hc 44 (by decide), q_u, if_pos ⟨rfl, rfl⟩]
                · have := hw.1
                  rw [q_uc (by decide), h45 i (by omega)]; exact g3 i hi
              · refine ⟨h2.trans he.1, fun c hcm => ?_⟩
                have h1 : c ≠ 9 := fun z => hcm (Or.inl z)
                have h3 : ¬ (37 ≤ c ∧ c ≠ 49) := fun z => hcm (Or.inr z)
                rw [q_uc (by omega), hc c (by omega), q_uc (by omega), q_uc (by omega)]; exact he.2 c hcm
            | succ m ih2 =>
              intro k τ' hk h2 hc h45 hot
              obtain ⟨i8, c8⟩ := q_lt (j := 8 * (14 * j + l) + k) (N := 4480) (by omega) (by decide)
              obtain ⟨i9, c9⟩ := q_lt (j := 8 * (14 * y + v_sz (q_qt V j y l).2 y) + k) (N := 4480) (by omega) (by decide)
              refine b134_210 (fun g => absurd g (nI_ge (a := k) (b := 8) (by omega) (by decide))) (fun _ => b134_217 (by rw [q_ix8]; exact i8) (by rw [q_ix8]; exact i9) (b134_243 ?_))
              rw [q_ix8, q_ix8, c9, c8, nI_1]
              refine ih2 (k + 1) _ (by omega) h2 (fun c hcc => ?_) (fun i hi => ?_) (fun i hi => ?_)
              · rw [q_uc hcc]; exact hc c hcc
              · rw [q_u]
                by_cases hik : i = k
                · subst hik; rw [if_pos ⟨rfl, rfl⟩]; exact hot _ (by omega)
                · rw [if_neg (fun z => hik (by have := z.2; omega))]; exact h45 i (by omega)
              · rw [q_u, if_neg (fun z => hi (by have := z.2; omega))]; exact hot i hi
          exact cpy 8 0 _ (by omega) rfl (fun c _ => rfl) (fun i hi => absurd hi (Nat.not_lt_zero _)) (fun i _ => by rw [q_uc (by decide), q_uc (by decide)])
        · have hz : 0 < (q_qt V j y l).1 := by
            rcases Nat.eq_zero_or_pos (q_qt V j y l).1 with e | e
            · rw [e] at g4; exact absurd (by decide) g4
            · exact e
          have eq : q_qt V j y (l + 1) = ((q_qt V j y l).1 - 1, (q_qt V j y l).2) := by
            rw [q_qt, hf, if_pos rfl, if_pos hz]
          refine b134_156 (b134_260 ?_)
          have e2 := ih (l + 1) τ z (.int (nI (14 * j + l))) v9 v10 (by omega) (by rw [eq]; exact hMt) he
          rw [eq] at e2
          obtain ⟨c, hc⟩ : ∃ c, (q_qt V j y l).1 = c + 1 := ⟨(q_qt V j y l).1 - 1, by omega⟩
          rw [hc] at e2 ⊢
          rw [nI_1, q_ix14, pk_m1]
          exact e2
  have cnt : ∀ m l, l + m = v_sz V j → Wp (d + 3) tb_134 35 [.ref 9, .int (nI j), .int x2, .int x3, .int (nI y), .int (nI (q_cnt (q_few V j) l)), .int (nI l), .null, .null, .null, .null] [] σ Q := by
    intro m
    induction m with
    | zero =>
      intro l hl
      have e : l = v_sz V j := by omega
      subst e
      have er : σ.1 37 (3 : Int32).toNatClampNeg = v_ru V 3 := hM.2.2.2.2.2.2.1 3 (by decide)
      have hc := q_cnt_le (q_few V j) (v_sz V j)
      have eo : q_out V j = q_cnt (q_few V j) (v_sz V j) - ke := by unfold q_out; rw [eke, nI_clamp (by omega)]
      refine b134_35 ij (fun _ => b134_86 i3 (fun g => ?_) (fun g => ?_)) (fun g => absurd (by rw [cj, es]; exact Int32.le_refl _) g)
      · rw [er, eke, nI_leI (by omega) (by omega)] at g
        refine b134_109 (b134_110 ?_)
        have e2 := copy (v_sz V j) 0 σ (nI (q_cnt (q_few V j) (v_sz V j))) .null .null .null (by omega) hM q_eqx.rf
        have e3 : (q_qt V j y 0).1 = 0 := by show q_out V j = 0; omega
        rw [e3] at e2
        exact e2
      · rw [er, eke, nI_leI (by omega) (by omega)] at g
        refine b134_97 i3 (b134_110 ?_)
        rw [er, eke, pk_sub (by omega)]
        have e2 := copy (v_sz V j) 0 σ (nI (q_cnt (q_few V j) (v_sz V j))) .null .null .null (by omega) hM q_eqx.rf
        have e3 : (q_qt V j y 0).1 = q_cnt (q_few V j) (v_sz V j) - ke := eo
        rw [e3] at e2
        exact e2
    | succ m ih =>
      intro l hl
      have hsp : q_sp V (14 * j + l) := ⟨j, l, hj, by omega, rfl⟩
      obtain ⟨g1, g2, g3⟩ := hM.sp hsp
      obtain ⟨is, cs⟩ := q_lt (j := 14 * j + l) (N := 560) (by omega) (by decide)
      have er : σ.1 37 (4 : Int32).toNatClampNeg = v_ru V 4 := hM.2.2.2.2.2.2.1 4 (by decide)
      refine b134_35 ij (fun g => absurd g (by rw [cj, es]; exact nI_ge (by omega) (by omega))) (fun _ => b134_46 (by rw [q_ix14]; exact is) i5 (fun g => ?_) (fun g => ?_))
      · rw [q_ix14, cs, g1, er] at g
        have hf : q_few V j l = false := by unfold q_few; exact decide_eq_false (Int32.not_lt.mpr g)
        refine b134_73 (b134_74 (m_one (b134_77 ?_)))
        have e1 : nI (q_cnt (q_few V j) l) + (if (0 : Int32) = 0 then 0 else 1) = nI (q_cnt (q_few V j) (l + 1)) := by rw [if_pos rfl]; simp [q_cnt, hf]
        rw [e1, nI_1]
        exact ih (l + 1) (by omega)
      · rw [q_ix14, cs, g1, er] at g
        have hf : q_few V j l = true := by unfold q_few; exact decide_eq_true (Int32.not_le.mp g)
        refine b134_69 (b134_74 (m_one (b134_77 ?_)))
        have e1 : nI (q_cnt (q_few V j) l) + (if (1 : Int32) = 0 then 0 else 1) = nI (q_cnt (q_few V j) (l + 1)) := by rw [if_neg (by decide)]; simp [q_cnt, hf, nI_1]
        rw [e1, nI_1]
        exact ih (l + 1) (by omega)
  exact b134_29 (cnt (v_sz V j) 0 (by omega))
theorem q_wf.lets {w e n : Int32} (hV : q_wf V) (h40 : v_n V < 40) (hw : q_in w 0 9) (he : q_in e (-1) 9999) (hn : n = -1 ∨ q_has V n) : q_wf (vs_let V w e n) := by
  obtain ⟨h1, h2, h3, h4⟩ := hV
  have un : ∀ (f : Nat → Int32) (k x : Nat) (v : Int32), x ≠ k → upd f k v x = f x := fun f k x v hxk => if_neg hxk
  refine ⟨by show v_n V + 1 ≤ 40; omega, fun x hx => ?_, fun x l hx hl => ?_, h4.1, ?_, h4.2.2⟩
  · have hx : x < v_n V + 1 := hx
    show va_up (v_sz V) (v_n V) 0 x ≤ 14 ∧ (∃ w', w' ≤ 9 ∧ upd (v_wr V) (v_n V) w x = nI w') ∧ (upd (v_dy V) (v_n V) e x = -1 ∨ ∃ e', e' ≤ 9999 ∧ upd (v_dy V) (v_n V) e x = nI e') ∧ (upd (v_nm V) (v_n V) n x = -1 ∨ ∃ y, y < x ∧ upd (v_nm V) (v_n V) n x = nI y)
    by_cases hxn : x = v_n V
    · subst hxn
      have us : ∀ (f : Nat → Int32) (v : Int32), upd f (v_n V) v (v_n V) = v := fun f v => if_pos rfl
      rw [va_up_self, us, us, us]
      refine ⟨by omega, ⟨w.toInt.toNat, by have := hw.2; have := hw.1; omega, q_nat hw (by decide)⟩, ?_, ?_⟩
      · by_cases hz : e.toInt = -1
        · exact Or.inl (Int32.toInt_inj.mp hz)
        · have h1 := he.1; have h2 := he.2
          exact Or.inr ⟨e.toInt.toNat, by omega, q_ofInt (by omega)⟩
      · rcases hn with hn | hn
        · exact Or.inl hn
        · obtain ⟨k0, hk, ek⟩ := q_has_of hn
          exact Or.inr ⟨k0, hk, ek⟩
    · rw [va_up_ne _ _ hxn, un _ _ _ _ hxn, un _ _ _ _ hxn, un _ _ _ _ hxn]; exact h2 x (by omega)
  · have hx : x < v_n V + 1 := hx
    have hl : l < va_up (v_sz V) (v_n V) 0 x := hl
    by_cases hxn : x = v_n V
    · subst hxn; rw [va_up_self] at hl; omega
    · rw [va_up_ne _ _ hxn] at hl; exact h3 x l (by omega) hl
  · rcases h4.2.1 with h | ⟨k0, hk, ek⟩
    · exact Or.inl h
    · exact Or.inr ⟨k0, by show k0 ≤ v_n V + 1; omega, ek⟩
theorem m_answer {x w e : Int32} (hV : q_wf V) (hM : q_M V σ) (h : ∀ τ, q_M (sp_answer V x w e).2 τ → q_eqx q_mc σ τ → Q (some (.int (sp_answer V x w e).1)) τ) : Cw (d + 4) 134 [.ref 9, .int x, .int w, .int e] σ Q := by
  have hn := hV.1
  refine e134 (b134_0 (m_noLetter hV hM (fun j hj ej => ?_) (fun hno => ?_)))
  · subst ej
    have hh : q_has V (nI j) := q_has_nI hn hj
    have cj : (nI j).toNatClampNeg = j := nI_clamp (by omega)
    refine b134_5 (fun _ => b134_12 (m_letter hV hM (fun τ hMt he => ?_))) (fun z => absurd rfl z)
    by_cases hneg : (sp_letter V w e (nI j)).1 < 0
    · have es : sp_answer V (nI j) w e = sp_letter V w e (nI j) := by unfold sp_answer; rw [if_pos hh, if_pos hneg]
      rw [es] at h
      exact b134_19 (fun g => absurd g (Int32.not_le.mpr hneg)) (fun _ => b134_26 (h τ hMt he))
    · have es : sp_answer V (nI j) w e = ((sp_letter V w e (nI j)).1, (q_qt (sp_letter V w e (nI j)).2 j (v_n V) (v_sz V j)).2) := by unfold sp_answer; rw [if_pos hh, if_neg hneg, cj]
      rw [es] at h
      have hc : q_in w 0 9 ∧ q_in e (-1) 9999 := by
        apply Decidable.byContradiction
        intro hb
        apply hneg
        unfold sp_letter; rw [if_pos (Or.inr hh), if_neg hb]; exact (by decide : (-1002 : Int32) < 0)
      have h40 : ¬ v_n V = 40 := by
        intro hb
        apply hneg
        unfold sp_letter; rw [if_pos (Or.inr hh), if_pos hc, if_pos hb]; exact (by decide : (-1004 : Int32) < 0)
      have el : sp_letter V w e (nI j) = (nI (v_n V), vs_let V w e (nI j)) := by unfold sp_letter; rw [if_pos (Or.inr hh), if_pos hc, if_neg h40]
      rw [el] at h hMt ⊢
      have hV1 : q_wf (vs_let V w e (nI j)) := hV.lets (by omega) hc.1 hc.2 (Or.inr hh)
      have hjn : j ≠ v_n V := by omega
      have ez : v_sz (vs_let V w e (nI j)) j = v_sz V j := va_up_ne _ _ hjn
      refine b134_19 (fun _ => m_quote hV1 hMt (by show j < v_n V + 1; omega) (by show v_n V < v_n V + 1; omega) hjn (va_up_self _ _ _) (fun τ' hM' he' => ?_)) (fun g => absurd (nI_pos' (by omega)) g)
      rw [ez] at hM'
      exact h τ' hM' (he.tr he')
  · have hh : ¬ q_has V x := fun z => by obtain ⟨j, h1, h2⟩ := q_has_of z; exact hno j h1 h2
    have es : sp_answer V x w e = (-1001, V) := by unfold sp_answer; rw [if_neg hh]
    rw [es] at h
    exact b134_5 (fun z => absurd z (by decide)) (fun _ => b134_8 (h σ hM q_eqx.rf))
end QLN
