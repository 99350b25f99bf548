/-! ===== seek: the reference ===== -/
def q_all (f : Nat → Bool) : Nat → Bool
  | 0 => true
  | n + 1 => q_all f n && f n
theorem q_all_iff {f : Nat → Bool} : ∀ n, q_all f n = true ↔ ∀ i, i < n → f i = true
  | 0 => ⟨fun _ i hi => absurd hi (Nat.not_lt_zero _), fun _ => rfl⟩
  | n + 1 => by
    rw [q_all, Bool.and_eq_true, q_all_iff n]
    constructor
    · rintro ⟨h1, h2⟩ i hi
      by_cases h : i = n
      · subst h; exact h2
      · exact h1 i (by omega)
    · intro h
      exact ⟨fun i hi => h i (by omega), h n (by omega)⟩
def q_sgk (V : QV) (s fr k : Nat) : Bool := decide ((v_sg V).getD k 0 = 0) || decide ((v_sg V).getD k 0 = (v_tx V s).getD (fr + k) 0)
def q_sga (V : QV) (s fr : Nat) : Bool := q_all (q_sgk V s fr) (v_sg V).length
def q_hsg (V : QV) (s : Nat) : Bool := q_any (q_sga V s) ((v_tx V s).length + 1 - (v_sg V).length)
def q_whr (V : QV) (w : Int) (s : Nat) : Bool := decide (w = 0) || (decide (w = 1) == decide (v_dp V s = 0))
def q_skf (V : QV) (w : Int32) (wh : Int) (s : Nat) : Bool := (decide (s % 14 < v_sz V (s / 14)) && (q_seen V (-1) (s / 14) && (decide (w = -1) || decide (v_wr V (s / 14) = w)))) && (q_whr V wh s && q_hsg V s)
def sp_seek (V : QV) (w wh i : Int32) : Int32 := if q_in w (-1) 9 ∧ q_in wh 0 2 then (if v_sg V = [] then -1003 else if i = -1 then nI (q_cnt (q_skf V w wh.toInt) (14 * v_n V)) else q_nth (q_skf V w wh.toInt) i (14 * v_n V) 0 0) else -1002
theorem q_sg_lt {V : QV} (hV : q_wf V) (k : Nat) : (v_sg V).getD k 0 ≤ 63 := by
  rw [List.getD_eq_getElem?_getD]
  cases h : (v_sg V)[k]? with
  | none => simp
  | some w => exact hV.2.2.2.2.2.2.1.2 w (List.mem_of_getElem? h)
section QSK
variable {d : Nat} {Q : Option Value → px_S → Prop} {σ : px_S} {V : QV} {a : Int32}
theorem m_hasSigns {s : Nat} (hV : q_wf V) (hM : q_Ma V a σ) (hs : q_sp V s) (h : Q (some (.int (q_b (q_hsg V s)))) σ) : Cw (d + 1) 182 [.ref 9, .int (nI s)] σ Q := by
  have ls := q_sp_lt hV hs
  obtain ⟨is, cs⟩ := q_lt (j := s) (N := 560) ls (by decide)
  obtain ⟨g1, g2, g3⟩ := hM.sp hs
  obtain ⟨d5, hw⟩ := hV.sp hs
  have hwl := hw.1
  have hsl := hV.2.2.2.2.2.2.1.1
  obtain ⟨hs1, hs2⟩ := hM.2.2.2.2.2.2.2.1
  have fin : ∀ fr (v4 : Value), (∃ f, f < (v_tx V s).length + 1 - (v_sg V).length ∧ q_sga V s f = true) → Wp d tb_182 93 [.ref 9, .int (nI s), .int 1, .int (nI fr), v4] [] σ Q := by
    intro fr v4 hex
    have e : q_hsg V s = true := (q_any_iff _).mpr hex
    rw [e] at h
    exact b182_93 (Or.inr rfl) h
  have loop : ∀ m fr (v4 : Value), fr + m = (v_tx V s).length + 1 - (v_sg V).length → (∀ f, f < fr → q_sga V s f = false) → Wp d tb_182 4 [.ref 9, .int (nI s), .int 0, .int (nI fr), v4] [] σ Q := by
    intro m
    induction m with
    | zero =>
      intro fr v4 hf hall
      have e : q_hsg V s = false := by
        cases hb : q_hsg V s with
        | false => rfl
        | true =>
          obtain ⟨f, h1, h2⟩ := (q_any_iff _).mp hb
          rw [hall f (by omega)] at h2; cases h2
      rw [e] at h
      refine b182_4 is (fun _ => b182_93 (Or.inl rfl) h) (fun g => absurd ?_ g)
      rw [cs, g2, hs1, nI_add]; exact nI_lt (by omega) (by omega)
    | succ m ih =>
      intro fr v4 hf hall
      have hle : fr + (v_sg V).length ≤ (v_tx V s).length := by omega
      refine b182_4 is (fun g => absurd g ?_) (fun _ => b182_19 (fun g => absurd rfl g) (fun _ => b182_23 ?_))
      · rw [cs, g2, hs1, nI_add]; exact nI_nlt (by omega) (by omega)
      have inner : ∀ j k, k + j = (v_sg V).length → Wp d tb_182 28 [.ref 9, .int (nI s), .int (q_b (q_all (q_sgk V s fr) k)), .int (nI fr), .int (nI k)] [] σ Q := by
        intro j
        induction j with
        | zero =>
          intro k hk
          have e : k = (v_sg V).length := by omega
          subst e
          refine b182_28 (fun _ => b182_87 ?_) (fun g => absurd (by rw [hs1]; exact Int32.le_refl _) g)
          rw [nI_1]
          cases hb : q_all (q_sgk V s fr) (v_sg V).length with
          | false => exact ih (fr + 1) _ (by omega) (fun f hf2 => by
              by_cases hff : f = fr
              · subst hff; exact hb
              · exact hall f (by omega))
          | true =>
            refine b182_4 is (fun _ => fin _ _ ⟨fr, by omega, hb⟩) (fun _ => b182_19 (fun _ => fin _ _ ⟨fr, by omega, hb⟩) (fun g => absurd (by decide) g))
        | succ j ih2 =>
          intro k hk
          obtain ⟨i4, c4⟩ := q_lt (j := k) (N := 4) (by omega) (by decide)
          obtain ⟨i8, c8⟩ := q_lt (j := 8 * s + (fr + k)) (N := 4480) (by omega) (by decide)
          have e8 : (8 : Int32) * nI s + nI fr + nI k = nI (8 * s + (fr + k)) := by rw [q_ix8, nI_add]; congr 1; omega
          have go : ∀ (b : Bool) (z : Int32), b = q_all (q_sgk V s fr) (k + 1) → Wp d tb_182 80 [.ref 9, .int (nI s), .int z, .int (nI fr), .int (nI k)] [.int (q_b b)] σ Q := by
            intro b z hb
            refine b182_80 ?_
            rw [nI_1, hb]
            exact ih2 (k + 1) (by omega)
          have es := hs2 k (by omega)
          have lsg := q_sg_lt hV k
          have lwd := q_word_lt hw (fr + k)
          refine b182_28 (fun g => absurd g (by rw [hs1]; exact nI_ge (by omega) (by omega))) (fun _ => ?_)
          cases hb : q_all (q_sgk V s fr) k with
          | false => exact b182_37 (fun _ => b182_79 (go false _ (by rw [q_all, hb]; rfl))) (fun g => absurd rfl g)
          | true =>
            refine b182_37 (fun g => absurd g (by decide)) (fun _ => b182_41 i4 (fun g => ?_) (fun g => b182_51 i4 (by rw [e8]; exact i8) (fun g5 => ?_) (fun g5 => ?_)))
            · rw [c4, es] at g
              have h0 : (v_sg V).getD k 0 = 0 := by
                rcases Nat.eq_zero_or_pos ((v_sg V).getD k 0) with e | e
                · exact e
                · exact absurd g (nI_ne0 e (by omega))
              exact b182_75 (go true _ (by rw [q_all, hb]; unfold q_sgk; rw [decide_eq_true h0]; rfl))
            · rw [c4, es] at g
              rw [c4, es, e8, c8, g3 _ (by omega), nI_eq (by omega) (by omega)] at g5
              have h0 : ¬ (v_sg V).getD k 0 = 0 := fun e => g (by rw [e]; rfl)
              exact b182_79 (go false _ (by rw [q_all, hb]; unfold q_sgk; rw [decide_eq_false h0, decide_eq_false g5]; rfl))
            · rw [c4, es, e8, c8, g3 _ (by omega), Decidable.not_not, nI_eq (by omega) (by omega)] at g5
              exact b182_75 (go true _ (by rw [q_all, hb]; unfold q_sgk; rw [decide_eq_true g5]; simp))
      exact inner (v_sg V).length 0 (by omega)
  exact e182 (b182_0 (loop ((v_tx V s).length + 1 - (v_sg V).length) 0 .null (by omega) (fun f hf => absurd hf (Nat.not_lt_zero _))))
theorem m_seek {w wh i : Int32} (hV : q_wf V) (hM : q_M V σ) (h : ∀ τ, q_M V τ → q_mk σ τ → Q (some (.int (sp_seek V w wh i))) τ) : Cw (d + 2) 181 [.ref 9, .int w, .int wh, .int i] σ Q := by
  have hn := hV.1
  have h := h σ hM q_mk.rf
  obtain ⟨hs1, hs2⟩ := hM.2.2.2.2.2.2.2.1
  have hsl := hV.2.2.2.2.2.2.1.1
  have bad : ¬ (q_in w (-1) 9 ∧ q_in wh 0 2) → Wp (d + 1) tb_181 26 [.ref 9, .int w, .int wh, .int i, .null, .null, .null, .null, .null, .null] [] σ Q := by
    intro hb
    unfold sp_seek at h
    rw [if_neg hb] at h
    exact b181_26 h
  refine e181 (b181_0 (m_inI (a' := -1) (b' := 9) (by decide) (by decide) (fun a1 a2 => ?_) (fun g => b181_11 (fun _ => bad (fun z => g z.1)) (fun g => absurd rfl g))))
  refine b181_11 (fun g => absurd g (by decide)) (fun _ => b181_14 (m_inI (a' := 0) (b' := 2) (by decide) (by decide) (fun a3 a4 => ?_) (fun g => b181_23 (fun g => absurd rfl g) (fun _ => bad (fun z => g z.2)))))
  refine b181_23 (fun _ => ?_) (fun g => absurd (by decide) g)
  unfold sp_seek at h
  rw [if_pos ⟨⟨a1, a2⟩, ⟨a3, a4⟩⟩] at h
  by_cases hemp : v_sg V = []
  · rw [if_pos hemp] at h
    exact b181_30 (fun g => absurd (by rw [hs1, hemp]; rfl) g) (fun _ => b181_37 h)
  · rw [if_neg hemp] at h
    have hpos : 0 < (v_sg V).length := by
      cases hl : v_sg V with
      | nil => exact absurd hl hemp
      | cons _ _ => simp
    refine b181_30 (fun _ => b181_41 ?_) (fun g => absurd (by rw [hs1]; exact nI_ne0 hpos (by omega)) g)
    have e14 : (14 : Int32) * σ.1 9 1 = nI (14 * v_n V) := by rw [hM.1, show (14 : Int32) = nI 14 from rfl, pk_mul]
    let f := q_skf V w wh.toInt
    have loop : ∀ m s (t : Int32) (v7 v8 v9 : Value), s + m = 14 * v_n V → px_nc v8 = true → px_nc v9 = true → (t = -1 ∨ (0 ≤ i.toInt ∧ i.toInt < (q_cnt f s : Int))) → (i = -1 ∨ (if t = -1 then q_nth f i m s (q_cnt f s) else t) = q_nth f i (14 * v_n V) 0 0) → Wp (d + 1) tb_181 50 [.ref 9, .int w, .int wh, .int i, .int (nI (q_cnt f s)), .int t, .int (nI s), v7, v8, v9] [] σ Q := by
      intro m
      induction m with
      | zero =>
        intro s t v7 v8 v9 hs n8 n9 ht hq
        have e : s = 14 * v_n V := by omega
        subst e
        refine b181_50 (fun _ => b181_198 (fun g => b181_208 (b181_210 ?_)) (fun g => b181_203 (b181_210 ?_))) (fun g => absurd (by rw [e14]; exact Int32.le_refl _) g)
        · rw [if_neg g] at h
          rcases hq with hq | hq
          · exact absurd hq g
          · rw [← hq] at h
            by_cases h1 : t = -1
            · rw [if_pos h1] at h
              rw [h1]; exact h
            · rw [if_neg h1] at h; exact h
        · rw [if_pos (Decidable.not_not.mp g)] at h; exact h
      | succ m ih =>
        intro s t v7 v8 v9 hs n8 n9 ht hq
        have hx : s / 14 < v_n V := by omega
        have hsz := (hV.2.1 _ hx).1
        obtain ⟨ix, cx⟩ := q_lt (j := s / 14) (N := 40) (by omega) (by decide)
        obtain ⟨is, cs⟩ := q_lt (j := s) (N := 560) (by omega) (by decide)
        obtain ⟨g1, g2, g3, g4, g5⟩ := hM.2.1 _ hx
        have e1 : nI s / (14 : Int32) = nI (s / 14) := by rw [show (14 : Int32) = nI 14 from rfl, pk_div (by omega) (by decide) (by decide)]
        have e2 : nI s - nI s / (14 : Int32) * (14 : Int32) = nI (s % 14) := by rw [show (14 : Int32) = nI 14 from rfl, pk_rem (by omega) (by decide) (by decide)]
        have hc := q_cnt_le f s
        have next : ∀ (t2 : Int32) (b : Bool) (v7 v8 v9 : Int32), f s = b → t2 = (if b ∧ nI (q_cnt f s) = i then nI s else t) → Wp (d + 1) tb_181 192 [.ref 9, .int w, .int wh, .int i, .int (nI (q_cnt f s + if b then 1 else 0)), .int t2, .int (nI s), .int v7, .int v8, .int v9] [] σ Q := by
          intro t2 b v7 v8 v9 hb ht2
          refine b181_192 ?_
          rw [nI_1]
          have ec : q_cnt f s + (if b then 1 else 0) = q_cnt f (s + 1) := by rw [q_cnt, hb]
          rw [ec]
          refine ih (s + 1) t2 _ _ _ (by omega) rfl rfl ?_ ?_
          · rw [ht2]
            by_cases hi : b = true ∧ nI (q_cnt f s) = i
            · rw [if_pos hi]
              right
              rw [← hi.2, nI_toInt (by omega), ← ec, hi.1, if_pos rfl]
              omega
            · rw [if_neg hi]
              rcases ht with h1 | h1
              · exact Or.inl h1
              · exact Or.inr (by rw [← ec]; omega)
          · rcases hq with hq | hq
            · exact Or.inl hq
            · right
              rw [← hq, ht2, ← ec]
              by_cases hi : b = true ∧ nI (q_cnt f s) = i
              · have ht1 : t = -1 := by
                  rcases ht with h1 | h1
                  · exact h1
                  · rw [← hi.2, nI_toInt (by omega)] at h1; omega
                rw [if_pos hi, if_pos ht1, if_neg (fun z => q_m1ne (by omega) z.symm), q_nth, hb, hi.1, if_pos rfl, if_pos hi.2]
              · rw [if_neg hi]
                by_cases h1 : t = -1
                · rw [if_pos h1, if_pos h1, q_nth, hb]
                  cases b with
                  | false => rfl
                  | true => rw [if_pos rfl, if_pos rfl, if_neg (fun z => hi ⟨rfl, z⟩)]
                · rw [if_neg h1, if_neg h1]
        have skip : ∀ (v7 v8 v9 : Int32), f s = false → Wp (d + 1) tb_181 192 [.ref 9, .int w, .int wh, .int i, .int (nI (q_cnt f s)), .int t, .int (nI s), .int v7, .int v8, .int v9] [] σ Q := fun v7 v8 v9 hb => next t false v7 v8 v9 hb (by rw [if_neg (fun z => by cases z.1)])
        -- right
        have rgt : ∀ (b8 b9 : Bool) (v9 : Value), (decide (s % 14 < v_sz V (s / 14)) && (q_seen V (-1) (s / 14) && (decide (w = -1) || decide (v_wr V (s / 14) = w)))) = b8 → (b8 = true → q_whr V wh.toInt s = b9) → Wp (d + 1) tb_181 153 [.ref 9, .int w, .int wh, .int i, .int (nI (q_cnt f s)), .int t, .int (nI s), .int (nI (s / 14)), .int (q_b b8), v9] [.int (q_b b9)] σ Q := by
          intro b8 b9 v9 h8 h9
          have ef : f s = (b8 && (q_whr V wh.toInt s && q_hsg V s)) := by show q_skf V w wh.toInt s = _; unfold q_skf; rw [h8]
          cases b8 with
          | false => exact b181_153 (fun _ => skip _ _ _ ef) (fun g => absurd rfl g)
          | true =>
            have h9 := h9 rfl
            rw [h9] at ef
            refine b181_153 (fun g => absurd g (by decide)) (fun _ => ?_)
            cases b9 with
            | false => exact b181_160 (fun _ => skip _ _ _ ef) (fun g => absurd rfl g)
            | true =>
              have hsp : q_sp V s := ⟨s / 14, s % 14, hx, by simp at h8; exact h8.1, by omega⟩
              refine b181_160 (fun g => absurd g (by decide)) (fun _ => b181_165 (m_hasSigns hV hM hsp ?_))
              cases hh : q_hsg V s with
              | false => exact b181_171 (fun _ => skip _ _ _ (by rw [ef, hh]; rfl)) (fun g => absurd rfl g)
              | true =>
                have ef : f s = true := by rw [ef, hh]; rfl
                have nx := fun t2 => next t2 true (nI (s / 14)) (q_b true) (q_b true) ef
                refine b181_171 (fun g => absurd g (by decide)) (fun _ => b181_174 (fun g => b181_185 (b181_187 ?_)) (fun g => b181_180 (b181_187 ?_)))
                · have e := nx t (by rw [if_neg (fun z => g z.2)])
                  rw [if_pos rfl] at e
                  rw [nI_1]; exact e
                · have e := nx (nI s) (by rw [if_pos ⟨rfl, Decidable.not_not.mp g⟩])
                  rw [if_pos rfl] at e
                  rw [nI_1]; exact e
        have thr : ∀ (b8 : Bool) (v8 v9 : Value), px_nc v9 = true → (decide (s % 14 < v_sz V (s / 14)) && (q_seen V (-1) (s / 14) && (decide (w = -1) || decide (v_wr V (s / 14) = w)))) = b8 → Wp (d + 1) tb_181 114 [.ref 9, .int w, .int wh, .int i, .int (nI (q_cnt f s)), .int t, .int (nI s), .int (nI (s / 14)), v8, v9] [.int (q_b b8)] σ Q := by
          intro b8 v8 v9 n9 h8
          have dec : ∀ b1 : Bool, decide (wh.toInt = 1) = b1 → ¬ wh.toInt = 0 → Wp (d + 1) tb_181 130 [.ref 9, .int w, .int wh, .int i, .int (nI (q_cnt f s)), .int t, .int (nI s), .int (nI (s / 14)), .int (q_b b8), v9] [.int (q_b b1)] σ Q := by
            intro b1 hb1 hw0
            have two : ∀ b2 : Bool, (b8 = true → decide (v_dp V s = 0) = b2) → Wp (d + 1) tb_181 145 [.ref 9, .int w, .int wh, .int i, .int (nI (q_cnt f s)), .int t, .int (nI s), .int (nI (s / 14)), .int (q_b b8), v9] [.int (q_b b2), .int (q_b b1)] σ Q := by
              intro b2 hb2
              have ew : b8 = true → q_whr V wh.toInt s = (b1 == b2) := fun z => by unfold q_whr; rw [decide_eq_false hw0, hb1, hb2 z]; rfl
              refine b181_145 (fun g => b181_152 (rgt b8 false v9 h8 (fun z => ?_))) (fun g => b181_148 (rgt b8 true v9 h8 (fun z => ?_)))
              · rw [ew z]
                cases b1 <;> cases b2 <;> first | rfl | exact absurd rfl g
              · rw [ew z]
                cases b1 <;> cases b2 <;> first | rfl | exact absurd (by decide) g
            refine b181_130 is (fun g => b181_144 (two false (fun z => ?_))) (fun g => b181_140 (two true (fun z => ?_)))
            · have hsp : q_sp V s := ⟨s / 14, s % 14, hx, by rw [z] at h8; simp at h8; exact h8.1, by omega⟩
              rw [cs, (hM.sp hsp).1] at g
              exact decide_eq_false (fun e => g (by rw [e]; rfl))
            · have hsp : q_sp V s := ⟨s / 14, s % 14, hx, by rw [z] at h8; simp at h8; exact h8.1, by omega⟩
              rw [cs, (hM.sp hsp).1, Decidable.not_not] at g
              have := (hV.sp hsp).1
              exact decide_eq_true ((nI_eq (b := 0) (by omega) (by decide)).mp g)
          refine b181_114 (fun g => ?_) (fun g => b181_120 (fun g2 => b181_129 (dec false ?_ ?_)) (fun g2 => b181_125 (dec true ?_ ?_)))
          · rw [q_tI _ _ (n := 0) (by decide)] at g
            exact b181_148 (rgt b8 true v9 h8 (fun _ => by unfold q_whr; rw [decide_eq_true g]; rfl))
          · rw [q_tI _ _ (n := 1) (by decide)] at g2
            exact decide_eq_false g2
          · rw [q_tI _ _ (n := 0) (by decide)] at g; exact g
          · rw [Decidable.not_not, q_tI _ _ (n := 1) (by decide)] at g2
            exact decide_eq_true g2
          · rw [q_tI _ _ (n := 0) (by decide)] at g; exact g
        refine b181_50 (fun g => absurd g (by rw [e14]; exact nI_ge (by omega) (by omega))) (fun _ => b181_62 (by rw [e1]; exact ix) (fun g => ?_) (fun g => ?_))
        · rw [e2, e1, cx, g4, nI_leI (by omega) (by omega)] at g
          rw [e1]
          exact b181_113 (thr false v8 v9 n9 (by rw [decide_eq_false (by omega)]; rfl))
        · rw [e2, e1, cx, g4, nI_leI (by omega) (by omega)] at g
          rw [e1]
          have hlt : s % 14 < v_sz V (s / 14) := by omega
          refine b181_84 n8 n9 (m_isSeen hV hM hx ?_)
          cases hse : q_seen V (-1) (s / 14) with
          | false => exact b181_90 (fun _ => b181_113 (thr false v8 v9 n9 (by rw [hse]; simp))) (fun g => absurd rfl g)
          | true =>
            refine b181_90 (fun g => absurd g (by decide)) (fun _ => b181_93 (fun g => b181_109 (thr true v8 v9 n9 (by rw [hse, decide_eq_true hlt, decide_eq_true g]; rfl))) (fun g => b181_98 ix (fun g2 => ?_) (fun g2 => ?_)))
            · rw [cx, g1] at g2
              exact b181_113 (thr false v8 v9 n9 (by rw [decide_eq_false g, decide_eq_false g2]; simp))
            · rw [cx, g1, Decidable.not_not] at g2
              exact b181_109 (thr true v8 v9 n9 (by rw [hse, decide_eq_true hlt, decide_eq_true g2]; simp))
    exact loop (14 * v_n V) 0 (-1) .null .null .null (by omega) rfl rfl (Or.inl rfl) (by
      by_cases hi : i = -1
      · exact Or.inl hi
      · right; rw [if_pos rfl]; rfl)
end QSK
