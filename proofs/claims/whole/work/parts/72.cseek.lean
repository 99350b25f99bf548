/-! ===== the class: seek ===== -/
theorem q_cnt_skip {f : Nat → Bool} {s : Nat} : ∀ j, (∀ k, k < j → f (s + k) = false) → q_cnt f (s + j) = q_cnt f s
  | 0, _ => rfl
  | j + 1, h => by rw [← Nat.add_assoc, q_cnt, q_cnt_skip j (fun k hk => h k (by omega)), h j (by omega)]; rfl
theorem q_nth_skip {f : Nat → Bool} {i : Int32} {m c : Nat} : ∀ j s, (∀ k, k < j → f (s + k) = false) → q_nth f i (m + j) s c = q_nth f i m (s + j) c
  | 0, _, _ => rfl
  | j + 1, s, h => by
    have h0 := h 0 (by omega)
    rw [Nat.add_zero] at h0
    rw [← Nat.add_assoc, q_nth, h0, if_neg (by decide), q_nth_skip j (s + 1) (fun k hk => by have := h (k + 1) (by omega); rw [show s + (k + 1) = s + 1 + k by omega] at this; exact this), show s + 1 + j = s + (j + 1) by omega]
section KSK
variable {d : Nat} {Q : Option Value → px_S → Prop} {σ : px_S} {V : QV}
theorem c_isWhere {s : Nat} {wh : Int32} (hd : v_dp V s ≤ 5) (h : Q (some (.int (q_b (q_whr V wh.toInt s)))) σ) : Cw (d + 1) 98 [.int (nI (v_dp V s)), .int wh] σ Q := by
  unfold q_whr at h
  have fin : ∀ b c : Bool, decide (wh.toInt = 1) = b → decide (v_dp V s = 0) = c → ¬ wh.toInt = 0 → Wp d tb_98 23 [.int (nI (v_dp V s)), .int wh] [.int (q_b b), .int (q_b c)] σ Q := by
    intro b c hb hc h0
    rw [hb, hc, decide_eq_false h0, Bool.false_or] at h
    have e : q_b c = q_b b ↔ b = c := by cases b <;> cases c <;> decide
    refine b98_23 (fun g => b98_30 (b98_31 (Or.inl rfl) ?_)) (fun g => b98_26 (b98_31 (Or.inr rfl) ?_))
    · rw [e] at g
      have : (b == c) = false := by cases b <;> cases c <;> simp_all
      rw [this] at h; exact h
    · rw [e] at g
      have : (b == c) = true := by rw [Decidable.not_not.mp g]; cases c <;> rfl
      rw [this] at h; exact h
  have mid : ∀ c : Bool, decide (v_dp V s = 0) = c → ¬ wh.toInt = 0 → Wp d tb_98 13 [.int (nI (v_dp V s)), .int wh] [.int (q_b c)] σ Q := by
    intro c hc h0
    refine b98_13 (fun g => b98_22 (fin false c ?_ hc h0)) (fun g => b98_18 (fin true c ?_ hc h0))
    · rw [q_tI _ _ (n := 1) (by decide)] at g; exact decide_eq_false g
    · rw [Decidable.not_not, q_tI _ _ (n := 1) (by decide)] at g; exact decide_eq_true g
  refine e98 (b98_0 (fun g => b98_26 (b98_31 (Or.inr rfl) ?_)) (fun g => b98_4 (fun g2 => b98_12 (mid false ?_ ?_)) (fun g2 => b98_8 (mid true ?_ ?_))))
  · rw [q_tI _ _ (n := 0) (by decide)] at g
    rw [decide_eq_true g] at h; exact h
  · exact decide_eq_false (fun z => g2 (by rw [z]; rfl))
  · rw [q_tI _ _ (n := 0) (by decide)] at g; exact g
  · exact decide_eq_true ((nI_eq (b := 0) (by omega) (by decide)).mp (Decidable.not_not.mp g2))
  · rw [q_tI _ _ (n := 0) (by decide)] at g; exact g
theorem c_standsAt {s fr : Nat} (hV : q_wf V) (hS : k_S V σ) (hs : q_sp V s) (hfr : fr + (v_sg V).length ≤ (v_tx V s).length) (h : Q (some (.int (q_b (q_sga V s fr)))) σ) : Cw (d + 2) 100 [.ref 7, .long (lN (q_pn (v_tx V s))), .int (nI fr)] σ Q := by
  obtain ⟨hs1, hs2⟩ := hS
  have hsl := hV.2.2.2.2.2.2.1.1
  have hw := (hV.sp hs).2
  have hwl := hw.1
  have loop : ∀ m k, k + m = (v_sg V).length → (∀ i, i < k → q_sgk V s fr i = true) → Wp (d + 1) tb_100 3 [.ref 7, .long (lN (q_pn (v_tx V s))), .null, .int (nI fr), .int (nI k)] [] σ Q := by
    intro m
    induction m with
    | zero =>
      intro k hk hall
      have e : q_sga V s fr = true := (q_all_iff _).mpr (fun i hi => hall i (by omega))
      rw [e] at h
      exact b100_3 (fun _ => b100_48 h) (fun g => absurd (by rw [hs1]; exact nI_le (by omega) (by omega)) g)
    | succ m ih =>
      intro k hk hall
      obtain ⟨i4, c4⟩ := q_lt (j := k) (N := 4) (by omega) (by decide)
      have hsg := q_sg_lt hV k
      have hwt := q_word_lt hw (fr + k)
      have e34 := hs2 k (by omega)
      have go : q_sgk V s fr k = true → Wp (d + 1) tb_100 42 [.ref 7, .long (lN (q_pn (v_tx V s))), .null, .int (nI fr), .int (nI k)] [] σ Q := fun hb => by
        refine b100_42 ?_
        rw [nI_1]
        refine ih (k + 1) (by omega) (fun i hi => ?_)
        by_cases hik : i = k
        · rw [hik]; exact hb
        · exact hall i (by omega)
      refine b100_3 (fun g => absurd g (by rw [hs1]; exact nI_ge (by omega) (by omega))) (fun _ => b100_12 i4 (fun g => go ?_) (fun g => b100_22 i4 ?_))
      · rw [c4, e34] at g
        unfold q_sgk
        rw [decide_eq_true ((nI_eq (b := 0) (by omega) (by decide)).mp g)]; rfl
      · rw [c4, e34] at g ⊢
        rw [nI_add]
        refine c_wordAt hw (by omega) (b100_37 (fun g2 => go ?_) (fun g2 => b100_40 ?_))
        · unfold q_sgk
          rw [decide_eq_true (p := (v_sg V).getD k 0 = (v_tx V s).getD (fr + k) 0) ((nI_eq (by omega) (by omega)).mp g2), Bool.or_true]
        · have e : q_sga V s fr = false := by
            cases hb : q_sga V s fr with
            | false => rfl
            | true =>
              have := (q_all_iff _).mp hb k (by omega)
              unfold q_sgk at this
              rw [Bool.or_eq_true, decide_eq_true_eq, decide_eq_true_eq] at this
              rcases this with z | z
              · exact absurd (by rw [z]; rfl) g
              · exact absurd (by rw [z]) g2
          rw [e] at h
          exact h
  exact e100 (b100_0 (loop (v_sg V).length 0 (by omega) (fun i hi => absurd hi (Nat.not_lt_zero _))))
theorem c_standsIn {s : Nat} (hV : q_wf V) (hS : k_S V σ) (hs : q_sp V s) (h : Q (some (.int (q_b (q_hsg V s)))) σ) : Cw (d + 3) 99 [.ref 7, .long (lN (q_pn (v_tx V s)))] σ Q := by
  have hs1 := hS.1
  have hsl := hV.2.2.2.2.2.2.1.1
  have hw := (hV.sp hs).2
  have hwl := hw.1
  have loop : ∀ m fr, fr + m = (v_tx V s).length + 1 - (v_sg V).length → (∀ i, i < fr → q_sga V s i = false) → Wp (d + 2) tb_99 8 [.ref 7, .long (lN (q_pn (v_tx V s))), .null, .int (nI (v_tx V s).length), .int (nI fr)] [] σ Q := by
    intro m
    induction m with
    | zero =>
      intro fr hfr hall
      have e : q_hsg V s = false := by
        cases hb : q_hsg V s with
        | false => rfl
        | true =>
          obtain ⟨i, h1, h2⟩ := (q_any_iff _).mp hb
          rw [hall i (by omega)] at h2; cases h2
      rw [e] at h
      refine b99_8 (fun _ => b99_37 h) (fun g => absurd ?_ g)
      rw [hs1, nI_add]; exact nI_lt (by omega) (by omega)
    | succ m ih =>
      intro fr hfr hall
      refine b99_8 (fun g => absurd g (by rw [hs1, nI_add]; exact nI_nlt (by omega) (by omega))) (fun _ => b99_19 (c_standsAt hV hS hs (by omega) ?_))
      cases hb : q_sga V s fr with
      | false =>
        refine b99_26 (fun _ => b99_31 ?_) (fun g => absurd rfl g)
        rw [nI_1]
        refine ih (fr + 1) (by omega) (fun i hi => ?_)
        by_cases hif : i = fr
        · rw [hif]; exact hb
        · exact hall i (by omega)
      | true =>
        have e : q_hsg V s = true := (q_any_iff _).mpr ⟨fr, by omega, hb⟩
        rw [e] at h
        exact b99_26 (fun g => absurd g (by decide)) (fun _ => b99_29 h)
  exact e99 (b99_0 (c_wordsIn hw (b99_4 (loop ((v_tx V s).length + 1 - (v_sg V).length) 0 (by omega) (fun i hi => absurd hi (Nat.not_lt_zero _))))))
theorem c_seek {w wh i : Int32} (hV : q_wf V) (hI : k_I V σ) (h : ∀ τ, k_I V τ → k_fr σ τ → Q (some (.int (sp_seek V w wh i))) τ) : Cw (d + 4) 97 [.ref 0, .int w, .int wh, .int i] σ Q := by
  have hn := hV.1
  have hH := hI.1
  have hS := hI.2.2.2.1
  have hsl := hV.2.2.2.2.2.2.1.1
  have h := h σ hI k_fr.rf
  have bad : ¬ (q_in w (-1) 9 ∧ q_in wh 0 2) → Wp (d + 3) tb_97 21 [.ref 0, .int w, .int wh, .int i, .null, .null, .null, .null] [] σ Q := by
    intro hb
    unfold sp_seek at h
    rw [if_neg hb] at h
    exact b97_21 h
  have good : (q_in w (-1) 9 ∧ q_in wh 0 2) → Wp (d + 3) tb_97 25 [.ref 0, .int w, .int wh, .int i, .null, .null, .null, .null] [] σ Q := by
    intro hgd
    unfold sp_seek at h
    rw [if_pos hgd] at h
    by_cases hemp : v_sg V = []
    · rw [if_pos hemp] at h
      exact b97_25 (fun g => absurd (by rw [hS.1, hemp]; rfl) g) (fun _ => b97_35 h)
    · rw [if_neg hemp] at h
      have hpos : 0 < (v_sg V).length := by
        cases hl : v_sg V with
        | nil => exact absurd hl hemp
        | cons _ _ => simp
      refine b97_25 (fun _ => b97_39 ?_) (fun g => absurd (by rw [hS.1]; exact nI_ne0 hpos (by omega)) g)
      generalize ef : q_skf V w wh.toInt = f at h
      have eff : ∀ x l, l < 14 → f (14 * x + l) = ((decide (l < v_sz V x) && (q_seen V (-1) x && (decide (w = -1) || decide (v_wr V x = w)))) && (q_whr V wh.toInt (14 * x + l) && q_hsg V (14 * x + l))) := fun x l hl => by
        rw [← ef]
        unfold q_skf
        rw [show (14 * x + l) / 14 = x by omega, show (14 * x + l) % 14 = l by omega]
      have outer : ∀ m x (v6 v7 : Value), x + m = v_n V → px_nc v6 = true → px_nc v7 = true → (i = -1 ∨ q_nth f i (14 * m) (14 * x) (q_cnt f (14 * x)) = q_nth f i (14 * v_n V) 0 0) → Wp (d + 3) tb_97 45 [.ref 0, .int w, .int wh, .int i, .int (nI (q_cnt f (14 * x))), .int (nI x), v6, v7] [] σ Q := by
        intro m
        induction m with
        | zero =>
          intro x v6 v7 hx n6 n7 hq
          have ex : x = v_n V := by omega
          subst ex
          refine b97_45 (fun _ => b97_182 (fun g => b97_192 (b97_193 ?_)) (fun g => b97_187 (b97_193 ?_))) (fun g => absurd (by rw [hH.1]; exact Int32.le_refl _) g)
          · rw [if_neg g] at h
            rcases hq with hq | hq
            · exact absurd hq g
            · rw [← hq, Nat.mul_zero, q_nth] at h
              exact h
          · rw [if_pos (Decidable.not_not.mp g)] at h; exact h
        | succ m ih =>
          intro x v6 v7 hx n6 n7 hq
          have hxn : x < v_n V := by omega
          have hsz := (hV.2.1 x hxn).1
          obtain ⟨ix, cx⟩ := q_lt (j := x) (N := 40) (by omega) (by decide)
          obtain ⟨f1, f2, f3, f4, f5⟩ := hH.2.2.2.1 x hxn
          -- the rest of the letter has nothing
          have next : ∀ l (v6 v7 : Value), l ≤ 14 → px_nc v6 = true → px_nc v7 = true → (∀ k, k < 14 - l → f (14 * x + l + k) = false) → (i = -1 ∨ q_nth f i (14 * (m + 1) - l) (14 * x + l) (q_cnt f (14 * x + l)) = q_nth f i (14 * v_n V) 0 0) → Wp (d + 3) tb_97 176 [.ref 0, .int w, .int wh, .int i, .int (nI (q_cnt f (14 * x + l))), .int (nI x), v6, v7] [] σ Q := by
            intro l v6 v7 hl n6 n7 hno hq
            refine b97_176 ?_
            rw [nI_1]
            have e1 := q_cnt_skip (14 - l) hno
            rw [show 14 * x + l + (14 - l) = 14 * (x + 1) by omega] at e1
            rw [← e1]
            refine ih (x + 1) v6 v7 (by omega) n6 n7 ?_
            rcases hq with hq | hq
            · exact Or.inl hq
            · right
              have e2 := q_nth_skip (f := f) (i := i) (m := 14 * m) (c := q_cnt f (14 * x + l)) (14 - l) (14 * x + l) hno
              rw [show 14 * m + (14 - l) = 14 * (m + 1) - l by omega, show 14 * x + l + (14 - l) = 14 * (x + 1) by omega, hq, ← e1] at e2
              exact e2.symm
          have skip : ∀ (v6 v7 : Value), px_nc v6 = true → px_nc v7 = true → (q_seen V (-1) x && (decide (w = -1) || decide (v_wr V x = w))) = false → Wp (d + 3) tb_97 176 [.ref 0, .int w, .int wh, .int i, .int (nI (q_cnt f (14 * x))), .int (nI x), v6, v7] [] σ Q := fun v6 v7 n6 n7 hz =>
            next 0 v6 v7 (by omega) n6 n7 (fun k hk => by rw [Nat.add_zero, eff x k (by omega), hz, Bool.and_false]; rfl) hq
          have lines : (q_seen V (-1) x && (decide (w = -1) || decide (v_wr V x = w))) = true → ∀ n l (v7 : Value), l + n = v_sz V x → px_nc v7 = true → (i = -1 ∨ q_nth f i (14 * (m + 1) - l) (14 * x + l) (q_cnt f (14 * x + l)) = q_nth f i (14 * v_n V) 0 0) → Wp (d + 3) tb_97 94 [.ref 0, .int w, .int wh, .int i, .int (nI (q_cnt f (14 * x + l))), .int (nI x), .int (nI l), v7] [] σ Q := by
            intro hyes n
            induction n with
            | zero =>
              intro l v7 hl n7 hq
              refine b97_94 ix (fun _ => next l _ v7 (by omega) rfl n7 (fun k hk => ?_) hq) (fun g => absurd (by rw [cx, f4]; exact nI_le (by omega) (by omega)) g)
              rw [show 14 * x + l + k = 14 * x + (l + k) by omega, eff x (l + k) (by omega), decide_eq_false (by omega)]; rfl
            | succ n ih2 =>
              intro l v7 hl n7 hq
              have hsp := q_wf_sp (V := V) hxn (show l < v_sz V x by omega)
              obtain ⟨is, cs⟩ := q_lt (j := 14 * x + l) (N := 560) (q_sp_lt hV hsp) (by decide)
              have d5 := (hV.sp hsp).1
              have hc := q_cnt_le f (14 * x + l)
              have efl := eff x l (by omega)
              rw [decide_eq_true (show l < v_sz V x by omega), hyes, Bool.true_and, Bool.true_and] at efl
              have step : q_nth f i (14 * (m + 1) - l) (14 * x + l) (q_cnt f (14 * x + l)) = if f (14 * x + l) then (if nI (q_cnt f (14 * x + l)) = i then nI (14 * x + l) else q_nth f i (14 * (m + 1) - (l + 1)) (14 * x + (l + 1)) (q_cnt f (14 * x + l) + 1)) else q_nth f i (14 * (m + 1) - (l + 1)) (14 * x + (l + 1)) (q_cnt f (14 * x + l)) := by
                rw [show 14 * (m + 1) - l = (14 * (m + 1) - (l + 1)) + 1 by omega, q_nth]
                rfl
              have no : f (14 * x + l) = false → Wp (d + 3) tb_97 170 [.ref 0, .int w, .int wh, .int i, .int (nI (q_cnt f (14 * x + l))), .int (nI x), .int (nI l), .int (nI (14 * x + l))] [] σ Q := fun hz => by
                refine b97_170 ?_
                rw [nI_1]
                have ec : q_cnt f (14 * x + (l + 1)) = q_cnt f (14 * x + l) := by rw [← Nat.add_assoc, q_cnt, hz]; rfl
                have := ih2 (l + 1) (.int (nI (14 * x + l))) (by omega) rfl (by
                  rcases hq with hq | hq
                  · exact Or.inl hq
                  · right; rw [step, hz, if_neg (by decide)] at hq; rw [ec]; exact hq)
                rw [ec] at this
                exact this
              refine b97_94 ix (fun g => absurd g (by rw [cx, f4]; exact nI_ge (by omega) (by omega))) (fun _ => b97_109 n7 (c_spotOf (b97_116 is ?_)))
              rw [cs, (hH.sp hsp).1]
              refine c_isWhere d5 ?_
              cases hwh : q_whr V wh.toInt (14 * x + l) with
              | false => exact b97_132 (fun _ => no (by rw [efl, hwh]; rfl)) (fun g => absurd rfl g)
              | true =>
                refine b97_132 (fun g => absurd g (by decide)) (fun _ => b97_135 is ?_)
                rw [cs, (hH.sp hsp).2]
                refine c_standsIn hV hS hsp ?_
                cases hhs : q_hsg V (14 * x + l) with
                | false => exact b97_152 (fun g => absurd rfl g) (fun _ => b97_155 (no (by rw [efl, hwh, hhs]; rfl)))
                | true =>
                  have hf : f (14 * x + l) = true := by rw [efl, hwh, hhs]; rfl
                  have ec : q_cnt f (14 * x + (l + 1)) = q_cnt f (14 * x + l) + 1 := by rw [← Nat.add_assoc, q_cnt, hf]; rfl
                  refine b97_152 (fun _ => b97_158 (fun g => b97_167 (b97_170 ?_)) (fun g => b97_164 ?_)) (fun g => absurd (by decide) g)
                  · rw [nI_1, nI_1]
                    have := ih2 (l + 1) (.int (nI (14 * x + l))) (by omega) rfl (by
                      rcases hq with hq | hq
                      · exact Or.inl hq
                      · right; rw [step, hf, if_pos rfl, if_neg g] at hq; rw [ec]; exact hq)
                    rw [ec] at this
                    exact this
                  · have g := Decidable.not_not.mp g
                    have hne : ¬ i = -1 := fun z => by rw [z] at g; exact q_m1ne (by omega) g.symm
                    rw [if_neg hne] at h
                    rcases hq with hq | hq
                    · exact absurd hq hne
                    · rw [step, hf, if_pos rfl, if_pos g] at hq
                      rw [← hq] at h
                      exact h
          refine b97_45 (fun g => absurd g (by rw [hH.1]; exact nI_ge (by omega) (by omega))) (fun _ => b97_57 n6 n7 (c_isSeen hV hH hxn ?_))
          cases hse : q_seen V (-1) x with
          | false => exact b97_66 (fun _ => skip v6 v7 n6 n7 (by rw [hse]; rfl)) (fun g => absurd rfl g)
          | true =>
            refine b97_66 (fun g => absurd g (by decide)) (fun _ => b97_69 (fun g => b97_91 (lines ?_ (v_sz V x) 0 v7 (by omega) n7 hq)) (fun g => b97_74 ix (fun g2 => b97_91 (lines ?_ (v_sz V x) 0 v7 (by omega) n7 hq)) (fun g2 => b97_88 (skip v6 v7 n6 n7 ?_))))
            · rw [hse, decide_eq_true g]; rfl
            · rw [cx, f1] at g2
              rw [hse, decide_eq_true g2, Bool.or_true]; rfl
            · rw [cx, f1] at g2
              rw [hse, decide_eq_false g, decide_eq_false g2]; rfl
      have := outer (v_n V) 0 .null .null (by omega) rfl rfl (Or.inr rfl)
      rw [show q_cnt f (14 * 0) = 0 from rfl] at this
      exact this
  have wheres : q_in w (-1) 9 → Wp (d + 3) tb_97 12 [.ref 0, .int w, .int wh, .int i, .null, .null, .null, .null] [] σ Q := by
    intro hw
    refine b97_12 (fun g => bad ?_) (fun g => b97_16 (fun g2 => good ⟨hw, ?_⟩) (fun g2 => bad ?_))
    · rw [k_neg] at g; intro z; have := z.2.1; omega
    · rw [k_neg] at g; rw [k_le (n := 2) (by decide)] at g2; exact ⟨by omega, g2⟩
    · rw [k_le (n := 2) (by decide)] at g2; intro z; have := z.2.2; omega
  refine e97 (b97_0 (fun g => wheres ?_) (fun g => b97_5 (c_wrongWriter (fun g2 => b97_9 (fun _ => bad (fun z => ?_)) (fun z => absurd (by decide) z)) (fun g2 => b97_9 (fun z => absurd rfl z) (fun _ => wheres ⟨?_, g2.2⟩)))))
  · rw [g]; exact ⟨by decide, by decide⟩
  · rw [q_tI _ _ (n := -1) (by decide)] at g
    exact g2 ⟨by have := z.1.1; omega, z.1.2⟩
  · have := g2.1; omega
end KSK
