/-! ===== the class: answer, feed ===== -/
theorem q_qt_rest {V : QV} {x y : Nat} : ∀ l, v_dr (q_qt V x y l).2 = v_dr V ∧ v_sg (q_qt V x y l).2 = v_sg V ∧ v_by (q_qt V x y l).2 = v_by V ∧ v_fa (q_qt V x y l).2 = v_fa V
  | 0 => ⟨rfl, rfl, rfl, rfl⟩
  | l + 1 => by
    have ih := q_qt_rest (V := V) (x := x) (y := y) l
    unfold q_qt
    split
    · split
      · exact ih
      · exact ih
    · exact ih
theorem k_zsub (a : Int32) : -a = nI 0 - a := by rw [show nI 0 = (0 : Int32) from rfl, Int32.sub_eq_add_neg, Int32.zero_add]
theorem k_sub1 (c k : Nat) : nI c - nI k + 1 = nI (c + 1) - nI k := by
  rw [← nI_1, Int32.sub_eq_add_neg, Int32.sub_eq_add_neg, Int32.add_assoc, Int32.add_comm (-nI k) 1, ← Int32.add_assoc]
def k_tm (x5 : Int32) (c : Nat) : Prop := (c = 0 ∧ x5 ≤ 0) ∨ (0 < c ∧ x5 = nI c)
section KQ
variable {d : Nat} {Q : Option Value → px_S → Prop} {σ : px_S} {V : QV}
theorem c_quoteInto {x y : Nat} (hV : q_wf V) (hH : k_H V σ) (hx : x < v_n V) (hy : y < v_n V) (hxy : x ≠ y) (h0 : v_sz V y = 0) (h : ∀ τ, k_H (q_qt V x y (v_sz V x)).2 τ → k_e k_s3 k_t1 σ τ → Q none τ) : Cw (d + 3) 14 [.ref 1, .int (nI y), .int (nI x), .int (v_ru V 3), .int (v_ru V 4)] σ Q := by
  have hn := hV.1
  have hsz := (hV.2.1 x hx).1
  obtain ⟨ix, cx⟩ := q_lt (j := x) (N := 40) (by omega) (by decide)
  obtain ⟨kp, hkp, ekp⟩ := hV.2.2.2.2.2.1.2.2.2.1
  have ckp : (v_ru V 3).toNatClampNeg = kp := by rw [ekp]; exact nI_clamp (by omega)
  have second : ∀ n l (x5 : Int32) (v7 : Value) (τ : px_S), l + n = v_sz V x → k_H (q_qt V x y l).2 τ → k_e k_s3 k_t1 σ τ → k_tm x5 (q_qt V x y l).1 → (q_qt V x y l).1 ≤ 14 → px_nc v7 = true → Wp (d + 2) tb_14 46 [.ref 1, .int (nI y), .int (nI x), .int (v_ru V 3), .int (v_ru V 4), .int x5, .int (nI l), v7] [] τ Q := by
    intro n
    induction n with
    | zero =>
      intro l x5 v7 τ hl hHt he ht h14 n7
      have el : l = v_sz V x := by omega
      subst el
      obtain ⟨i1, i2, i3, i4, i5, i6⟩ := q_qt_ok hV hx hy hxy h0 (v_sz V x) (Nat.le_refl _)
      have hxW : x < v_n (q_qt V x y (v_sz V x)).2 := by show x < (q_qt V x y (v_sz V x)).2.1; rw [i2]; exact hx
      have e14 := (hHt.2.2.2.1 x hxW).2.2.2.1
      refine b14_46 ix (fun _ => b14_119 (h τ hHt he)) (fun g => absurd ?_ g)
      rw [cx, e14, i4 x hxy]; exact Int32.le_refl _
    | succ n ih =>
      intro l x5 v7 τ hl hHt he ht h14 n7
      have hls : l < v_sz V x := by omega
      obtain ⟨i1, i2, i3, i4, i5, i6⟩ := q_qt_ok hV hx hy hxy h0 l (by omega)
      have hxW : x < v_n (q_qt V x y l).2 := by show x < (q_qt V x y l).2.1; rw [i2]; exact hx
      have hyW : y < v_n (q_qt V x y l).2 := by show y < (q_qt V x y l).2.1; rw [i2]; exact hy
      have e14 := (hHt.2.2.2.1 x hxW).2.2.2.1
      have esz := i4 x hxy
      obtain ⟨e16, e17⟩ := hHt.2.2.2.2.2 x l hxW (by rw [esz]; exact hls)
      obtain ⟨edp, etx⟩ := i5 x l hxy (by omega)
      rw [edp] at e16
      rw [etx] at e17
      obtain ⟨d5, hw⟩ := hV.2.2.1 x l hx hls
      obtain ⟨is, cs⟩ := q_lt (j := 14 * x + l) (N := 560) (by omega) (by decide)
      refine b14_46 ix (fun g => absurd g (by rw [cx, e14, esz]; exact nI_ge hls (by omega))) (fun _ => b14_57 n7 (c_spotOf (b14_63 is (fun g => ?_) (fun g => ?_))))
      · rw [cs, e16] at g
        have hf : q_few V x l = true := decide_eq_true g
        rcases ht with ⟨t1, t2⟩ | ⟨t1, t2⟩
        · have es : q_qt V x y (l + 1) = (0, vs_ln (q_qt V x y l).2 y (v_dp V (14 * x + l) + 1) (v_tx V (14 * x + l))) := by
            rw [q_qt, if_pos hf, if_neg (by omega)]
          refine b14_80 (fun _ => b14_91 is is ?_) (fun z => absurd t2 z)
          rw [cs, e16, e17, nI_1]
          refine c_addLine i1 hHt hyW (by omega) (q_few_lt hV d5 hf) (fun τ2 hH2 he2 => b14_112 (b14_113 ?_))
          rw [nI_1]
          exact ih (l + 1) x5 _ τ2 (by omega) (by rw [es]; exact hH2) (he.tr he2) (by rw [es]; exact Or.inl ⟨rfl, t2⟩) (by rw [es]; exact Nat.zero_le _) rfl
        · have es : q_qt V x y (l + 1) = ((q_qt V x y l).1 - 1, (q_qt V x y l).2) := by
            rw [q_qt, if_pos hf, if_pos t1]
          refine b14_80 (fun z => absurd z (by rw [t2]; exact nI_nle t1 (by omega))) (fun _ => b14_85 (b14_113 ?_))
          rw [nI_1]
          refine ih (l + 1) _ _ τ (by omega) (by rw [es]; exact hHt) he ?_ (by rw [es]; show (q_qt V x y l).1 - 1 ≤ 14; omega) rfl
          rw [es, t2]
          show k_tm _ ((q_qt V x y l).1 - 1)
          obtain ⟨c, ec⟩ : ∃ c, (q_qt V x y l).1 = c + 1 := ⟨(q_qt V x y l).1 - 1, by omega⟩
          rw [ec, pk_m1, Nat.add_sub_cancel]
          rcases Nat.eq_zero_or_pos c with z | z
          · rw [z]; exact Or.inl ⟨rfl, by decide⟩
          · exact Or.inr ⟨z, rfl⟩
      · rw [cs, e16] at g
        have hf : q_few V x l = false := decide_eq_false g
        have es : q_qt V x y (l + 1) = q_qt V x y l := by rw [q_qt, if_neg (by rw [hf]; decide)]
        refine b14_77 (b14_113 ?_)
        rw [nI_1]
        exact ih (l + 1) x5 _ τ (by omega) (by rw [es]; exact hHt) he (by rw [es]; exact ht) (by rw [es]; exact h14) rfl
  have first : ∀ n l, l + n = v_sz V x → Wp (d + 2) tb_14 7 [.ref 1, .int (nI y), .int (nI x), .int (v_ru V 3), .int (v_ru V 4), .int (nI (q_cnt (q_few V x) l) - nI kp), .int (nI l), .null] [] σ Q := by
    intro n
    induction n with
    | zero =>
      intro l hl
      have el : l = v_sz V x := by omega
      subst el
      have hc := q_cnt_le (q_few V x) (v_sz V x)
      refine b14_7 ix (fun _ => b14_43 (second (v_sz V x) 0 _ .null σ (by omega) hH k_e.rf ?_ ?_ rfl)) (fun g => absurd ?_ g)
      · show k_tm _ (q_out V x)
        unfold q_out
        rw [ckp]
        by_cases hz : kp < q_cnt (q_few V x) (v_sz V x)
        · exact Or.inr ⟨by omega, pk_sub (by omega)⟩
        · refine Or.inl ⟨by omega, ?_⟩
          by_cases he : q_cnt (q_few V x) (v_sz V x) = kp
          · rw [he, pk_sub (Nat.le_refl _), Nat.sub_self]; decide
          · exact Int32.le_of_lt (pk_sneg (by omega) (by omega))
      · show q_out V x ≤ 14
        unfold q_out; omega
      · rw [cx, (hH.2.2.2.1 x hx).2.2.2.1]; exact Int32.le_refl _
    | succ n ih =>
      intro l hl
      have hls : l < v_sz V x := by omega
      have e14 := (hH.2.2.2.1 x hx).2.2.2.1
      obtain ⟨e16, e17⟩ := hH.2.2.2.2.2 x l hx hls
      obtain ⟨is, cs⟩ := q_lt (j := 14 * x + l) (N := 560) (by omega) (by decide)
      refine b14_7 ix (fun g => absurd g (by rw [cx, e14]; exact nI_ge hls (by omega))) (fun _ => b14_18 (c_spotOf (b14_28 is (fun g => b14_37 ?_) (fun g => b14_34 (b14_37 ?_)))))
      · rw [cs, e16] at g
        have hf : q_few V x l = false := decide_eq_false (Int32.not_lt.mpr g)
        have e : q_cnt (q_few V x) (l + 1) = q_cnt (q_few V x) l := by rw [q_cnt, hf]; rfl
        have := ih (l + 1) (by omega)
        rw [e] at this
        rw [nI_1]
        exact this
      · rw [cs, e16] at g
        have hf : q_few V x l = true := decide_eq_true (Int32.not_le.mp g)
        have e : q_cnt (q_few V x) (l + 1) = q_cnt (q_few V x) l + 1 := by rw [q_cnt, hf]; rfl
        have := ih (l + 1) (by omega)
        rw [e] at this
        rw [nI_1, k_sub1]
        exact this
  refine e14 (b14_0 ?_)
  have e := first (v_sz V x) 0 (by omega)
  rw [show q_cnt (q_few V x) 0 = 0 from rfl, ← k_zsub, ← ekp] at e
  exact e
theorem c_answer {x w e : Int32} (hV : q_wf V) (hI : k_I V σ) (h : ∀ τ, k_I (sp_answer V x w e).2 τ → k_fr σ τ → Q (some (.int (sp_answer V x w e).1)) τ) : Cw (d + 4) 13 [.ref 0, .int x, .int w, .int e] σ Q := by
  have hn := hV.1
  refine e13 (b13_0 (c_has hV hI.1 (fun j hj ej => ?_) (fun hno => ?_)))
  · subst ej
    have cj : (nI j).toNatClampNeg = j := nI_clamp (by omega)
    have hh := q_has_nI hn hj
    unfold sp_answer at h
    rw [if_pos hh, cj] at h
    have out : ¬ (q_in w 0 9 ∧ q_in e (-1) 9999) → Wp (d + 3) tb_13 29 [.ref 0, .int (nI j), .int w, .int e, .null] [] σ Q := by
      intro h2
      have es : sp_letter V w e (nI j) = (-1002, V) := by unfold sp_letter; rw [if_pos (Or.inr hh), if_neg h2]
      rw [es, if_pos (show (-1002 : Int32) < 0 by decide)] at h
      exact b13_29 (h σ hI k_fr.rf)
    refine b13_8 (fun _ => b13_15 (c_wrongWriter (fun g => b13_19 (fun _ => out (fun z => g z.1)) (fun z => absurd (by decide) z)) (fun g => b13_19 (fun z => absurd rfl z) (fun _ => b13_22 (c_wrongDay (fun g2 => b13_26 (fun z => absurd z (by decide)) (fun _ => out (fun z => g2 z.2))) (fun g2 => b13_26 (fun _ => ?_) (fun z => absurd rfl z))))))) (fun z => absurd (by decide) z)
    by_cases h40 : v_n V = 40
    · have es : sp_letter V w e (nI j) = (-1004, V) := by unfold sp_letter; rw [if_pos (Or.inr hh), if_pos ⟨g, g2⟩, if_pos h40]
      rw [es, if_pos (show (-1004 : Int32) < 0 by decide)] at h
      exact b13_33 (fun z => absurd z (by rw [hI.1.1, h40]; decide)) (fun _ => b13_45 (h σ hI k_fr.rf))
    · have es : sp_letter V w e (nI j) = (nI (v_n V), vs_let V w e (nI j)) := by unfold sp_letter; rw [if_pos (Or.inr hh), if_pos ⟨g, g2⟩, if_neg h40]
      rw [es, if_neg (nI_pos (by omega))] at h
      have hVl : q_wf (vs_let V w e (nI j)) := hV.lets (by omega) g g2 (Or.inr hh)
      have hHl := hI.1.al (w := w) (e := e) (nm := nI j) hV (by omega)
      have esz : v_sz (vs_let V w e (nI j)) j = v_sz V j := va_up_ne _ _ (by omega)
      refine b13_33 (fun _ => b13_49 (c_addLetter hV hI.1 (by omega) (b13_59 (by unfold vp_in; decide) (by unfold vp_in; decide) ?_))) (fun z => absurd (by rw [hI.1.1]; exact nI_lt (b := 40) (by omega) (by decide)) z)
      have r3 : (k_al σ (v_n V) w e (nI j)).1 10 (3 : Int32).toNatClampNeg = v_ru (vs_let V w e (nI j)) 3 := by rw [k_al_c (by decide) (by decide)]; exact hI.2.1 3 (by decide)
      have r4 : (k_al σ (v_n V) w e (nI j)).1 10 (4 : Int32).toNatClampNeg = v_ru (vs_let V w e (nI j)) 4 := by rw [k_al_c (by decide) (by decide)]; exact hI.2.1 4 (by decide)
      rw [r3, r4]
      have hyl : v_n V < v_n (vs_let V w e (nI j)) := Nat.lt_succ_self _
      have hjl : j < v_n (vs_let V w e (nI j)) := Nat.lt_succ_of_lt hj
      have h00 : v_sz (vs_let V w e (nI j)) (v_n V) = 0 := va_up_self _ _ _
      refine c_quoteInto hVl hHl hjl hyl (by omega) h00 (fun τ hHt he => b13_83 (c_forget (b13_87 (h _ ?_ ?_))))
      · rw [esz] at hHt
        show k_I (q_qt (vs_let V w e (nI j)) j (v_n V) (v_sz V j)).2 (k_fg τ)
        obtain ⟨q1, q2, q3, q4, q5, q6⟩ := q_qt_ok hVl hjl hyl (by omega) h00 (v_sz V j) (by rw [esz]; exact Nat.le_refl _)
        obtain ⟨s1, s2, s3, s4⟩ := q_qt_rest (V := vs_let V w e (nI j)) (x := j) (y := v_n V) (v_sz V j)
        generalize (q_qt (vs_let V w e (nI j)) j (v_n V) (v_sz V j)).2 = W at *
        obtain ⟨i1, i2, i3, i4, i5, i6, -, -, -, i10⟩ := hI
        have c : ∀ k, k ≠ 1 ∧ ¬ (11 ≤ k ∧ k ≤ 16) → τ.1 k = σ.1 k := fun k hk => by
          rw [he.1 k (by unfold k_s3; omega), k_al_c hk.1 (by omega)]
        have l : ∀ k, k ≠ 17 → τ.2.1 k = σ.2.1 k := fun k hk => he.2.1 k hk
        have jD : k_D V τ := i3.fr (c 0 (by decide)) (l 0 (by decide))
        have jS : k_S V τ := i4.fr (c 7 (by decide)) (c 34 (by decide))
        have jB : k_B V τ := i5.fr (c 8 (by decide)) (c 35 (by decide))
        refine k_I.fg hHt (fun k hk => ?_) ?_ ?_ ?_ (fun u v hu hv => ?_) (i10.fr (c 33 (by decide)) he.2.2)
        · rw [c 10 (by decide), q3]; exact i2 k hk
        · unfold k_D; rw [s1]; exact jD
        · unfold k_S; rw [s2]; exact jS
        · unfold k_B; rw [s3, s4]; exact jB
        · rw [c 18 (by decide)]
          rcases i6 u v hu hv with g | ⟨g1, g2, g3⟩
          · exact Or.inl g
          · have eW : v_n W = v_n V + 1 := q2
            refine Or.inr ⟨by omega, by omega, ?_⟩
            rw [g3]
            congr 1
            have a1 : v_sz W u = v_sz V u := (q4 u (by omega)).trans (va_up_ne _ _ (by omega))
            have a2 : v_sz W v = v_sz V v := (q4 v (by omega)).trans (va_up_ne _ _ (by omega))
            refine (q_fit_cg (V := V) (W := W) a1 a2 (by rw [q3]; rfl) (fun z k hz hk => ?_)).symm
            have hzn : z < v_n V := by rcases hz with hz | hz <;> rw [hz] <;> assumption
            exact q5 z k (by omega) (by have := (hV.2.1 z hzn).1; omega)
      · exact k_fr.tr (k_fr.tr k_al_fr (he.fr (fun k hk => by unfold k_s3 at hk; omega))) k_fg_fr
  · unfold sp_answer at h
    rw [if_neg (fun z => by obtain ⟨j, h1, h2⟩ := q_has_of z; exact hno j h1 h2)] at h
    exact b13_8 (fun g => absurd rfl g) (fun _ => b13_11 (h σ hI k_fr.rf))
end KQ
