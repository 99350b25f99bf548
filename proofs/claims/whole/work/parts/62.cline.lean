/-! ===== the class: letter, line, answer, feed ===== -/
theorem q_cnt_cg {f g : Nat → Bool} : ∀ n, (∀ i, i < n → f i = g i) → q_cnt f n = q_cnt g n
  | 0, _ => rfl
  | n + 1, h => by rw [q_cnt, q_cnt, q_cnt_cg n (fun i hi => h i (by omega)), h n (by omega)]
theorem q_P_cg {lk lk' : Nat → Nat → Bool} : ∀ i j, (∀ a b, a < i → b < j → lk a b = lk' a b) → q_P lk i j = q_P lk' i j
  | 0, _, _ => by simp [q_P]
  | i + 1, 0, _ => by simp [q_P]
  | i + 1, j + 1, h => by
    rw [q_P, q_P, q_P_cg i (j + 1) (fun a b ha hb => h a b (by omega) hb), q_P_cg (i + 1) j (fun a b ha hb => h a b ha (by omega)), q_P_cg i j (fun a b ha hb => h a b (by omega) (by omega)), h i j (by omega) (by omega)]
/-- two views that say the same of the letters x, y -/
theorem q_fit_cg {V W : QV} {x y : Nat} (hx : v_sz W x = v_sz V x) (hy : v_sz W y = v_sz V y) (hu : v_ru W 0 = v_ru V 0) (h : ∀ z k, (z = x ∨ z = y) → k < v_sz V z → v_dp W (14 * z + k) = v_dp V (14 * z + k) ∧ v_tx W (14 * z + k) = v_tx V (14 * z + k)) : q_fit W x y = q_fit V x y := by
  unfold q_fit
  rw [hx, hy]
  refine q_P_cg _ _ (fun a b ha hb => ?_)
  obtain ⟨e1, e2⟩ := h x a (Or.inl rfl) ha
  obtain ⟨e3, e4⟩ := h y b (Or.inr rfl) hb
  unfold q_lk
  rw [e1, e2, e3, e4, hu]
def k_al (σ : px_S) (n : Nat) (w e nm : Int32) : px_S := px_uI (px_uI (px_uI (px_uI σ 11 n w) 12 n e) 13 n nm) 1 7 (nI (n + 1))
theorem k_al_c {σ : px_S} {n : Nat} {w e nm : Int32} {k : Nat} (h1 : k ≠ 1) (h : ¬ (11 ≤ k ∧ k ≤ 13)) : (k_al σ n w e nm).1 k = σ.1 k := by
  unfold k_al
  rw [q_uc h1, q_uc (by omega), q_uc (by omega), q_uc (by omega)]
theorem k_H.al {V : QV} {σ : px_S} {w e nm : Int32} (hV : q_wf V) (hH : k_H V σ) (h40 : v_n V < 40) : k_H (vs_let V w e nm) (k_al σ (v_n V) w e nm) := by
  obtain ⟨h1, h2, h3, h4, h5, h6⟩ := hH
  have c11 : (k_al σ (v_n V) w e nm).1 11 = upd (σ.1 11) (v_n V) w := by funext j; unfold k_al upd; rw [q_uc (by decide), q_uc (by decide), q_uc (by decide), q_u]; simp
  have c12 : (k_al σ (v_n V) w e nm).1 12 = upd (σ.1 12) (v_n V) e := by funext j; unfold k_al upd; rw [q_uc (by decide), q_uc (by decide), q_u, q_uc (by decide)]; simp
  have c13 : (k_al σ (v_n V) w e nm).1 13 = upd (σ.1 13) (v_n V) nm := by funext j; unfold k_al upd; rw [q_uc (by decide), q_u, q_uc (by decide), q_uc (by decide)]; simp
  have c14 : (k_al σ (v_n V) w e nm).1 14 = σ.1 14 := k_al_c (by decide) (by decide)
  have c15 : (k_al σ (v_n V) w e nm).1 15 = σ.1 15 := k_al_c (by decide) (by decide)
  have c16 : (k_al σ (v_n V) w e nm).1 16 = σ.1 16 := k_al_c (by decide) (by decide)
  have un : ∀ (f : Nat → Int32) (k x : Nat) (v : Int32), x ≠ k → upd f k v x = f x := fun f k x v hxk => if_neg hxk
  have us : ∀ (f : Nat → Int32) (v : Int32), upd f (v_n V) v (v_n V) = v := fun f v => if_pos rfl
  unfold k_H
  rw [c11, c12, c13, c14, c15, c16]
  refine ⟨by unfold k_al; rw [q_u, if_pos ⟨rfl, rfl⟩]; rfl, ?_, fun i hi => ?_, fun x hx => ?_, fun x hx hx40 => h5 x (by have : v_n V + 1 ≤ x := hx; omega) hx40, fun x l hx hl => ?_⟩
  · unfold k_al; rw [q_u, if_neg (by decide), q_uc (by decide), q_uc (by decide), q_uc (by decide)]; exact h2
  · show lb (σ.2.1 1 9) i = (decide (i < v_n V + 1) && va_up (v_tk V) (v_n V) false i)
    rw [h3 i hi]
    by_cases hin : i = v_n V
    · subst hin; rw [va_up_self]; simp
    · rw [va_up_ne _ _ hin]
      by_cases hlt : i < v_n V
      · simp [hlt, show i < v_n V + 1 by omega]
      · simp [hlt, show ¬ i < v_n V + 1 by omega]
  · have hx : x < v_n V + 1 := hx
    show upd (σ.1 11) (v_n V) w x = upd (v_wr V) (v_n V) w x ∧ upd (σ.1 12) (v_n V) e x = upd (v_dy V) (v_n V) e x ∧ upd (σ.1 13) (v_n V) nm x = upd (v_nm V) (v_n V) nm x ∧ σ.1 14 x = nI (va_up (v_sz V) (v_n V) 0 x) ∧ σ.1 15 x = nI (q_cnt (fun l => decide (0 < v_dp V (14 * x + l))) (va_up (v_sz V) (v_n V) 0 x))
    by_cases hxn : x = v_n V
    · subst hxn
      rw [us, us, us, us, us, us, va_up_self]
      obtain ⟨f1, f2⟩ := h5 (v_n V) (Nat.le_refl _) h40
      exact ⟨rfl, rfl, rfl, f1, f2⟩
    · rw [un _ _ _ _ hxn, un _ _ _ _ hxn, un _ _ _ _ hxn, un _ _ _ _ hxn, un _ _ _ _ hxn, un _ _ _ _ hxn, va_up_ne _ _ hxn]
      exact h4 x (by omega)
  · have hx : x < v_n V + 1 := hx
    have hl : l < va_up (v_sz V) (v_n V) 0 x := hl
    by_cases hxn : x = v_n V
    · subst hxn; rw [va_up_self] at hl; omega
    · rw [va_up_ne _ _ hxn] at hl; exact h6 x l (by omega) hl
theorem k_F.al {V : QV} {σ τ : px_S} {w e nm : Int32} (h : k_F V σ) (h18 : τ.1 18 = σ.1 18) : k_F (vs_let V w e nm) τ := by
  intro x y hx hy
  rw [h18]
  rcases h x y hx hy with g | ⟨g1, g2, g3⟩
  · exact Or.inl g
  · refine Or.inr ⟨by show x < v_n V + 1; omega, by show y < v_n V + 1; omega, ?_⟩
    rw [g3]
    congr 1
    exact (q_fit_cg (V := V) (W := vs_let V w e nm) (va_up_ne _ _ (by omega)) (va_up_ne _ _ (by omega)) rfl (fun z k _ _ => ⟨rfl, rfl⟩)).symm
theorem k_uLi {σ : px_S} {k j : Nat} {x : Int64} : (px_uL σ k j x).1 = σ.1 := rfl
def k_s3 (k : Nat) : Prop := k = 14 ∨ k = 15 ∨ k = 16
def k_t1 (k : Nat) : Prop := k = 17
section KL
variable {d : Nat} {Q : Option Value → px_S → Prop} {σ : px_S} {V : QV}
theorem c_addLetter {w e nm : Int32} (hV : q_wf V) (hH : k_H V σ) (h40 : v_n V < 40) (h : Q (some (.int (nI (v_n V)))) (k_al σ (v_n V) w e nm)) : Cw (d + 1) 8 [.ref 1, .int w, .int e, .int nm] σ Q := by
  obtain ⟨ii, ci⟩ := q_lt (j := v_n V) (N := 40) h40 (by decide)
  have e7 := hH.1
  refine e8 (b8_0 (fun g => absurd g (by rw [e7]; exact nI_ge (b := 40) h40 (by decide))) (fun _ => b8_13 (by rw [e7]; exact ii) (b8_21 (by rw [e7]; exact ii) (b8_29 (by rw [e7]; exact ii) (b8_37 (b8_47 ?_))))))
  rw [e7, ci]
  have e8 : (px_uI (px_uI (px_uI σ 11 (v_n V) w) 12 (v_n V) e) 13 (v_n V) nm).1 1 7 = nI (v_n V) := by rw [q_uc (by decide), q_uc (by decide), q_uc (by decide)]; exact e7
  rw [e8, nI_1]
  exact h
theorem k_I.al {w e nm : Int32} (hV : q_wf V) (hI : k_I V σ) (h40 : v_n V < 40) : k_I (vs_let V w e nm) (k_al (k_fg σ) (v_n V) w e nm) := by
  obtain ⟨i1, i2, i3, i4, i5, i6, -, -, -, i10⟩ := hI
  have c : ∀ k, k ≠ 1 ∧ ¬ (11 ≤ k ∧ k ≤ 13) ∧ k ≠ 3 ∧ k ≠ 4 ∧ k ≠ 5 → (k_al (k_fg σ) (v_n V) w e nm).1 k = σ.1 k := fun k hk => by rw [k_al_c hk.1 hk.2.1, k_fg_c hk.2.2.1 hk.2.2.2.1 hk.2.2.2.2]
  have jH : k_H V (k_fg σ) := i1.fr (k_fg_c (by decide) (by decide) (by decide)) (fun k g1 g2 => k_fg_c (by omega) (by omega) (by omega)) rfl rfl
  have jR : k_R V (k_al (k_fg σ) (v_n V) w e nm) := i2.fr (c 10 (by decide))
  have jD : k_D V (k_al (k_fg σ) (v_n V) w e nm) := i3.fr (c 0 (by decide)) rfl
  have jS : k_S V (k_al (k_fg σ) (v_n V) w e nm) := i4.fr (c 7 (by decide)) (c 34 (by decide))
  have jB : k_B V (k_al (k_fg σ) (v_n V) w e nm) := i5.fr (c 8 (by decide)) (c 35 (by decide))
  refine ⟨jH.al hV h40, jR, jD, jS, jB, i6.al (c 18 (by decide)), Or.inl ?_, Or.inl ?_, Or.inl ?_, i10.fr (c 33 (by decide)) rfl⟩
  · rw [k_al_c (by decide) (by decide)]; exact k_fg_3
  · rw [k_al_c (by decide) (by decide)]; exact k_fg_4
  · rw [k_al_c (by decide) (by decide)]; exact k_fg_5
theorem k_al_fr {n : Nat} {w e nm : Int32} : k_fr σ (k_al σ n w e nm) := fun k hk => k_al_c (by omega) (by omega)
theorem c_letter {w e n : Int32} (hV : q_wf V) (hI : k_I V σ) (h : ∀ τ, k_I (sp_letter V w e n).2 τ → k_fr σ τ → Q (some (.int (sp_letter V w e n).1)) τ) : Cw (d + 2) 3 [.ref 0, .int w, .int e, .int n] σ Q := by
  have hn := hV.1
  have out : (n = -1 ∨ q_has V n) → ¬ (q_in w 0 9 ∧ q_in e (-1) 9999) → Wp (d + 1) tb_3 34 [.ref 0, .int w, .int e, .int n] [] σ Q := by
    intro h1 h2
    unfold sp_letter at h
    rw [if_pos h1, if_neg h2] at h
    exact b3_34 (h σ hI k_fr.rf)
  have mid : (n = -1 ∨ q_has V n) → Wp (d + 1) tb_3 20 [.ref 0, .int w, .int e, .int n] [] σ Q := by
    intro h1
    refine b3_20 (c_wrongWriter (fun g => b3_24 (fun _ => out h1 (fun z => g z.1)) (fun z => absurd (by decide) z)) (fun g => b3_24 (fun z => absurd rfl z) (fun _ => b3_27 (c_wrongDay (fun g2 => b3_31 (fun z => absurd z (by decide)) (fun _ => out h1 (fun z => g2 z.2))) (fun g2 => b3_31 (fun _ => ?_) (fun z => absurd rfl z))))))
    unfold sp_letter at h
    rw [if_pos h1, if_pos ⟨g, g2⟩] at h
    by_cases h40 : v_n V = 40
    · rw [if_pos h40] at h
      exact b3_38 (fun z => absurd z (by rw [hI.1.1, h40]; decide)) (fun _ => b3_50 (h σ hI k_fr.rf))
    · rw [if_neg h40] at h
      refine b3_38 (fun _ => b3_54 (c_forget (b3_58 ?_))) (fun z => absurd (by rw [hI.1.1]; exact nI_lt (b := 40) (by omega) (by decide)) z)
      have jH : k_H V (k_fg σ) := hI.1.fr (k_fg_c (by decide) (by decide) (by decide)) (fun k g1 g2 => k_fg_c (by omega) (by omega) (by omega)) rfl rfl
      exact c_addLetter hV jH (by omega) (b3_68 (h _ (hI.al hV (by omega)) (k_fg_fr.tr k_al_fr)))
  refine e3 (b3_0 (fun g => mid (Or.inl g)) (fun g => b3_5 (c_has hV hI.1 (fun j hj ej => ?_) (fun hno => ?_))))
  · exact b3_13 (fun _ => mid (Or.inr (by rw [ej]; exact q_has_nI hn hj))) (fun z => absurd (by decide) z)
  · refine b3_13 (fun z => absurd rfl z) (fun _ => b3_16 ?_)
    unfold sp_letter at h
    rw [if_neg (fun z => by
      rcases z with z | z
      · exact g z
      · obtain ⟨j, h1, h2⟩ := q_has_of z; exact hno j h1 h2)] at h
    exact h σ hI k_fr.rf
theorem c_addLine {x dd : Nat} {t : List Nat} (hV : q_wf V) (hH : k_H V σ) (hx : x < v_n V) (hsz : v_sz V x < 14) (hdd : dd ≤ 5) (h : ∀ τ, k_H (vs_ln V x dd t) τ → k_e k_s3 k_t1 σ τ → Q (some (.int (nI (v_sz V x)))) τ) : Cw (d + 2) 10 [.ref 1, .int (nI x), .int (nI dd), .long (lN (q_pn t))] σ Q := by
  have hn := hV.1
  obtain ⟨ix, cx⟩ := q_lt (j := x) (N := 40) (by omega) (by decide)
  obtain ⟨is, cs⟩ := q_lt (j := 14 * x + v_sz V x) (N := 560) (by omega) (by decide)
  obtain ⟨h1, h2, h3, h4, h5, h6⟩ := hH
  obtain ⟨-, -, -, e14, e15⟩ := h4 x hx
  have e14' : σ.1 14 (nI x).toNatClampNeg = nI (v_sz V x) := by rw [cx]; exact e14
  refine e10 (b10_0 ix (fun g => absurd g (by rw [e14']; exact nI_ge (b := 14) hsz (by decide))) (fun _ => b10_15 ?_))
  rw [e14']
  refine c_spotOf (b10_25 is (b10_27 (c_spotOf (b10_37 is (b10_39 ix ix (b10_49 ?_ ?_))))))
  all_goals rw [cs, cx]
  all_goals
    have f14 : (px_uL (px_uI σ 16 (14 * x + v_sz V x) (nI dd)) 17 (14 * x + v_sz V x) (lN (q_pn t))).1 14 x = nI (v_sz V x) := by
      show (px_uI σ 16 (14 * x + v_sz V x) (nI dd)).1 14 x = _
      rw [q_uc (by decide)]; exact e14
  all_goals rw [f14, nI_1]
  all_goals
    have key : ∀ τ : px_S, (∀ k, k ≠ 14 → k ≠ 15 → k ≠ 16 → τ.1 k = σ.1 k) → (∀ y, τ.1 14 y = if y = x then nI (v_sz V x + 1) else σ.1 14 y) → (∀ y, τ.1 15 y = if y = x then nI (q_quo V x + if 0 < dd then 1 else 0) else σ.1 15 y) → (∀ s, τ.1 16 s = if s = 14 * x + v_sz V x then nI dd else σ.1 16 s) → (∀ k, k ≠ 17 → τ.2.1 k = σ.2.1 k) → (∀ s, τ.2.1 17 s = if s = 14 * x + v_sz V x then lN (q_pn t) else σ.2.1 17 s) → k_H (vs_ln V x dd t) τ := by
      intro τ gc g14 g15 g16 gl g17
      unfold k_H
      rw [gc 1 (by decide) (by decide) (by decide), gc 11 (by decide) (by decide) (by decide), gc 12 (by decide) (by decide) (by decide), gc 13 (by decide) (by decide) (by decide), gl 1 (by decide)]
      refine ⟨h1, h2, h3, fun y hy => ?_, fun y hy hy40 => ?_, fun y l hy hl => ?_⟩
      · obtain ⟨f1, f2, f3, f4, f5⟩ := h4 y hy
        have hy : y < v_n V := hy
        have hyz := (hV.2.1 y hy).1
        refine ⟨f1, f2, f3, ?_, ?_⟩
        · show τ.1 14 y = nI (va_up (v_sz V) x (v_sz V x + 1) y)
          rw [g14]
          by_cases hyx : y = x
          · subst hyx; rw [if_pos rfl, va_up_self]
          · rw [if_neg hyx, va_up_ne _ _ hyx]; exact f4
        · show τ.1 15 y = nI (q_cnt (fun l => decide (0 < va_up (v_dp V) (14 * x + v_sz V x) dd (14 * y + l))) (va_up (v_sz V) x (v_sz V x + 1) y))
          rw [g15]
          by_cases hyx : y = x
          · subst hyx
            rw [if_pos rfl, va_up_self, q_cnt, va_up_self]
            congr 1
            have ec : q_cnt (fun l => decide (0 < va_up (v_dp V) (14 * y + v_sz V y) dd (14 * y + l))) (v_sz V y) = q_quo V y := q_cnt_cg _ (fun i hi => by rw [va_up_ne _ _ (by omega)])
            rw [ec]
            by_cases hd0 : 0 < dd <;> simp [hd0]
          · rw [if_neg hyx, va_up_ne _ _ hyx, f5]
            congr 1
            exact q_cnt_cg _ (fun i hi => by rw [va_up_ne _ _ (by omega)])
      · have hy : v_n V ≤ y := hy
        rw [g14, g15, if_neg (by omega), if_neg (by omega)]
        exact h5 y hy hy40
      · have hy : y < v_n V := hy
        have hl : l < va_up (v_sz V) x (v_sz V x + 1) y := hl
        have hyz := (hV.2.1 y hy).1
        show τ.1 16 (14 * y + l) = nI (va_up (v_dp V) (14 * x + v_sz V x) dd (14 * y + l)) ∧ τ.2.1 17 (14 * y + l) = lN (q_pn (va_up (v_tx V) (14 * x + v_sz V x) t (14 * y + l)))
        rw [g16, g17]
        by_cases hc : 14 * y + l = 14 * x + v_sz V x
        · rw [if_pos hc, if_pos hc, hc, va_up_self, va_up_self]; exact ⟨rfl, rfl⟩
        · have hl' : l < v_sz V y := by
            by_cases hyx : y = x
            · subst hyx; rw [va_up_self] at hl; omega
            · rw [va_up_ne _ _ hyx] at hl; exact hl
          rw [if_neg hc, if_neg hc, va_up_ne _ _ hc, va_up_ne _ _ hc]
          exact h6 y l hy hl'
  · intro g
    have hd0 : dd = 0 := by
      rw [show (0 : Int32) = nI 0 from rfl, nI_leI (by omega) (by decide)] at g; omega
    refine b10_63 (h _ (key _ (fun k k1 k2 k3 => ?_) (fun y => ?_) (fun y => ?_) (fun s => ?_) (fun k hk => ?_) (fun s => ?_)) ?_)
    · rw [q_uc k1, k_uLi, q_uc k3]
    · rw [q_u]; simp only [true_and]; split
      · rfl
      · rw [k_uLi, q_uc (by decide)]
    · rw [q_uc (by decide), k_uLi, q_uc (by decide)]
      split
      · rename_i z; subst z; rw [e15, hd0]; rfl
      · rfl
    · rw [q_uc (by decide), k_uLi, q_u]; simp only [true_and]
    · exact k_uLc (σ := px_uI σ 16 (14 * x + v_sz V x) (nI dd)) (j := 14 * x + v_sz V x) (x := lN (q_pn t)) hk
    · have z := k_uL (px_uI σ 16 (14 * x + v_sz V x) (nI dd)) 17 (14 * x + v_sz V x) (lN (q_pn t)) 17 s; simp only [true_and] at z; exact z
    · exact k_e.tr (k_e.tr (k_e.uI (show k_s3 16 by unfold k_s3; omega)) (k_e.uL (show k_t1 17 from rfl))) (k_e.uI (show k_s3 14 by unfold k_s3; omega))
  · intro g
    have hd0 : 0 < dd := by
      rcases Nat.eq_zero_or_pos dd with z | z
      · rw [z] at g; exact absurd (by decide) g
      · exact z
    refine b10_53 ix ix (b10_63 ?_)
    rw [cx]
    have f15 : (px_uI (px_uL (px_uI σ 16 (14 * x + v_sz V x) (nI dd)) 17 (14 * x + v_sz V x) (lN (q_pn t))) 14 x (nI (v_sz V x + 1))).1 15 x = nI (q_quo V x) := by
      rw [q_uc (by decide), k_uLi, q_uc (by decide)]; exact e15
    rw [f15, nI_1]
    refine h _ (key _ (fun k k1 k2 k3 => ?_) (fun y => ?_) (fun y => ?_) (fun s => ?_) (fun k hk => ?_) (fun s => ?_)) ?_
    · rw [q_uc k2, q_uc k1, k_uLi, q_uc k3]
    · rw [q_uc (by decide), q_u]; simp only [true_and]; split
      · rfl
      · rw [k_uLi, q_uc (by decide)]
    · rw [q_u]; simp only [true_and, hd0, if_true]; split
      · rfl
      · rw [q_uc (by decide), k_uLi, q_uc (by decide)]
    · rw [q_uc (by decide), q_uc (by decide), k_uLi, q_u]; simp only [true_and]
    · exact k_uLc (σ := px_uI σ 16 (14 * x + v_sz V x) (nI dd)) (j := 14 * x + v_sz V x) (x := lN (q_pn t)) hk
    · have z := k_uL (px_uI σ 16 (14 * x + v_sz V x) (nI dd)) 17 (14 * x + v_sz V x) (lN (q_pn t)) 17 s; simp only [true_and] at z; exact z
    · exact k_e.tr (k_e.tr (k_e.tr (k_e.uI (show k_s3 16 by unfold k_s3; omega)) (k_e.uL (show k_t1 17 from rfl))) (k_e.uI (show k_s3 14 by unfold k_s3; omega))) (k_e.uI (show k_s3 15 by unfold k_s3; omega))
theorem c_forgetLetter {x : Nat} (hx : x < 40) (h : ∀ τ, q_eqx (fun k => k = 18) σ τ → (∀ u v, u < 40 → v < 40 → τ.1 18 (40 * u + v) = if u = x ∨ v = x then -1 else σ.1 18 (40 * u + v)) → Q none τ) : Cw (d + 1) 12 [.ref 2, .int (nI x)] σ Q := by
  have loop : ∀ n y (τ : px_S), y + n = 40 → q_eqx (fun k => k = 18) σ τ → (∀ u v, u < 40 → v < 40 → τ.1 18 (40 * u + v) = if (u = x ∧ v < y) ∨ (v = x ∧ u < y) then -1 else σ.1 18 (40 * u + v)) → Wp d tb_12 2 [.ref 2, .int (nI x), .int (nI y)] [] τ Q := by
    intro n
    induction n with
    | zero =>
      intro y τ hy he hr
      refine b12_2 (fun _ => b12_38 (h τ he (fun u v hu hv => ?_))) (fun g => absurd (by rw [show y = 40 by omega]; decide) g)
      rw [hr u v hu hv]
      by_cases hc : u = x ∨ v = x
      · rw [if_pos hc, if_pos (by omega)]
      · rw [if_neg hc, if_neg (by omega)]
    | succ n ih =>
      intro y τ hy he hr
      obtain ⟨i1, c1⟩ := q_lt (j := 40 * x + y) (N := 1600) (by omega) (by decide)
      obtain ⟨i2, c2⟩ := q_lt (j := 40 * y + x) (N := 1600) (by omega) (by decide)
      refine b12_2 (fun g => absurd g (nI_ge (b := 40) (by omega) (by decide))) (fun _ => b12_8 (by rw [q_ix40]; exact i1) (b12_20 (by rw [q_ix40]; exact i2) (b12_32 ?_)))
      rw [q_ix40, q_ix40, c1, c2, nI_1]
      refine ih (y + 1) _ (by omega) ((he.tr (q_eqx.uI rfl)).tr (q_eqx.uI rfl)) (fun u v hu hv => ?_)
      rw [q_u, q_u]
      by_cases ha : u = y ∧ v = x
      · rw [if_pos ⟨rfl, by omega⟩, if_pos (by omega)]
      · rw [if_neg (fun z => ha (by omega))]
        by_cases hb : u = x ∧ v = y
        · rw [if_pos ⟨rfl, by omega⟩, if_pos (by omega)]
        · rw [if_neg (fun z => hb (by omega)), hr u v hu hv]
          by_cases hc : (u = x ∧ v < y) ∨ (v = x ∧ u < y)
          · rw [if_pos hc, if_pos (by omega)]
          · rw [if_neg hc, if_neg (by omega)]
  exact e12 (b12_0 (loop 40 0 σ (by omega) q_eqx.rf (fun u v _ _ => by rw [if_neg (by omega)])))
theorem c_line {x e : Int32} (hV : q_wf V) (hI : k_I V σ) (h : ∀ τ, k_I (sp_line V x e).2 τ → k_fr σ τ → Q (some (.int (sp_line V x e).1)) τ) : Cw (d + 3) 9 [.ref 0, .int x, .int e] σ Q := by
  have hn := hV.1
  refine e9 (b9_0 (c_has hV hI.1 (fun j hj ej => ?_) (fun hno => ?_)))
  · subst ej
    obtain ⟨ij, cj⟩ := q_lt (j := j) (N := 40) (by omega) (by decide)
    have hsz := (hV.2.1 j hj).1
    have e14 := (hI.1.2.2.2.1 j hj).2.2.2.1
    unfold sp_line at h
    rw [if_pos (q_has_nI hn hj), cj] at h
    have out : ¬ q_in e 0 5 → Wp (d + 2) tb_9 24 [.ref 0, .int (nI j), .int e, .null] [] σ Q := fun hz => by
      rw [if_neg hz] at h; exact b9_24 (h σ hI k_fr.rf)
    refine b9_8 (fun _ => b9_15 (fun g => out ?_) (fun g => b9_19 (fun g2 => ?_) (fun g2 => out ?_))) (fun z => absurd (by decide) z)
    · rw [k_neg] at g; intro z; have := z.1; omega
    · rw [k_neg] at g
      rw [k_le (n := 5) (by decide)] at g2
      have hin : q_in e 0 5 := ⟨by omega, by omega⟩
      rw [if_pos hin] at h
      by_cases h14 : v_sz V j = 14
      · rw [if_pos h14] at h
        exact b9_28 ij (fun z => absurd z (by rw [cj, e14, h14]; decide)) (fun _ => b9_42 (h σ hI k_fr.rf))
      · rw [if_neg h14] at h
        obtain ⟨eN, ee⟩ : ∃ eN : Nat, e.toInt = (eN : Int) := ⟨e.toInt.toNat, by omega⟩
        rw [ee] at h
        have ee2 := q_ofInt ee
        subst ee2
        refine b9_28 ij (fun _ => b9_46 ?_) (fun z => absurd (by rw [cj, e14]; exact nI_lt (b := 14) (by omega) (by decide)) z)
        rw [hI.2.2.1.1]
        refine c_addLine hV hI.1 hj (by omega) (by omega) (fun τ hH he => b9_59 (b9_65 (b9_70 (c_forgetLetter (by omega) (fun τ2 he2 h18 => b9_78 (c_forget (b9_82 (h _ ?_ ?_))))))))
        · obtain ⟨i1, i2, i3, i4, i5, i6, -, -, -, i10⟩ := hI
          have c : ∀ k, k ≠ 0 ∧ k ≠ 18 ∧ ¬ k_s3 k → τ2.1 k = σ.1 k := fun k hk => by
            rw [he2.2 k hk.2.1, q_uc hk.1]; exact he.1 k hk.2.2
          have l : ∀ k, k ≠ 0 ∧ k ≠ 17 → τ2.2.1 k = σ.2.1 k := fun k hk => by
            rw [he2.1]; show (px_uL τ 0 8 0).2.1 k = _; rw [k_uLc hk.1]; exact he.2.1 k hk.2
          have l22 : τ2.2.2 = σ.2.2 := by rw [he2.1]; exact he.2.2
          have jH : k_H (vs_ln V j eN (v_dr V)) τ2 := hH.fr (by rw [he2.2 1 (by decide), q_uc (by decide)]; rfl) (fun k k1 k2 => by rw [he2.2 k (by omega), q_uc (by omega)]; rfl) (by rw [he2.1]; show (px_uL τ 0 8 0).2.1 1 = _; exact k_uLc (by decide)) (by rw [he2.1]; show (px_uL τ 0 8 0).2.1 17 = _; exact k_uLc (by decide))
          have jR : k_R V τ2 := i2.fr (c 10 (by unfold k_s3; omega))
          have jS : k_S V τ2 := i4.fr (c 7 (by unfold k_s3; omega)) (c 34 (by unfold k_s3; omega))
          have jB : k_B V τ2 := i5.fr (c 8 (by unfold k_s3; omega)) (c 35 (by unfold k_s3; omega))
          have jC : k_C τ2 := i10.fr (c 33 (by unfold k_s3; omega)) l22
          refine k_I.fg (W := vs_dr (vs_ln V j eN (v_dr V)) []) jH jR ⟨?_, ?_⟩ jS jB (fun u v hu hv => ?_) jC
          · rw [he2.1]; show (px_uL τ 0 8 0).2.1 0 8 = _; rw [k_uL, if_pos ⟨rfl, rfl⟩]; rfl
          · rw [he2.2 0 (by decide), q_u, if_pos ⟨rfl, rfl⟩]; rfl
          · rw [h18 u v hu hv]
            by_cases hc : u = j ∨ v = j
            · exact Or.inl (if_pos hc)
            · rw [if_neg hc, q_uc (by decide)]
              have e18 : (px_uL τ 0 8 0).1 18 = σ.1 18 := he.1 18 (by unfold k_s3; omega)
              rw [e18]
              rcases i6 u v hu hv with g | ⟨g1, g2, g3⟩
              · exact Or.inl g
              · refine Or.inr ⟨g1, g2, ?_⟩
                rw [g3]
                congr 1
                refine (q_fit_cg (V := V) (W := vs_dr (vs_ln V j eN (v_dr V)) []) (va_up_ne _ _ (fun z => hc (Or.inl z))) (va_up_ne _ _ (fun z => hc (Or.inr z))) rfl (fun z k hz hk => ?_)).symm
                have hzn : z < v_n V := by rcases hz with hz | hz <;> rw [hz] <;> assumption
                have hz14 := (hV.2.1 z hzn).1
                have hne : 14 * z + k ≠ 14 * j + v_sz V j := by
                  have : z ≠ j := fun q => hc (by rcases hz with hz | hz <;> rw [← hz] <;> simp [q])
                  omega
                exact ⟨va_up_ne _ _ hne, va_up_ne _ _ hne⟩
        · refine k_fr.tr (k_fr.tr (k_fr.tr (k_fr.tr (he.fr (fun k hk => by unfold k_s3 at hk; omega)) k_fr.uL) (k_fr.uI (by decide))) (fun k hk => he2.2 k (by omega))) k_fg_fr
    · rw [k_le (n := 5) (by decide)] at g2; intro z; have := z.2; omega
  · unfold sp_line at h
    rw [if_neg (fun z => by obtain ⟨j, h1, h2⟩ := q_has_of z; exact hno j h1 h2)] at h
    exact b9_8 (fun g => absurd rfl g) (fun _ => b9_11 (h σ hI k_fr.rf))
end KL
