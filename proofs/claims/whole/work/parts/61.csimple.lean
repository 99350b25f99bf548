/-! ===== the class: simple calls ===== -/
theorem k_lt {x c : Int32} {n : Int} (hc : c.toInt = n) : x < c ↔ x.toInt < n := by rw [Int32.lt_iff_toInt_lt, hc]
theorem k_le {x c : Int32} {n : Int} (hc : c.toInt = n) : x ≤ c ↔ x.toInt ≤ n := by rw [Int32.le_iff_toInt_le, hc]
theorem k_ge {x c : Int32} {n : Int} (hc : c.toInt = n) : c ≤ x ↔ n ≤ x.toInt := by rw [Int32.le_iff_toInt_le, hc]
theorem k_neg {x : Int32} : x < 0 ↔ x.toInt < 0 := k_lt (by decide)
def vs_ex (V : QV) (dr sg bs : List Nat) (fa : Int32) : QV := (V.1, V.2.1, V.2.2.1, V.2.2.2.1, V.2.2.2.2.1, V.2.2.2.2.2.1, V.2.2.2.2.2.2.1, V.2.2.2.2.2.2.2.1, dr, v_kn V, v_ru V, sg, bs, fa)
section KE
variable {V : QV} {dr sg bs : List Nat} {fa a : Int32}
theorem q_ftl_ex {p : Nat → Option Nat} {x : Nat} : ∀ n, q_ftl (vs_ex V dr sg bs fa) a p x n = q_ftl V a p x n
  | 0 => rfl
  | n + 1 => by rw [q_ftl, q_ftl, q_ftl_ex n]; rfl
theorem q_ch_ex {p : Nat → Option Nat} {x : Nat} : q_ch (vs_ex V dr sg bs fa) a p x = q_ch V a p x := by
  unfold q_ch
  rw [q_ftl_ex]
  rfl
theorem q_ps_ex : ∀ k, q_ps (vs_ex V dr sg bs fa) a k = q_ps V a k
  | 0 => rfl
  | k + 1 => by rw [q_ps, q_ps, q_ps_ex k, q_ch_ex]
theorem q_par_ex : q_par (vs_ex V dr sg bs fa) a = q_par V a := q_ps_ex _
theorem k_K.ex {k : Nat} {σ : px_S} (h : k_K V k σ) : k_K (vs_ex V dr sg bs fa) k σ := by
  rcases h with h | ⟨h1, h2⟩
  · exact Or.inl h
  · refine Or.inr ⟨h1, ?_⟩
    unfold k_kin
    rw [q_par_ex]
    exact h2
theorem k_L.ex {σ : px_S} (h : k_L V σ) : k_L (vs_ex V dr sg bs fa) σ := by
  rcases h with h | h
  · exact Or.inl h
  · refine Or.inr ?_
    unfold k_grp k_row
    rw [q_par_ex]
    exact h
theorem k_I.ex {σ τ : px_S} (h : k_I V σ) (hD : k_D (vs_ex V dr sg bs fa) τ) (hS : k_S (vs_ex V dr sg bs fa) τ) (hB : k_B (vs_ex V dr sg bs fa) τ) (hc : ∀ k, k ≠ 0 → k ≠ 7 → k ≠ 34 → k ≠ 8 → k ≠ 35 → k ≠ 36 → τ.1 k = σ.1 k) (hl : ∀ k, k ≠ 0 → τ.2.1 k = σ.2.1 k) (h22 : τ.2.2 = σ.2.2) : k_I (vs_ex V dr sg bs fa) τ := by
  obtain ⟨i1, i2, -, -, -, i6, i7, i8, i9, i10⟩ := h
  have e : ∀ k, k ≠ 0 ∧ k ≠ 7 ∧ k ≠ 34 ∧ k ≠ 8 ∧ k ≠ 35 ∧ k ≠ 36 → τ.1 k = σ.1 k := fun k hk => hc k hk.1 hk.2.1 hk.2.2.1 hk.2.2.2.1 hk.2.2.2.2.1 hk.2.2.2.2.2
  have j1 : k_H V τ := i1.fr (e 1 (by decide)) (fun k g1 g2 => e k (by omega)) (hl 1 (by decide)) (hl 17 (by decide))
  have j2 : k_R V τ := i2.fr (e 10 (by decide))
  have j6 : k_F V τ := i6.fr (e 18 (by decide))
  have j7 : k_K V 3 τ := i7.fr (e 3 (by decide)) (e 21 (by decide)) (e 22 (by decide)) (hl 3 (by decide))
  have j8 : k_K V 4 τ := i8.fr (e 4 (by decide)) (e 23 (by decide)) (e 24 (by decide)) (hl 4 (by decide))
  have j9 : k_L V τ := i9.fr (e 5 (by decide)) (e 25 (by decide)) (e 26 (by decide)) (e 27 (by decide)) (e 6 (by decide)) (hl 32 (by decide))
  exact ⟨j1, j2, hD, hS, hB, j6, j7.ex, j8.ex, j9.ex, i10.fr (e 33 (by decide)) h22⟩
end KE
def k_fg (σ : px_S) : px_S := px_uI (px_uI (px_uI σ 3 5 0) 4 5 0) 5 8 0
theorem k_fg_c {σ : px_S} {k : Nat} (h3 : k ≠ 3) (h4 : k ≠ 4) (h5 : k ≠ 5) : (k_fg σ).1 k = σ.1 k := by unfold k_fg; rw [q_uc h5, q_uc h4, q_uc h3]
theorem k_fg_l {σ : px_S} : (k_fg σ).2 = σ.2 := rfl
theorem k_fg_3 {σ : px_S} : (k_fg σ).1 3 5 = 0 := by unfold k_fg; rw [q_uc (by decide), q_uc (by decide), q_u, if_pos ⟨rfl, rfl⟩]
theorem k_fg_4 {σ : px_S} : (k_fg σ).1 4 5 = 0 := by unfold k_fg; rw [q_uc (by decide), q_u, if_pos ⟨rfl, rfl⟩]
theorem k_fg_5 {σ : px_S} : (k_fg σ).1 5 8 = 0 := by unfold k_fg; rw [q_u, if_pos ⟨rfl, rfl⟩]
/-- the findings are forgotten: what else must hold -/
theorem k_I.fg {W : QV} {τ : px_S} (h1 : k_H W τ) (h2 : k_R W τ) (h3 : k_D W τ) (h4 : k_S W τ) (h5 : k_B W τ) (h6 : k_F W τ) (h7 : k_C τ) : k_I W (k_fg τ) :=
  ⟨h1.fr (k_fg_c (by decide) (by decide) (by decide)) (fun k g1 g2 => k_fg_c (by omega) (by omega) (by omega)) rfl rfl, h2.fr (k_fg_c (by decide) (by decide) (by decide)), h3.fr (k_fg_c (by decide) (by decide) (by decide)) rfl, h4.fr (k_fg_c (by decide) (by decide) (by decide)) (k_fg_c (by decide) (by decide) (by decide)), h5.fr (k_fg_c (by decide) (by decide) (by decide)) (k_fg_c (by decide) (by decide) (by decide)), h6.fr (k_fg_c (by decide) (by decide) (by decide)), Or.inl k_fg_3, Or.inl k_fg_4, Or.inl k_fg_5, h7.fr (k_fg_c (by decide) (by decide) (by decide)) rfl⟩
theorem k_fg_fr {σ : px_S} : k_fr σ (k_fg σ) := fun k hk => k_fg_c (by omega) (by omega) (by omega)
theorem k_fr.uI {σ : px_S} {k j : Nat} {x : Int32} (hk : k ≠ 9 ∧ k < 37) : k_fr σ (px_uI σ k j x) := fun a ha => q_uc (by omega)
theorem k_fr.uL {σ : px_S} {k j : Nat} {x : Int64} : k_fr σ (px_uL σ k j x) := fun _ _ => rfl
section KS
variable {d : Nat} {Q : Option Value → px_S → Prop} {σ : px_S} {V : QV}
theorem c_forget (h : Q none (k_fg σ)) : Cw (d + 1) 7 [.ref 0] σ Q := e7 (b7_0 (b7_8 (b7_16 (b7_24 h))))
theorem c_spotOf {x l : Nat} (h : Q (some (.int (nI (14 * x + l)))) σ) : Cw (d + 1) 11 [.int (nI x), .int (nI l)] σ Q := e11 (b11_0 (by rw [q_ix14]; exact h))
theorem c_has {x : Int32} (hV : q_wf V) (hH : k_H V σ) (h1 : ∀ j, j < v_n V → x = nI j → Q (some (.int 1)) σ) (h0 : (∀ j, j < v_n V → ¬ x = nI j) → Q (some (.int 0)) σ) : Cw (d + 1) 4 [.ref 1, .int x] σ Q := by
  have hn := hV.1
  refine e4 (b4_0 (fun g => b4_16 (b4_17 (Or.inl rfl) (h0 (fun j hj e => ?_)))) (fun g => b4_4 (fun g2 => b4_16 (b4_17 (Or.inl rfl) (h0 (fun j hj e => ?_)))) (fun g2 => b4_12 (b4_17 (Or.inr rfl) ?_))))
  · rw [e] at g; exact nI_pos (by omega) g
  · rw [hH.1, e] at g2; exact nI_ge hj (by omega) g2
  · rw [hH.1] at g2
    obtain ⟨j, hj, e⟩ := nI_of g
    refine h1 j ?_ e
    rw [e, nI_leI (by omega) hj] at g2
    omega
theorem c_isTaken {x : Nat} (hV : q_wf V) (hH : k_H V σ) (hx : x < v_n V) (h : Q (some (.int (q_b (v_tk V x)))) σ) : Cw (d + 1) 16 [.ref 1, .int (nI x)] σ Q := by
  have hn := hV.1
  have hs := hH.2.2.1.u0 (x := x) (by omega)
  rw [decide_eq_true hx, Bool.true_and] at hs
  refine e16 (b16_0 (fun g => b16_17 (b16_18 (Or.inl rfl) ?_)) (fun g => b16_13 (b16_18 (Or.inr rfl) ?_)))
  · rw [hs.mp g] at h; exact h
  · cases hb : v_tk V x with
    | true => rw [hb] at h; exact h
    | false => exact absurd (hs.mpr hb) g
theorem c_isSeenWith {x : Nat} {a : Int32} (hV : q_wf V) (hH : k_H V σ) (hx : x < v_n V) (h : Q (some (.int (q_b (q_seen V a x)))) σ) : Cw (d + 2) 22 [.ref 1, .int (nI x), .int a] σ Q := by
  have hn := hV.1
  have hk := hH.2.1
  have kn := hV.2.2.2.2.1
  have no : q_seen V a x = false → Wp (d + 1) tb_22 33 [.ref 1, .int (nI x), .int a] [] σ Q := fun hz => by rw [hz] at h; exact b22_33 (b22_34 (Or.inl rfl) h)
  have yes : q_seen V a x = true → Wp (d + 1) tb_22 29 [.ref 1, .int (nI x), .int a] [] σ Q := fun hz => by rw [hz] at h; exact b22_29 (b22_34 (Or.inr rfl) h)
  have mid : (v_kn V < 0 ∨ nI x < v_kn V) → Wp (d + 1) tb_22 16 [.ref 1, .int (nI x), .int a] [] σ Q := by
    intro hz
    have hz' : (decide (v_kn V < 0) || decide (nI x < v_kn V)) = true := by simpa using hz
    refine b22_16 (fun g => yes (by unfold q_seen; rw [hz', decide_eq_true g]; simp)) (fun g => b22_21 (c_isTaken hV hH hx (b22_26 (fun g2 => no ?_) (fun g2 => yes ?_))))
    · have hb : v_tk V x = true := by
        cases hb : v_tk V x with
        | true => rfl
        | false => rw [hb] at g2; exact absurd rfl g2
      unfold q_seen; rw [hz', hb, decide_eq_false g]; rfl
    · have hb : v_tk V x = false := q_bz.mp (Decidable.not_not.mp g2)
      unfold q_seen; rw [hz', hb]; rfl
  refine e22 (b22_0 (fun g => ?_) (fun g => b22_8 (fun g2 => ?_) (fun g2 => ?_)))
  · rw [hk] at g
    exact mid (Or.inl (by rw [g]; decide))
  · rw [hk] at g g2
    have hneg : ¬ v_kn V < 0 := by
      rcases kn with e | ⟨k, k1, k2⟩
      · exact absurd e g
      · rw [k2]; exact nI_pos (by omega)
    exact no (by unfold q_seen; rw [decide_eq_false hneg, decide_eq_false (Int32.not_lt.mpr g2)]; rfl)
  · rw [hk] at g2
    exact mid (Or.inr (Int32.not_le.mp g2))
theorem c_isSeen {x : Nat} (hV : q_wf V) (hH : k_H V σ) (hx : x < v_n V) (h : Q (some (.int (q_b (q_seen V (-1) x)))) σ) : Cw (d + 3) 21 [.ref 1, .int (nI x)] σ Q :=
  e21 (b21_0 (c_isSeenWith hV hH hx (b21_6 (q_b01 _) h)))
theorem c_wrongWriter {x : Int32} (h1 : ¬ q_in x 0 9 → Q (some (.int 1)) σ) (h0 : q_in x 0 9 → Q (some (.int 0)) σ) : Cw (d + 1) 5 [.int x] σ Q := by
  refine e5 (b5_0 (fun g => b5_10 (b5_15 (Or.inr rfl) (h1 ?_))) (fun g => b5_4 (fun g2 => b5_14 (b5_15 (Or.inl rfl) (h0 ?_))) (fun g2 => b5_10 (b5_15 (Or.inr rfl) (h1 ?_)))))
  · rw [k_neg] at g; intro z; have := z.1; omega
  · rw [k_neg] at g; rw [k_le (n := 9) (by decide)] at g2; exact ⟨by omega, by omega⟩
  · rw [k_le (n := 9) (by decide)] at g2; intro z; have := z.2; omega
theorem c_wrongDay {x : Int32} (h1 : ¬ q_in x (-1) 9999 → Q (some (.int 1)) σ) (h0 : q_in x (-1) 9999 → Q (some (.int 0)) σ) : Cw (d + 1) 6 [.int x] σ Q := by
  refine e6 (b6_0 (fun g => b6_12 (b6_17 (Or.inr rfl) (h1 ?_))) (fun g => b6_5 (fun g2 => b6_16 (b6_17 (Or.inl rfl) (h0 ?_))) (fun g2 => b6_12 (b6_17 (Or.inr rfl) (h1 ?_)))))
  · rw [k_lt (n := -1) (by decide)] at g; intro z; have := z.1; omega
  · rw [k_lt (n := -1) (by decide)] at g; rw [k_le (n := 9999) (by decide)] at g2; exact ⟨by omega, by omega⟩
  · rw [k_le (n := 9999) (by decide)] at g2; intro z; have := z.2; omega
theorem c_word {w : Int32} (hV : q_wf V) (hI : k_I V σ) (h : ∀ τ, k_I (sp_word V w).2 τ → k_fr σ τ → Q (some (.int (sp_word V w).1)) τ) : Cw (d + 2) 1 [.ref 0, .int w] σ Q := by
  have hw := hV.2.2.2.1
  have hl := hw.1
  obtain ⟨hd1, hd2⟩ := hI.2.2.1
  have out : ¬ q_in w 1 63 → Wp (d + 1) tb_1 11 [.ref 0, .int w] [] σ Q := by
    intro hz
    have e : sp_word V w = (-1002, V) := by unfold sp_word; rw [if_neg hz]
    rw [e] at h
    exact b1_11 (h σ hI k_fr.rf)
  refine e1 (b1_0 (fun g => out ?_) (fun g => b1_5 (fun g2 => ?_) (fun g2 => out ?_)))
  · rw [k_lt (n := 1) (by decide)] at g; intro z; have := z.1; omega
  · rw [k_lt (n := 1) (by decide)] at g
    rw [k_le (n := 63) (by decide)] at g2
    have hin : q_in w 1 63 := ⟨by omega, by omega⟩
    by_cases h8 : (v_dr V).length = 8
    · have e : sp_word V w = (-1004, V) := by unfold sp_word; rw [if_pos hin, if_pos h8]
      rw [e] at h
      refine b1_15 (fun z => absurd z ?_) (fun _ => b1_24 (h σ hI k_fr.rf))
      rw [hd2, h8]; decide
    · obtain ⟨wN, ew⟩ : ∃ wN : Nat, w.toInt = (wN : Int) := ⟨w.toInt.toNat, by omega⟩
      have e : sp_word V w = (nI ((v_dr V).length + 1), vs_dr V (v_dr V ++ [wN])) := by
        unfold sp_word; rw [if_pos hin, if_neg h8, ew]; rfl
      rw [e] at h
      have ew2 := q_ofInt ew
      subst ew2
      refine b1_15 (fun _ => b1_28 (e2 (b2_0 (b1_41 (b1_44 (b1_54 ?_)))))) (fun z => absurd ?_ z)
      · rw [hd1, hd2, k_with hw (by omega) (by omega)]
        have e9 : (px_uL σ 0 8 (lN (q_pn (v_dr V ++ [wN])))).1 0 9 = nI (v_dr V).length := hd2
        rw [e9, nI_1]
        have e10 : (px_uI (px_uL σ 0 8 (lN (q_pn (v_dr V ++ [wN])))) 0 9 (nI ((v_dr V).length + 1))).1 0 9 = nI ((v_dr V).length + 1) := by rw [q_u, if_pos ⟨rfl, rfl⟩]
        rw [e10]
        refine h _ ?_ (k_fr.tr k_fr.uL (k_fr.uI (by decide)))
        refine k_I.ex (V := V) (dr := v_dr V ++ [wN]) (sg := v_sg V) (bs := v_by V) (fa := v_fa V) hI ⟨?_, ?_⟩ ?_ ?_ (fun k h0 _ _ _ _ _ => ?_) (fun k h0 => ?_) rfl
        · show (px_uL σ 0 8 _).2.1 0 8 = _
          rw [k_uL, if_pos ⟨rfl, rfl⟩]; rfl
        · rw [e10]; show _ = nI (v_dr V ++ [wN]).length; simp
        · exact hI.2.2.2.1.fr (q_uc (by decide)) (q_uc (by decide))
        · exact hI.2.2.2.2.1.fr (q_uc (by decide)) (q_uc (by decide))
        · rw [q_uc h0]; rfl
        · show (px_uL σ 0 8 _).2.1 k = _
          exact k_uLc h0
      · rw [hd2]; exact nI_lt (b := 8) (by omega) (by decide)
  · rw [k_le (n := 63) (by decide)] at g2; intro z; have := z.2; omega
theorem c_sign {w : Int32} (hV : q_wf V) (hI : k_I V σ) (h : ∀ τ, k_I (sp_sign V w).2 τ → k_fr σ τ → Q (some (.int (sp_sign V w).1)) τ) : Cw (d + 2) 94 [.ref 0, .int w] σ Q := by
  have hl := hV.2.2.2.2.2.2.1.1
  obtain ⟨hd1, hd2⟩ := hI.2.2.2.1
  have out : ¬ q_in w 0 63 → Wp (d + 1) tb_94 10 [.ref 0, .int w] [] σ Q := by
    intro hz
    have e : sp_sign V w = (-1002, V) := by unfold sp_sign; rw [if_neg hz]
    rw [e] at h
    exact b94_10 (h σ hI k_fr.rf)
  refine e94 (b94_0 (fun g => out ?_) (fun g => b94_4 (fun g2 => ?_) (fun g2 => out ?_)))
  · rw [k_neg] at g; intro z; have := z.1; omega
  · rw [k_neg] at g
    rw [k_le (n := 63) (by decide)] at g2
    have hin : q_in w 0 63 := ⟨by omega, by omega⟩
    by_cases h8 : (v_sg V).length = 4
    · have e : sp_sign V w = (-1004, V) := by unfold sp_sign; rw [if_pos hin, if_pos h8]
      rw [e] at h
      refine b94_14 (fun z => absurd z ?_) (fun _ => b94_25 (b94_39 (h σ hI k_fr.rf)))
      rw [hd1, h8]; decide
    · obtain ⟨wN, ew⟩ : ∃ wN : Nat, w.toInt = (wN : Int) := ⟨w.toInt.toNat, by omega⟩
      have e : sp_sign V w = (nI ((v_sg V).length + 1), vs_sg V (v_sg V ++ [wN])) := by
        unfold sp_sign; rw [if_pos hin, if_neg h8, ew]; rfl
      rw [e] at h
      have ew2 := q_ofInt ew
      subst ew2
      obtain ⟨ii, ci⟩ := q_lt (j := (v_sg V).length) (N := 4) (by omega) (by decide)
      refine b94_14 (fun _ => b94_31 (e95 (b95_0 (fun z => absurd z ?_) (fun _ => b95_8 (by rw [hd1]; exact ii) (b95_18 (b95_28 (b94_39 ?_))))))) (fun z => absurd ?_ z)
      · rw [hd1]; exact nI_ge (b := 4) (by omega) (by decide)
      · rw [hd1, ci]
        have e9 : (px_uI σ 34 (v_sg V).length (nI wN)).1 7 1 = nI (v_sg V).length := by rw [q_uc (by decide)]; exact hd1
        rw [e9, nI_1]
        have e10 : (px_uI (px_uI σ 34 (v_sg V).length (nI wN)) 7 1 (nI ((v_sg V).length + 1))).1 7 1 = nI ((v_sg V).length + 1) := by rw [q_u, if_pos ⟨rfl, rfl⟩]
        rw [e10]
        refine h _ ?_ (k_fr.tr (k_fr.uI (by decide)) (k_fr.uI (by decide)))
        refine k_I.ex (V := V) (dr := v_dr V) (sg := v_sg V ++ [wN]) (bs := v_by V) (fa := v_fa V) hI ?_ ⟨?_, fun k hk => ?_⟩ ?_ (fun k _ h1 h2 _ _ _ => ?_) (fun k h0 => rfl) rfl
        · exact hI.2.2.1.fr (by rw [q_uc (by decide), q_uc (by decide)]) rfl
        · rw [e10]; show _ = nI (v_sg V ++ [wN]).length; simp
        · have hk' : k < (v_sg V ++ [wN]).length := hk
          show _ = nI ((v_sg V ++ [wN]).getD k 0)
          rw [q_getD_app hk', q_uc (by decide), q_u]
          by_cases hkl : k = (v_sg V).length
          · rw [if_pos ⟨rfl, hkl⟩, if_pos hkl]
          · rw [if_neg (fun z => hkl z.2), if_neg hkl]
            exact hd2 k (by simp at hk'; omega)
        · exact hI.2.2.2.2.1.fr (by rw [q_uc (by decide), q_uc (by decide)]) (by rw [q_uc (by decide), q_uc (by decide)])
        · rw [q_uc h1, q_uc h2]
      · rw [hd1]; exact nI_lt (b := 4) (by omega) (by decide)
  · rw [k_le (n := 63) (by decide)] at g2; intro z; have := z.2; omega
theorem c_clear (hI : k_I V σ) (h : ∀ τ, k_I (sp_clear V).2 τ → k_fr σ τ → Q (some (.int (sp_clear V).1)) τ) : Cw (d + 1) 96 [.ref 0] σ Q := by
  obtain ⟨hd1, hd2⟩ := hI.2.2.2.1
  refine e96 (b96_0 (b96_16 ?_))
  rw [hd1]
  refine h _ ?_ (k_fr.uI (by decide))
  refine k_I.ex (V := V) (dr := v_dr V) (sg := []) (bs := v_by V) (fa := v_fa V) hI ?_ ⟨?_, fun k hk => absurd hk (Nat.not_lt_zero _)⟩ ?_ (fun k _ h1 _ _ _ _ => q_uc h1) (fun k h0 => rfl) rfl
  · exact hI.2.2.1.fr (q_uc (by decide)) rfl
  · rw [q_u, if_pos ⟨rfl, rfl⟩]; rfl
  · exact hI.2.2.2.2.1.fr (q_uc (by decide)) (q_uc (by decide))
theorem c_fault (hI : k_I V σ) (h : Q (some (.int (v_fa V))) σ) : Cw (d + 1) 126 [.ref 0] σ Q := e126 (b126_0 (by rw [hI.2.2.2.2.1.2.2]; exact h))
theorem c_rule {k : Int32} (hI : k_I V σ) (h : Q (some (.int (sp_rule V k).1)) σ) : Cw (d + 1) 127 [.ref 0, .int k] σ Q := by
  unfold sp_rule at h
  dsimp only at h
  refine e127 (b127_0 (fun g => b127_9 (b127_21 ?_)) (fun g => b127_4 (fun g2 => ?_) (fun g2 => b127_9 (b127_21 ?_))))
  · rw [k_neg] at g; rw [if_neg (by intro z; have := z.1; omega)] at h; exact h
  · rw [k_neg] at g; rw [k_lt (n := 5) (by decide)] at g2
    rw [if_pos ⟨by omega, by omega⟩] at h
    obtain ⟨j, ej⟩ : ∃ j : Nat, k.toInt = (j : Int) := ⟨k.toInt.toNat, by omega⟩
    have ej2 := q_ofInt ej
    subst ej2
    obtain ⟨ii, ci⟩ := q_lt (j := j) (N := 5) (by omega) (by decide)
    refine b127_15 ii (b127_21 ?_)
    rw [ci] at h ⊢
    rw [hI.2.1 j (by omega)]
    exact h
  · rw [k_lt (n := 5) (by decide)] at g2; rw [if_neg (by intro z; have := z.2; omega)] at h; exact h
theorem k_tkn {τ : px_S} {j : Nat} {b : Bool} (hj : j < v_n V) (h : q_set (σ.2.1 1 9) (fun x => decide (x < v_n V) && v_tk V x)) (hb : b = !v_tk V j) (hn : v_n V ≤ 40) (e : τ.2.1 1 9 = (σ.2.1 1 9) ^^^ ((1 : Int64) <<< ((nI j).toInt64 &&& 63))) : q_set (τ.2.1 1 9) (fun x => decide (x < v_n V) && va_up (v_tk V) j b x) := by
  rw [e]
  have h2 := h.turn (x := j) (by omega)
  intro i hi
  rw [h2 i hi]
  by_cases hij : i = j
  · subst hij
    rw [va_up_self]
    show _ = (decide (i < v_n V) && va_up (v_tk V) i b i)
    rw [va_up_self, decide_eq_true hj, hb]; rfl
  · rw [va_up_ne _ _ hij]
    show _ = (decide (i < v_n V) && va_up (v_tk V) j b i)
    rw [va_up_ne _ _ hij]
theorem k_H.tk {τ : px_S} {j : Nat} {b : Bool} (hH : k_H V σ) (hn : v_n V ≤ 40) (hj : j < v_n V) (hb : b = !v_tk V j) (e1 : τ.1 = σ.1) (e17 : τ.2.1 17 = σ.2.1 17) (e : τ.2.1 1 9 = (σ.2.1 1 9) ^^^ ((1 : Int64) <<< ((nI j).toInt64 &&& 63))) : k_H (vs_tk V (va_up (v_tk V) j b)) τ := by
  obtain ⟨h1, h2, h3, h4, h5, h6⟩ := hH
  unfold k_H
  rw [e1, e17]
  exact ⟨h1, h2, k_tkn hj h3 hb hn e, h4, h5, h6⟩
theorem c_turn {j : Nat} (hV : q_wf V) (hI : k_I V σ) (hj : j < v_n V) {b : Bool} (hb : b = !v_tk V j) (h : ∀ τ, k_I (vs_tk V (va_up (v_tk V) j b)) (k_fg τ) → k_fr σ τ → Q none τ) : Cw (d + 1) 17 [.ref 1, .int (nI j)] σ Q := by
  refine e17 (b17_0 (b17_12 (h _ ?_ k_fr.uL)))
  obtain ⟨i1, i2, i3, i4, i5, i6, -, -, -, i10⟩ := hI
  exact k_I.fg (i1.tk hV.1 hj hb rfl (k_uLc (by decide)) (by rw [k_uL, if_pos ⟨rfl, rfl⟩])) i2 (i3.fr rfl (k_uLc (by decide))) i4 i5 i6 i10
theorem c_take {x : Int32} (hV : q_wf V) (hI : k_I V σ) (h : ∀ τ, k_I (sp_take V x).2 τ → k_fr σ τ → Q (some (.int (sp_take V x).1)) τ) : Cw (d + 2) 15 [.ref 0, .int x] σ Q := by
  have hn := hV.1
  refine e15 (b15_0 (c_has hV hI.1 (fun j hj ej => ?_) (fun hno => ?_)))
  · subst ej
    have cj : (nI j).toNatClampNeg = j := nI_clamp (by omega)
    unfold sp_take at h
    rw [if_pos (q_has_nI hn hj), cj] at h
    refine b15_8 (fun _ => b15_15 (c_isTaken hV hI.1 hj (b15_23 (fun g => ?_) (fun g => ?_)))) (fun g => absurd (by decide) g)
    · have hb := q_bz.mp g
      rw [if_neg (by rw [hb]; decide)] at h
      exact b15_30 (c_turn (b := true) hV hI hj (by rw [hb]; rfl) (fun τ hIt hf => b15_38 (c_forget (b15_42 (h _ hIt (hf.tr k_fg_fr))))))
    · have hb : v_tk V j = true := by
        cases hb : v_tk V j with
        | true => rfl
        | false => exact absurd (q_bz.mpr hb) g
      rw [if_pos hb] at h
      exact b15_26 (h σ hI k_fr.rf)
  · unfold sp_take at h
    rw [if_neg (fun z => by obtain ⟨j, h1, h2⟩ := q_has_of z; exact hno j h1 h2)] at h
    exact b15_8 (fun g => absurd rfl g) (fun _ => b15_11 (h σ hI k_fr.rf))
theorem c_put {x : Int32} (hV : q_wf V) (hI : k_I V σ) (h : ∀ τ, k_I (sp_put V x).2 τ → k_fr σ τ → Q (some (.int (sp_put V x).1)) τ) : Cw (d + 2) 18 [.ref 0, .int x] σ Q := by
  have hn := hV.1
  refine e18 (b18_0 (c_has hV hI.1 (fun j hj ej => ?_) (fun hno => ?_)))
  · subst ej
    have cj : (nI j).toNatClampNeg = j := nI_clamp (by omega)
    unfold sp_put at h
    rw [if_pos (q_has_nI hn hj), cj] at h
    refine b18_8 (fun _ => b18_15 (c_isTaken hV hI.1 hj (b18_23 (fun g => ?_) (fun g => ?_)))) (fun g => absurd (by decide) g)
    · have hb : v_tk V j = true := by
        cases hb : v_tk V j with
        | true => rfl
        | false => exact absurd (q_bz.mpr hb) g
      rw [if_pos hb] at h
      exact b18_30 (c_turn (b := false) hV hI hj (by rw [hb]; rfl) (fun τ hIt hf => b18_38 (c_forget (b18_42 (h _ hIt (hf.tr k_fg_fr))))))
    · have hb := q_bz.mp (Decidable.not_not.mp g)
      rw [if_neg (by rw [hb]; decide)] at h
      exact b18_26 (h σ hI k_fr.rf)
  · unfold sp_put at h
    rw [if_neg (fun z => by obtain ⟨j, h1, h2⟩ := q_has_of z; exact hno j h1 h2)] at h
    exact b18_8 (fun g => absurd rfl g) (fun _ => b18_11 (h σ hI k_fr.rf))
theorem c_known {k : Int32} (hV : q_wf V) (hI : k_I V σ) (h : ∀ τ, k_I (sp_known V k).2 τ → k_fr σ τ → Q (some (.int (sp_known V k).1)) τ) : Cw (d + 2) 19 [.ref 0, .int k] σ Q := by
  have hn := hV.1
  have out : ¬ q_in k (-1) (v_n V) → Wp (d + 1) tb_19 16 [.ref 0, .int k] [] σ Q := by
    intro hz
    unfold sp_known at h
    rw [if_neg hz] at h
    exact b19_16 (h σ hI k_fr.rf)
  refine e19 (b19_0 (fun g => out ?_) (fun g => b19_5 (fun g2 => ?_) (fun g2 => out ?_)))
  · rw [k_lt (n := -1) (by decide)] at g; intro z; have := z.1; omega
  · rw [k_lt (n := -1) (by decide)] at g
    rw [hI.1.1, k_le (n := (v_n V : Int)) (nI_toInt (by omega))] at g2
    unfold sp_known at h
    rw [if_pos ⟨by omega, g2⟩] at h
    refine b19_20 (b19_28 (c_forget (b19_32 (h _ ?_ (k_fr.tr (k_fr.uI (by decide)) k_fg_fr)))))
    obtain ⟨⟨h1, h2, h3, h4, h5, h6⟩, i2, i3, i4, i5, i6, -, -, -, i10⟩ := hI
    refine k_I.fg ?_ (i2.fr (q_uc (by decide))) (i3.fr (q_uc (by decide)) rfl) (i4.fr (q_uc (by decide)) (q_uc (by decide))) (i5.fr (q_uc (by decide)) (q_uc (by decide))) (i6.fr (q_uc (by decide))) (i10.fr (q_uc (by decide)) rfl)
    have hc : ∀ a, a ≠ 1 → (px_uI σ 1 8 k).1 a = σ.1 a := fun a ha => q_uc ha
    unfold k_H
    rw [hc 11 (by decide), hc 12 (by decide), hc 13 (by decide), hc 14 (by decide), hc 15 (by decide), hc 16 (by decide)]
    exact ⟨by rw [q_u, if_neg (by decide)]; exact h1, by rw [q_u, if_pos ⟨rfl, rfl⟩]; rfl, h3, h4, h5, h6⟩
  · rw [hI.1.1, k_le (n := (v_n V : Int)) (nI_toInt (by omega))] at g2
    intro z; have := z.2; omega
end KS
