/-! ===== the reference reads the text ===== -/
def q_B (bs : List Nat) (σ : px_S) : Prop := σ.1 9 29 = nI bs.length ∧ (∀ k, k < bs.length → σ.1 57 k = nI (bs.getD k 0)) ∧ bs.length ≤ 120 ∧ ∀ k, bs.getD k 0 ≤ 255
def q_e9 (J : Nat → Prop) (σ τ : px_S) : Prop := τ.2 = σ.2 ∧ (∀ k, k ≠ 9 → τ.1 k = σ.1 k) ∧ ∀ j, ¬ J j → τ.1 9 j = σ.1 9 j
theorem q_e9.rf {J : Nat → Prop} {σ : px_S} : q_e9 J σ σ := ⟨rfl, fun _ _ => rfl, fun _ _ => rfl⟩
theorem q_e9.tr {J : Nat → Prop} {σ τ υ : px_S} (h1 : q_e9 J σ τ) (h2 : q_e9 J τ υ) : q_e9 J σ υ := ⟨h2.1.trans h1.1, fun k hk => (h2.2.1 k hk).trans (h1.2.1 k hk), fun j hj => (h2.2.2 j hj).trans (h1.2.2 j hj)⟩
theorem q_e9.mono {J K : Nat → Prop} {σ τ : px_S} (h : q_e9 J σ τ) (hJ : ∀ j, J j → K j) : q_e9 K σ τ := ⟨h.1, h.2.1, fun j hj => h.2.2 j (fun z => hj (hJ j z))⟩
theorem q_e9.u {J : Nat → Prop} {σ : px_S} {j : Nat} {x : Int32} (hj : J j) : q_e9 J σ (px_uI σ 9 j x) := ⟨rfl, fun _ hk => q_uc hk, fun _ hi => q_u9n (fun e => hi (by rw [e]; exact hj))⟩
theorem q_B.e {bs : List Nat} {J : Nat → Prop} {σ τ : px_S} (h : q_B bs σ) (he : q_e9 J σ τ) (hJ : ¬ J 29) : q_B bs τ := ⟨by rw [he.2.2 29 hJ]; exact h.1, fun k hk => by rw [he.2.1 57 (by decide)]; exact h.2.1 k hk, h.2.2⟩
theorem q_B.lt {bs : List Nat} {σ : px_S} (h : q_B bs σ) {i : Nat} (hi : σ.1 9 30 = nI i) (hlt : i < bs.length) : ¬ σ.1 9 29 ≤ σ.1 9 30 := by have := h.2.2.1; rw [h.1, hi]; exact nI_ge hlt (by omega)
theorem q_B.ge {bs : List Nat} {σ : px_S} (h : q_B bs σ) {i : Nat} (hi : σ.1 9 30 = nI i) (hlt : bs.length ≤ i) (h2 : i ≤ 120) : σ.1 9 29 ≤ σ.1 9 30 := by rw [h.1, hi]; exact nI_le hlt (by omega)
abbrev q_j1 (j : Nat) : Prop := j = 30
abbrev q_j3 (j : Nat) : Prop := j = 30 ∨ j = 33 ∨ j = 34
abbrev q_jw (j : Nat) : Prop := j = 31 ∨ j = 32
abbrev q_jn (j : Nat) : Prop := j = 30 ∨ j = 31 ∨ j = 32
abbrev q_ja (j : Nat) : Prop := 30 ≤ j ∧ j ≤ 34
theorem q_skp_in {bs : List Nat} {i : Nat} (hi : i ≤ bs.length) : i ≤ q_skp bs i ∧ q_skp bs i ≤ bs.length := by have := q_run_ge (fun k => decide (bs.getD k 0 = 32)) (bs.length - i) i; unfold q_skp; omega
theorem q_wen_in {bs : List Nat} {i : Nat} (hi : i ≤ bs.length) : i ≤ q_wen bs i ∧ q_wen bs i ≤ bs.length := by have := q_run_ge (fun k => decide (97 ≤ bs.getD k 0) && decide (bs.getD k 0 ≤ 122)) (bs.length - i) i; unfold q_wen; omega
theorem q_nen_in {bs : List Nat} {i : Nat} (hi : i ≤ bs.length) : i ≤ q_nen bs i ∧ q_nen bs i ≤ bs.length := by have := q_run_ge (fun k => decide (48 ≤ bs.getD k 0) && decide (bs.getD k 0 ≤ 57)) (bs.length - i) i; unfold q_nen; omega
section QRD
variable {d : Nat} {Q : Option Value → px_S → Prop} {σ : px_S} {V : QV} {bs : List Nat}
theorem m_feed {n : Int32} {y : Int64} (hV : q_wf V) (hM : q_M V σ) (h : ∀ τ, q_M (sp_feed V n y).2 τ → q_mk σ τ → Q (some (.int (sp_feed V n y).1)) τ) : Cw (d + 2) 185 [.ref 9, .int n, .long y] σ Q := by
  have hbl := hV.2.2.2.2.2.2.2.1
  have hb := hM.2.2.2.2.2.2.2.2.1
  refine e185 (b185_0 (m_inI (a' := 1) (b' := 8) (by decide) (by decide) (fun g1 g2 => ?_) (fun g => ?_)))
  · have hin : q_in n 1 8 := ⟨g1, g2⟩
    obtain ⟨c, hc⟩ : ∃ c : Nat, n.toInt = (c : Int) := ⟨n.toInt.toNat, by omega⟩
    have en : n = nI c := q_ofInt hc
    have ec : n.toInt.toNat = c := by omega
    unfold sp_feed at h
    rw [if_pos hin, ec] at h
    refine b185_9 (fun _ => b185_16 (fun g => ?_) (fun g => ?_)) (fun z => absurd (by decide) z)
    · rw [hb.1, en, nI_add, show (120 : Int32) = nI 120 from rfl, nI_leI (by omega) (by omega)] at g
      rw [if_neg (by omega)] at h
      refine b185_31 ?_
      have loop : ∀ k (l : List Nat) (τ : px_S), k ≤ 8 → l.length + k ≤ 120 → l.length + k = (v_by V).length + c → l ++ q_bytes y k = v_by V ++ q_bytes y c → τ.2 = σ.2 → (∀ a, a ≠ 9 → a ≠ 57 → τ.1 a = σ.1 a) → (∀ j, j ≠ 29 → τ.1 9 j = σ.1 9 j) → τ.1 9 29 = nI l.length → (∀ i, i < l.length → τ.1 57 i = nI (l.getD i 0)) → Wp (d + 1) tb_185 36 [.ref 9, .int n, .long y, .null, .int (nI k - 1)] [] τ Q := by
        intro k
        induction k with
        | zero =>
          intro l τ hk hl hl2 hap h2 ha h9 h29 h57
          refine b185_36 (fun _ => b185_78 ?_) (fun g => absurd (by decide) g)
          rw [q_bytes, List.append_nil] at hap
          rw [h29, hap]
          have el : (v_by V ++ q_bytes y c).length = (v_by V).length + c := by rw [List.length_append, q_bytes_len]
          rw [el]
          refine h τ ?_ (q_mk.mc ⟨h2, fun a hcm => ?_⟩)
          · obtain ⟨k1, k2, k3, k4, k5, k6, k7, k8, k10, k11⟩ := hM
            refine ⟨?_, ?_, ?_, ?_, ?_, ?_, ?_, ?_, ?_, ?_⟩
            · rw [h9 1 (by decide)]; exact k1
            · rw [ha 38 (by decide) (by decide), ha 39 (by decide) (by decide), ha 40 (by decide) (by decide), ha 41 (by decide) (by decide), ha 42 (by decide) (by decide)]; exact k2
            · rw [ha 43 (by decide) (by decide), ha 44 (by decide) (by decide), ha 45 (by decide) (by decide)]; exact k3
            · rw [h9 10 (by decide), ha 46 (by decide) (by decide)]; exact k4
            · rw [h9 12 (by decide)]; exact k5
            · rw [h9 13 (by decide)]; exact k6
            · rw [ha 37 (by decide) (by decide)]; exact k7
            · rw [h9 26 (by decide), ha 56 (by decide) (by decide)]; exact k8
            · show τ.1 9 29 = nI (v_by V ++ q_bytes y c).length ∧ ∀ k, k < (v_by V ++ q_bytes y c).length → τ.1 57 k = nI ((v_by V ++ q_bytes y c).getD k 0)
              rw [← hap]; exact ⟨h29, h57⟩
            · rw [h9 32 (by decide)]; exact k11
          · have h1 : a ≠ 9 := fun z => hcm (Or.inl z)
            have h3 : ¬ (37 ≤ a ∧ a ≠ 49) := fun z => hcm (Or.inr z)
            exact ha a h1 (by omega)
        | succ k ih =>
          intro l τ hk hl hl2 hap h2 ha h9 h29 h57
          obtain ⟨i1, c1⟩ := q_lt (j := l.length) (N := 120) (by omega) (by decide)
          rw [nI_pred]
          refine b185_36 (fun g => absurd g (nI_pos (by omega))) (fun _ => b185_41 (by rw [h29]; exact i1) (b185_62 (b185_72 ?_)))
          have e8 : (8 : Int32) * nI k = nI (8 * k) := by rw [show (8 : Int32) = nI 8 from rfl, pk_mul]
          rw [h29, c1, e8, q_byte_s (by omega)]
          have e29 : (px_uI τ 57 l.length (nI (q_byte y k))).1 9 29 = nI l.length := by rw [q_uc (by decide)]; exact h29
          rw [e29, nI_1, q_am1]
          refine ih (l ++ [q_byte y k]) _ (by omega) ?_ ?_ ?_ h2 (fun a a1 a2 => ?_) (fun j hj => ?_) ?_ (fun i hi => ?_)
          · rw [List.length_append]; simp; omega
          · rw [List.length_append]; simp; omega
          · rw [List.append_assoc]; exact hap
          · rw [q_uc a1, q_uc a2]; exact ha a a1 a2
          · rw [q_u9n hj, q_uc (by decide)]; exact h9 j hj
          · rw [q_u9]; simp
          · rw [q_getD_app hi, q_uc (by decide), q_u]
            by_cases hil : i = l.length
            · rw [if_pos ⟨rfl, hil⟩, if_pos hil]
            · rw [if_neg (fun z => hil z.2), if_neg hil]
              exact h57 i (by simp at hi; omega)
      rw [en]
      have := loop c (v_by V) σ (by omega) (by omega) rfl rfl rfl (fun _ _ _ => rfl) (fun _ _ => rfl) hb.1 hb.2
      rw [en] at this
      exact this
    · rw [hb.1, en, nI_add, show (120 : Int32) = nI 120 from rfl, nI_leI (by omega) (by omega)] at g
      rw [if_pos (by omega)] at h
      exact b185_27 (h σ hM q_mk.rf)
  · unfold sp_feed at h
    rw [if_neg g] at h
    exact b185_9 (fun z => absurd rfl z) (fun _ => b185_12 (h σ hM q_mk.rf))
theorem m_look {i : Nat} (hB : q_B bs σ) (hi : i ≤ bs.length) (h30 : σ.1 9 30 = nI i) (h : ∀ τ, q_e9 q_j1 σ τ → τ.1 9 30 = nI (q_skp bs i) → Q (some (.int (if q_skp bs i < bs.length then nI (bs.getD (q_skp bs i) 0) else -1))) τ) : Cw (d + 1) 187 [.ref 9] σ Q := by
  have h120 := hB.2.2.1
  have fin : ∀ (τ : px_S), q_e9 q_j1 σ τ → τ.1 9 30 = nI (q_skp bs i) → Wp d tb_187 38 [.ref 9] [] τ Q := by
    intro τ he e30
    have hBt : q_B bs τ := hB.e he (by decide)
    have hle := q_skp_in hi
    have h := h τ he e30
    by_cases hlt : q_skp bs i < bs.length
    · rw [if_pos hlt] at h
      obtain ⟨i1, c1⟩ := q_lt (j := q_skp bs i) (N := 120) (by omega) (by decide)
      refine b187_38 (fun g => absurd g (hBt.lt e30 hlt)) (fun _ => b187_49 (by rw [e30]; exact i1) (b187_62 ?_))
      rw [e30, c1, hBt.2.1 _ hlt]; exact h
    · rw [if_neg hlt] at h
      exact b187_38 (fun _ => b187_61 (b187_62 h)) (fun g => absurd (hBt.ge e30 (by omega) (by omega)) g)
  have loop : ∀ m k (τ : px_S), k + m = bs.length → q_e9 q_j1 σ τ → τ.1 9 30 = nI k → q_run (fun k => decide (bs.getD k 0 = 32)) m k = q_skp bs i → Wp d tb_187 0 [.ref 9] [] τ Q := by
    intro m
    induction m with
    | zero =>
      intro k τ hk he e30 er
      have hBt : q_B bs τ := hB.e he (by decide)
      exact b187_0 (fun _ => fin τ he (by rw [e30, ← er]; rfl)) (fun g => absurd (hBt.ge e30 (by omega) (by omega)) g)
    | succ m ih =>
      intro k τ hk he e30 er
      have hBt : q_B bs τ := hB.e he (by decide)
      obtain ⟨i1, c1⟩ := q_lt (j := k) (N := 120) (by omega) (by decide)
      have hb := hBt.2.1 k (by omega)
      have h255 := hB.2.2.2 k
      refine b187_0 (fun g => absurd g (hBt.lt e30 (by omega))) (fun _ => b187_11 (by rw [e30]; exact i1) (fun g => ?_) (fun g => b187_25 (b187_35 ?_)))
      · rw [e30, c1, hb] at g
        have : ¬ bs.getD k 0 = 32 := fun e => g (by rw [e]; rfl)
        rw [q_run, decide_eq_false this] at er
        exact fin τ he (by rw [e30, ← er]; rfl)
      · rw [e30, c1, hb, Decidable.not_not] at g
        have : bs.getD k 0 = 32 := (nI_eq (by omega) (by decide)).mp g
        rw [q_run, decide_eq_true this] at er
        rw [e30, nI_1]
        exact ih (k + 1) _ (by omega) (he.tr (q_e9.u rfl)) q_u9 er
  exact e187 (loop (bs.length - i) i σ (by omega) q_e9.rf h30 rfl)
theorem m_takeWord {i : Nat} (hB : q_B bs σ) (hi : i ≤ bs.length) (h30 : σ.1 9 30 = nI i) (h : ∀ τ, q_e9 q_j3 σ τ → τ.1 9 30 = nI (q_wen bs (q_skp bs i)) → τ.1 9 33 = nI (q_skp bs i) → τ.1 9 34 = nI (q_wen bs (q_skp bs i) - q_skp bs i) → Q none τ) : Cw (d + 2) 188 [.ref 9] σ Q := by
  have h120 := hB.2.2.1
  have hs := q_skp_in hi
  refine e188 (b188_0 (m_look hB hi h30 (fun τ he e30 => b188_4 ?_)))
  have he := he.mono (K := q_j3) (fun j hj => Or.inl hj)
  rw [e30]
  have loop : ∀ (z : Int32) m k (τ : px_S), k + m = bs.length → q_skp bs i ≤ k → q_e9 q_j3 σ τ → τ.1 9 30 = nI k → τ.1 9 33 = nI (q_skp bs i) → q_run (fun k => decide (97 ≤ bs.getD k 0) && decide (bs.getD k 0 ≤ 122)) m k = q_wen bs (q_skp bs i) → Wp (d + 1) tb_188 13 [.ref 9, .int z] [] τ Q := by
    intro z m
    have fin : ∀ (τ : px_S), q_e9 q_j3 σ τ → τ.1 9 30 = nI (q_wen bs (q_skp bs i)) → τ.1 9 33 = nI (q_skp bs i) → Wp (d + 1) tb_188 59 [.ref 9, .int z] [] τ Q := by
      intro τ he e30 e33
      have hw := q_wen_in hs.2
      refine b188_59 (b188_72 ?_)
      rw [e30, e33, pk_sub hw.1]
      exact h _ (he.tr (q_e9.u (Or.inr (Or.inr rfl)))) (by rw [q_u9n (by decide)]; exact e30) (by rw [q_u9n (by decide)]; exact e33) q_u9
    induction m with
    | zero =>
      intro k τ hk hsk he e30 e33 er
      have hBt : q_B bs τ := hB.e he (by decide)
      exact b188_13 (fun _ => fin τ he (by rw [e30, ← er]; rfl) e33) (fun g => absurd (hBt.ge e30 (by omega) (by omega)) g)
    | succ m ih =>
      intro k τ hk hsk he e30 e33 er
      have hBt : q_B bs τ := hB.e he (by decide)
      obtain ⟨i1, c1⟩ := q_lt (j := k) (N := 120) (by omega) (by decide)
      have hb := hBt.2.1 k (by omega)
      have h255 := hB.2.2.2 k
      refine b188_13 (fun g => absurd g (hBt.lt e30 (by omega))) (fun _ => b188_24 (by rw [e30]; exact i1) ?_)
      rw [e30, c1, hb]
      refine m_inI (a' := 97) (b' := 122) (by decide) (by decide) (fun g1 g2 => ?_) (fun g => ?_)
      · rw [nI_toInt (by omega)] at g1 g2
        have e : (decide (97 ≤ bs.getD k 0) && decide (bs.getD k 0 ≤ 122)) = true := by rw [Bool.and_eq_true, decide_eq_true_eq, decide_eq_true_eq]; omega
        rw [q_run, e] at er
        refine b188_43 (fun g => absurd g (by decide)) (fun _ => b188_46 (b188_56 ?_))
        rw [e30, nI_1]
        exact ih (k + 1) _ (by omega) (by omega) (he.tr (q_e9.u (Or.inl rfl))) q_u9 (by rw [q_u9n (by decide)]; exact e33) er
      · rw [nI_toInt (by omega)] at g
        have e : (decide (97 ≤ bs.getD k 0) && decide (bs.getD k 0 ≤ 122)) = false := by
          cases hc : (decide (97 ≤ bs.getD k 0) && decide (bs.getD k 0 ≤ 122)) with
          | false => rfl
          | true => rw [Bool.and_eq_true, decide_eq_true_eq, decide_eq_true_eq] at hc; omega
        rw [q_run, e] at er
        exact b188_43 (fun _ => fin τ he (by rw [e30, ← er]; rfl) e33) (fun g => absurd rfl g)
  exact loop _ (bs.length - q_skp bs i) (q_skp bs i) _ (by omega) (Nat.le_refl _) (he.tr (q_e9.u (Or.inr (Or.inl rfl)))) (by rw [q_u9n (by decide)]; exact e30) q_u9 rfl
theorem m_isWord {w : List Nat} {b m : Nat} {x1 x2 x3 x4 x5 x6 : Int32} (hB : q_B bs σ) (hw : w.length ≤ 5) (hw2 : ∀ k, w.getD k 0 ≤ 255) (hbm : b + m ≤ bs.length) (h33 : σ.1 9 33 = nI b) (h34 : σ.1 9 34 = nI m)
    (e1 : x1 = nI w.length) (e2 : x2 = nI (w.getD 0 0)) (e3 : x3 = nI (w.getD 1 0)) (e4 : x4 = nI (w.getD 2 0)) (e5 : x5 = nI (w.getD 3 0)) (e6 : x6 = nI (w.getD 4 0)) (h : Q (some (.int (q_b (q_isw bs b m w)))) σ) : Cw (d + 1) 190 [.ref 9, .int x1, .int x2, .int x3, .int x4, .int x5, .int x6] σ Q := by
  have h120 := hB.2.2.1
  have fin0 : ∀ x8 : Int32, q_isw bs b m w = false → Wp d tb_190 18 [.ref 9, .int x1, .int x2, .int x3, .int x4, .int x5, .int x6, .int 0, .int x8] [] σ Q := by
    intro x8 hz
    rw [hz] at h
    exact b190_18 (fun _ => b190_100 (Or.inl rfl) h) (fun _ => b190_24 (fun _ => b190_100 (Or.inl rfl) h) (fun g => absurd rfl g))
  by_cases hm : m = w.length
  · have loop : ∀ j k, k + j = w.length → Wp d tb_190 18 [.ref 9, .int x1, .int x2, .int x3, .int x4, .int x5, .int x6, .int (q_b (q_all (fun k => decide (bs.getD (b + k) 0 = w.getD k 0)) k)), .int (nI k)] [] σ Q := by
      intro j
      induction j with
      | zero =>
        intro k hk
        have e : k = w.length := by omega
        subst e
        refine b190_18 (fun _ => b190_100 (q_b01 _) ?_) (fun g => absurd (by rw [e1]; exact Int32.le_refl _) g)
        unfold q_isw at h
        rw [decide_eq_true hm, Bool.true_and] at h
        exact h
      | succ j ih =>
        intro k hk
        cases ha : q_all (fun k => decide (bs.getD (b + k) 0 = w.getD k 0)) k with
        | false =>
          refine fin0 _ ?_
          unfold q_isw
          cases hb : q_all (fun k => decide (bs.getD (b + k) 0 = w.getD k 0)) w.length with
          | false => simp
          | true =>
            rw [q_all_iff] at hb
            have : q_all (fun k => decide (bs.getD (b + k) 0 = w.getD k 0)) k = true := (q_all_iff _).mpr (fun i hi => hb i (by omega))
            rw [ha] at this; cases this
        | true =>
          obtain ⟨i1, c1⟩ := q_lt (j := b + k) (N := 120) (by omega) (by decide)
          have hbk := hB.2.1 (b + k) (by omega)
          have l1 := hB.2.2.2 (b + k)
          have l2 := hw2 k
          have cmp : Wp d tb_190 84 [.ref 9, .int x1, .int x2, .int x3, .int x4, .int x5, .int x6, .int 1, .int (nI k)] [.int (nI (w.getD k 0)), .int (nI (bs.getD (b + k) 0))] σ Q := by
            have nxt := ih (k + 1) (by omega)
            rw [q_all, ha, Bool.true_and] at nxt
            refine b190_84 (fun g => b190_91 (b190_92 ?_)) (fun g => b190_87 (b190_92 ?_))
            · rw [nI_eq (by omega) (by omega)] at g
              rw [decide_eq_false g] at nxt
              rw [nI_1]; exact nxt
            · rw [Decidable.not_not, nI_eq (by omega) (by omega)] at g
              rw [decide_eq_true g] at nxt
              rw [nI_1]; exact nxt
          have kk : k = 0 ∨ k = 1 ∨ k = 2 ∨ k = 3 ∨ k = 4 := by omega
          refine b190_18 (fun g => absurd g (by rw [e1]; exact nI_ge (by omega) (by omega))) (fun _ => b190_24 (fun g => absurd g (by decide)) (fun _ => b190_29 (by rw [h33, nI_add]; exact i1) (fun g => ?_) (fun g => ?_)))
          · rw [h33, nI_add, c1, hbk]
            refine b190_50 (fun g1 => b190_60 (fun g2 => b190_71 (fun g3 => b190_82 ?_) (fun g3 => b190_77 ?_)) (fun g2 => b190_66 ?_)) (fun g1 => b190_56 ?_)
            · have : k = 4 := by
                rcases kk with e | e | e | e | e
                · rw [e] at g; exact absurd rfl g
                · rw [e] at g1; exact absurd rfl g1
                · rw [e] at g2; exact absurd rfl g2
                · rw [e] at g3; exact absurd rfl g3
                · exact e
              rw [this] at cmp ⊢; rw [← e6] at cmp; exact cmp
            · have : k = 3 := (nI_eq (b := 3) (by omega) (by decide)).mp (Decidable.not_not.mp g3)
              rw [this] at cmp ⊢; rw [← e5] at cmp; exact cmp
            · have : k = 2 := (nI_eq (b := 2) (by omega) (by decide)).mp (Decidable.not_not.mp g2)
              rw [this] at cmp ⊢; rw [← e4] at cmp; exact cmp
            · have : k = 1 := (nI_eq (b := 1) (by omega) (by decide)).mp (Decidable.not_not.mp g1)
              rw [this] at cmp ⊢; rw [← e3] at cmp; exact cmp
          · have : k = 0 := (nI_eq (b := 0) (by omega) (by decide)).mp (Decidable.not_not.mp g)
            rw [h33, nI_add, c1, hbk]
            refine b190_46 ?_
            rw [this] at cmp ⊢; rw [← e2] at cmp; exact cmp
    exact e190 (b190_0 (fun g => absurd (by rw [h34, e1, hm]) g) (fun _ => b190_8 (b190_13 (loop w.length 0 (by omega)))))
  · have hz : q_isw bs b m w = false := by unfold q_isw; rw [decide_eq_false hm]; rfl
    refine e190 (b190_0 (fun _ => b190_12 (b190_13 (fin0 0 hz))) (fun g => absurd ?_ g))
    rw [h34, e1]
    exact fun z => hm ((nI_eq (by omega) (by omega)).mp z)
theorem q_w255 {w : List Nat} (h : w.all (fun x => decide (x ≤ 255)) = true) (k : Nat) : w.getD k 0 ≤ 255 := by
  rw [List.getD_eq_getElem?_getD]
  cases e : w[k]? with
  | none => simp
  | some x => have := List.all_eq_true.mp h x (List.mem_of_getElem? e); simpa using this
theorem m_kindOf {b m : Nat} (hB : q_B bs σ) (hbm : b + m ≤ bs.length) (h33 : σ.1 9 33 = nI b) (h34 : σ.1 9 34 = nI m) (h : Q (some (.int (q_bi (q_knd bs b m)))) σ) : Cw (d + 2) 189 [.ref 9] σ Q := by
  unfold q_knd at h
  refine e189 (b189_0 (m_isWord (w := [110, 101, 97, 114]) hB (by decide) (q_w255 (by decide)) hbm h33 h34 rfl rfl rfl rfl rfl rfl ?_))
  cases h1 : q_isw bs b m [110, 101, 97, 114] with
  | true => rw [h1] at h; exact b189_14 (fun g => absurd g (by decide)) (fun _ => b189_17 h)
  | false =>
    rw [h1, if_neg (by decide)] at h
    refine b189_14 (fun _ => b189_19 (m_isWord (w := [102, 105, 116]) hB (by decide) (q_w255 (by decide)) hbm h33 h34 rfl rfl rfl rfl rfl rfl ?_)) (fun g => absurd rfl g)
    cases h2 : q_isw bs b m [102, 105, 116] with
    | true => rw [h2] at h; exact b189_32 (fun g => absurd g (by decide)) (fun _ => b189_35 h)
    | false =>
      rw [h2, if_neg (by decide)] at h
      refine b189_32 (fun _ => b189_37 (m_isWord (w := [116, 114, 117, 115, 116]) hB (by decide) (q_w255 (by decide)) hbm h33 h34 rfl rfl rfl rfl rfl rfl ?_)) (fun g => absurd rfl g)
      cases h3 : q_isw bs b m [116, 114, 117, 115, 116] with
      | true => rw [h3] at h; exact b189_52 (fun g => absurd g (by decide)) (fun _ => b189_55 h)
      | false =>
        rw [h3, if_neg (by decide)] at h
        refine b189_52 (fun _ => b189_57 (m_isWord (w := [107, 101, 101, 112]) hB (by decide) (q_w255 (by decide)) hbm h33 h34 rfl rfl rfl rfl rfl rfl ?_)) (fun g => absurd rfl g)
        cases h4 : q_isw bs b m [107, 101, 101, 112] with
        | true => rw [h4] at h; exact b189_71 (fun g => absurd g (by decide)) (fun _ => b189_74 h)
        | false =>
          rw [h4, if_neg (by decide)] at h
          refine b189_71 (fun _ => b189_76 (m_isWord (w := [100, 101, 101, 112]) hB (by decide) (q_w255 (by decide)) hbm h33 h34 rfl rfl rfl rfl rfl rfl ?_)) (fun g => absurd rfl g)
          cases h5 : q_isw bs b m [100, 101, 101, 112] with
          | true => rw [h5] at h; exact b189_90 (fun g => absurd g (by decide)) (fun _ => b189_93 (b189_98 h))
          | false => rw [h5, if_neg (by decide)] at h; exact b189_90 (fun _ => b189_97 (b189_98 h)) (fun g => absurd rfl g)
/-- want, while nothing is at fault yet -/
theorem m_want {b : Bool} {f w : Int32} (h31 : σ.1 9 31 = 0) (hf : ¬ f = 0) (h1 : b = true → Q (some (.int 1)) σ) (h0 : b = false → ∀ τ, q_e9 q_jw σ τ → τ.1 9 31 = f → τ.1 9 32 = w → Q (some (.int 0)) τ) : Cw (d + 1) 191 [.ref 9, .int (q_b b), .int f, .int w] σ Q := by
  cases b with
  | true => exact e191 (b191_0 (fun _ => b191_21 (fun g => absurd h31 g) (fun _ => b191_28 (b191_33 (Or.inr rfl) (h1 rfl)))) (fun g => absurd (by decide) g))
  | false =>
    refine e191 (b191_0 (fun g => absurd rfl g) (fun _ => b191_4 (fun g => absurd h31 g) (fun _ => b191_11 (b191_16 (b191_21 (fun _ => b191_32 (b191_33 (Or.inl rfl) ?_)) (fun g => absurd ?_ g))))))
    · exact h0 rfl _ ((q_e9.u (Or.inl rfl)).tr (q_e9.u (Or.inr rfl))) (by rw [q_u9n (by decide)]; exact q_u9) q_u9
    · rw [q_u9n (by decide), q_u9]; exact hf
end QRD
