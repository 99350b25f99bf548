/-! ===== the reference's states of rows ===== -/
def q_enc (u : Nat → Nat) : Nat := u 0 + 15 * u 1 + 225 * u 2 + 3375 * u 3
def q_de (s k : Nat) : Nat := if k = 0 then s % 15 else if k = 1 then s / 15 % 15 else if k = 2 then s / 225 % 15 else if k = 3 then s / 3375 else 0
theorem q_enc_de {s : Nat} (h : s < 50625) : q_enc (q_de s) = s := by
  show s % 15 + 15 * (s / 15 % 15) + 225 * (s / 225 % 15) + 3375 * (s / 3375) = s
  omega
theorem q_de_enc {u : Nat → Nat} (hu : ∀ k, u k ≤ 14) {k : Nat} (hk : k < 4) : q_de (q_enc u) k = u k := by
  have h0 := hu 0; have h1 := hu 1; have h2 := hu 2; have h3 := hu 3
  have kk : k = 0 ∨ k = 1 ∨ k = 2 ∨ k = 3 := by omega
  unfold q_enc
  rcases kk with e | e | e | e <;> subst e
  · show (u 0 + 15 * u 1 + 225 * u 2 + 3375 * u 3) % 15 = u 0; omega
  · show (u 0 + 15 * u 1 + 225 * u 2 + 3375 * u 3) / 15 % 15 = u 1; omega
  · show (u 0 + 15 * u 1 + 225 * u 2 + 3375 * u 3) / 225 % 15 = u 2; omega
  · show (u 0 + 15 * u 1 + 225 * u 2 + 3375 * u 3) / 3375 = u 3; omega
theorem q_enc_lt {u : Nat → Nat} (hu : ∀ k, u k ≤ 14) : q_enc u < 50625 := by
  have h0 := hu 0; have h1 := hu 1; have h2 := hu 2; have h3 := hu 3
  unfold q_enc; omega
/-- the pieces as the reference holds them -/
def q_RP (V : QV) (ln : Nat → Nat) (sp : Nat → Nat → Nat) (τ : px_S) : Prop := (∀ k, k < 4 → τ.1 52 k = nI (ln k)) ∧ (∀ k i, k < 4 → i < ln k → τ.1 53 (14 * k + i) = nI (sp k i))
def q_RW (V : QV) (ln : Nat → Nat) (sp : Nat → Nat → Nat) : Prop := (∀ k, ln k ≤ 14) ∧ (∀ k i, k < 4 → i < ln k → q_sp V (sp k i))
abbrev q_tn (V : QV) (sp : Nat → Nat → Nat) : Nat → Nat → Nat := fun k i => q_pn (v_tx V (sp k i))
theorem q_RP.eqx {V : QV} {ln : Nat → Nat} {sp : Nat → Nat → Nat} {σ τ : px_S} (h : q_RP V ln sp σ) (h1 : τ.1 52 = σ.1 52) (h2 : τ.1 53 = σ.1 53) : q_RP V ln sp τ := ⟨fun k hk => by rw [h1]; exact h.1 k hk, fun k i hk hi => by rw [h2]; exact h.2 k i hk hi⟩
section QRW
variable {d : Nat} {Q : Option Value → px_S → Prop} {σ : px_S} {V : QV} {a : Int32} {ln : Nat → Nat} {sp : Nat → Nat → Nat}
theorem q_div {a c : Nat} (h : a < 2 ^ 31) (h0 : 0 < c) (hc : c < 2 ^ 31) {y : Int32} (hy : y = nI c) : nI a / y = nI (a / c) := by rw [hy]; exact pk_div h h0 hc
theorem q_mod15 {a : Nat} (h : a < 2 ^ 31) : nI a - nI a / (15 : Int32) * (15 : Int32) = nI (a % 15) := by rw [show (15 : Int32) = nI 15 from rfl, pk_rem h (by decide) (by decide)]
theorem m_textAt {u : Nat → Nat} {k : Nat} (hW : q_RW V ln sp) (hP : q_RP V ln sp σ) (hu : ∀ k, u k ≤ ln k) (hk : k < 4) (h : Q (some (.int (if u k < ln k then nI (sp k (u k)) else -1))) σ) : Cw (d + 1) 170 [.ref 9, .int (nI k), .int (nI (q_enc u))] σ Q := by
  have hu14 : ∀ k, u k ≤ 14 := fun k => Nat.le_trans (hu k) (hW.1 k)
  have hlt := q_enc_lt hu14
  have hde := q_de_enc hu14 hk
  have hl := hW.1 k
  have h14 := hu14 k
  obtain ⟨ik, ck⟩ := q_lt (j := k) (N := 4) hk (by decide)
  have e15 : nI (q_enc u) / (15 : Int32) = nI (q_enc u / 15) := q_div (by omega) (by decide) (by decide) rfl
  have e225 : nI (q_enc u) / (225 : Int32) = nI (q_enc u / 225) := q_div (by omega) (by decide) (by decide) rfl
  have e3375 : nI (q_enc u) / (3375 : Int32) = nI (q_enc u / 3375) := q_div (by omega) (by decide) (by decide) rfl
  have fin : ∀ n : Nat, n = q_de (q_enc u) k → Wp d tb_170 47 [.ref 9, .int (nI k), .int (nI (q_enc u)), .null] [.int (nI n)] σ Q := by
    intro n hn
    rw [hde] at hn
    subst hn
    by_cases hl2 : u k < ln k
    · rw [if_pos hl2] at h
      obtain ⟨i2, c2⟩ := q_lt (j := 14 * k + u k) (N := 56) (by omega) (by decide)
      refine b170_47 ik (fun g => absurd g ?_) (fun _ => b170_58 (by rw [q_ix14]; exact i2) (b170_73 ?_))
      · rw [ck, hP.1 k hk]; exact nI_ge hl2 (by omega)
      · rw [q_ix14, c2, hP.2 k _ hk hl2]; exact h
    · rw [if_neg hl2] at h
      refine b170_47 ik (fun _ => b170_72 (b170_73 h)) (fun g => absurd ?_ g)
      rw [ck, hP.1 k hk]; exact nI_le (by omega) (by omega)
  have kk : k = 0 ∨ k = 1 ∨ k = 2 ∨ k = 3 := by omega
  refine e170 (b170_0 (fun g0 => b170_11 (fun g1 => b170_26 (fun g2 => b170_42 ?_) (fun g2 => b170_31 ?_)) (fun g1 => b170_16 ?_)) (fun g0 => b170_4 ?_))
  · have : k = 3 := by
      rcases kk with e | e | e | e
      · rw [e] at g0; exact absurd rfl g0
      · rw [e] at g1; exact absurd rfl g1
      · rw [e] at g2; exact absurd rfl g2
      · exact e
    rw [e3375]
    exact fin _ (by rw [this]; rfl)
  · have : k = 2 := (nI_eq (b := 2) (by omega) (by decide)).mp (Decidable.not_not.mp g2)
    rw [e225, q_mod15 (by omega)]
    exact fin _ (by rw [this]; rfl)
  · have : k = 1 := (nI_eq (b := 1) (by omega) (by decide)).mp (Decidable.not_not.mp g1)
    rw [e15, q_mod15 (by omega)]
    exact fin _ (by rw [this]; rfl)
  · have : k = 0 := (nI_eq (b := 0) (by omega) (by decide)).mp (Decidable.not_not.mp g0)
    rw [q_mod15 (by omega)]
    exact fin _ (by rw [this]; rfl)
def q_stpk (k : Nat) : Nat := if k = 0 then 1 else if k = 1 then 15 else if k = 2 then 225 else 3375
theorem m_step {k : Nat} (hk : k < 4) (h : Q (some (.int (nI (q_stpk k)))) σ) : Cw (d + 1) 172 [.int (nI k)] σ Q := by
  have kk : k = 0 ∨ k = 1 ∨ k = 2 ∨ k = 3 := by omega
  rcases kk with e | e | e | e <;> subst e
  · exact e172 (b172_0 (fun g => absurd rfl g) (fun _ => b172_4 (b172_32 h)))
  · exact e172 (b172_0 (fun _ => b172_8 (fun g => absurd rfl g) (fun _ => b172_13 (b172_32 h))) (fun g => absurd (by decide) g))
  · exact e172 (b172_0 (fun _ => b172_8 (fun _ => b172_18 (fun g => absurd rfl g) (fun _ => b172_23 (b172_32 h))) (fun g => absurd (by decide) g)) (fun g => absurd (by decide) g))
  · exact e172 (b172_0 (fun _ => b172_8 (fun _ => b172_18 (fun _ => b172_29 (b172_32 h)) (fun g => absurd (by decide) g)) (fun g => absurd (by decide) g)) (fun g => absurd (by decide) g))
theorem m_behind {u : Nat → Nat} {t : Nat} (hV : q_wf V) (hM : q_Ma V a σ) (hW : q_RW V ln sp) (hP : q_RP V ln sp σ) (hu : ∀ k, u k ≤ ln k) (ht : q_sp V t) (h : Q (some (.int (nI (q_enc (q_mv ln (q_tn V sp) u (q_pn (v_tx V t))))))) σ) : Cw (d + 2) 171 [.ref 9, .int (nI (q_enc u)), .int (nI t)] σ Q := by
  have lt := q_sp_lt hV ht
  let w := q_pn (v_tx V t)
  let m := q_mv ln (q_tn V sp) u w
  have loop : ∀ j k (v5 : Value), k + j = 4 → px_nc v5 = true → Wp (d + 1) tb_171 5 [.ref 9, .int (nI (q_enc u)), .int (nI t), .int (nI (q_enc (fun i => if i < k then m i else u i))), .int (nI k), v5] [] σ Q := by
    intro j
    induction j with
    | zero =>
      intro k v5 hk n5
      have e : k = 4 := by omega
      subst e
      refine b171_5 (fun _ => b171_53 ?_) (fun g => absurd (by decide) g)
      exact h
    | succ j ih =>
      intro k v5 hk n5
      have hk4 : k < 4 := by omega
      have add : ∀ (b : Bool) (x5 : Int32), (m k = u k + if b then 1 else 0) → ∀ c : Nat, c = (if b then q_stpk k else 0) → Wp (d + 1) tb_171 45 [.ref 9, .int (nI (q_enc u)), .int (nI t), .int (nI (q_enc (fun i => if i < k then m i else u i))), .int (nI k), .int x5] [.int (nI c), .int (nI (q_enc (fun i => if i < k then m i else u i)))] σ Q := by
        intro b x5 hm c hc
        refine b171_45 ?_
        rw [nI_add, nI_1]
        have ee : q_enc (fun i => if i < k then m i else u i) + c = q_enc (fun i => if i < k + 1 then m i else u i) := by
          have kk : k = 0 ∨ k = 1 ∨ k = 2 ∨ k = 3 := by omega
          rcases kk with e | e | e | e <;> subst e
          · show u 0 + 15 * u 1 + 225 * u 2 + 3375 * u 3 + c = m 0 + 15 * u 1 + 225 * u 2 + 3375 * u 3
            rw [hm, hc]; cases b <;> simp [q_stpk] <;> omega
          · show m 0 + 15 * u 1 + 225 * u 2 + 3375 * u 3 + c = m 0 + 15 * m 1 + 225 * u 2 + 3375 * u 3
            rw [hm, hc]; cases b <;> simp [q_stpk] <;> omega
          · show m 0 + 15 * m 1 + 225 * u 2 + 3375 * u 3 + c = m 0 + 15 * m 1 + 225 * m 2 + 3375 * u 3
            rw [hm, hc]; cases b <;> simp [q_stpk] <;> omega
          · show m 0 + 15 * m 1 + 225 * m 2 + 3375 * u 3 + c = m 0 + 15 * m 1 + 225 * m 2 + 3375 * m 3
            rw [hm, hc]; cases b <;> simp [q_stpk] <;> omega
        rw [ee]
        exact ih (k + 1) _ (by omega) rfl
      refine b171_5 (fun g => absurd g (nI_ge (a := k) (b := 4) (by omega) (by decide))) (fun _ => b171_11 n5 (m_textAt hW hP hu hk4 ?_))
      by_cases hl : u k < ln k
      · rw [if_pos hl]
        have hsp := hW.2 k (u k) hk4 hl
        have ls := q_sp_lt hV hsp
        refine b171_18 (fun g => absurd g (nI_pos (by omega))) (fun _ => b171_26 (m_isSame hV hM hsp ht ?_))
        by_cases hs : v_tx V (sp k (u k)) = v_tx V t
        · rw [if_pos hs]
          refine b171_33 (fun g => absurd g (by decide)) (fun _ => b171_36 (m_step hk4 (b171_41 (add true _ ?_ _ rfl))))
          show q_mv ln (q_tn V sp) u w k = _
          unfold q_mv
          rw [if_pos ⟨hk4, hl, by show q_pn (v_tx V (sp k (u k))) = q_pn (v_tx V t); rw [hs]⟩]; rfl
        · rw [if_neg hs]
          refine b171_33 (fun _ => b171_44 (add false _ ?_ 0 rfl)) (fun g => absurd rfl g)
          show q_mv ln (q_tn V sp) u w k = _
          unfold q_mv
          rw [if_neg (fun z => hs (q_pn_inj (hV.sp hsp).2 (hV.sp ht).2 z.2.2))]; rfl
      · rw [if_neg hl]
        refine b171_18 (fun _ => b171_44 (add false _ ?_ 0 rfl)) (fun g => absurd (by decide) g)
        show q_mv ln (q_tn V sp) u w k = _
        unfold q_mv
        rw [if_neg (fun z => hl z.2.1)]; rfl
  have e := loop 4 0 .null (by omega) rfl
  exact e171 (b171_0 e)
theorem m_isWithin {s : Nat} (hW : q_RW V ln sp) (hP : q_RP V ln sp σ) (hs : s < 50625) (h1 : (∀ k, q_de s k ≤ ln k) → Q (some (.int 1)) σ) (h0 : ¬ (∀ k, k < 4 → q_de s k ≤ ln k) → Q (some (.int 0)) σ) : Cw (d + 1) 169 [.ref 9, .int (nI s)] σ Q := by
  have e15 : nI s / (15 : Int32) = nI (s / 15) := q_div (by omega) (by decide) (by decide) rfl
  have e225 : nI s / (225 : Int32) = nI (s / 225) := q_div (by omega) (by decide) (by decide) rfl
  have e3375 : nI s / (3375 : Int32) = nI (s / 3375) := q_div (by omega) (by decide) (by decide) rfl
  have l0 := hW.1 0; have l1 := hW.1 1; have l2 := hW.1 2; have l3 := hW.1 3
  have p0 : σ.1 52 (0 : Int32).toNatClampNeg = nI (ln 0) := hP.1 0 (by decide)
  have p1 : σ.1 52 (1 : Int32).toNatClampNeg = nI (ln 1) := hP.1 1 (by decide)
  have p2 : σ.1 52 (2 : Int32).toNatClampNeg = nI (ln 2) := hP.1 2 (by decide)
  have p3 : σ.1 52 (3 : Int32).toNatClampNeg = nI (ln 3) := hP.1 3 (by decide)
  have no : ∀ k, k < 4 → ¬ q_de s k ≤ ln k → Wp d tb_169 64 [.ref 9, .int (nI s)] [] σ Q := fun k hk hz => b169_64 (b169_65 (Or.inl rfl) (h0 (fun z => hz (z k hk))))
  refine e169 (b169_0 (by unfold vp_in; decide) (fun g => no 0 (by decide) ?_) (fun g0 => b169_13 (by unfold vp_in; decide) (fun g => no 1 (by decide) ?_) (fun g1 => b169_29 (by unfold vp_in; decide) (fun g => no 2 (by decide) ?_) (fun g2 => b169_46 (by unfold vp_in; decide) (fun g => no 3 (by decide) ?_) (fun g3 => b169_60 (b169_65 (Or.inr rfl) (h1 ?_)))))))
  · rw [p0, q_mod15 (by omega), nI_ltI (by omega) (by omega)] at g; show ¬ s % 15 ≤ ln 0; omega
  · rw [p1, e15, q_mod15 (by omega), nI_ltI (by omega) (by omega)] at g; show ¬ s / 15 % 15 ≤ ln 1; omega
  · rw [p2, e225, q_mod15 (by omega), nI_ltI (by omega) (by omega)] at g; show ¬ s / 225 % 15 ≤ ln 2; omega
  · rw [p3, e3375, nI_ltI (by omega) (by omega)] at g; show ¬ s / 3375 ≤ ln 3; omega
  · rw [p0, q_mod15 (by omega), nI_ltI (by omega) (by omega)] at g0
    rw [p1, e15, q_mod15 (by omega), nI_ltI (by omega) (by omega)] at g1
    rw [p2, e225, q_mod15 (by omega), nI_ltI (by omega) (by omega)] at g2
    rw [p3, e3375, nI_ltI (by omega) (by omega)] at g3
    intro k
    unfold q_de
    split
    · rename_i e; subst e; omega
    · split
      · rename_i e; subst e; omega
      · split
        · rename_i e; subst e; omega
        · split
          · rename_i e; subst e; omega
          · omega
theorem m_isLess {s t : Nat} (hV : q_wf V) (hM : q_Ma V a σ) (hs : q_sp V s) (ht : q_sp V t) (h : Q (some (.int (q_b (decide (q_pn (v_tx V s) < q_pn (v_tx V t)))))) σ) : Cw (d + 1) 173 [.ref 9, .int (nI s), .int (nI t)] σ Q := by
  have ls := q_sp_lt hV hs
  have lt := q_sp_lt hV ht
  obtain ⟨i1, c1⟩ := q_lt (j := s) (N := 560) ls (by decide)
  obtain ⟨i2, c2⟩ := q_lt (j := t) (N := 560) lt (by decide)
  obtain ⟨-, m1, w1⟩ := hM.sp hs
  obtain ⟨-, m2, w2⟩ := hM.sp ht
  obtain ⟨-, v1⟩ := hV.sp hs
  obtain ⟨-, v2⟩ := hV.sp ht
  have n1 := v1.1
  have n2 := v2.1
  have loop : ∀ j k (v4 v5 : Value), k + j = 8 → (∀ i, i < k → (v_tx V s).getD i 0 = (v_tx V t).getD i 0) → Wp d tb_173 2 [.ref 9, .int (nI s), .int (nI t), .int (nI k), v4, v5] [] σ Q := by
    intro j
    induction j with
    | zero =>
      intro k v4 v5 hk hall
      have e : q_pn (v_tx V s) = q_pn (v_tx V t) := q_pkd_eq 8 (fun i hi => hall i (by omega))
      rw [decide_eq_false (by omega)] at h
      exact b173_2 (fun _ => b173_88 h) (fun g => absurd (by rw [show k = 8 by omega]; decide) g)
    | succ j ih =>
      intro k v4 v5 hk hall
      have b1 := q_word_lt v1 k
      have b2 := q_word_lt v2 k
      have cmp : ∀ (v5 : Value), Wp d tb_173 60 [.ref 9, .int (nI s), .int (nI t), .int (nI k), .int (nI ((v_tx V s).getD k 0)), v5] [.int (nI ((v_tx V t).getD k 0))] σ Q := by
        intro v5
        refine b173_60 (fun g => b173_82 ?_) (fun g => b173_69 (fun g2 => b173_80 (b173_81 (Or.inl rfl) ?_)) (fun g2 => b173_76 (b173_81 (Or.inr rfl) ?_)))
        · rw [nI_eq (by omega) (by omega)] at g
          rw [nI_1]
          exact ih (k + 1) _ _ (by omega) (fun i hi => by
            by_cases hik : i = k
            · subst hik; exact g
            · exact hall i (by omega))
        · rw [nI_eq (by omega) (by omega)] at g
          rw [nI_leI (by omega) (by omega)] at g2
          have hlt : q_pn (v_tx V t) < q_pn (v_tx V s) := q_pkd_lex (fun i => q_word_lt v2 i) (k := k) (fun i hi => (hall i hi).symm) (by omega) 8 (by omega)
          rw [decide_eq_false (by omega)] at h
          exact h
        · rw [nI_leI (by omega) (by omega)] at g2
          have hlt : q_pn (v_tx V s) < q_pn (v_tx V t) := q_pkd_lex (fun i => q_word_lt v1 i) (k := k) hall (by omega) 8 (by omega)
          rw [decide_eq_true hlt] at h
          exact h
      have snd : Wp d tb_173 33 [.ref 9, .int (nI s), .int (nI t), .int (nI k), v4, v5] [.int (nI ((v_tx V s).getD k 0))] σ Q := by
        by_cases hl : k < (v_tx V t).length
        · obtain ⟨i4, c4⟩ := q_lt (j := 8 * t + k) (N := 4480) (by omega) (by decide)
          refine b173_33 i2 (fun g => absurd g (by rw [c2, m2]; exact nI_ge hl (by omega))) (fun _ => b173_45 (by rw [q_ix8]; exact i4) ?_)
          rw [q_ix8, c4, w2 k hl]
          exact cmp _
        · refine b173_33 i2 (fun _ => b173_59 ?_) (fun g => absurd (by rw [c2, m2]; exact nI_le (by omega) (by omega)) g)
          have e0 : (v_tx V t).getD k 0 = 0 := q_getD_ge (by omega)
          have := cmp v5
          rw [e0] at this
          exact this
      refine b173_2 (fun g => absurd g (nI_ge (a := k) (b := 8) (by omega) (by decide))) (fun _ => ?_)
      by_cases hl : k < (v_tx V s).length
      · obtain ⟨i3, c3⟩ := q_lt (j := 8 * s + k) (N := 4480) (by omega) (by decide)
        refine b173_8 i1 (fun g => absurd g (by rw [c1, m1]; exact nI_ge hl (by omega))) (fun _ => b173_18 (by rw [q_ix8]; exact i3) ?_)
        rw [q_ix8, c3, w1 k hl]
        exact snd
      · refine b173_8 i1 (fun _ => b173_32 ?_) (fun g => absurd (by rw [c1, m1]; exact nI_le (by omega) (by omega)) g)
        have e0 : (v_tx V s).getD k 0 = 0 := q_getD_ge (by omega)
        rw [e0] at snd
        exact snd
  exact e173 (b173_0 (loop 8 0 .null .null (by omega) (fun i hi => absurd hi (Nat.not_lt_zero _))))
end QRW
