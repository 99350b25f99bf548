/-! ===== read: the reference ===== -/
theorem q_msk1 : ∀ M, M < 32 → ∀ k, k ≤ 4 → (((nI M >>> (nI k &&& 31)) &&& 1) = 0 ↔ M.testBit k = false) := by
  have h : ∀ M : Fin 32, ∀ k : Fin 5, (((nI M.val >>> (nI k.val &&& 31)) &&& 1) = 0 ↔ M.val.testBit k.val = false) := by decide +kernel
  exact fun M hM k hk => h ⟨M, hM⟩ ⟨k, by omega⟩
theorem q_msk2 : ∀ M, M < 32 → ∀ k, k ≤ 4 → nI M ||| ((1 : Int32) <<< (nI k &&& 31)) = nI (M ||| 1 <<< k) ∧ M ||| 1 <<< k < 32 := by
  have h : ∀ M : Fin 32, ∀ k : Fin 5, nI M.val ||| ((1 : Int32) <<< (nI k.val &&& 31)) = nI (M.val ||| 1 <<< k.val) ∧ M.val ||| 1 <<< k.val < 32 := by decide +kernel
  exact fun M hM k hk => h ⟨M, hM⟩ ⟨k, by omega⟩
theorem q_msk3 : ∀ M, M < 32 → ∀ k, k ≤ 4 → ((((nI M).toUInt32 >>> ((nI k).toUInt32 &&& Int32.toUInt32 31)).toInt32 &&& 1) = 0 ↔ M.testBit k = false) := by
  have h : ∀ M : Fin 32, ∀ k : Fin 5, ((((nI M.val).toUInt32 >>> ((nI k.val).toUInt32 &&& Int32.toUInt32 31)).toInt32 &&& 1) = 0 ↔ M.val.testBit k.val = false) := by decide +kernel
  exact fun M hM k hk => h ⟨M, hM⟩ ⟨k, by omega⟩
theorem q_run_stop {f : Nat → Bool} : ∀ (m i : Nat), q_run f m i = i + m ∨ f (q_run f m i) = false
  | 0, i => Or.inl rfl
  | m + 1, i => by
    rw [q_run]
    split
    · rcases q_run_stop m (i + 1) with h | h
      · exact Or.inl (by rw [h]; omega)
      · exact Or.inr h
    · rename_i hf
      right
      cases h : f i with
      | true => exact absurd h hf
      | false => rfl
theorem q_skp_skp {bs : List Nat} {i : Nat} (hi : i ≤ bs.length) : q_skp bs (q_skp bs i) = q_skp bs i := by
  have h1 := q_skp_in hi
  have h2 := q_run_stop (f := fun k => decide (bs.getD k 0 = 32)) (bs.length - i) i
  have e : q_run (fun k => decide (bs.getD k 0 = 32)) (bs.length - i) i = q_skp bs i := rfl
  rw [e] at h2
  show q_run _ (bs.length - q_skp bs i) (q_skp bs i) = _
  rcases h2 with h | h
  · have : bs.length - q_skp bs i = 0 := by omega
    rw [this]; rfl
  · cases hm : bs.length - q_skp bs i with
    | zero => rfl
    | succ m => rw [q_run, h]; rfl
theorem q_tl_bnd {bs : List Nat} {k i e v : Nat} (h : q_tl bs k i = .inr (e, v)) : v ≤ if k = 2 then 1 else q_bnd k := by
  unfold q_tl at h
  cases hv : q_val bs k (q_skp bs i) with
  | inl f => rw [hv] at h; cases h
  | inr u =>
    rw [hv] at h
    dsimp only at h
    split at h
    · cases h
      unfold q_val at hv
      split at hv
      · rename_i hk
        rw [if_pos hk]
        split at hv
        · cases hv; exact Nat.le_refl _
        · split at hv
          · cases hv; exact Nat.zero_le _
          · cases hv
      · rename_i hk
        rw [if_neg hk]
        split at hv
        · cases hv
        · split at hv
          · cases hv
          · rename_i hb
            cases hv
            exact Nat.le_of_not_lt (fun z => hb (Or.inr z))
    · cases h
def q_okr (R : Nat → Int32) : Prop := ∀ k, k ≤ 4 → ∃ v, v ≤ (if k = 2 then 1 else q_bnd k) ∧ R k = nI v
theorem q_okr_0 : q_okr q_r0 := by
  intro k hk
  have kk : k = 0 ∨ k = 1 ∨ k = 2 ∨ k = 3 ∨ k = 4 := by omega
  rcases kk with e | e | e | e | e <;> subst e
  · exact ⟨0, by decide, rfl⟩
  · exact ⟨50, by decide, rfl⟩
  · exact ⟨1, by decide, rfl⟩
  · exact ⟨14, by decide, rfl⟩
  · exact ⟨5, by decide, rfl⟩
theorem q_okr_up {R : Nat → Int32} {k v : Nat} (h : q_okr R) (hv : v ≤ if k = 2 then 1 else q_bnd k) : q_okr (upd R k (nI v)) := by
  intro u hu
  unfold upd
  by_cases e : u = k
  · rw [if_pos e, e]; exact ⟨v, hv, rfl⟩
  · rw [if_neg e]; exact h u hu
theorem q_M.rd {V : QV} {σ τ : px_S} {ru : Nat → Int32} {fa : Int32} (h : q_M V σ) (ha : ∀ k, k ≠ 9 → k ≠ 58 → k ≠ 37 → τ.1 k = σ.1 k) (h9 : ∀ j, ¬ (29 ≤ j ∧ j ≤ 34) → τ.1 9 j = σ.1 9 j) (h29 : τ.1 9 29 = 0) (h32 : τ.1 9 32 = fa) (h37 : ∀ k, k < 5 → τ.1 37 k = ru k) : q_M (vs_rd V ru fa) τ := by
  obtain ⟨k1, k2, k3, k4, k5, k6, k7, k8, k10, k11⟩ := h
  refine ⟨?_, ?_, ?_, ?_, ?_, ?_, h37, ?_, ⟨h29, fun k hk => absurd hk (Nat.not_lt_zero _)⟩, h32⟩
  · rw [h9 1 (by decide)]; exact k1
  · rw [ha 38 (by decide) (by decide) (by decide), ha 39 (by decide) (by decide) (by decide), ha 40 (by decide) (by decide) (by decide), ha 41 (by decide) (by decide) (by decide), ha 42 (by decide) (by decide) (by decide)]; exact k2
  · rw [ha 43 (by decide) (by decide) (by decide), ha 44 (by decide) (by decide) (by decide), ha 45 (by decide) (by decide) (by decide)]; exact k3
  · rw [h9 10 (by decide), ha 46 (by decide) (by decide) (by decide)]; exact k4
  · rw [h9 12 (by decide)]; exact k5
  · rw [h9 13 (by decide)]; exact k6
  · rw [h9 26 (by decide), ha 56 (by decide) (by decide) (by decide)]; exact k8
/-- where a clause ends: behind its begin, within the text -/
theorem q_clause_in {bs : List Nat} {M : Nat} {R : Nat → Int32} {i : Nat} {y : Nat × Nat × (Nat → Int32)} (hi : i ≤ bs.length) (h : q_clause bs M R i = .inr y) : i < y.1 ∧ y.1 ≤ bs.length := by
  rw [q_clause_tl] at h
  have hw := q_wen_in hi
  cases hk : q_knd bs i (q_wen bs i - i) with
  | none => rw [hk] at h; cases h
  | some k =>
    rw [hk] at h
    dsimp only at h
    split at h
    · cases h
    · cases ht : q_tl bs k (q_wen bs i) with
      | inl f => rw [ht] at h; cases h
      | inr v =>
        rw [ht] at h
        cases h
        unfold q_tl at ht
        have hs := q_skp_in hw.2
        cases hv : q_val bs k (q_skp bs (q_wen bs i)) with
        | inl f => rw [hv] at ht; cases ht
        | inr u =>
          rw [hv] at ht
          dsimp only at ht
          have hu : q_skp bs (q_wen bs i) ≤ u.1 ∧ u.1 ≤ bs.length := by
            have h1 := q_wen_in hs.2
            have h2 := q_nen_in hs.2
            unfold q_val at hv
            split at hv
            · split at hv
              · cases hv; exact h1
              · split at hv
                · cases hv; exact h1
                · cases hv
            · split at hv
              · cases hv
              · split at hv
                · cases hv
                · cases hv; exact h2
          have h3 := q_skp_in hu.2
          split at ht
          · rename_i hc
            cases ht
            dsimp only
            omega
          · cases ht
theorem q_clauses_ok {bs : List Nat} : ∀ f i M R n r, q_okr R → q_clauses bs f i M R n = .inr r → q_okr r.2
  | 0, i, M, R, n, r, hR, h => by cases h; exact hR
  | f + 1, i, M, R, n, r, hR, h => by
    rw [q_clauses] at h
    split at h
    · cases hc : q_clause bs M R (q_skp bs i) with
      | inl x => rw [hc] at h; cases h
      | inr y =>
        rw [hc] at h
        refine q_clauses_ok f _ _ _ _ r ?_ h
        rw [q_clause_tl] at hc
        cases hk : q_knd bs (q_skp bs i) (q_wen bs (q_skp bs i) - q_skp bs i) with
        | none => rw [hk] at hc; cases hc
        | some k =>
          rw [hk] at hc
          dsimp only at hc
          split at hc
          · cases hc
          · cases ht : q_tl bs k (q_wen bs (q_skp bs i)) with
            | inl g => rw [ht] at hc; cases hc
            | inr v =>
              rw [ht] at hc
              cases hc
              exact q_okr_up hR (q_tl_bnd (e := v.1) (v := v.2) ht)
    · cases h; exact hR
section QRF
variable {d : Nat} {Q : Option Value → px_S → Prop} {σ : px_S} {V : QV}
theorem m_atFirst {k : Nat} (hk : k < 5) (h : Q (some (.int (q_r0 k))) σ) : Cw (d + 1) 128 [.int (nI k)] σ Q := by
  have kk : k = 0 ∨ k = 1 ∨ k = 2 ∨ k = 3 ∨ k = 4 := by omega
  rcases kk with e | e | e | e | e <;> subst e
  · exact e128 (b128_0 (fun _ => b128_10 (fun _ => b128_19 (fun _ => b128_29 (fun _ => b128_38 (b128_39 h)) (fun g => absurd (by decide) g)) (fun g => absurd (by decide) g)) (fun g => absurd (by decide) g)) (fun g => absurd (by decide) g))
  · exact e128 (b128_0 (fun g => absurd rfl g) (fun _ => b128_5 (b128_39 h)))
  · exact e128 (b128_0 (fun _ => b128_10 (fun g => absurd rfl g) (fun _ => b128_15 (b128_39 h))) (fun g => absurd (by decide) g))
  · exact e128 (b128_0 (fun _ => b128_10 (fun _ => b128_19 (fun g => absurd rfl g) (fun _ => b128_24 (b128_39 h))) (fun g => absurd (by decide) g)) (fun g => absurd (by decide) g))
  · exact e128 (b128_0 (fun _ => b128_10 (fun _ => b128_19 (fun _ => b128_29 (fun g => absurd rfl g) (fun _ => b128_34 (b128_39 h))) (fun g => absurd (by decide) g)) (fun g => absurd (by decide) g)) (fun g => absurd (by decide) g))
theorem m_read (hV : q_wf V) (hM : q_M V σ) (h : ∀ τ, q_M (sp_read V).2 τ → q_mk σ τ → Q (some (.int (sp_read V).1)) τ) : Cw (d + 4) 186 [.ref 9] σ Q := by
  have hbl := hV.2.2.2.2.2.2.2
  obtain ⟨hb1, hb2⟩ := hM.2.2.2.2.2.2.2.2.1
  obtain ⟨bs, ebs⟩ : ∃ bs, bs = v_by V := ⟨_, rfl⟩
  rw [← ebs] at hb1 hb2 hbl
  have hB : q_B bs σ := ⟨hb1, hb2, hbl.1, fun k => by
    rw [List.getD_eq_getElem?_getD]
    cases e : bs[k]? with
    | none => simp
    | some x => exact hbl.2 x (List.mem_of_getElem? e)⟩
  have mcf : ∀ {τ : px_S}, τ.2 = σ.2 → (∀ k, k ≠ 9 → k ≠ 58 → k ≠ 37 → τ.1 k = σ.1 k) → q_mk σ τ := fun h1 h2 => q_mk.mc ⟨h1, fun a hcm => by
    have h3 : a ≠ 9 := fun z => hcm (Or.inl z)
    have h4 : ¬ (37 ≤ a ∧ a ≠ 49) := fun z => hcm (Or.inr z)
    exact h2 a h3 (by omega) (by omega)⟩
  unfold sp_read at h
  rw [← ebs] at h
  obtain ⟨fin, efin⟩ : ∃ fin, fin = q_clauses bs 121 0 0 q_r0 0 := ⟨_, rfl⟩
  rw [← efin] at h
  -- a fault
  have atF : ∀ (f w : Nat) (τ : px_S) (x1 x2 : Int32) (v3 : Value), fin = .inl (f, w) → 0 < f → f ≤ 3 → q_ec σ τ → τ.1 9 31 = nI f → τ.1 9 32 = nI w → Wp (d + 3) tb_186 128 [.ref 9, .int x1, .int x2, v3] [] τ Q := by
    intro f w τ x1 x2 v3 e1 e2 e3 he e31 e32
    rw [e1] at h
    have u31 : (px_uI τ 9 29 0).1 9 31 = nI f := by rw [q_u9n (by decide)]; exact e31
    refine b186_128 (b186_133 (fun g => absurd g (by rw [u31]; exact nI_nle e2 (by omega))) (fun _ => b186_140 ?_))
    rw [u31]
    have hq : ∀ k, k ≠ 9 → k ≠ 58 → k ≠ 37 → (px_uI τ 9 29 0).1 k = σ.1 k := fun k k1 k2 _ => by rw [q_uc k1]; exact he.2.1 k k1 k2
    refine h _ (hM.rd hq (fun j hj => ?_) q_u9 (by rw [q_u9n (by decide)]; exact e32) (fun k hk => ?_)) (mcf he.1 hq)
    · rw [q_u9n (by omega)]; exact he.2.2 j (by unfold q_ja; omega)
    · rw [q_uc (by decide), he.2.1 37 (by decide) (by decide)]; exact hM.2.2.2.2.2.2.1 k hk
  have atS : ∀ (n : Nat) (R : Nat → Int32) (τ : px_S) (x2 : Int32) (v3 : Value), fin = .inr (n, R) → q_ec σ τ → τ.1 9 31 = 0 → τ.1 9 32 = -1 → (∀ u, u < 5 → τ.1 58 u = R u) → Wp (d + 3) tb_186 128 [.ref 9, .int (nI n), .int x2, v3] [] τ Q := by
    intro n R τ x2 v3 e1 he e31 e32 e58
    rw [e1] at h
    have u31 : (px_uI τ 9 29 0).1 9 31 = 0 := by rw [q_u9n (by decide)]; exact e31
    refine b186_128 (b186_133 (fun _ => b186_148 ?_) (fun g => absurd (by rw [u31]; decide) g))
    have loop : ∀ m k (τ' : px_S), k + m = 5 → τ'.2 = σ.2 → (∀ a, a ≠ 37 → τ'.1 a = (px_uI τ 9 29 0).1 a) → (∀ u, u < k → τ'.1 37 u = R u) → Wp (d + 3) tb_186 150 [.ref 9, .int (nI n), .int x2, .int (nI k)] [] τ' Q := by
      intro m
      induction m with
      | zero =>
        intro k τ' hk h2 ha h37
        refine b186_150 (fun _ => b186_173 ?_) (fun g => absurd (by rw [show k = 5 by omega]; decide) g)
        have hq : ∀ a, a ≠ 9 → a ≠ 58 → a ≠ 37 → τ'.1 a = σ.1 a := fun a a1 a2 a3 => by rw [ha a a3, q_uc a1]; exact he.2.1 a a1 a2
        refine h τ' (hM.rd hq (fun j hj => ?_) ?_ ?_ (fun u hu => h37 u (by omega))) (mcf h2 hq)
        · rw [ha 9 (by decide), q_u9n (by omega)]; exact he.2.2 j (by unfold q_ja; omega)
        · rw [ha 9 (by decide)]; exact q_u9
        · rw [ha 9 (by decide), q_u9n (by decide)]; exact e32
      | succ m ih =>
        intro k τ' hk h2 ha h37
        obtain ⟨ik, ck⟩ := q_lt (j := k) (N := 5) (by omega) (by decide)
        refine b186_150 (fun g => absurd g (nI_ge (a := k) (b := 5) (by omega) (by decide))) (fun _ => b186_155 ik ik (b186_167 ?_))
        rw [ck, nI_1]
        have e5 : τ'.1 58 k = R k := by rw [ha 58 (by decide), q_uc (by decide)]; exact e58 k (by omega)
        rw [e5]
        refine ih (k + 1) _ (by omega) h2 (fun a ha1 => by rw [q_uc ha1]; exact ha a ha1) (fun u hu => ?_)
        rw [q_u]
        by_cases huk : u = k
        · subst huk; rw [if_pos ⟨rfl, rfl⟩]
        · rw [if_neg (fun z => huk z.2)]; exact h37 u (by omega)
    exact loop 5 0 _ (by omega) he.1 (fun _ _ => rfl) (fun u hu => absurd hu (Nat.not_lt_zero _))
  have loop : ∀ f i M (R : Nat → Int32) n (τ : px_S) (v3 : Value), 121 ≤ f + i → i ≤ bs.length → M < 32 → q_ec σ τ → τ.1 9 30 = nI i → τ.1 9 31 = 0 → τ.1 9 32 = -1 → (∀ u, u < 5 → τ.1 58 u = R u) → px_nc v3 = true → q_clauses bs f i M R n = fin → Wp (d + 3) tb_186 42 [.ref 9, .int (nI n), .int (nI M), v3] [] τ Q := by
    intro f
    induction f with
    | zero => intro i M R n τ v3 hfi hi; have := hbl.1; omega
    | succ f ih =>
      intro i M R n τ v3 hfi hi hMM he e30 e31 e32 e58 n3 ec
      have hBt := hB.ec he
      have hs := q_skp_in hi
      have h120 := hbl.1
      rw [q_clauses] at ec
      refine b186_42 (fun g => absurd e31 g) (fun _ => b186_49 n3 (m_look hBt hi e30 (fun τ1 he1 e301 => ?_)))
      have hec1 : q_ec σ τ1 := he.tr (q_ec.e9 he1 q_j1a)
      have e311 : τ1.1 9 31 = 0 := by rw [he1.2.2 31 (by decide)]; exact e31
      have e321 : τ1.1 9 32 = -1 := by rw [he1.2.2 32 (by decide)]; exact e32
      have e581 : ∀ u, u < 5 → τ1.1 58 u = R u := fun u hu => by rw [he1.2.1 58 (by decide)]; exact e58 u hu
      by_cases hl : q_skp bs i < bs.length
      · rw [if_pos hl] at ec ⊢
        have l255 := hB.2.2.2 (q_skp bs i)
        refine b186_53 (fun g => absurd g (nI_pos (by omega))) (fun _ => b186_56 n3 (m_takeWord (hB.ec hec1) (by omega) e301 (fun τ2 he2 e302 e332 e342 => b186_60 n3 ?_)))
        rw [q_skp_skp hi] at e302 e332 e342
        obtain ⟨j, ej⟩ : ∃ j, j = q_skp bs i := ⟨_, rfl⟩
        rw [← ej] at e302 e332 e342 ec hl hs
        have hw := q_wen_in hs.2
        have hec2 : q_ec σ τ2 := hec1.tr (q_ec.e9 he2 q_j3a)
        have e312 : τ2.1 9 31 = 0 := by rw [he2.2.2 31 (by decide)]; exact e311
        have e322 : τ2.1 9 32 = -1 := by rw [he2.2.2 32 (by decide)]; exact e321
        have e582 : ∀ u, u < 5 → τ2.1 58 u = R u := fun u hu => by rw [he2.2.1 58 (by decide)]; exact e581 u hu
        refine m_kindOf (hB.ec hec2) (by omega) e332 e342 ?_
        have again : ∀ (f w : Nat) (τ3 : px_S) (x1 x2 x3 : Int32), fin = .inl (f, w) → 0 < f → f ≤ 3 → q_ec σ τ3 → τ3.1 9 31 = nI f → τ3.1 9 32 = nI w → Wp (d + 3) tb_186 125 [.ref 9, .int x1, .int x2, .int x3] [] τ3 Q := by
          intro f w τ3 x1 x2 x3 k1 k2 k3 k4 k5 k6
          exact b186_125 (b186_42 (fun _ => atF f w τ3 x1 x2 _ k1 k2 k3 k4 k5 k6) (fun g => absurd (by rw [k5]; exact nI_ne0 k2 (by omega)) g))
        rw [q_clause_tl] at ec
        cases hk : q_knd bs j (q_wen bs j - j) with
        | none =>
          rw [hk] at ec
          refine b186_64 (fun _ => b186_74 (b186_75 (m_want (b := false) e312 (by decide) (fun z => by cases z) (fun _ τ3 he3 e313 e323 => b186_83 (fun _ => ?_) (fun g => absurd rfl g))))) (fun g => absurd (by decide) g)
          rw [e332] at e323
          exact again 1 j τ3 _ _ _ ec.symm (by decide) (by decide) (hec2.tr (q_ec.e9 he3 q_jwa)) e313 e323
        | some k =>
          rw [hk] at ec
          dsimp only at ec
          have hk4 := q_knd_le hk
          have hmb := q_msk1 M hMM k hk4
          refine b186_64 (fun g => absurd g (nI_pos (by omega))) (fun _ => b186_70 (b186_75 (m_want (b := true) e312 (by decide) (fun _ => b186_83 (fun g => absurd g (by decide)) (fun _ => ?_)) (fun z => by cases z))))
          show Wp (d + 3) tb_186 86 [.ref 9, .int (nI n), .int (nI M), .int (nI k)] [] τ2 Q
          cases hb : M.testBit k with
          | true =>
            rw [hb] at ec
            refine b186_86 (fun _ => b186_99 (b186_100 (m_want (b := false) e312 (by decide) (fun z => by cases z) (fun _ τ3 he3 e313 e323 => b186_108 (fun _ => ?_) (fun g => absurd rfl g))))) (fun g => absurd (fun z => by rw [hmb, hb] at z; cases z) g)
            rw [e332] at e323
            exact again 3 j τ3 _ _ _ ec.symm (by decide) (by decide) (hec2.tr (q_ec.e9 he3 q_jwa)) e313 e323
          | false =>
            rw [hb, if_neg (by decide)] at ec
            refine b186_86 (fun g => absurd (hmb.mpr hb) g) (fun _ => b186_95 (b186_100 (m_want (b := true) e312 (by decide) (fun _ => b186_108 (fun g => absurd g (by decide)) (fun _ => b186_111 ?_)) (fun z => by cases z))))
            obtain ⟨k1, k2⟩ := q_msk2 M hMM k hk4
            rw [k1]
            refine m_readClause hk4 (hB.ec hec2) hw.2 e302 e312 (fun f2 w τ3 et he3 q1 q2 e313 e323 => b186_122 ?_) (fun e v τ3 et q1 q2 q3 he3 e303 e313 e323 e583 => b186_122 (b186_125 ?_))
            · rw [et] at ec
              exact again f2 w τ3 _ _ _ ec.symm q1 q2 (hec2.tr he3) e313 e323
            · rw [et] at ec
              rw [nI_1]
              refine ih e _ _ (n + 1) τ3 _ (by omega) q2 k2 (hec2.tr he3) e303 e313 (by rw [e323]; exact e322) (fun u hu => ?_) rfl ec
              rw [e583 u]
              show upd (τ2.1 58) k (nI v) u = upd R k (nI v) u
              unfold upd
              by_cases huk : u = k
              · rw [if_pos huk, if_pos huk]
              · rw [if_neg huk, if_neg huk]; exact e582 u hu
      · rw [if_neg hl] at ec ⊢
        exact b186_53 (fun _ => atS n R τ1 _ _ ec.symm hec1 e311 e321 e581) (fun g => absurd (by decide) g)
  -- the first values
  have hec0 : q_ec σ (px_uI (px_uI (px_uI σ 9 30 0) 9 31 0) 9 32 (-1)) := ((q_ec.e9 (q_e9.u (J := q_ja) (by decide)) (fun _ h => h)).tr (q_ec.e9 (q_e9.u (J := q_ja) (by decide)) (fun _ h => h))).tr (q_ec.e9 (q_e9.u (J := q_ja) (by decide)) (fun _ h => h))
  have first : ∀ m k (τ : px_S), k + m = 5 → q_ec σ τ → τ.1 9 30 = 0 → τ.1 9 31 = 0 → τ.1 9 32 = -1 → (∀ u, u < k → τ.1 58 u = q_r0 u) → Wp (d + 3) tb_186 17 [.ref 9, .int (nI k), .null, .null] [] τ Q := by
    intro m
    induction m with
    | zero =>
      intro k τ hk he e30 e31 e32 e58
      refine b186_17 (fun _ => b186_38 ?_) (fun g => absurd (by rw [show k = 5 by omega]; decide) g)
      exact loop 121 0 0 q_r0 0 τ .null (by omega) (by omega) (by decide) he e30 e31 e32 (fun u hu => e58 u (by omega)) rfl efin.symm
    | succ m ih =>
      intro k τ hk he e30 e31 e32 e58
      obtain ⟨ik, ck⟩ := q_lt (j := k) (N := 5) (by omega) (by decide)
      refine b186_17 (fun g => absurd g (nI_ge (a := k) (b := 5) (by omega) (by decide))) (fun _ => b186_22 (m_atFirst (by omega) (b186_31 ik (b186_32 ?_))))
      rw [ck, nI_1]
      refine ih (k + 1) _ (by omega) (he.tr q_ec.u58) (by rw [q_uc (by decide)]; exact e30) (by rw [q_uc (by decide)]; exact e31) (by rw [q_uc (by decide)]; exact e32) (fun u hu => ?_)
      rw [q_u]
      by_cases huk : u = k
      · subst huk; rw [if_pos ⟨rfl, rfl⟩]
      · rw [if_neg (fun z => huk z.2)]; exact e58 u (by omega)
  refine e186 (b186_0 (b186_5 (b186_10 (b186_15 (first 5 0 _ (by omega) hec0 ?_ ?_ q_u9 (fun u hu => absurd hu (Nat.not_lt_zero _)))))))
  · rw [q_u9n (by decide), q_u9n (by decide)]; exact q_u9
  · rw [q_u9n (by decide)]; exact q_u9
end QRF
