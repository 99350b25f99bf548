/-! ===== numbers, clauses, read: the reference ===== -/
def q_tl (bs : List Nat) (k i : Nat) : (Nat × Nat) ⊕ (Nat × Nat) := match q_val bs k (q_skp bs i) with
  | .inl f => .inl f
  | .inr v => if q_skp bs v.1 < bs.length ∧ bs.getD (q_skp bs v.1) 0 = 59 then .inr (q_skp bs v.1 + 1, v.2) else .inl (1, q_skp bs v.1)
theorem q_clause_tl (bs : List Nat) (M : Nat) (R : Nat → Int32) (i : Nat) : q_clause bs M R i = match q_knd bs i (q_wen bs i - i) with
  | none => .inl (1, i)
  | some k => if M.testBit k then .inl (3, i) else match q_tl bs k (q_wen bs i) with
    | .inl f => .inl f
    | .inr v => .inr (v.1, M ||| 1 <<< k, upd R k (nI v.2)) := by
  unfold q_clause q_tl
  cases q_knd bs i (q_wen bs i - i) with
  | none => rfl
  | some k =>
    dsimp only
    split
    · rfl
    · cases q_val bs k (q_skp bs (q_wen bs i)) with
      | inl f => rfl
      | inr v =>
        dsimp only
        by_cases h : q_skp bs v.1 < bs.length ∧ bs.getD (q_skp bs v.1) 0 = 59
        · rw [if_pos h, if_pos h]
        · rw [if_neg h, if_neg h]
theorem q_knd_le {bs : List Nat} {b m k : Nat} (h : q_knd bs b m = some k) : k ≤ 4 := by
  unfold q_knd at h
  repeat (split at h; · cases h; decide)
  cases h
theorem q_nen_eq {bs : List Nat} {j : Nat} (hj : j ≤ bs.length) : q_nen bs j = j ↔ ¬ (j < bs.length ∧ 48 ≤ bs.getD j 0 ∧ bs.getD j 0 ≤ 57) := by
  unfold q_nen
  by_cases hl : j < bs.length
  · obtain ⟨m, hm⟩ : ∃ m, bs.length - j = m + 1 := ⟨bs.length - j - 1, by omega⟩
    rw [hm, q_run]
    by_cases hd : 48 ≤ bs.getD j 0 ∧ bs.getD j 0 ≤ 57
    · have := q_run_ge (fun k => decide (48 ≤ bs.getD k 0) && decide (bs.getD k 0 ≤ 57)) m (j + 1)
      rw [decide_eq_true hd.1, decide_eq_true hd.2, Bool.true_and, if_pos rfl]
      exact ⟨fun e => by omega, fun e => absurd ⟨hl, hd⟩ e⟩
    · have e : (decide (48 ≤ bs.getD j 0) && decide (bs.getD j 0 ≤ 57)) = false := by
        cases hc : (decide (48 ≤ bs.getD j 0) && decide (bs.getD j 0 ≤ 57)) with
        | false => rfl
        | true => rw [Bool.and_eq_true, decide_eq_true_eq, decide_eq_true_eq] at hc; exact absurd hc hd
      rw [e]
      exact ⟨fun _ z => hd z.2, fun _ => rfl⟩
  · have : bs.length - j = 0 := by omega
    rw [this]
    exact ⟨fun _ z => hl z.1, fun _ => rfl⟩
theorem q_dec_le {bs : List Nat} {j : Nat} : ∀ m, m ≤ 3 → (∀ k, k < m → bs.getD (j + k) 0 ≤ 57) → q_dec bs j m ≤ 10 ^ m - 1
  | 0, _, _ => Nat.le_refl _
  | m + 1, hm, h => by
    have ih := q_dec_le m (by omega) (fun k hk => h k (by omega))
    have h1 := h m (by omega)
    rw [q_dec]
    have : m = 0 ∨ m = 1 ∨ m = 2 := by omega
    rcases this with e | e | e <;> subst e <;> omega
theorem q_run_f {f : Nat → Bool} : ∀ (m i k : Nat), i ≤ k → k < q_run f m i → f k = true
  | 0, i, k, h1, h2 => by rw [q_run] at h2; omega
  | m + 1, i, k, h1, h2 => by
    rw [q_run] at h2
    split at h2
    · rename_i hf
      by_cases hk : k = i
      · subst hk; exact hf
      · exact q_run_f m (i + 1) k (by omega) h2
    · omega
section QRE
variable {d : Nat} {Q : Option Value → px_S → Prop} {σ : px_S} {V : QV} {bs : List Nat}
theorem m_takeNumber {i B : Nat} (hB : q_B bs σ) (hi : i ≤ bs.length) (hBd : B ≤ 100) (h30 : σ.1 9 30 = nI i) (h31 : σ.1 9 31 = 0)
    (h1 : q_nen bs (q_skp bs i) = q_skp bs i → ∀ τ, q_e9 q_jn σ τ → τ.1 9 31 = 1 → τ.1 9 32 = nI (q_skp bs i) → Q (some (.int 0)) τ)
    (h2 : ¬ q_nen bs (q_skp bs i) = q_skp bs i → (4 ≤ q_nen bs (q_skp bs i) - q_skp bs i ∨ B < q_dec bs (q_skp bs i) (q_nen bs (q_skp bs i) - q_skp bs i)) → ∀ v τ, q_e9 q_jn σ τ → τ.1 9 31 = 2 → τ.1 9 32 = nI (q_skp bs i) → Q (some (.int v)) τ)
    (h3 : ¬ q_nen bs (q_skp bs i) = q_skp bs i → ¬ (4 ≤ q_nen bs (q_skp bs i) - q_skp bs i ∨ B < q_dec bs (q_skp bs i) (q_nen bs (q_skp bs i) - q_skp bs i)) → ∀ τ, q_e9 q_j1 σ τ → τ.1 9 30 = nI (q_nen bs (q_skp bs i)) → Q (some (.int (nI (q_dec bs (q_skp bs i) (q_nen bs (q_skp bs i) - q_skp bs i))))) τ) : Cw (d + 2) 193 [.ref 9, .int (nI B)] σ Q := by
  have h120 := hB.2.2.1
  have hs := q_skp_in hi
  obtain ⟨j, ej⟩ : ∃ j, j = q_skp bs i := ⟨_, rfl⟩
  rw [← ej] at h1 h2 h3 hs
  have hne := q_nen_eq hs.2
  have hni := q_nen_in hs.2
  refine e193 (b193_0 (m_look hB hi h30 (fun τ he e30 => b193_4 ?_)))
  rw [← ej] at e30 ⊢
  have hBt : q_B bs τ := hB.e he (by decide)
  have t31 : τ.1 9 31 = 0 := by rw [he.2.2 31 (by decide)]; exact h31
  have l255 := hB.2.2.2 j
  have body : ∀ (z : Int32), ¬ q_nen bs j = j → Wp (d + 1) tb_193 35 [.ref 9, .int (nI B), .int z, .int (nI j), .null, .null] [] τ Q := by
    intro z hz
    have fin : ∀ (v : Int32) (τ' : px_S), q_e9 q_j1 σ τ' → τ'.1 9 30 = nI (q_nen bs j) → (q_nen bs j - j ≤ 3 → v = nI (q_dec bs j (q_nen bs j - j))) → Wp (d + 1) tb_193 117 [.ref 9, .int (nI B), .int z, .int (nI j), .int v, .null] [] τ' Q := by
      intro v τ' he' e30' hv
      have t31' : τ'.1 9 31 = 0 := by rw [he'.2.2 31 (by decide)]; exact h31
      have bad : (4 ≤ q_nen bs j - j ∨ B < q_dec bs j (q_nen bs j - j)) → Wp (d + 1) tb_193 138 [.ref 9, .int (nI B), .int z, .int (nI j), .int v, .null] [.ref 9] τ' Q := by
        intro hb
        refine b193_138 (b193_139 (m_want (b := false) t31' (by decide) (fun z => by cases z) (fun _ τ2 he2 e31 e32 => b193_144 ?_)))
        exact h2 hz hb v τ2 ((he'.mono (fun j hj => Or.inl hj)).tr (he2.mono (fun j hj => Or.inr hj))) e31 e32
      refine b193_117 (fun g => bad (Or.inl ?_)) (fun g => b193_128 (fun g2 => bad (Or.inr ?_)) (fun g2 => b193_134 (b193_139 (m_want (b := true) t31' (by decide) (fun _ => b193_144 ?_) (fun z => by cases z)))))
      · rw [e30', pk_sub hni.1, show (4 : Int32) = nI 4 from rfl, nI_leI (by decide) (by omega)] at g; exact g
      · rw [e30', pk_sub hni.1, show (4 : Int32) = nI 4 from rfl, nI_leI (by decide) (by omega)] at g
        have hdl : q_dec bs j (q_nen bs j - j) ≤ 10 ^ (q_nen bs j - j) - 1 := q_dec_le _ (by omega) (fun k hk => by
          have := q_run_f (bs.length - j) j (j + k) (by omega) (show j + k < q_nen bs j by omega)
          rw [Bool.and_eq_true, decide_eq_true_eq, decide_eq_true_eq] at this; exact this.2)
        have hp10 : 10 ^ (q_nen bs j - j) ≤ 10 ^ 3 := Nat.pow_le_pow_right (by decide) (by omega)
        rw [hv (by omega), nI_ltI (by omega) (by omega)] at g2
        exact g2
      · rw [e30', pk_sub hni.1, show (4 : Int32) = nI 4 from rfl, nI_leI (by decide) (by omega)] at g
        have hdl : q_dec bs j (q_nen bs j - j) ≤ 10 ^ (q_nen bs j - j) - 1 := q_dec_le _ (by omega) (fun k hk => by
          have := q_run_f (bs.length - j) j (j + k) (by omega) (show j + k < q_nen bs j by omega)
          rw [Bool.and_eq_true, decide_eq_true_eq, decide_eq_true_eq] at this; exact this.2)
        have hp10 : 10 ^ (q_nen bs j - j) ≤ 10 ^ 3 := Nat.pow_le_pow_right (by decide) (by omega)
        rw [hv (by omega), nI_ltI (by omega) (by omega)] at g2
        rw [hv (by omega)]
        exact h3 hz (fun z => by rcases z with z | z; exact g z; exact g2 z) τ' he' e30'
    have loop : ∀ m k (v : Int32) (τ' : px_S), k + m = bs.length → j ≤ k → q_e9 q_j1 σ τ' → τ'.1 9 30 = nI k → (k - j ≤ 3 → v = nI (q_dec bs j (k - j))) → (∀ u, j ≤ u → u < k → bs.getD u 0 ≤ 57) → q_run (fun k => decide (48 ≤ bs.getD k 0) && decide (bs.getD k 0 ≤ 57)) m k = q_nen bs j → Wp (d + 1) tb_193 38 [.ref 9, .int (nI B), .int z, .int (nI j), .int v, .null] [] τ' Q := by
      intro m
      induction m with
      | zero =>
        intro k v τ' hk hjk he' e30' hv hall er
        have hB' : q_B bs τ' := hB.e he' (by decide)
        have e : k = q_nen bs j := er
        exact b193_38 (fun _ => fin v τ' he' (by rw [e30', e]) (by rw [← e]; exact hv)) (fun g => absurd (hB'.ge e30' (by omega) (by omega)) g)
      | succ m ih =>
        intro k v τ' hk hjk he' e30' hv hall er
        have hB' : q_B bs τ' := hB.e he' (by decide)
        obtain ⟨i1, c1⟩ := q_lt (j := k) (N := 120) (by omega) (by decide)
        have hb := hB'.2.1 k (by omega)
        have l255 := hB.2.2.2 k
        refine b193_38 (fun g => absurd g (hB'.lt e30' (by omega))) (fun _ => b193_49 (by rw [e30']; exact i1) ?_)
        rw [e30', c1, hb]
        refine m_inI (a' := 48) (b' := 57) (by decide) (by decide) (fun g1 g2 => ?_) (fun g => ?_)
        · rw [nI_toInt (by omega)] at g1 g2
          have e : (decide (48 ≤ bs.getD k 0) && decide (bs.getD k 0 ≤ 57)) = true := by rw [Bool.and_eq_true, decide_eq_true_eq, decide_eq_true_eq]; omega
          rw [q_run, e] at er
          have nxt : ∀ v' : Int32, (k + 1 - j ≤ 3 → v' = nI (q_dec bs j (k + 1 - j))) → Wp (d + 1) tb_193 102 [.ref 9, .int (nI B), .int z, .int (nI j), .int v, .null] [.int v'] τ' Q := by
            intro v' hv'
            refine b193_102 (b193_114 ?_)
            rw [e30', nI_1]
            exact ih (k + 1) v' _ (by omega) (by omega) (he'.tr (q_e9.u rfl)) q_u9 hv' (fun u hu1 hu2 => by
              by_cases huk : u = k
              · subst huk; omega
              · exact hall u hu1 (by omega)) er
          refine b193_68 (fun g => absurd g (by decide)) (fun _ => b193_71 (fun g3 => b193_84 (by rw [e30']; exact i1) (nxt _ (fun hle => ?_))) (fun g3 => b193_79 (nxt _ (fun hle => ?_))))
          · rw [e30', c1, hb, hv (by omega), show (10 : Int32) = nI 10 from rfl, pk_mul, nI_add, show (48 : Int32) = nI 48 from rfl, pk_sub (by omega), show k + 1 - j = (k - j) + 1 by omega, q_dec, show j + (k - j) = k by omega]
            congr 1; omega
          · exfalso
            apply g3
            rw [hv (by omega), show (999 : Int32) = nI 999 from rfl]
            have hdl := q_dec_le (bs := bs) (j := j) (k - j) (by omega) (fun u hu => hall (j + u) (by omega) (by omega))
            have hp10 : 10 ^ (k - j) ≤ 10 ^ 3 := Nat.pow_le_pow_right (by decide) (by omega)
            exact nI_le (by omega) (by omega)
        · rw [nI_toInt (by omega)] at g
          have e : (decide (48 ≤ bs.getD k 0) && decide (bs.getD k 0 ≤ 57)) = false := by
            cases hc : (decide (48 ≤ bs.getD k 0) && decide (bs.getD k 0 ≤ 57)) with
            | false => rfl
            | true => rw [Bool.and_eq_true, decide_eq_true_eq, decide_eq_true_eq] at hc; omega
          rw [q_run, e] at er
          have e : k = q_nen bs j := er
          exact b193_68 (fun _ => fin v τ' he' (by rw [e30', e]) (by rw [← e]; exact hv)) (fun g => absurd rfl g)
    refine b193_35 (loop (bs.length - j) j 0 τ (by omega) (Nat.le_refl _) he e30 (fun _ => by rw [Nat.sub_self]; rfl) (fun u hu1 hu2 => by omega) rfl)
  have fail : ∀ (z : Int32), q_nen bs j = j → Wp (d + 1) tb_193 22 [.ref 9, .int (nI B), .int z, .int (nI j), .null, .null] [.int 0, .ref 9] τ Q := by
    intro z hz
    refine b193_22 (m_want (b := false) t31 (by decide) (fun z => by cases z) (fun _ τ2 he2 e31 e32 => b193_30 (fun g => absurd rfl g) (fun _ => b193_33 ?_)))
    rw [e30] at e32
    exact h1 hz τ2 ((he.mono (fun j hj => Or.inl hj)).tr (he2.mono (fun j hj => Or.inr hj))) e31 e32
  by_cases hl : j < bs.length
  · rw [if_pos hl]
    refine m_inI (a' := 48) (b' := 57) (by decide) (by decide) (fun g1 g2 => ?_) (fun g => ?_)
    · rw [nI_toInt (by omega)] at g1 g2
      have hz : ¬ q_nen bs j = j := fun e => hne.mp e ⟨hl, by omega, by omega⟩
      rw [e30]
      exact b193_22 (m_want (b := true) t31 (by decide) (fun _ => b193_30 (fun _ => body _ hz) (fun g => absurd (by decide) g)) (fun z => by cases z))
    · rw [nI_toInt (by omega)] at g
      rw [e30]
      exact fail _ (hne.mpr (fun z => g (by omega)))
  · rw [if_neg hl]
    refine m_inI (a' := 48) (b' := 57) (by decide) (by decide) (fun g1 g2 => ?_) (fun g => ?_)
    · have : ((-1 : Int32)).toInt = -1 := by decide
      omega
    · rw [e30]
      exact fail _ (hne.mpr (fun z => hl z.1))
/-- what a clause leaves: the cells but 9 and 58; the fields but 30 .. 34 -/
def q_ec (σ τ : px_S) : Prop := τ.2 = σ.2 ∧ (∀ k, k ≠ 9 → k ≠ 58 → τ.1 k = σ.1 k) ∧ ∀ j, ¬ q_ja j → τ.1 9 j = σ.1 9 j
theorem q_ec.rf {σ : px_S} : q_ec σ σ := ⟨rfl, fun _ _ _ => rfl, fun _ _ => rfl⟩
theorem q_ec.tr {σ τ υ : px_S} (h1 : q_ec σ τ) (h2 : q_ec τ υ) : q_ec σ υ := ⟨h2.1.trans h1.1, fun k a b => (h2.2.1 k a b).trans (h1.2.1 k a b), fun j hj => (h2.2.2 j hj).trans (h1.2.2 j hj)⟩
theorem q_ec.e9 {J : Nat → Prop} {σ τ : px_S} (h : q_e9 J σ τ) (hJ : ∀ j, J j → q_ja j) : q_ec σ τ := ⟨h.1, fun k a _ => h.2.1 k a, fun j hj => h.2.2 j (fun z => hj (hJ j z))⟩
theorem q_ec.u58 {σ : px_S} {j : Nat} {x : Int32} : q_ec σ (px_uI σ 58 j x) := ⟨rfl, fun k _ h => q_uc h, fun j _ => by rw [q_uc (by decide)]⟩
theorem q_B.ec {σ τ : px_S} (h : q_B bs σ) (he : q_ec σ τ) : q_B bs τ := ⟨by rw [he.2.2 29 (by decide)]; exact h.1, fun k hk => by rw [he.2.1 57 (by decide) (by decide)]; exact h.2.1 k hk, h.2.2⟩
theorem q_j1a : ∀ j, q_j1 j → q_ja j := by intro j h; unfold q_j1 at h; unfold q_ja; omega
theorem q_j3a : ∀ j, q_j3 j → q_ja j := by intro j h; unfold q_j3 at h; unfold q_ja; omega
theorem q_jwa : ∀ j, q_jw j → q_ja j := by intro j h; unfold q_jw at h; unfold q_ja; omega
theorem q_jna : ∀ j, q_jn j → q_ja j := by intro j h; unfold q_jn at h; unfold q_ja; omega
theorem m_readClause {k i : Nat} (hk : k ≤ 4) (hB : q_B bs σ) (hi : i ≤ bs.length) (h30 : σ.1 9 30 = nI i) (h31 : σ.1 9 31 = 0)
    (hF : ∀ f w τ, q_tl bs k i = .inl (f, w) → q_ec σ τ → 0 < f → f ≤ 3 → τ.1 9 31 = nI f → τ.1 9 32 = nI w → Q none τ)
    (hS : ∀ e v τ, q_tl bs k i = .inr (e, v) → i < e → e ≤ bs.length → v ≤ 100 → q_ec σ τ → τ.1 9 30 = nI e → τ.1 9 31 = 0 → τ.1 9 32 = σ.1 9 32 → (∀ u, τ.1 58 u = upd (σ.1 58) k (nI v) u) → Q none τ) : Cw (d + 3) 192 [.ref 9, .int (nI k)] σ Q := by
  have h120 := hB.2.2.1
  have hs := q_skp_in hi
  obtain ⟨ik, ck⟩ := q_lt (j := k) (N := 5) (by omega) (by decide)
  -- behind the value, at fault
  have bad : ∀ (f w : Nat) (τ : px_S) (v2 v3 : Value), q_tl bs k i = .inl (f, w) → q_ec σ τ → 0 < f → f ≤ 3 → τ.1 9 31 = nI f → τ.1 9 32 = nI w → Wp (d + 2) tb_192 109 [.ref 9, .int (nI k), v2, v3] [] τ Q := by
    intro f w τ v2 v3 e1 e2 e3 e4 e5 e6
    exact b192_109 (fun _ => b192_153 (hF f w τ e1 e2 e3 e4 e5 e6)) (fun g => absurd (by rw [e5]; exact nI_ne0 e3 (by omega)) g)
  have good : ∀ (e v : Nat) (τ : px_S) (v2 v3 : Value), q_val bs k (q_skp bs i) = .inr (e, v) → i ≤ e → e ≤ bs.length → v ≤ 100 → q_ec σ τ → τ.1 9 30 = nI e → τ.1 9 31 = 0 → τ.1 9 32 = σ.1 9 32 → (∀ u, τ.1 58 u = upd (σ.1 58) k (nI v) u) → px_nc v2 = true → px_nc v3 = true → Wp (d + 2) tb_192 109 [.ref 9, .int (nI k), v2, v3] [] τ Q := by
    intro e v τ v2 v3 ev hie hel hv he e30 e31 e32 e58 n2 n3
    have hBt := hB.ec he
    have hse := q_skp_in hel
    refine b192_109 (fun g => absurd e31 g) (fun _ => b192_116 n2 n3 (m_look hBt hel e30 (fun τ2 he2 e302 => ?_)))
    have e312 : τ2.1 9 31 = 0 := by rw [he2.2.2 31 (by decide)]; exact e31
    have e322 : τ2.1 9 32 = σ.1 9 32 := by rw [he2.2.2 32 (by decide)]; exact e32
    have e582 : ∀ u, τ2.1 58 u = upd (σ.1 58) k (nI v) u := fun u => by rw [he2.2.1 58 (by decide)]; exact e58 u
    have hec2 : q_ec σ τ2 := he.tr (q_ec.e9 he2 q_j1a)
    by_cases hc : q_skp bs e < bs.length ∧ bs.getD (q_skp bs e) 0 = 59
    · have et : q_tl bs k i = .inr (q_skp bs e + 1, v) := by unfold q_tl; rw [ev]; dsimp only; rw [if_pos hc]
      refine b192_120 (fun g => absurd (by rw [if_pos hc.1, hc.2]; rfl) g) (fun _ => b192_133 (b192_138 n3 (m_want (b := true) e312 (by decide) (fun _ => b192_146 n3 (m_one (b192_149 (b192_153 ?_)))) (fun z => by cases z))))
      rw [e302, if_neg (by decide), nI_1]
      exact hS _ v _ et (by omega) (by omega) hv (hec2.tr (q_ec.e9 (q_e9.u (J := q_j1) rfl) q_j1a)) q_u9 (by rw [q_u9n (by decide)]; exact e312) (by rw [q_u9n (by decide)]; exact e322) (fun u => by rw [q_uc (by decide)]; exact e582 u)
    · have et : q_tl bs k i = .inl (1, q_skp bs e) := by unfold q_tl; rw [ev]; dsimp only; rw [if_neg hc]
      refine b192_120 (fun _ => b192_137 (b192_138 n3 (m_want (b := false) e312 (by decide) (fun z => by cases z) (fun _ τ3 he3 e313 e323 => b192_146 n3 (m_one (b192_149 (b192_153 ?_))))))) (fun g => absurd ?_ g)
      · rw [e302] at e323
        exact hF 1 _ _ et ((hec2.tr (q_ec.e9 he3 q_jwa)).tr (q_ec.e9 (q_e9.u (J := q_j1) rfl) q_j1a)) (by decide) (by decide) (by rw [q_u9n (by decide)]; exact e313) (by rw [q_u9n (by decide)]; exact e323)
      · by_cases hl : q_skp bs e < bs.length
        · rw [if_pos hl]
          have := hB.2.2.2 (q_skp bs e)
          exact fun z => hc ⟨hl, (nI_eq (by omega) (by decide)).mp z⟩
        · rw [if_neg hl]; decide
  refine e192 (b192_0 (fun g => ?_) (fun g => ?_))
  · -- a number
    have hk2 : ¬ k = 2 := fun e => g (by rw [e]; rfl)
    have num : ∀ B : Nat, B = q_bnd k → Wp (d + 2) tb_192 105 [.ref 9, .int (nI k), .null, .null] [.int (nI B), .ref 9, .int (nI k), .ref 58] σ Q := by
      intro B eB
      have hB100 : B ≤ 100 := by rw [eB]; unfold q_bnd; split <;> (try split) <;> (try split) <;> decide
      refine b192_105 (m_takeNumber hB hi hB100 h30 h31 (fun hz τ he e31 e32 => ?_) (fun hz hb v τ he e31 e32 => ?_) (fun hz hb τ he e30 => ?_))
      · refine b192_108 ik (bad 1 (q_skp bs i) _ _ _ ?_ ((q_ec.e9 he q_jna).tr q_ec.u58) (by decide) (by decide) (by rw [q_uc (by decide)]; exact e31) (by rw [q_uc (by decide)]; exact e32))
        unfold q_tl q_val; rw [if_neg hk2, if_pos hz]
      · refine b192_108 ik (bad 2 (q_skp bs i) _ _ _ ?_ ((q_ec.e9 he q_jna).tr q_ec.u58) (by decide) (by decide) (by rw [q_uc (by decide)]; exact e31) (by rw [q_uc (by decide)]; exact e32))
        rw [eB] at hb
        unfold q_tl q_val; rw [if_neg hk2, if_neg hz, if_pos hb]
      · have hni := q_nen_in hs.2
        rw [eB] at hb
        refine b192_108 ik ?_
        rw [ck]
        refine good (q_nen bs (q_skp bs i)) (q_dec bs (q_skp bs i) (q_nen bs (q_skp bs i) - q_skp bs i)) _ _ _ ?_ (by omega) hni.2 (by omega) ((q_ec.e9 he q_j1a).tr q_ec.u58) (by rw [q_uc (by decide)]; exact e30) (by rw [q_uc (by decide), he.2.2 31 (by decide)]; exact h31) (by rw [q_uc (by decide), he.2.2 32 (by decide)]) (fun u => ?_) rfl rfl
        · unfold q_val; rw [if_neg hk2, if_neg hz, if_neg hb]
        · rw [q_u]
          unfold upd
          by_cases hu : u = k
          · rw [if_pos ⟨rfl, hu⟩, if_pos hu]
          · rw [if_neg (fun z => hu z.2), if_neg hu, he.2.1 58 (by decide)]
    refine b192_70 (fun g0 => b192_84 (fun g1 => b192_94 (fun g3 => b192_104 (num 5 ?_)) (fun g3 => b192_99 (num 14 ?_))) (fun g1 => b192_89 (num 100 ?_))) (fun g0 => b192_80 (num 2 ?_))
    · have k0 : ¬ k = 0 := fun e => g0 (by rw [e]; rfl)
      have k1 : ¬ k = 1 := fun e => g1 (by rw [e]; rfl)
      have k3 : ¬ k = 3 := fun e => g3 (by rw [e]; rfl)
      unfold q_bnd; rw [if_neg k0, if_neg k1, if_neg k3]
    · have : k = 3 := (nI_eq (b := 3) (by omega) (by decide)).mp (Decidable.not_not.mp g3)
      rw [this]; rfl
    · have : k = 1 := (nI_eq (b := 1) (by omega) (by decide)).mp (Decidable.not_not.mp g1)
      rw [this]; rfl
    · have : k = 0 := (nI_eq (b := 0) (by omega) (by decide)).mp (Decidable.not_not.mp g0)
      rw [this]; rfl
  · -- yes or no
    have hk2 : k = 2 := (nI_eq (b := 2) (by omega) (by decide)).mp (Decidable.not_not.mp g)
    refine b192_5 (m_takeWord hB hi h30 (fun τ he e30 e33 e34 => b192_9 ?_))
    have hBt : q_B bs τ := hB.e he (by decide)
    have hwi := q_wen_in hs.2
    have t31 : τ.1 9 31 = 0 := by rw [he.2.2 31 (by decide)]; exact h31
    have t32 : τ.1 9 32 = σ.1 9 32 := by rw [he.2.2 32 (by decide)]
    have hbm : q_skp bs i + (q_wen bs (q_skp bs i) - q_skp bs i) ≤ bs.length := by omega
    refine m_isWord (w := [121, 101, 115]) hBt (by decide) (q_w255 (by decide)) hbm e33 e34 rfl rfl rfl rfl rfl rfl ?_
    have ok : ∀ (b : Bool) (x3 : Int32), q_val bs k (q_skp bs i) = .inr (q_wen bs (q_skp bs i), if b then 1 else 0) → Wp (d + 2) tb_192 43 [.ref 9, .int (nI k), .int (q_b b), .null] [.ref 9] τ Q := by
      intro b x3 ev
      refine b192_43 (b192_48 (m_want (b := true) t31 (by decide) (fun _ => b192_56 (m_one (b192_66 ik (b192_67 ?_)))) (fun z => by cases z)))
      rw [ck, q_one, q_bN]
      refine good _ _ _ _ _ ev (by omega) hwi.2 (by cases b <;> decide) ((q_ec.e9 he q_j3a).tr q_ec.u58) (by rw [q_uc (by decide)]; exact e30) (by rw [q_uc (by decide)]; exact t31) (by rw [q_uc (by decide)]; exact t32) (fun u => ?_) rfl rfl
      rw [q_u]
      unfold upd
      by_cases hu : u = k
      · rw [if_pos ⟨rfl, hu⟩, if_pos hu]
      · rw [if_neg (fun z => hu z.2), if_neg hu, he.2.1 58 (by decide)]
    cases hy : q_isw bs (q_skp bs i) (q_wen bs (q_skp bs i) - q_skp bs i) [121, 101, 115] with
    | true => exact b192_22 (fun _ => ok true 0 (by unfold q_val; rw [if_pos hk2, hy]; rfl)) (fun g => absurd (by decide) g)
    | false =>
      refine b192_22 (fun g => absurd rfl g) (fun _ => b192_28 (m_isWord (w := [110, 111]) hBt (by decide) (q_w255 (by decide)) hbm e33 e34 rfl rfl rfl rfl rfl rfl ?_))
      cases hn : q_isw bs (q_skp bs i) (q_wen bs (q_skp bs i) - q_skp bs i) [110, 111] with
      | true => exact b192_40 (fun g => absurd g (by decide)) (fun _ => ok false 0 (by unfold q_val; rw [if_pos hk2, hy, hn]; rfl))
      | false =>
        refine b192_40 (fun _ => b192_47 (b192_48 (m_want (b := false) t31 (by decide) (fun z => by cases z) (fun _ τ2 he2 e31 e32 => b192_56 (m_one (b192_66 ik (b192_67 ?_))))))) (fun g => absurd rfl g)
        rw [e33] at e32
        refine bad 1 (q_skp bs i) _ _ _ ?_ (((q_ec.e9 he q_j3a).tr (q_ec.e9 he2 q_jwa)).tr q_ec.u58) (by decide) (by decide) (by rw [q_uc (by decide)]; exact e31) (by rw [q_uc (by decide)]; exact e32)
        unfold q_tl q_val; rw [if_pos hk2, hy, hn]; rfl
end QRE
