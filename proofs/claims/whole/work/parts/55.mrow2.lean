/-! ===== the row: the reference finds it ===== -/
theorem q_de_encf {ln u : Nat → Nat} (hl : ∀ k, ln k ≤ 14) (h4 : ∀ k, 4 ≤ k → ln k = 0) (hu : ∀ k, u k ≤ ln k) : q_de (q_enc u) = u := by
  funext k
  by_cases hk : k < 4
  · exact q_de_enc (fun k => Nat.le_trans (hu k) (hl k)) hk
  · have h1 := hu k
    have h2 := h4 k (by omega)
    have h3 : u k = 0 := by omega
    rw [h3]
    unfold q_de
    rw [if_neg (by omega), if_neg (by omega), if_neg (by omega), if_neg (by omega)]
theorem q_enc_mono {u v : Nat → Nat} (h : ∀ k, u k ≤ v k) : q_enc u ≤ q_enc v := by
  have h0 := h 0; have h1 := h 1; have h2 := h 2; have h3 := h 3
  unfold q_enc; omega
theorem q_enc_mv {ln : Nat → Nat} {tx : Nat → Nat → Nat} {u : Nat → Nat} {w : Nat} (h : q_hd ln tx u w) : q_enc u < q_enc (q_mv ln tx u w) := by
  obtain ⟨k, hk, h1, h2⟩ := h
  have g := fun i => q_mv_ge (ln := ln) (tx := tx) (u := u) (w := w) i
  have e : q_mv ln tx u w k = u k + 1 := by unfold q_mv; rw [if_pos ⟨hk, h1, h2⟩]
  have g0 := g 0; have g1 := g 1; have g2 := g 2; have g3 := g 3
  unfold q_enc
  have kk : k = 0 ∨ k = 1 ∨ k = 2 ∨ k = 3 := by omega
  rcases kk with q | q | q | q <;> subst q <;> omega
theorem q_isW_le {ln : Nat → Nat} {tx : Nat → Nat → Nat} {u : Nat → Nat} {m : Nat} (hl : ∀ k, ln k ≤ 14) (hu : ∀ k, u k ≤ ln k) (h : q_isW ln tx u m) : m ≤ 56 := by
  obtain ⟨r, hr, hrl⟩ := q_to_ex (tx := tx) (q_rem ln u) u (Nat.le_refl _) hu
  have h1 := h.2 r hr
  have l0 := hl 0; have l1 := hl 1; have l2 := hl 2; have l3 := hl 3
  unfold q_rem at hrl
  omega
theorem q_end_enc {ln u : Nat → Nat} (hu : ∀ k, u k ≤ ln k) : q_enc u = q_enc ln ↔ q_end ln u := by
  have h0 := hu 0; have h1 := hu 1; have h2 := hu 2; have h3 := hu 3
  constructor
  · intro h k hk
    unfold q_enc at h
    have kk : k = 0 ∨ k = 1 ∨ k = 2 ∨ k = 3 := by omega
    rcases kk with q | q | q | q <;> subst q <;> omega
  · intro h
    unfold q_enc
    rw [h 0 (by decide), h 1 (by decide), h 2 (by decide), h 3 (by decide)]
def q_WT (ln : Nat → Nat) (tx : Nat → Nat → Nat) (τ : px_S) (u : Nat → Nat) : Prop := ∃ m, m ≤ 56 ∧ τ.1 54 (q_enc u) = nI m ∧ q_isW ln tx u m
section QFR
variable {d : Nat} {Q : Option Value → px_S → Prop} {σ : px_S} {V : QV} {a : Int32} {ln : Nat → Nat} {sp : Nat → Nat → Nat}
/-- one state: how many are wanted from it -/
theorem m_want1 {u : Nat → Nat} {v3 v4 v5 v6 : Value} (hV : q_wf V) (hM : q_Ma V a σ) (hW : q_RW V ln sp) (hP : q_RP V ln sp σ) (hu : ∀ k, u k ≤ ln k) (hT : ∀ v, (∀ k, v k ≤ ln k) → q_enc u < q_enc v → q_WT ln (q_tn V sp) σ v) (n5 : px_nc v5 = true) (n6 : px_nc v6 = true)
    (h : ∀ m v3 v4 v5 v6, m ≤ 56 → q_isW ln (q_tn V sp) u m → px_nc v3 = true → px_nc v4 = true → px_nc v5 = true → px_nc v6 = true → Wp (d + 2) tb_168 136 [.ref 9, .int (nI (q_enc ln)), .int (nI (q_enc u)), v3, v4, v5, v6] [] (px_uI σ 54 (q_enc u) (nI m)) Q) :
    Wp (d + 2) tb_168 53 [.ref 9, .int (nI (q_enc ln)), .int (nI (q_enc u)), v3, v4, v5, v6] [] σ Q := by
  have lE := q_enc_lt hW.1
  have hu14 : ∀ k, u k ≤ 14 := fun k => Nat.le_trans (hu k) (hW.1 k)
  have lu := q_enc_lt hu14
  have hle : q_enc u ≤ q_enc ln := q_enc_mono hu
  obtain ⟨iu, cu⟩ := q_lt (j := q_enc u) (N := 50625) lu (by decide)
  by_cases he : q_end ln u
  · have e : q_enc u = q_enc ln := (q_end_enc hu).mpr he
    refine b168_53 (fun g => absurd (by rw [e]) g) (fun _ => b168_58 (b168_65 (b168_69 (fun g => absurd g (by decide)) (fun _ => b168_75 (fun _ => b168_129 iu ?_) (fun g => absurd (by rw [e]; exact Int32.le_refl _) g)))))
    rw [cu]
    exact h 0 _ _ _ _ (by decide) (q_isW_end he) rfl rfl n5 n6
  · have hne : q_enc u ≠ q_enc ln := fun z => he ((q_end_enc hu).mp z)
    have hex : ∀ w, q_hd ln (q_tn V sp) u w → ∃ n, n ≤ 56 ∧ σ.1 54 (q_enc (q_mv ln (q_tn V sp) u w)) = nI n ∧ q_isW ln (q_tn V sp) (q_mv ln (q_tn V sp) u w) n := fun w hw => hT _ (q_mv_in hu) (q_enc_mv hw)
    have inner : ∀ j k b (v5 v6 : Value), k + j = 4 → px_nc v5 = true → px_nc v6 = true → b ≤ 1000 → (∀ i n, i < k → u i < ln i → q_isW ln (q_tn V sp) (q_mv ln (q_tn V sp) u (q_tn V sp i (u i))) n → b ≤ n + 1) → (b = 1000 ∨ ∃ i n, i < k ∧ u i < ln i ∧ q_isW ln (q_tn V sp) (q_mv ln (q_tn V sp) u (q_tn V sp i (u i))) n ∧ b = n + 1) → Wp (d + 2) tb_168 69 [.ref 9, .int (nI (q_enc ln)), .int (nI (q_enc u)), .int (nI b), .int (nI k), v5, v6] [] σ Q := by
      intro j
      induction j with
      | zero =>
        intro k b v5 v6 hk m5 m6 hb h1 h2
        have e4 : k = 4 := by omega
        subst e4
        refine b168_69 (fun _ => b168_129 iu ?_) (fun g => absurd (by decide) g)
        rw [cu]
        have hW1 : q_isW ln (q_tn V sp) u b := by
          refine q_isW_step he ?_ (fun w n hw hn => ?_) (fun w hw => ?_)
          · rcases h2 with h2 | ⟨i, n, hi, hl, hn, e⟩
            · rcases q_end_dec ln u with z | ⟨i, hi, hz⟩
              · exact absurd z he
              · have hl : u i < ln i := by have := hu i; omega
                obtain ⟨n, hn1, -, hn2⟩ := hex (q_tn V sp i (u i)) ⟨i, hi, hl, rfl⟩
                have := h1 i n hi hl hn2
                omega
            · exact ⟨_, n, ⟨i, hi, hl, rfl⟩, hn, e⟩
          · obtain ⟨i, hi, hl, rfl⟩ := hw
            exact h1 i n hi hl hn
          · obtain ⟨n, -, -, hn⟩ := hex w hw
            exact ⟨n, hn⟩
        exact h b _ _ _ _ (q_isW_le hW.1 hu hW1) hW1 rfl rfl m5 m6
      | succ j ih =>
        intro k b v5 v6 hk m5 m6 hb h1 h2
        have hk4 : k < 4 := by omega
        refine b168_69 (fun g => absurd g (nI_ge (a := k) (b := 4) (by omega) (by decide))) (fun _ => b168_75 (fun g => absurd g (nI_ge (by omega) (by omega))) (fun _ => b168_80 m5 m6 (m_textAt hW hP hu hk4 ?_)))
        by_cases hl : u k < ln k
        · rw [if_pos hl]
          have hsp := hW.2 k (u k) hk4 hl
          have ls := q_sp_lt hV hsp
          have hhd : q_hd ln (q_tn V sp) u (q_tn V sp k (u k)) := ⟨k, hk4, hl, rfl⟩
          obtain ⟨n, hn1, hn2, hn3⟩ := hex _ hhd
          have lm := q_enc_lt (fun i => Nat.le_trans (q_mv_in (tx := q_tn V sp) (w := q_tn V sp k (u k)) hu i) (hW.1 i))
          obtain ⟨im, cm⟩ := q_lt (j := q_enc (q_mv ln (q_tn V sp) u (q_tn V sp k (u k)))) (N := 50625) lm (by decide)
          refine b168_87 (fun g => absurd g (nI_pos (by omega))) (fun _ => b168_94 m6 (m_behind hV hM hW hP hu hsp ?_))
          have key : ∀ b2, b2 ≤ 1000 → b2 ≤ b → b2 ≤ n + 1 → (b2 = b ∨ b2 = n + 1) → ∀ x6, Wp (d + 2) tb_168 123 [.ref 9, .int (nI (q_enc ln)), .int (nI (q_enc u)), .int (nI b2), .int (nI k), .int (nI (sp k (u k))), .int x6] [] σ Q := by
            intro b2 g0 g1 g2 g3 x6
            refine b168_123 ?_
            rw [nI_1]
            refine ih (k + 1) b2 _ _ (by omega) rfl rfl g0 (fun i n' hi hli hn' => ?_) ?_
            · by_cases hik : i = k
              · subst hik
                have := q_isW_one hn3 hn'
                omega
              · have := h1 i n' (by omega) hli hn'
                omega
            · rcases g3 with g3 | g3
              · rcases h2 with h2 | ⟨i, n', hi, hli, hn', e⟩
                · exact Or.inl (by omega)
                · exact Or.inr ⟨i, n', by omega, hli, hn', by omega⟩
              · exact Or.inr ⟨k, n, by omega, hl, hn3, g3⟩
          refine b168_106 im (fun g => b168_121 (b168_122 ?_)) (fun g => b168_116 (b168_122 ?_))
          · rw [cm, hn2, show (1 : Int32) = nI 1 from rfl, nI_add, nI_leI (by omega) (by omega)] at g
            exact key b hb (Nat.le_refl _) (by omega) (Or.inl rfl) _
          · rw [cm, hn2, show (1 : Int32) = nI 1 from rfl, nI_add, nI_leI (by omega) (by omega)] at g
            rw [cm, hn2, show (1 : Int32) = nI 1 from rfl, nI_add]
            exact key (1 + n) (by omega) (by omega) (by omega) (Or.inr (by omega)) _
        · rw [if_neg hl]
          refine b168_87 (fun _ => b168_123 ?_) (fun g => absurd (by decide) g)
          rw [nI_1]
          refine ih (k + 1) b _ _ (by omega) rfl m6 hb (fun i n' hi hli hn' => ?_) ?_
          · by_cases hik : i = k
            · subst hik; exact absurd hli hl
            · exact h1 i n' (by omega) hli hn'
          · rcases h2 with h2 | ⟨i, n', hi, hli, hn', e⟩
            · exact Or.inl h2
            · exact Or.inr ⟨i, n', by omega, hli, hn', e⟩
    refine b168_53 (fun _ => b168_62 (b168_65 ?_)) (fun g => absurd (fun z => hne ((nI_eq (by omega) (by omega)).mp z)) g)
    exact inner 4 0 1000 _ _ (by omega) n5 n6 (Nat.le_refl _) (fun i n hi => absurd hi (Nat.not_lt_zero _)) (Or.inl rfl)
/-- a state on the way: the least text of those that begin a shortest rest -/
theorem m_pick {u : Nat → Nat} {m : Nat} {v3 v4 v5 v6 : Value} (hV : q_wf V) (hM : q_Ma V a σ) (hW : q_RW V ln sp) (hP : q_RP V ln sp σ) (hu : ∀ k, u k ≤ ln k) (hT : ∀ v, (∀ k, v k ≤ ln k) → q_WT ln (q_tn V sp) σ v) (hm : q_isW ln (q_tn V sp) u (m + 1)) (n5 : px_nc v5 = true) (n6 : px_nc v6 = true)
    (h : ∀ t v4 v5 v6, q_sp V t → q_hd ln (q_tn V sp) u (q_pn (v_tx V t)) → q_isW ln (q_tn V sp) (q_mv ln (q_tn V sp) u (q_pn (v_tx V t))) m → (∀ v, q_hd ln (q_tn V sp) u v → q_isW ln (q_tn V sp) (q_mv ln (q_tn V sp) u v) m → q_pn (v_tx V t) ≤ v) → px_nc v5 = true → px_nc v6 = true → Wp (d + 2) tb_168 241 [.ref 9, .int (nI (q_enc ln)), .int (nI (q_enc u)), .int (nI t), .int v4, v5, v6] [] σ Q) :
    Wp (d + 2) tb_168 154 [.ref 9, .int (nI (q_enc ln)), .int (nI (q_enc u)), v3, v4, v5, v6] [] σ Q := by
  have lE := q_enc_lt hW.1
  have hu14 : ∀ k, u k ≤ 14 := fun k => Nat.le_trans (hu k) (hW.1 k)
  have lu := q_enc_lt hu14
  obtain ⟨iu, cu⟩ := q_lt (j := q_enc u) (N := 50625) lu (by decide)
  have hm56 := q_isW_le hW.1 hu hm
  obtain ⟨mu, -, hmu2, hmu3⟩ := hT u hu
  have emu : mu = m + 1 := q_isW_one hmu3 hm
  subst emu
  have inner : ∀ j k (o : Option Nat) (v5 v6 : Value), k + j = 4 → px_nc v5 = true → px_nc v6 = true → (o = none → ∀ i, i < k → u i < ln i → ¬ q_isW ln (q_tn V sp) (q_mv ln (q_tn V sp) u (q_tn V sp i (u i))) m) → (∀ t, o = some t → (∃ i, i < k ∧ u i < ln i ∧ t = sp i (u i) ∧ q_isW ln (q_tn V sp) (q_mv ln (q_tn V sp) u (q_tn V sp i (u i))) m) ∧ ∀ i, i < k → u i < ln i → q_isW ln (q_tn V sp) (q_mv ln (q_tn V sp) u (q_tn V sp i (u i))) m → q_pn (v_tx V t) ≤ q_tn V sp i (u i)) → Wp (d + 2) tb_168 159 [.ref 9, .int (nI (q_enc ln)), .int (nI (q_enc u)), .int (q_bi o), .int (nI k), v5, v6] [] σ Q := by
    intro j
    induction j with
    | zero =>
      intro k o v5 v6 hk m5 m6 h1 h2
      have e4 : k = 4 := by omega
      subst e4
      refine b168_159 (fun _ => ?_) (fun g => absurd (by decide) g)
      cases o with
      | none =>
        exfalso
        obtain ⟨r, hr, hrl⟩ := hm.1
        cases r with
        | nil => simp at hrl
        | cons w r =>
          obtain ⟨⟨hw, hr1⟩, hr2⟩ := hr
          have hWw : q_isW ln (q_tn V sp) (q_mv ln (q_tn V sp) u w) m := ⟨⟨r, ⟨hr1, hr2⟩, by simpa using hrl⟩, fun s hs => by
            have := hm.2 (w :: s) ⟨⟨hw, hs.1⟩, hs.2⟩
            simpa using this⟩
          obtain ⟨i, hi, hl, rfl⟩ := hw
          exact h1 rfl i hi hl hWw
      | some t =>
        obtain ⟨⟨i, hi, hl, rfl, hn⟩, hall⟩ := h2 _ rfl
        refine h _ _ _ _ (hW.2 i _ hi hl) ⟨i, hi, hl, rfl⟩ hn (fun v hv hWv => ?_) m5 m6
        obtain ⟨i2, hi2, hl2, rfl⟩ := hv
        exact hall i2 hi2 hl2 hWv
    | succ j ih =>
      intro k o v5 v6 hk m5 m6 h1 h2
      have hk4 : k < 4 := by omega
      have ob : o = none → q_bi o = -1 := fun e => by rw [e]; rfl
      have keep : ∀ (x5 x6 : Int32), (u k < ln k → q_isW ln (q_tn V sp) (q_mv ln (q_tn V sp) u (q_tn V sp k (u k))) m → ∃ t, o = some t ∧ q_pn (v_tx V t) ≤ q_tn V sp k (u k)) → Wp (d + 2) tb_168 233 [.ref 9, .int (nI (q_enc ln)), .int (nI (q_enc u)), .int (q_bi o), .int (nI k), .int x5, .int x6] [] σ Q := by
        intro x5 x6 hk2
        refine b168_233 (b168_234 ?_)
        rw [nI_1]
        refine ih (k + 1) o _ _ (by omega) rfl rfl (fun e i hi hl hn => ?_) (fun t e => ?_)
        · by_cases hik : i = k
          · subst hik
            obtain ⟨t, ht, -⟩ := hk2 hl hn
            rw [e] at ht; cases ht
          · exact h1 e i (by omega) hl hn
        · obtain ⟨⟨i, hi, hl, et, hn⟩, hall⟩ := h2 t e
          refine ⟨⟨i, by omega, hl, et, hn⟩, fun i2 hi2 hl2 hn2 => ?_⟩
          by_cases hik : i2 = k
          · subst hik
            obtain ⟨t2, ht2, hle⟩ := hk2 hl2 hn2
            rw [e] at ht2; cases ht2; exact hle
          · exact hall i2 (by omega) hl2 hn2
      refine b168_159 (fun g => absurd g (nI_ge (a := k) (b := 4) (by omega) (by decide))) (fun _ => b168_165 m5 m6 (m_textAt hW hP hu hk4 ?_))
      by_cases hl : u k < ln k
      · rw [if_pos hl]
        have hsp := hW.2 k (u k) hk4 hl
        have ls := q_sp_lt hV hsp
        have hhd : q_hd ln (q_tn V sp) u (q_tn V sp k (u k)) := ⟨k, hk4, hl, rfl⟩
        obtain ⟨n, hn1, hn2, hn3⟩ := hT _ (q_mv_in (tx := q_tn V sp) (w := q_tn V sp k (u k)) hu)
        have lm := q_enc_lt (fun i => Nat.le_trans (q_mv_in (tx := q_tn V sp) (w := q_tn V sp k (u k)) hu i) (hW.1 i))
        obtain ⟨im, cm⟩ := q_lt (j := q_enc (q_mv ln (q_tn V sp) u (q_tn V sp k (u k)))) (N := 50625) lm (by decide)
        refine b168_172 (fun g => absurd g (nI_pos (by omega))) (fun _ => b168_179 m6 (m_behind hV hM hW hP hu hsp (b168_191 im iu (fun g => ?_) (fun g => ?_))))
        · rw [cm, hn2, cu, hmu2, show (1 : Int32) = nI 1 from rfl, nI_add, nI_eq (by omega) (by omega)] at g
          refine b168_206 (b168_207 (fun _ => keep _ _ (fun _ hn => ?_)) (fun g => absurd rfl g))
          have := q_isW_one hn3 hn
          omega
        · rw [cm, hn2, cu, hmu2, show (1 : Int32) = nI 1 from rfl, nI_add, nI_eq (by omega) (by omega)] at g
          have en : n = m := by omega
          subst en
          have take : (∀ t, o = some t → q_tn V sp k (u k) ≤ q_pn (v_tx V t)) → ∀ (x6 : Int32), Wp (d + 2) tb_168 228 [.ref 9, .int (nI (q_enc ln)), .int (nI (q_enc u)), .int (q_bi o), .int (nI k), .int (nI (sp k (u k))), .int x6] [] σ Q := by
            intro hle x6
            refine b168_228 (b168_234 ?_)
            rw [nI_1]
            refine ih (k + 1) (some (sp k (u k))) _ _ (by omega) rfl rfl (fun e => by cases e) (fun t e => ?_)
            cases e
            refine ⟨⟨k, by omega, hl, rfl, hn3⟩, fun i hi hli hni => ?_⟩
            by_cases hik : i = k
            · subst hik; exact Nat.le_refl _
            · cases ho : o with
              | none => exact absurd hni (h1 ho i (by omega) hli)
              | some t => exact Nat.le_trans (hle t ho) ((h2 t ho).2 i (by omega) hli hni)
          refine b168_202 (b168_207 (fun g => absurd g (by decide)) (fun _ => b168_214 (fun g => take (fun t e => ?_) _) (fun g => ?_)))
          · obtain ⟨⟨i, hi, hli, et, -⟩, -⟩ := h2 t e
            have lt := q_sp_lt hV (hW.2 i _ (by omega) hli)
            rw [e] at g
            exact absurd g (nI_pos (by omega))
          · cases ho : o with
            | none => rw [ho] at g; exact absurd q_m1neg g
            | some t =>
              obtain ⟨⟨i, hi, hli, et, -⟩, -⟩ := h2 t ho
              have hspt : q_sp V t := by rw [et]; exact hW.2 i _ (by omega) hli
              rw [ho] at take keep
              refine b168_218 (m_isLess hV hM hsp hspt (b168_225 (fun g2 => keep _ _ (fun _ _ => ⟨t, rfl, ?_⟩)) (fun g2 => take (fun t2 e2 => ?_) _)))
              · have := of_decide_eq_false (q_bz.mp g2)
                show q_pn (v_tx V t) ≤ q_pn (v_tx V (sp k (u k)))
                omega
              · cases e2
                have g3 : ¬ (decide (q_pn (v_tx V (sp k (u k))) < q_pn (v_tx V t)) = false) := fun z => g2 (q_bz.mpr z)
                have g4 : q_pn (v_tx V (sp k (u k))) < q_pn (v_tx V t) := Classical.byContradiction (fun z => g3 (decide_eq_false z))
                show q_pn (v_tx V (sp k (u k))) ≤ q_pn (v_tx V t)
                omega
      · rw [if_neg hl]
        exact b168_172 (fun _ => b168_206 (b168_207 (fun _ => keep _ _ (fun z => absurd z hl)) (fun g => absurd rfl g))) (fun g => absurd (by decide) g)
  exact b168_154 (inner 4 0 none _ _ (by omega) n5 n6 (fun _ i hi => absurd hi (Nat.not_lt_zero _)) (fun t e => by cases e))
end QFR
