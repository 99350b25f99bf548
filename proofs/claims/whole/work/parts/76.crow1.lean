/-! ===== the class: heads and steps of states; a state gone through ===== -/
theorem b_orI (a b : Nat) : nI a ||| nI b = nI (a ||| b) := by
  apply Int32.toBitVec_inj.1
  show BitVec.ofNat 32 a ||| BitVec.ofNat 32 b = BitVec.ofNat 32 (a ||| b)
  apply BitVec.eq_of_getLsbD_eq
  intro i hi
  simp [hi]
theorem b_4 {k : Nat} (h : k < 4) : k = 0 ∨ k = 1 ∨ k = 2 ∨ k = 3 := by omega
theorem b_pw {k : Nat} (h : k < 4) : b_16 k = 2 ^ (4 * k) := by rcases b_4 h with rfl | rfl | rfl | rfl <;> decide
theorem b_pos {s k : Nat} (hs : s < 65536) (hk : k < 4) : (((nI s).toUInt32 >>> (((4 : Int32) * nI k).toUInt32 &&& Int32.toUInt32 31)).toInt32 &&& (15 : Int32)) = nI (s / b_16 k % 16) := by
  have e : (((((4 : Int32) * nI k).toUInt32 &&& Int32.toUInt32 31).toBitVec) % 32).toNat = 4 * k := by rcases b_4 hk with rfl | rfl | rfl | rfl <;> decide
  have hl := Nat.div_le_self s (2 ^ (4 * k))
  rw [pk_ushrN (by omega) _ (4 * k) e, pk_andN (by omega) 4 (by decide), b_pw hk]
theorem b_or {a c k : Nat} (hk : k < 4) (ha : a < b_16 k) (hc : c ≤ 14) : nI a ||| (nI c <<< (((4 : Int32) * nI k) &&& 31)) = nI (a + c * b_16 k) := by
  have e : ((((4 : Int32) * nI k) &&& 31).toBitVec.smod 32).toNat = 4 * k := by rcases b_4 hk with rfl | rfl | rfl | rfl <;> decide
  have hb : b_16 k ≤ 4096 := by rcases b_4 hk with rfl | rfl | rfl | rfl <;> decide
  have hm : c * b_16 k ≤ 14 * 4096 := Nat.mul_le_mul hc hb
  rw [b_pw hk] at ha hm ⊢
  rw [pk_shlN _ (4 * k) e (by omega), b_orI, Nat.or_comm, Nat.mul_comm c, ← Nat.two_pow_add_eq_or_of_lt ha, Nat.add_comm]
theorem b_or16 {a b : Nat} (hb : b < 65536) : nI (a * 65536) ||| nI b = nI (a * 65536 + b) := by
  rw [b_orI, Nat.mul_comm a, show 65536 = 2 ^ 16 from rfl, ← Nat.two_pow_add_eq_or_of_lt hb]
theorem b_shl16 {a : Nat} (ha : a ≤ 4369) : nI a <<< ((16 : Int32) &&& 31) = nI (a * 65536) := pk_shlN _ 16 (by decide) (by omega)
theorem b_ushr16 {a b : Nat} (ha : a ≤ 4369) (hb : b < 65536) : ((nI (a * 65536 + b)).toUInt32 >>> ((16 : Int32).toUInt32 &&& Int32.toUInt32 31)).toInt32 = nI a := by
  rw [pk_ushrN (by omega) _ 16 (by decide)]
  congr 1; omega
theorem b_and16 {a b : Nat} (ha : a ≤ 4369) (hb : b < 65536) : nI (a * 65536 + b) &&& (65535 : Int32) = nI b := by
  rw [pk_andN (by omega) 16 (by decide)]
  congr 1; omega
def b_l (o : Option Nat) : Int64 := match o with
  | none => -1
  | some w => lN w
def b_bd (t : Option Nat) : Nat := match t with
  | none => 0
  | some t => t + 1
theorem b_m1 {w : Nat} (hw : w < 2 ^ 48) : ¬ lN w ≤ (-1 : Int64) := by
  rw [Int64.le_iff_toInt_le, pk_lT (by omega)]
  have : (-1 : Int64).toInt = -1 := by decide
  omega
theorem b_l_le {w : Nat} {t : Option Nat} (hw : w < 2 ^ 48) (ht : ∀ v, t = some v → v < 2 ^ 48) : b_l (some w) ≤ b_l t ↔ ¬ b_bd t ≤ w := by
  cases t with
  | none => exact ⟨fun h => absurd h (b_m1 hw), fun h => absurd (Nat.zero_le _) h⟩
  | some v =>
    have := ht v rfl
    show lN w ≤ lN v ↔ ¬ v + 1 ≤ w
    rw [pk_lLE (by omega) (by omega)]
    omega
theorem b_l_none (t : Option Nat) (ht : ∀ v, t = some v → v < 2 ^ 48) : b_l none ≤ b_l t := by
  cases t with
  | none => exact Int64.le_refl _
  | some v =>
    have := ht v rfl
    show (-1 : Int64) ≤ lN v
    rw [Int64.le_iff_toInt_le, pk_lT (by omega)]
    have : (-1 : Int64).toInt = -1 := by decide
    omega
theorem b_l_m1 {o : Option Nat} (ho : ∀ v, o = some v → v < 2 ^ 48) : b_l o = -1 ↔ o = none := by
  cases o with
  | none => exact ⟨fun _ => rfl, fun _ => rfl⟩
  | some v =>
    refine ⟨fun h => ?_, fun h => by cases h⟩
    have h : lN v = -1 := h
    exact absurd (by rw [h]; exact Int64.le_refl _) (b_m1 (ho v rfl))
def b_hk (ln : Nat → Nat) (tx : Nat → Nat → Nat) (u : Nat → Nat) (k : Nat) : Option Nat := if u k < ln k then some (tx k (u k)) else none
/-- what the finder was told -/
def b_P (ln : Nat → Nat) (tx : Nat → Nat → Nat) (P : Nat) (τ : px_S) : Prop := τ.1 6 5 = nI P ∧ (∀ k, k < P → τ.1 30 k = nI (ln k)) ∧ (∀ k i, k < P → i < ln k → τ.2.1 29 (14 * k + i) = lN (tx k i))
/-- pieces: how many, how long, their texts -/
def b_W (ln : Nat → Nat) (tx : Nat → Nat → Nat) (P : Nat) : Prop := P ≤ 4 ∧ (∀ k, ln k ≤ 14) ∧ (∀ k, P ≤ k → ln k = 0) ∧ (∀ k i, k < P → i < ln k → tx k i < 2 ^ 48)
def b_H (ln : Nat → Nat) (tx : Nat → Nat → Nat) (u : Nat → Nat) (P : Nat) (τ : px_S) : Prop := ∀ k, k < P → τ.2.1 31 k = b_l (b_hk ln tx u k)
section BW
variable {ln : Nat → Nat} {tx : Nat → Nat → Nat} {P : Nat} {u : Nat → Nat}
theorem b_hd_iff (hW : b_W ln tx P) {w : Nat} : q_hd ln tx u w ↔ ∃ k, k < P ∧ b_hk ln tx u k = some w := by
  obtain ⟨h1, h2, h3, h4⟩ := hW
  constructor
  · rintro ⟨k, hk, g1, g2⟩
    refine ⟨k, ?_, by unfold b_hk; rw [if_pos g1, g2]⟩
    rcases Nat.lt_or_ge k P with z | z
    · exact z
    · rw [h3 k z] at g1; omega
  · rintro ⟨k, hk, g⟩
    unfold b_hk at g
    split at g
    · rename_i z; exact ⟨k, by omega, z, Option.some.inj g⟩
    · cases g
theorem b_hk_lt (hW : b_W ln tx P) {k w : Nat} (hk : k < P) (h : b_hk ln tx u k = some w) : w < 2 ^ 48 := by
  unfold b_hk at h
  split at h
  · rename_i z; cases h; exact hW.2.2.2 k (u k) hk z
  · cases h
theorem b_hd_lt (hW : b_W ln tx P) {w : Nat} (h : q_hd ln tx u w) : w < 2 ^ 48 := by
  obtain ⟨k, hk, g⟩ := (b_hd_iff hW).mp h
  exact b_hk_lt hW hk g
theorem b_e_lt (hW : b_W ln tx P) (hu : ∀ k, u k ≤ ln k) : b_e u < 16 ^ P ∧ b_e u < 65536 := by
  obtain ⟨h1, h2, h3, h4⟩ := hW
  have a0 := hu 0; have a1 := hu 1; have a2 := hu 2; have a3 := hu 3
  have b0 := h2 0; have b1 := h2 1; have b2 := h2 2; have b3 := h2 3
  have kk : P = 0 ∨ P = 1 ∨ P = 2 ∨ P = 3 ∨ P = 4 := by omega
  unfold b_e
  rcases kk with rfl | rfl | rfl | rfl | rfl
  · have c0 := h3 0 (by omega); have c1 := h3 1 (by omega); have c2 := h3 2 (by omega); have c3 := h3 3 (by omega); omega
  · have c1 := h3 1 (by omega); have c2 := h3 2 (by omega); have c3 := h3 3 (by omega); omega
  · have c2 := h3 2 (by omega); have c3 := h3 3 (by omega); omega
  · have c3 := h3 3 (by omega); omega
  · omega
def b_ps (f : Nat → Nat) : Nat → Nat
  | 0 => 0
  | k + 1 => b_ps f k + f k * b_16 k
theorem b_ps_lt {f : Nat → Nat} (hf : ∀ k, f k ≤ 14) {k : Nat} (hk : k < 4) : b_ps f k < b_16 k := by
  have h0 := hf 0; have h1 := hf 1; have h2 := hf 2
  rcases b_4 hk with rfl | rfl | rfl | rfl
  · show 0 < 1; omega
  · show 0 + f 0 * 1 < 16; omega
  · show 0 + f 0 * 1 + f 1 * 16 < 256; omega
  · show 0 + f 0 * 1 + f 1 * 16 + f 2 * 256 < 4096; omega
theorem b_ps_e {f : Nat → Nat} (hP : P ≤ 4) (h0 : ∀ k, P ≤ k → f k = 0) : b_ps f P = b_e f := by
  have kk : P = 0 ∨ P = 1 ∨ P = 2 ∨ P = 3 ∨ P = 4 := by omega
  unfold b_e
  rcases kk with rfl | rfl | rfl | rfl | rfl
  · have c0 := h0 0 (by omega); have c1 := h0 1 (by omega); have c2 := h0 2 (by omega); have c3 := h0 3 (by omega)
    show 0 = _; omega
  · have c1 := h0 1 (by omega); have c2 := h0 2 (by omega); have c3 := h0 3 (by omega)
    show 0 + f 0 * 1 = _; omega
  · have c2 := h0 2 (by omega); have c3 := h0 3 (by omega)
    show 0 + f 0 * 1 + f 1 * 16 = _; omega
  · have c3 := h0 3 (by omega)
    show 0 + f 0 * 1 + f 1 * 16 + f 2 * 256 = _; omega
  · show 0 + f 0 * 1 + f 1 * 16 + f 2 * 256 + f 3 * 4096 = _; omega
end BW
section KRW
variable {d : Nat} {Q : Option Value → px_S → Prop} {σ : px_S} {ln : Nat → Nat} {tx : Nat → Nat → Nat} {P : Nat} {u : Nat → Nat}
theorem c_positionOf {s k : Nat} (hs : s < 65536) (hk : k < 4) (h : Q (some (.int (nI (s / b_16 k % 16)))) σ) : Cw (d + 1) 78 [.int (nI s), .int (nI k)] σ Q := e78 (b78_0 (by rw [b_pos hs hk]; exact h))
theorem c_stepBy {w : Nat} (hW : b_W ln tx P) (h5 : σ.1 6 5 = nI P) (hH : b_H ln tx u P σ) (hw : w < 2 ^ 48) (h : Q (some (.int (nI (b_st ln tx u w)))) σ) : Cw (d + 1) 80 [.ref 6, .long (lN w)] σ Q := by
  have hP4 := hW.1
  have ha14 : ∀ k, b_a ln tx u w k ≤ 14 := fun k => by have := b_a_le (ln := ln) (tx := tx) (u := u) (w := w) k; omega
  have loop : ∀ m k, k + m = P → Wp d tb_80 5 [.ref 6, .long (lN w), .null, .int (nI (b_ps (b_a ln tx u w) k)), .int (nI k)] [] σ Q := by
    intro m
    induction m with
    | zero =>
      intro k hk
      have e : b_ps (b_a ln tx u w) k = b_st ln tx u w := by
        rw [show k = P by omega]
        refine b_ps_e hP4 (fun i hi => ?_)
        unfold b_a
        rw [if_neg (fun z => by have := hW.2.2.1 i hi; omega)]
      rw [e]
      exact b80_5 (fun _ => b80_41 h) (fun g => absurd (by rw [h5]; exact nI_le (by omega) (by omega)) g)
    | succ m ih =>
      intro k hk
      obtain ⟨ik, ck⟩ := q_lt (j := k) (N := 4) (by omega) (by decide)
      have ih := ih (k + 1) (by omega)
      rw [b_ps] at ih
      have eh := hH k (by omega)
      refine b80_5 (fun g => absurd g (by rw [h5]; exact nI_ge (by omega) (by omega))) (fun _ => b80_14 ik (fun g => b80_35 ?_) (fun g => b80_26 (b80_35 ?_)))
      · rw [ck, eh, lg_cmp_eq] at g
        have e : b_a ln tx u w k = 0 := by
          unfold b_a
          rw [if_neg (fun z => g ?_)]
          unfold b_hk
          rw [if_pos z.2.1, z.2.2]; rfl
        rw [e, Nat.zero_mul, Nat.add_zero] at ih
        rw [nI_1]
        exact ih
      · rw [ck, eh, lg_cmp_eq, Decidable.not_not] at g
        have e : b_a ln tx u w k = 1 := by
          unfold b_hk at g
          split at g
          · rename_i hz
            have g : lN (tx k (u k)) = lN w := g
            have l := hW.2.2.2 k (u k) (by omega) hz
            exact if_pos ⟨by omega, hz, (pk_lEQ (by omega) (by omega)).mp g⟩
          · exact absurd (show lN w ≤ -1 by rw [← g]; exact Int64.le_refl _) (b_m1 hw)
        rw [e] at ih
        rw [show (1 : Int32) = nI 1 from rfl, b_or (by omega) (b_ps_lt ha14 (by omega)) (by decide)]
        rw [nI_add k 1]
        exact ih
  exact e80 (b80_0 (loop P 0 (by omega)))
/-- the least head that is not below the bound -/
def b_Ls (ln : Nat → Nat) (tx : Nat → Nat → Nat) (u : Nat → Nat) (b k : Nat) (o : Option Nat) : Prop := (∀ w, o = some w → b ≤ w ∧ ∃ i, i < k ∧ b_hk ln tx u i = some w) ∧ (∀ i w, i < k → b_hk ln tx u i = some w → b ≤ w → ∃ v, o = some v ∧ v ≤ w)
theorem c_leastHead {t : Option Nat} (hW : b_W ln tx P) (h5 : σ.1 6 5 = nI P) (hH : b_H ln tx u P σ) (ht : ∀ v, t = some v → v < 2 ^ 48) (h : ∀ o, b_Ls ln tx u (b_bd t) P o → Q (some (.long (b_l o))) σ) : Cw (d + 1) 79 [.ref 6, .long (b_l t)] σ Q := by
  have hP4 := hW.1
  have loop : ∀ m k o, k + m = P → b_Ls ln tx u (b_bd t) k o → Wp d tb_79 7 [.ref 6, .long (b_l t), .null, .long (b_l o), .null, .int (nI k)] [] σ Q := by
    intro m
    induction m with
    | zero =>
      intro k o hk hL
      rw [show k = P by omega] at hL
      exact b79_7 (fun _ => b79_62 (h o hL)) (fun g => absurd (by rw [h5]; exact nI_le (by omega) (by omega)) g)
    | succ m ih =>
      intro k o hk hL
      obtain ⟨ik, ck⟩ := q_lt (j := k) (N := 4) (by omega) (by decide)
      have eh := hH k (by omega)
      have olt : ∀ v, o = some v → v < 2 ^ 48 := fun v hv => by
        obtain ⟨-, i, i1, i2⟩ := hL.1 v hv
        exact b_hk_lt hW (by omega) i2
      have keep : (∀ w, b_hk ln tx u k = some w → b_bd t ≤ w → ∃ v, o = some v ∧ v ≤ w) → Wp d tb_79 56 [.ref 6, .long (b_l t), .null, .long (b_l o), .null, .int (nI k)] [] σ Q := fun hz => by
        refine b79_56 ?_
        rw [nI_1]
        refine ih (k + 1) o (by omega) ⟨fun w hw => ?_, fun i w hi hw hb => ?_⟩
        · obtain ⟨g1, i, i1, i2⟩ := hL.1 w hw
          exact ⟨g1, i, by omega, i2⟩
        · by_cases hik : i = k
          · subst hik; exact hz w hw hb
          · exact hL.2 i w (by omega) hw hb
      refine b79_7 (fun g => absurd g (by rw [h5]; exact nI_ge (by omega) (by omega))) (fun _ => ?_)
      cases hk2 : b_hk ln tx u k with
      | none =>
        rw [hk2] at eh
        refine b79_16 ik (fun _ => keep (fun w hw => by rw [hk2] at hw; cases hw)) (fun g => absurd ?_ g)
        rw [ck, eh, lg_cmp_le]
        exact b_l_none t ht
      | some w =>
        rw [hk2] at eh
        have hwl := b_hk_lt hW (show k < P by omega) hk2
        have take : (∀ v, o = some v → w < v) → b_bd t ≤ w → Wp d tb_79 48 [.ref 6, .long (b_l t), .null, .long (b_l o), .null, .int (nI k)] [] σ Q := fun hlt hb => by
          refine b79_48 ik (b79_56 ?_)
          rw [ck, eh, nI_1]
          refine ih (k + 1) (some w) (by omega) ⟨fun v hv => ?_, fun i v hi hv hbv => ?_⟩
          · cases hv; exact ⟨hb, k, by omega, hk2⟩
          · by_cases hik : i = k
            · subst hik; rw [hk2] at hv; cases hv; exact ⟨w, rfl, Nat.le_refl _⟩
            · obtain ⟨v', e1, e2⟩ := hL.2 i v (by omega) hv hbv
              have := hlt v' e1
              exact ⟨w, rfl, by omega⟩
        refine b79_16 ik (fun g => keep (fun v hv hb => ?_)) (fun g => b79_28 (fun g2 => take (fun v hv => ?_) ?_) (fun g2 => b79_36 ik (fun g3 => keep (fun v hv hb => ?_)) (fun g3 => take (fun v hv => ?_) ?_)))
        · rw [ck, eh, lg_cmp_le, b_l_le hwl ht] at g
          rw [hk2] at hv; cases hv
          exact absurd hb g
        · rw [lg_cmp_eq, b_l_m1 olt] at g2
          rw [g2] at hv; cases hv
        · rw [ck, eh, lg_cmp_le, b_l_le hwl ht, Decidable.not_not] at g; exact g
        · rw [lg_cmp_eq, b_l_m1 olt] at g2
          cases ho : o with
          | none => exact absurd ho g2
          | some v' =>
            rw [hk2] at hv; cases hv
            refine ⟨v', rfl, ?_⟩
            rw [ck, eh, ho, lg_cmp_ge] at g3
            have := olt v' ho
            exact (pk_lLE (a := v') (b := w) (by omega) (by omega)).mp g3
        · rw [ck, eh, hv, lg_cmp_ge] at g3
          have := olt v hv
          have g4 : ¬ lN v ≤ lN w := g3
          rw [pk_lLE (by omega) (by omega)] at g4
          omega
        · rw [ck, eh, lg_cmp_le, b_l_le hwl ht, Decidable.not_not] at g; exact g
  exact e79 (b79_0 (loop P 0 none (by omega) ⟨fun w hw => (by cases hw), fun i w hi => absurd hi (Nat.not_lt_zero _)⟩))
theorem c_textOfStep {w : Nat} (hW : b_W ln tx P) (hPr : b_P ln tx P σ) (hu : ∀ k, u k ≤ ln k) (hw : q_hd ln tx u w) (h : Q (some (.long (lN w))) σ) : Cw (d + 2) 82 [.ref 6, .int (nI (b_e u)), .int (nI (b_st ln tx u w))] σ Q := by
  obtain ⟨hP4, hl14, hl0, htx⟩ := id hW
  obtain ⟨p1, p2, p3⟩ := hPr
  have el := (b_e_lt hW hu).2
  have sl := (b_st_pos hw).2
  have u15 : ∀ k, u k ≤ 15 := fun k => by have := hu k; have := hl14 k; omega
  have a15 : ∀ k, b_a ln tx u w k ≤ 15 := fun k => by have := b_a_le (ln := ln) (tx := tx) (u := u) (w := w) k; omega
  have loop : ∀ m k (v4 : Value), k + m = P → px_nc v4 = true → (∀ i, i < k → b_a ln tx u w i = 0) → Wp (d + 1) tb_82 2 [.ref 6, .int (nI (b_e u)), .int (nI (b_st ln tx u w)), .int (nI k), v4] [] σ Q := by
    intro m
    induction m with
    | zero =>
      intro k v4 hk n4 hno
      exfalso
      obtain ⟨i, i1, i2, i3⟩ := hw
      have e : b_a ln tx u w i = 1 := if_pos ⟨i1, i2, i3⟩
      rcases Nat.lt_or_ge i P with z | z
      · rw [hno i (by omega)] at e; cases e
      · rw [hl0 i z] at i2; omega
    | succ m ih =>
      intro k v4 hk n4 hno
      obtain ⟨ik, ck⟩ := q_lt (j := k) (N := 4) (by omega) (by decide)
      have dg := b_e_dig u15 (show k < 4 by omega)
      have dg2 : b_st ln tx u w / b_16 k % 16 = b_a ln tx u w k := b_e_dig a15 (show k < 4 by omega)
      have hl := hl14 k
      have hal := a15 k
      refine b82_2 (fun g => absurd g (by rw [p1]; exact nI_ge (by omega) (by omega))) (fun _ => b82_10 n4 (c_positionOf el (by omega) (b82_15 (c_positionOf (by omega) (by omega) ?_))))
      rw [dg, dg2]
      have pass : b_a ln tx u w k = 0 → Wp (d + 1) tb_82 50 [.ref 6, .int (nI (b_e u)), .int (nI (b_st ln tx u w)), .int (nI k), .int (nI (u k))] [] σ Q := fun hz => by
        refine b82_50 ?_
        rw [nI_1]
        refine ih (k + 1) _ (by omega) rfl (fun i hi => ?_)
        by_cases hik : i = k
        · rw [hik]; exact hz
        · exact hno i (by omega)
      refine b82_22 (fun g => pass ?_) (fun g => b82_26 ik (fun g2 => ?_) (fun g2 => ?_))
      · have : ¬ b_a ln tx u w k = 1 := fun z => g (by rw [z]; rfl)
        have := b_a_le (ln := ln) (tx := tx) (u := u) (w := w) k
        omega
      · have e1 : b_a ln tx u w k = 1 := (nI_eq (b := 1) (by omega) (by decide)).mp (Decidable.not_not.mp g)
        have hz : k < 4 ∧ u k < ln k ∧ tx k (u k) = w := by
          unfold b_a at e1
          split at e1
          · assumption
          · cases e1
        rw [ck, p2 k (by omega), nI_leI (by omega) (by have := u15 k; omega)] at g2
        omega
      · have e1 : b_a ln tx u w k = 1 := (nI_eq (b := 1) (by omega) (by decide)).mp (Decidable.not_not.mp g)
        have hz : k < 4 ∧ u k < ln k ∧ tx k (u k) = w := by
          unfold b_a at e1
          split at e1
          · assumption
          · cases e1
        obtain ⟨is, cs⟩ := q_lt (j := 14 * k + u k) (N := 56) (by omega) (by decide)
        refine b82_37 (by rw [q_ix14]; exact is) ?_
        rw [q_ix14, cs, p3 k (u k) (by omega) hz.2.1, hz.2.2]
        exact h
  exact e82 (b82_0 (loop P 0 _ (by omega) rfl (fun i hi => absurd hi (Nat.not_lt_zero _))))
end KRW
