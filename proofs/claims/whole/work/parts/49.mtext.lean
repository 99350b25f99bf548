/-! ===== the text of rules: what is read; feed and read of the reference ===== -/
def q_run (f : Nat → Bool) : Nat → Nat → Nat
  | 0, i => i
  | m + 1, i => if f i then q_run f m (i + 1) else i
theorem q_run_ge (f : Nat → Bool) : ∀ m i, i ≤ q_run f m i ∧ q_run f m i ≤ i + m
  | 0, i => ⟨Nat.le_refl _, Nat.le_refl _⟩
  | m + 1, i => by
    rw [q_run]
    split
    · have := q_run_ge f m (i + 1); omega
    · omega
def q_skp (bs : List Nat) (i : Nat) : Nat := q_run (fun k => decide (bs.getD k 0 = 32)) (bs.length - i) i
def q_wen (bs : List Nat) (i : Nat) : Nat := q_run (fun k => decide (97 ≤ bs.getD k 0) && decide (bs.getD k 0 ≤ 122)) (bs.length - i) i
def q_nen (bs : List Nat) (i : Nat) : Nat := q_run (fun k => decide (48 ≤ bs.getD k 0) && decide (bs.getD k 0 ≤ 57)) (bs.length - i) i
def q_dec (bs : List Nat) (j : Nat) : Nat → Nat
  | 0 => 0
  | m + 1 => 10 * q_dec bs j m + (bs.getD (j + m) 0 - 48)
def q_isw (bs : List Nat) (b m : Nat) (w : List Nat) : Bool := decide (m = w.length) && q_all (fun k => decide (bs.getD (b + k) 0 = w.getD k 0)) w.length
def q_knd (bs : List Nat) (b m : Nat) : Option Nat := if q_isw bs b m [110, 101, 97, 114] then some 0 else if q_isw bs b m [102, 105, 116] then some 1 else if q_isw bs b m [116, 114, 117, 115, 116] then some 2 else if q_isw bs b m [107, 101, 101, 112] then some 3 else if q_isw bs b m [100, 101, 101, 112] then some 4 else none
def q_bnd (k : Nat) : Nat := if k = 0 then 2 else if k = 1 then 100 else if k = 3 then 14 else 5
/-- a value: a fault (kind, place), or where it ends and what it is -/
def q_val (bs : List Nat) (k j : Nat) : (Nat × Nat) ⊕ (Nat × Nat) :=
  if k = 2 then (if q_isw bs j (q_wen bs j - j) [121, 101, 115] then .inr (q_wen bs j, 1) else if q_isw bs j (q_wen bs j - j) [110, 111] then .inr (q_wen bs j, 0) else .inl (1, j))
  else (if q_nen bs j = j then .inl (1, j) else if 4 ≤ q_nen bs j - j ∨ q_bnd k < q_dec bs j (q_nen bs j - j) then .inl (2, j) else .inr (q_nen bs j, q_dec bs j (q_nen bs j - j)))
def q_clause (bs : List Nat) (M : Nat) (R : Nat → Int32) (i : Nat) : (Nat × Nat) ⊕ (Nat × Nat × (Nat → Int32)) :=
  match q_knd bs i (q_wen bs i - i) with
  | none => .inl (1, i)
  | some k => if M.testBit k then .inl (3, i) else match q_val bs k (q_skp bs (q_wen bs i)) with
    | .inl f => .inl f
    | .inr v => if q_skp bs v.1 < bs.length ∧ bs.getD (q_skp bs v.1) 0 = 59 then .inr (q_skp bs v.1 + 1, M ||| 1 <<< k, upd R k (nI v.2)) else .inl (1, q_skp bs v.1)
def q_clauses (bs : List Nat) : Nat → Nat → Nat → (Nat → Int32) → Nat → (Nat × Nat) ⊕ (Nat × (Nat → Int32))
  | 0, _, _, R, n => .inr (n, R)
  | f + 1, i, M, R, n => if q_skp bs i < bs.length then (match q_clause bs M R (q_skp bs i) with
      | .inl x => .inl x
      | .inr y => q_clauses bs f y.1 y.2.1 y.2.2 (n + 1)) else .inr (n, R)
def q_r0 (k : Nat) : Int32 := if k = 0 then 0 else if k = 1 then 50 else if k = 2 then 1 else if k = 3 then 14 else 5
def vs_by (V : QV) (t : List Nat) : QV := (V.1, V.2.1, V.2.2.1, V.2.2.2.1, V.2.2.2.2.1, V.2.2.2.2.2.1, V.2.2.2.2.2.2.1, V.2.2.2.2.2.2.2.1, V.2.2.2.2.2.2.2.2.1, V.2.2.2.2.2.2.2.2.2.1, V.2.2.2.2.2.2.2.2.2.2.1, V.2.2.2.2.2.2.2.2.2.2.2.1, t, V.2.2.2.2.2.2.2.2.2.2.2.2.2)
def vs_rd (V : QV) (ru : Nat → Int32) (fa : Int32) : QV := (V.1, V.2.1, V.2.2.1, V.2.2.2.1, V.2.2.2.2.1, V.2.2.2.2.2.1, V.2.2.2.2.2.2.1, V.2.2.2.2.2.2.2.1, V.2.2.2.2.2.2.2.2.1, V.2.2.2.2.2.2.2.2.2.1, ru, V.2.2.2.2.2.2.2.2.2.2.2.1, [], fa)
def sp_read (V : QV) : Int32 × QV := match q_clauses (v_by V) 121 0 0 q_r0 0 with
  | .inl x => (-10 - nI x.1, vs_rd V (v_ru V) (nI x.2))
  | .inr y => (nI y.1, vs_rd V y.2 (-1))
/-- the byte k of a long, from the lowest -/
def q_byte (y : Int64) (k : Nat) : Nat := y.toBitVec.toNat / 2 ^ (8 * k) % 256
def q_bytes (y : Int64) : Nat → List Nat
  | 0 => []
  | n + 1 => q_byte y n :: q_bytes y n
def sp_feed (V : QV) (n : Int32) (y : Int64) : Int32 × QV := if q_in n 1 8 then (if 120 < (v_by V).length + n.toInt.toNat then (-1004, V) else (nI ((v_by V).length + n.toInt.toNat), vs_by V (v_by V ++ q_bytes y n.toInt.toNat))) else (-1002, V)
theorem q_bytes_len (y : Int64) : ∀ n, (q_bytes y n).length = n
  | 0 => rfl
  | n + 1 => by rw [q_bytes, List.length_cons, q_bytes_len y n]
theorem q_byte_s {y : Int64} {k : Nat} (hk : k < 8) : ((y >>> ((nI (8 * k)).toInt64 &&& 63)) &&& (255 : Int64)).toInt32 = nI (q_byte y k) := by
  have hlt : q_byte y k < 256 := Nat.mod_lt _ (by decide)
  have h1 : (y >>> ((nI (8 * k)).toInt64 &&& 63)) &&& (255 : Int64) = lN (q_byte y k) := by
    apply lb_ext
    intro i hi
    rw [lb_and]
    have h255 : ∀ i : Fin 64, lb 255 i.val = decide (i.val < 8) := by decide +kernel
    rw [h255 ⟨i, hi⟩]
    have e2 : lb (lN (q_byte y k)) i = (q_byte y k).testBit i := by
      unfold lb lN
      show (BitVec.ofNat 64 (q_byte y k)).getLsbD i = _
      rw [BitVec.getLsbD_ofNat]; simp [hi]
    rw [e2]
    unfold q_byte
    rw [show (256 : Nat) = 2 ^ 8 from rfl, Nat.testBit_mod_two_pow, Nat.testBit_div_two_pow]
    by_cases h8 : i < 8
    · rw [lb_sshr (by omega) y (by omega)]
      simp only [h8, decide_true, Bool.and_true, Bool.true_and]
      rw [Nat.add_comm]; rfl
    · simp [h8]
  rw [h1, lN_i]
theorem q_byte_u {y : Int64} {k : Nat} (hk : k < 8) : ((y.toUInt64 >>> ((nI (8 * k)).toInt64.toUInt64 &&& Int64.toUInt64 63)).toInt64).toInt32 &&& 255 = nI (q_byte y k) := by
  have hlt : q_byte y k < 256 := Nat.mod_lt _ (by decide)
  have e := lb_s2 (8 * k) (by omega)
  apply Int32.toBitVec_inj.mp
  apply BitVec.eq_of_getLsbD_eq
  intro i hi
  rw [Int32.toBitVec_and, BitVec.getLsbD_and]
  have h255 : ∀ i : Fin 32, (255 : Int32).toBitVec.getLsbD i.val = decide (i.val < 8) := by decide +kernel
  rw [h255 ⟨i, hi⟩]
  have e1 : (((y.toUInt64 >>> ((nI (8 * k)).toInt64.toUInt64 &&& Int64.toUInt64 63)).toInt64).toInt32).toBitVec.getLsbD i = lb ((y.toUInt64 >>> ((nI (8 * k)).toInt64.toUInt64 &&& Int64.toUInt64 63)).toInt64) i := by
    rw [Int64.toBitVec_toInt32]
    unfold lb
    rw [BitVec.getLsbD_signExtend]; simp [hi, show i < 64 by omega]
  rw [e1, lb_ushr (by omega)]
  have e2 : (nI (q_byte y k)).toBitVec.getLsbD i = (q_byte y k).testBit i := by
    show (BitVec.ofNat 32 (q_byte y k)).getLsbD i = _
    rw [BitVec.getLsbD_ofNat]; simp [hi]
  rw [e2]
  unfold q_byte
  rw [show (256 : Nat) = 2 ^ 8 from rfl, Nat.testBit_mod_two_pow, Nat.testBit_div_two_pow]
  by_cases h8 : i < 8
  · simp only [h8, decide_true, Bool.and_true, Bool.true_and]
    rw [Nat.add_comm]; rfl
  · simp [h8]
