/-! ===== bits of longs ===== -/
def lb (y : Int64) (i : Nat) : Bool := y.toBitVec.getLsbD i
theorem lb_s1 : ∀ s, s < 64 → (((nI s).toInt64 &&& 63).toBitVec.smod 64).toNat = s := by
  have h : ∀ s : Fin 64, (((nI s.val).toInt64 &&& 63).toBitVec.smod 64).toNat = s.val := by decide +kernel
  exact fun s hs => h ⟨s, hs⟩
theorem lb_s2 : ∀ s, s < 64 → (((nI s).toInt64.toUInt64 &&& Int64.toUInt64 63).toBitVec % 64).toNat = s := by
  have h : ∀ s : Fin 64, (((nI s.val).toInt64.toUInt64 &&& Int64.toUInt64 63).toBitVec % 64).toNat = s.val := by decide +kernel
  exact fun s hs => h ⟨s, hs⟩
theorem lb_sshr {s : Nat} (hs : s < 64) (y : Int64) {i : Nat} (hi : s + i < 64) : lb (y >>> ((nI s).toInt64 &&& 63)) i = lb y (s + i) := by
  unfold lb
  rw [Int64.toBitVec_shiftRight, BitVec.sshiftRight_eq', lb_s1 s hs, BitVec.getLsbD_sshiftRight]
  simp [show ¬ 64 ≤ i by omega, hi]
theorem lb_ushr {s : Nat} (hs : s < 64) (y : Int64) (i : Nat) : lb ((y.toUInt64 >>> ((nI s).toInt64.toUInt64 &&& Int64.toUInt64 63)).toInt64) i = lb y (s + i) := by
  unfold lb
  show (y.toUInt64 >>> ((nI s).toInt64.toUInt64 &&& Int64.toUInt64 63)).toBitVec.getLsbD i = _
  rw [UInt64.toBitVec_shiftRight, BitVec.ushiftRight_eq', lb_s2 s hs, BitVec.getLsbD_ushiftRight]
  rfl
theorem lb_shl {s : Nat} (hs : s < 64) (y : Int64) {i : Nat} (hi : i < 64) : lb (y <<< ((nI s).toInt64 &&& 63)) i = (decide (s ≤ i) && lb y (i - s)) := by
  unfold lb
  rw [Int64.toBitVec_shiftLeft, BitVec.shiftLeft_eq', lb_s1 s hs, BitVec.getLsbD_shiftLeft]
  by_cases h : i < s
  · simp [hi, h, show ¬ s ≤ i by omega]
  · simp [hi, h, show s ≤ i by omega]
theorem lb_one {i : Nat} (hi : i < 64) : lb 1 i = decide (i = 0) := by
  have h : ∀ i : Fin 64, lb 1 i.val = decide (i.val = 0) := by decide +kernel
  exact h ⟨i, hi⟩
theorem lb_shl1 {s : Nat} (hs : s < 64) {i : Nat} (hi : i < 64) : lb ((1 : Int64) <<< ((nI s).toInt64 &&& 63)) i = decide (i = s) := by
  rw [lb_shl hs _ hi, lb_one (by omega)]
  by_cases h : i = s
  · subst h; simp
  · by_cases h2 : s ≤ i
    · simp [h2, h, show ¬ i - s = 0 by omega]
    · simp [h2, h]
theorem lb_or (x y : Int64) (i : Nat) : lb (x ||| y) i = (lb x i || lb y i) := by unfold lb; rw [Int64.toBitVec_or, BitVec.getLsbD_or]
theorem lb_xor (x y : Int64) (i : Nat) : lb (x ^^^ y) i = (lb x i ^^ lb y i) := by unfold lb; rw [Int64.toBitVec_xor, BitVec.getLsbD_xor]
theorem lb_and (x y : Int64) (i : Nat) : lb (x &&& y) i = (lb x i && lb y i) := by unfold lb; rw [Int64.toBitVec_and, BitVec.getLsbD_and]
theorem lb_ext {x y : Int64} (h : ∀ i, i < 64 → lb x i = lb y i) : x = y := by
  apply Int64.toBitVec_inj.mp
  apply BitVec.eq_of_getLsbD_eq
  exact h
theorem lb_and1 (y : Int64) : y &&& 1 = if lb y 0 then 1 else 0 := by
  apply lb_ext
  intro i hi
  rw [lb_and, lb_one hi]
  by_cases h : i = 0
  · subst h; cases lb y 0 <;> decide
  · have h0 : ∀ i : Fin 64, ¬ i.val = 0 → lb 1 i.val = false ∧ lb 0 i.val = false := by decide +kernel
    obtain ⟨h1, h2⟩ := h0 ⟨i, hi⟩ h
    split <;> simp [h, h1, h2]
/-- a set of numbers below 64 in a long -/
def q_set (y : Int64) (W : Nat → Bool) : Prop := ∀ i, i < 64 → lb y i = W i
theorem q_set.s {y : Int64} {W : Nat → Bool} (h : q_set y W) {x : Nat} (hx : x < 64) : (y >>> ((nI x).toInt64 &&& 63)) &&& 1 = if W x then 1 else 0 := by
  rw [lb_and1, lb_sshr hx y (by omega), Nat.add_zero, h x hx]
theorem q_set.u {y : Int64} {W : Nat → Bool} (h : q_set y W) {x : Nat} (hx : x < 64) : ((y.toUInt64 >>> ((nI x).toInt64.toUInt64 &&& Int64.toUInt64 63)).toInt64) &&& 1 = if W x then 1 else 0 := by
  rw [lb_and1, lb_ushr hx y, Nat.add_zero, h x hx]
theorem q_set.s1 {y : Int64} {W : Nat → Bool} (h : q_set y W) {x : Nat} (hx : x < 64) : lg_cmp ((y >>> ((nI x).toInt64 &&& 63)) &&& 1) 1 = 0 ↔ W x = true := by
  rw [lg_cmp_eq, h.s hx]; cases W x <;> decide
theorem q_set.s0 {y : Int64} {W : Nat → Bool} (h : q_set y W) {x : Nat} (hx : x < 64) : lg_cmp ((y >>> ((nI x).toInt64 &&& 63)) &&& 1) 0 = 0 ↔ W x = false := by
  rw [lg_cmp_eq, h.s hx]; cases W x <;> decide
theorem q_set.u0 {y : Int64} {W : Nat → Bool} (h : q_set y W) {x : Nat} (hx : x < 64) : lg_cmp (((y.toUInt64 >>> ((nI x).toInt64.toUInt64 &&& Int64.toUInt64 63)).toInt64) &&& 1) 0 = 0 ↔ W x = false := by
  rw [lg_cmp_eq, h.u hx]; cases W x <;> decide
theorem q_set.add {y : Int64} {W : Nat → Bool} (h : q_set y W) {x : Nat} (hx : x < 64) : q_set (y ||| ((1 : Int64) <<< ((nI x).toInt64 &&& 63))) (va_up W x true) := by
  intro i hi
  rw [lb_or, h i hi, lb_shl1 hx hi]
  by_cases hix : i = x
  · subst hix; rw [va_up_self]; simp
  · rw [va_up_ne _ _ hix]; simp [hix]
theorem q_set.turn {y : Int64} {W : Nat → Bool} (h : q_set y W) {x : Nat} (hx : x < 64) : q_set (y ^^^ ((1 : Int64) <<< ((nI x).toInt64 &&& 63))) (va_up W x (!W x)) := by
  intro i hi
  rw [lb_xor, h i hi, lb_shl1 hx hi]
  by_cases hix : i = x
  · subst hix; rw [va_up_self]; simp
  · rw [va_up_ne _ _ hix]; simp [hix]
theorem q_set.zero : q_set 0 (fun _ => false) := by
  have h : ∀ i : Fin 64, lb 0 i.val = false := by decide +kernel
  exact fun i hi => h ⟨i, hi⟩
