/-! ===== THE PURE MACHINE: the system's cells by numbers, ints and longs as functions, code as tables of pure steps ===== -/
/-- objects 0 .. 9: class (place in vwCl), slots: (0, _) int, (1, _) long, (2, t) the cell t, (3, _) boolean -/
def px_ob : List (Nat × List (Nat × Nat)) :=
  [(7, [(2, 10), (2, 1), (2, 2), (2, 3), (2, 4), (2, 5), (2, 7), (2, 8), (1, 0), (0, 0)]),
   (1, [(2, 11), (2, 12), (2, 13), (2, 14), (2, 15), (2, 16), (2, 17), (0, 0), (0, 0), (1, 0)]),
   (0, [(2, 1), (2, 10), (2, 18), (2, 19), (2, 20)]),
   (2, [(2, 1), (2, 2), (2, 10), (2, 21), (2, 22), (3, 0), (0, 0), (1, 0)]),
   (2, [(2, 1), (2, 2), (2, 10), (2, 23), (2, 24), (3, 0), (0, 0), (1, 0)]),
   (3, [(2, 1), (2, 3), (2, 6), (2, 25), (2, 26), (2, 27), (2, 28), (0, 0), (3, 0), (0, 0)]),
   (5, [(2, 29), (2, 30), (2, 31), (2, 32), (0, 0), (0, 0), (2, 33)]),
   (4, [(2, 34), (0, 0)]),
   (6, [(2, 35), (2, 36), (0, 0), (0, 0), (0, 0), (0, 0), (0, 0)]),
   (8, [(2, 37), (0, 0), (2, 38), (2, 39), (2, 40), (2, 41), (2, 42), (2, 43), (2, 44), (2, 45), (0, 0), (2, 46), (0, 0), (0, 0), (2, 47), (2, 48), (2, 49), (2, 50), (0, 0), (2, 51), (2, 52), (2, 53), (0, 0), (2, 54), (2, 55), (0, 0), (0, 0), (2, 56), (2, 57), (0, 0), (0, 0), (0, 0), (0, 0), (0, 0), (0, 0), (2, 58)])]
/-- arrays 10 .. 58: kind (0 int, 1 long, 2 boolean), length (33 is 'cells': its length is the state's) -/
def px_ar : List (Nat × Nat) :=
  [(9, 0), (9, 0), (9, 0), (9, 0), (9, 0), (9, 0), (9, 0), (9, 0), (9, 0), (9, 0),
   (0, 5), (0, 40), (0, 40), (0, 40), (0, 40), (0, 40), (0, 560), (1, 560),
   (0, 1600), (0, 15), (0, 9), (0, 40), (0, 560), (0, 40), (0, 560),
   (0, 40), (0, 40), (0, 40), (0, 40), (1, 56), (0, 4), (1, 4), (1, 56), (0, 0), (0, 4), (0, 120), (0, 5),
   (0, 5), (0, 40), (0, 40), (0, 40), (0, 40), (2, 40), (0, 560), (0, 560), (0, 4480), (0, 8), (0, 81), (0, 225), (0, 40), (0, 40), (0, 4), (0, 4), (0, 56), (0, 50625), (0, 56), (0, 4), (0, 120), (0, 5)]
/-- a state: ints, longs, the length of 'cells', how many cells and slots were made -/
abbrev px_S : Type := (Nat → Nat → Int32) × (Nat → Nat → Int64) × Nat × Nat × Nat
abbrev px_cc (σ : px_S) : Nat := σ.2.2.2.1
abbrev px_cs (σ : px_S) : Nat := σ.2.2.2.2
def px_le (σ τ : px_S) : Prop := px_cc σ ≤ px_cc τ ∧ px_cs σ ≤ px_cs τ
def px_len (σ : px_S) (k n : Nat) : Nat := if k = 33 then σ.2.2.1 else n
def px_uI (σ : px_S) (k j : Nat) (x : Int32) : px_S := (fun a => if a = k then upd (σ.1 k) j x else σ.1 a, σ.2)
def px_uL (σ : px_S) (k j : Nat) (x : Int64) : px_S := (σ.1, fun a => if a = k then vp_updL (σ.2.1 k) j x else σ.2.1 a, σ.2.2)
/-- an abstract value on the machine: .ref k is the cell ad k; .float stands for one static reference of which nothing is known -/
def px_mv (ad : Nat → Nat) : Value → Value
  | .ref k => .ref (ad k)
  | .float _ => if ad 131 = 0 then .null else .ref (ad 130)
  | v => v
def px_fv (ad : Nat → Nat) (σ : px_S) (k : Nat) (d : Nat × Nat) (j : Nat) : Value :=
  if d.1 = 1 then .long (σ.2.1 k j) else if d.1 = 2 then .ref (ad d.2) else .int (σ.1 k j)
abbrev px_C : Type := ClassId × ClassId × ClassId
def px_E (cs : px_C) (ad : Nat → Nat) (σ : px_S) (k : Nat) : va_E :=
  match px_ob[k]? with
  | some o => .inr (o.1, o.2.mapIdx fun j d => px_fv ad σ k d j)
  | none =>
    match px_ar[k]? with
    | some a => if a.1 = 1 then .inl (cs.2.1, (px_len σ k a.2, .inr (.inl (σ.2.1 k)))) else if a.1 = 2 then .inl (cs.2.2, (px_len σ k a.2, .inl (σ.1 k))) else .inl (cs.1, (px_len σ k a.2, .inl (σ.1 k)))
    | none => .inr (0, [])
def px_W (cs : px_C) (ad : Nat → Nat) (σ : px_S) : va_W := (List.range 59).map fun k => (ad k, px_E cs ad σ k)
def px_tys (cs : px_C) : List (ClassId × FieldType) := [(cs.1, .int), (cs.2.1, .long), (cs.2.2, .boolean)]
/-- a step that calls nothing: locals, stack, state: the next place, locals, stack, state -/
abbrev px_F : Type := List Value → List Value → px_S → Option (Nat × List Value × List Value × px_S)
/-- an instruction: a step; a call (method, how many values, class + 1 of the receiver or 0, the place behind it); a return -/
abbrev px_I : Type := px_F ⊕ (Nat × Nat × Nat × Nat) ⊕ (List Value → Option (Option Value))
abbrev px_M : Type := MethodName × ByteArray × Nat × Option FieldType × List (Nat × px_I)
def px_nc : Value → Bool
  | .ref k => !(k == 33)
  | _ => true
def px_cat (st : List Value) : Nat := (st.map fun v => v.category).sum
/-- whether the values handed to a call are right: enough of them, a receiver of the class, little below, no hold on 'cells' -/
def px_okc (ci : Nat) (as rest ls : List Value) : Bool :=
  (ci == 0 || (match as with
    | .ref k :: _ => (match px_ob[k]? with
      | some o => o.1 + 1 == ci
      | none => ci == 100 && decide (110 ≤ k ∧ k < 117))
    | _ => false)) && decide (px_cat rest ≤ 8) && rest.all px_nc && ls.all px_nc
def px_look : List (Nat × px_I) → Nat → Option px_I
  | [], _ => none
  | q :: t, pc => if q.1 = pc then some q.2 else px_look t pc
def px_run (O : Nat → List Value → px_S → Option (Option Value × px_S)) (tb : List (Nat × px_I)) : Nat → Nat → List Value → List Value → px_S → Option (Option Value × px_S)
  | 0, _, _, _, _ => none
  | n + 1, pc, ls, st, σ =>
    match px_look tb pc with
    | none => none
    | some (.inl f) =>
      match f ls st σ with
      | none => none
      | some q => px_run O tb n q.1 q.2.1 q.2.2.1 q.2.2.2
    | some (.inr (.inl q)) =>
      if q.2.1 ≤ st.length ∧ px_okc q.2.2.1 (st.take q.2.1).reverse (st.drop q.2.1) ls = true then
        match O q.1 (st.take q.2.1).reverse σ with
        | none => none
        | some r => px_run O tb n q.2.2.2 ls (r.1.toList ++ st.drop q.2.1) r.2
      else none
    | some (.inr (.inr g)) =>
      match g st with
      | none => none
      | some r => some (r, σ)
def px_ents : List Value → List Value
  | [] => []
  | v :: t => if v.category = 2 then v :: .null :: px_ents t else v :: px_ents t
def px_call (P : Nat → px_M) : Nat → Nat → Nat → List Value → px_S → Option (Option Value × px_S)
  | 0, _, _, _, _ => none
  | d + 1, f, μ, as, σ => if (px_ents as).length ≤ (P μ).2.2.1 then px_run (px_call P d f) (P μ).2.2.2.2 f 0 (px_ents as ++ List.replicate ((P μ).2.2.1 - (px_ents as).length) .null) [] σ else none
/-! the steps -/
def px_kill (ls : List Value) (i : Nat) : List Value := match i with
  | 0 => ls
  | j + 1 => (match ls[j]? with
    | some (.long _) => ls.set j .null
    | some (.double _) => ls.set j .null
    | _ => ls)
def px_st1 (ls : List Value) (i : Nat) (v : Value) : List Value := (px_kill ls i).set i v
def px_st2 (ls : List Value) (i : Nat) (v : Value) : List Value := ((px_kill ls i).set (i + 1) .null).set i v
def pi_const (n : Nat) (v : Value) : px_F := fun ls st σ => some (n, ls, v :: st, σ)
def pi_iload (n i : Nat) : px_F := fun ls st σ => match ls[i]? with
  | some (.int x) => some (n, ls, .int x :: st, σ)
  | _ => none
def pi_lload (n i : Nat) : px_F := fun ls st σ => match ls[i]? with
  | some (.long x) => some (n, ls, .long x :: st, σ)
  | _ => none
def pi_aload (n i : Nat) : px_F := fun ls st σ => match ls[i]? with
  | some (.ref x) => some (n, ls, .ref x :: st, σ)
  | _ => none
def pi_istore (n i : Nat) : px_F := fun ls st σ => match st with
  | .int x :: st => some (n, px_st1 ls i (.int x), st, σ)
  | _ => none
def pi_lstore (n i : Nat) : px_F := fun ls st σ => match st with
  | .long x :: st => some (n, px_st2 ls i (.long x), st, σ)
  | _ => none
def pi_iinc (n i : Nat) (k : Int32) : px_F := fun ls st σ => match ls[i]? with
  | some (.int x) => some (n, px_st1 ls i (.int (x + k)), st, σ)
  | _ => none
def pi_bin (n : Nat) (f : Int32 → Int32 → Int32) : px_F := fun ls st σ => match st with
  | .int y :: .int x :: st => some (n, ls, .int (f x y) :: st, σ)
  | _ => none
def pi_binz (n : Nat) (f : Int32 → Int32 → Int32) : px_F := fun ls st σ => match st with
  | .int y :: .int x :: st => if y = 0 then none else some (n, ls, .int (f x y) :: st, σ)
  | _ => none
def pi_un (n : Nat) (f : Int32 → Int32) : px_F := fun ls st σ => match st with
  | .int x :: st => some (n, ls, .int (f x) :: st, σ)
  | _ => none
def pi_lbin (n : Nat) (f : Int64 → Int64 → Int64) : px_F := fun ls st σ => match st with
  | .long y :: .long x :: st => some (n, ls, .long (f x y) :: st, σ)
  | _ => none
def pi_lsh (n : Nat) (f : Int64 → Int32 → Int64) : px_F := fun ls st σ => match st with
  | .int y :: .long x :: st => some (n, ls, .long (f x y) :: st, σ)
  | _ => none
def pi_lcmp (n : Nat) : px_F := fun ls st σ => match st with
  | .long y :: .long x :: st => some (n, ls, .int (lg_cmp x y) :: st, σ)
  | _ => none
def pi_i2l (n : Nat) : px_F := fun ls st σ => match st with
  | .int x :: st => some (n, ls, .long x.toInt64 :: st, σ)
  | _ => none
def pi_l2i (n : Nat) : px_F := fun ls st σ => match st with
  | .long x :: st => some (n, ls, .int x.toInt32 :: st, σ)
  | _ => none
def px_one (v : Value) : Bool := v.category == 1
def pi_dup (n : Nat) : px_F := fun ls st σ => match st with
  | v :: st => if v.category = 1 then some (n, ls, v :: v :: st, σ) else none
  | _ => none
def pi_dup2 (n : Nat) : px_F := fun ls st σ => match st with
  | v :: w :: st => if v.category = 1 ∧ w.category = 1 then some (n, ls, v :: w :: v :: w :: st, σ) else none
  | _ => none
def pi_pop (n : Nat) : px_F := fun ls st σ => match st with
  | v :: st => if v.category = 1 then some (n, ls, st, σ) else none
  | _ => none
def pi_if (n t : Nat) (c : Int32 → Prop) [DecidablePred c] : px_F := fun ls st σ => match st with
  | .int x :: st => some (if c x then t else n, ls, st, σ)
  | _ => none
def pi_icmp (n t : Nat) (c : Int32 → Int32 → Prop) [∀ x y, Decidable (c x y)] : px_F := fun ls st σ => match st with
  | .int y :: .int x :: st => some (if c x y then t else n, ls, st, σ)
  | _ => none
def pi_goto (t : Nat) : px_F := fun ls st σ => some (t, ls, st, σ)
def pi_tsw (lo hi : Int) (d : Nat) (ts : List Nat) : px_F := fun ls st σ => match st with
  | .int x :: st => if x.toInt < lo ∨ hi < x.toInt then some (d, ls, st, σ) else (match ts[(x.toInt - lo).toNat]? with
    | some t => some (t, ls, st, σ)
    | none => none)
  | _ => none
def pi_get (n ci j : Nat) : px_F := fun ls st σ => match st with
  | .ref k :: st => (match px_ob[k]? with
    | some o => if o.1 = ci then (match o.2[j]? with
      | some d => some (n, ls, px_fv (fun k => k) σ k d j :: st, σ)
      | none => none) else none
    | none => none)
  | _ => none
def pi_put (n ci j : Nat) : px_F := fun ls st σ => match st with
  | v :: .ref k :: st => (match px_ob[k]? with
    | some o => if o.1 = ci then (match o.2[j]? with
      | some d => (match v with
        | .int x => if d.1 = 0 ∨ (d.1 = 3 ∧ (x = 0 ∨ x = 1)) then some (n, ls, st, px_uI σ k j x) else none
        | .long x => if d.1 = 1 then some (n, ls, st, px_uL σ k j x) else none
        | _ => none)
      | none => none) else none
    | none => none)
  | _ => none
/-- an array of a kind: its length -/
def px_at (σ : px_S) (ty k : Nat) : Option Nat := match px_ob[k]? with
  | some _ => none
  | none => (match px_ar[k]? with
    | some a => if a.1 = ty then some (px_len σ k a.2) else none
    | none => none)
def pi_ald (n ty : Nat) : px_F := fun ls st σ => match st with
  | .int i :: .ref k :: st => (match px_at σ ty k with
    | some N => if i < 0 ∨ N ≤ i.toNatClampNeg then none else some (n, ls, (if ty = 1 then .long (σ.2.1 k i.toNatClampNeg) else .int (σ.1 k i.toNatClampNeg)) :: st, σ)
    | none => none)
  | _ => none
def pi_ast (n ty : Nat) : px_F := fun ls st σ => match st with
  | v :: .int i :: .ref k :: st => (match px_at σ ty k with
    | some N => if i < 0 ∨ N ≤ i.toNatClampNeg then none else (match v with
      | .int x => if ty = 0 ∨ (ty = 2 ∧ (x = 0 ∨ x = 1)) then some (n, ls, st, px_uI σ k i.toNatClampNeg x) else none
      | .long x => if ty = 1 then some (n, ls, st, px_uL σ k i.toNatClampNeg x) else none
      | _ => none)
    | none => none)
  | _ => none
def pi_alen (n : Nat) : px_F := fun ls st σ => match st with
  | .ref k :: st => (match px_at σ 0 k with
    | some N => some (n, ls, .int (Int32.ofNat N) :: st, σ)
    | none => none)
  | _ => none
def pr_i : List Value → Option (Option Value)
  | [.int v] => some (some (.int v))
  | _ => none
def pr_z : List Value → Option (Option Value)
  | [.int v] => if v = 0 ∨ v = 1 then some (some (.int v)) else none
  | _ => none
def pr_l : List Value → Option (Option Value)
  | [.long v] => some (some (.long v))
  | _ => none
def pr_a : List Value → Option (Option Value)
  | [.ref v] => some (some (.ref v))
  | _ => none
def pr_v : List Value → Option (Option Value) := fun st => match st with
  | [] => some none
  | _ => none
