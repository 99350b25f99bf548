/-! ===== texts of the program: String's own fields and rows ===== -/
def px_ix (b k : Nat) : Option Nat := if b ≤ k ∧ k < b + 7 then some (k - b) else none
theorem px_ix_spec {b k i : Nat} (h : px_ix b k = some i) : k = b + i ∧ i < 7 := by
  unfold px_ix at h
  split at h
  · cases h; omega
  · cases h
def pi_sval (n : Nat) : px_F := fun ls st σ => match st with
  | .ref k :: st => (match px_ix 110 k with
    | some i => some (n, ls, .ref (120 + i) :: st, σ)
    | none => none)
  | _ => none
def pi_scod (n : Nat) : px_F := fun ls st σ => match st with
  | .ref k :: st => (match px_ix 110 k with
    | some _ => some (n, ls, .int 0 :: st, σ)
    | none => none)
  | _ => none
def pi_slen (n : Nat) : px_F := fun ls st σ => match st with
  | .ref k :: st => (match px_ix 120 k with
    | some i => some (n, ls, .int (Int32.ofNat (px_sl.getD i 0)) :: st, σ)
    | none => none)
  | _ => none
def pi_sald (n : Nat) : px_F := fun ls st σ => match st with
  | .int j :: .ref k :: st => (match px_ix 120 k with
    | some i => if j < 0 ∨ px_sl.getD i 0 ≤ j.toNatClampNeg then none else some (n, ls, .int ((px_sb.getD i []).getD j.toNatClampNeg 0) :: st, σ)
    | none => none)
  | _ => none
def pr_b : List Value → Option (Option Value)
  | [.int v] => if v = 0 then some (some (.int v)) else none
  | _ => none
def pr_c : List Value → Option (Option Value)
  | [.int v] => if narrow .char (.int v) = .int v then some (some (.int v)) else none
  | _ => none
theorem ps_i2c {own : String} {cc : ByteArray} {nL pc : Nat} (hd : decode cc pc = .ok (.i2c, 1)) : px_Sq own cc nL pc (pi_un (pc + 1) (fun x => (x.toUInt32 % 65536).toInt32)) := by
  intro ls st σ q h
  unfold pi_un at h
  split at h
  next x st' =>
    cases h
    refine ⟨rfl, ?_⟩
    intro p l e R s m args below meth c H locs cells slots Q D cs A ad lsM C hfr hlo hcc hss hR hL k
    exact lv_i2c C.1 C.2.1 hd rfl (k lsM hL)
  next => cases h
theorem ps_getsC {cc : ByteArray} {nL pc : Nat} (hw : Cond.fieldLink RJ0 38 RJ0 "COMPACT_STRINGS" "Z" ∈ px_TB) (hd : decode cc pc = .ok (.getstatic 38, 3)) : px_Sq RJ0 cc nL pc (pi_const (pc + 3) (.int 1)) := by
  intro ls st σ q h
  cases h
  refine ⟨rfl, ?_⟩
  intro p l e R s m args below meth c H locs cells slots Q D cs A ad lsM C hfr hlo hcc hss hR hL k
  obtain ⟨-, -, ⟨b5, -⟩, -⟩ := hR.2.2.2.2.1
  exact va_gets C.1 C.2.1 b5 hR.2.2.2.1 C.2.2.2.1 (C.2.2.2.2 _ hw) (fun _ z => z) hd (k lsM hL)
theorem ps_getsS {cc : ByteArray} {nL pc : Nat} (hw : Cond.fieldLink RJ0 1053 RJ3 "SIOOBE_FORMATTER" "Ljava/util/function/BiFunction;" ∈ px_TB) (hd : decode cc pc = .ok (.getstatic 1053, 3)) : px_Sq RJ0 cc nL pc (pi_const (pc + 3) (.float 0)) := by
  intro ls st σ q h
  cases h
  refine ⟨rfl, ?_⟩
  intro p l e R s m args below meth c H locs cells slots Q D cs A ad lsM C hfr hlo hcc hss hR hL k
  obtain ⟨-, -, ⟨-, b6⟩, -⟩ := hR.2.2.2.2.1
  exact va_gets C.1 C.2.1 b6 hR.2.2.2.1 C.2.2.2.1 (C.2.2.2.2 _ hw) (fun _ z => z) hd (k lsM hL)
theorem ps_sval {cc : ByteArray} {nL pc : Nat} (hw : Cond.fieldLink RJ0 9 RJ0 "value" "[B" ∈ px_TB) (hd : decode cc pc = .ok (.getfield 9, 3)) : px_Sq RJ0 cc nL pc (pi_sval (pc + 3)) := by
  intro ls st σ q h
  unfold pi_sval at h
  split at h
  next k st' =>
    split at h
    next i hi =>
      obtain ⟨rfl, hi7⟩ := px_ix_spec hi
      cases h
      refine ⟨rfl, ?_⟩
      intro p l e R s m args below meth c H locs cells slots Q D cs A ad lsM C hfr hlo hcc hss hR hL k
      obtain ⟨-, -, -, c1, -⟩ := hR.2.2.2.2.1
      exact va_getX (N := 7) (ad := fun i => ad (110 + i)) (v := fun i => .ref (ad (120 + i))) (i := i) C.1 C.2.1 (fun j hj => (c1.1 j hj).2.2.1) hi7 hR.2.2.2.1 C.2.2.2.1 (C.2.2.2.2 _ hw) (fun _ z => z) hd (k lsM hL)
    next => cases h
  next => cases h
theorem ps_scod {cc : ByteArray} {nL pc : Nat} (hw : Cond.fieldLink RJ0 15 RJ0 "coder" "B" ∈ px_TB) (hd : decode cc pc = .ok (.getfield 15, 3)) : px_Sq RJ0 cc nL pc (pi_scod (pc + 3)) := by
  intro ls st σ q h
  unfold pi_scod at h
  split at h
  next k st' =>
    split at h
    next i hi =>
      obtain ⟨rfl, hi7⟩ := px_ix_spec hi
      cases h
      refine ⟨rfl, ?_⟩
      intro p l e R s m args below meth c H locs cells slots Q D cs A ad lsM C hfr hlo hcc hss hR hL k
      obtain ⟨-, -, -, c1, -⟩ := hR.2.2.2.2.1
      exact va_getX (N := 7) (ad := fun i => ad (110 + i)) (v := fun i => .int 0) (i := i) C.1 C.2.1 (fun j hj => (c1.1 j hj).2.1) hi7 hR.2.2.2.1 C.2.2.2.1 (C.2.2.2.2 _ hw) (fun _ z => z) hd (k lsM hL)
    next => cases h
  next => cases h
theorem ps_slen {own : String} {cc : ByteArray} {nL pc : Nat} (hd : decode cc pc = .ok (.arraylength, 1)) : px_Sq own cc nL pc (pi_slen (pc + 1)) := by
  intro ls st σ q h
  unfold pi_slen at h
  split at h
  next k st' =>
    split at h
    next i hi =>
      obtain ⟨rfl, hi7⟩ := px_ix_spec hi
      cases h
      refine ⟨rfl, ?_⟩
      intro p l e R s m args below meth c H locs cells slots Q D cs A ad lsM C hfr hlo hcc hss hR hL k
      obtain ⟨-, -, -, c1, -⟩ := hR.2.2.2.2.1
      exact va_tlen C.1 C.2.1 (c1.1 i hi7).2.2.2 hR.2.2.2.1 rfl hd (k lsM hL)
    next => cases h
  next => cases h
theorem ps_sald {own : String} {cc : ByteArray} {nL pc : Nat} (hd : decode cc pc = .ok (.baload, 1)) : px_Sq own cc nL pc (pi_sald (pc + 1)) := by
  intro ls st σ q h
  unfold pi_sald at h
  split at h
  next j k st' =>
    split at h
    next i hi =>
      split at h
      next => cases h
      next hin =>
        obtain ⟨rfl, hi7⟩ := px_ix_spec hi
        cases h
        refine ⟨rfl, ?_⟩
        intro p l e R s m args below meth c H locs cells slots Q D cs A ad lsM C hfr hlo hcc hss hR hL k
        obtain ⟨-, -, -, c1, -⟩ := hR.2.2.2.2.1
        exact va_tb C.1 C.2.1 (c1.1 i hi7).2.2.2 hR.2.2.2.1 hin rfl hd (k lsM hL)
    next => cases h
  next => cases h
theorem ps_bret {cc : ByteArray} {pc : Nat} (hd : decode cc pc = .ok (.ireturn, 1)) : px_Sr cc (some .byte) pc pr_b := by
  intro st r h
  unfold pr_b at h
  split at h
  · split at h
    · rename_i v hv
      subst hv
      cases h
      intro p l e R s m args below meth c H locs cells slots Qc free ad lsM hx hb hr hlk hq hf
      exact W.zret hx hb hr (by decide +kernel) hq hf hd hlk
    · cases h
  · cases h
theorem ps_cret {cc : ByteArray} {pc : Nat} (hd : decode cc pc = .ok (.ireturn, 1)) : px_Sr cc (some .char) pc pr_c := by
  intro st r h
  unfold pr_c at h
  split at h
  · split at h
    · rename_i v hv
      cases h
      intro p l e R s m args below meth c H locs cells slots Qc free ad lsM hx hb hr hlk hq hf
      exact W.zret hx hb hr hv hq hf hd hlk
    · cases h
  · cases h
