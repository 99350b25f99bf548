theorem ps_iconst {own : String} {cc : ByteArray} {nL pc : Nat} {n : Int} {v : Int32} (hd : decode cc pc = .ok (.iconst n, 1)) (hv : Int32.ofInt n = v) : px_Sq own cc nL pc (pi_const (pc + 1) (.int v)) := by
  intro ls st σ q h
  cases h
  refine ⟨rfl, ?_⟩
  intro p l e R s m args below meth c H locs cells slots Q D cs A ad lsM C hfr hlo hcc hss hR hL k
  exact lv_iconst C.1 C.2.1 hd hv (k lsM hL)
theorem ps_bipush {own : String} {cc : ByteArray} {nL pc : Nat} {n : Int} {v : Int32} (hd : decode cc pc = .ok (.bipush n, 2)) (hv : (Int8.ofInt n).toInt32 = v) : px_Sq own cc nL pc (pi_const (pc + 2) (.int v)) := by
  intro ls st σ q h
  cases h
  refine ⟨rfl, ?_⟩
  intro p l e R s m args below meth c H locs cells slots Q D cs A ad lsM C hfr hlo hcc hss hR hL k
  exact lv_bipush C.1 C.2.1 hd hv (k lsM hL)
theorem ps_sipush {own : String} {cc : ByteArray} {nL pc : Nat} {n : Int} {v : Int32} (hd : decode cc pc = .ok (.sipush n, 3)) (hv : (Int16.ofInt n).toInt32 = v) : px_Sq own cc nL pc (pi_const (pc + 3) (.int v)) := by
  intro ls st σ q h
  cases h
  refine ⟨rfl, ?_⟩
  intro p l e R s m args below meth c H locs cells slots Q D cs A ad lsM C hfr hlo hcc hss hR hL k
  exact lv_sipush C.1 C.2.1 hd hv (k lsM hL)
theorem ps_lconst {own : String} {cc : ByteArray} {nL pc : Nat} {n : Fin 2} {v : Int64} (hd : decode cc pc = .ok (.lconst n, 1)) (hv : Int64.ofNat (n : Nat) = v) : px_Sq own cc nL pc (pi_const (pc + 1) (.long v)) := by
  intro ls st σ q h
  cases h
  refine ⟨rfl, ?_⟩
  intro p l e R s m args below meth c H locs cells slots Q D cs A ad lsM C hfr hlo hcc hss hR hL k
  exact lv_lconst C.1 C.2.1 hd hv (k lsM hL)
theorem ps_ldc {own : String} {cc : ByteArray} {nL pc : Nat} {idx : Nat} {v : Int32} (hd : decode cc pc = .ok (.ldc idx, 2)) (hw : Cond.constant own idx v ∈ px_TB) : px_Sq own cc nL pc (pi_const (pc + 2) (.int v)) := by
  intro ls st σ q h
  cases h
  refine ⟨rfl, ?_⟩
  intro p l e R s m args below meth c H locs cells slots Q D cs A ad lsM C hfr hlo hcc hss hR hL k
  exact lv_ldc C.1 C.2.1 C.2.2.2.1 (C.2.2.2.2 _ hw) hd (k lsM hL)
theorem ps_ldc2 {own : String} {cc : ByteArray} {nL pc : Nat} {idx : Nat} {v : Int64} (hd : decode cc pc = .ok (.ldc2_w idx, 3)) (hw : Cond.constantLong own idx v ∈ px_TB) : px_Sq own cc nL pc (pi_const (pc + 3) (.long v)) := by
  intro ls st σ q h
  cases h
  refine ⟨rfl, ?_⟩
  intro p l e R s m args below meth c H locs cells slots Q D cs A ad lsM C hfr hlo hcc hss hR hL k
  exact lv_ldc2 C.1 C.2.1 C.2.2.2.1 (C.2.2.2.2 _ hw) hd (k lsM hL)
theorem ps_iload_n {own : String} {cc : ByteArray} {nL pc : Nat} {k0 : Fin 4} {i : Nat} (hd : decode cc pc = .ok (.iload_n k0, 1)) (hi : (k0 : Nat) = i) : px_Sq own cc nL pc (pi_iload (pc + 1) i) := by
  intro ls st σ q h
  unfold pi_iload at h
  split at h
  next x hx =>
    cases h
    refine ⟨rfl, ?_⟩
    intro p l e R s m args below meth c H locs cells slots Q D cs A ad lsM C hfr hlo hcc hss hR hL k
    exact lv_iload_n C.1 C.2.1 hd hi (hL.2.2 i _ hx (by simp)) (k lsM hL)
  next => cases h
theorem ps_iload {own : String} {cc : ByteArray} {nL pc : Nat} {i : Nat} (hd : decode cc pc = .ok (.iload i, 2)) : px_Sq own cc nL pc (pi_iload (pc + 2) i) := by
  intro ls st σ q h
  unfold pi_iload at h
  split at h
  next x hx =>
    cases h
    refine ⟨rfl, ?_⟩
    intro p l e R s m args below meth c H locs cells slots Q D cs A ad lsM C hfr hlo hcc hss hR hL k
    exact lv_iload C.1 C.2.1 hd (hL.2.2 i _ hx (by simp)) (k lsM hL)
  next => cases h
theorem ps_lload_n {own : String} {cc : ByteArray} {nL pc : Nat} {k0 : Fin 4} {i : Nat} (hd : decode cc pc = .ok (.lload_n k0, 1)) (hi : (k0 : Nat) = i) : px_Sq own cc nL pc (pi_lload (pc + 1) i) := by
  intro ls st σ q h
  unfold pi_lload at h
  split at h
  next x hx =>
    cases h
    refine ⟨rfl, ?_⟩
    intro p l e R s m args below meth c H locs cells slots Q D cs A ad lsM C hfr hlo hcc hss hR hL k
    exact lv_lload_n C.1 C.2.1 hd hi (hL.2.2 i _ hx (by simp)) (k lsM hL)
  next => cases h
theorem ps_lload {own : String} {cc : ByteArray} {nL pc : Nat} {i : Nat} (hd : decode cc pc = .ok (.lload i, 2)) : px_Sq own cc nL pc (pi_lload (pc + 2) i) := by
  intro ls st σ q h
  unfold pi_lload at h
  split at h
  next x hx =>
    cases h
    refine ⟨rfl, ?_⟩
    intro p l e R s m args below meth c H locs cells slots Q D cs A ad lsM C hfr hlo hcc hss hR hL k
    exact lv_lload C.1 C.2.1 hd (hL.2.2 i _ hx (by simp)) (k lsM hL)
  next => cases h
theorem ps_aload_n {own : String} {cc : ByteArray} {nL pc : Nat} {k0 : Fin 4} {i : Nat} (hd : decode cc pc = .ok (.aload_n k0, 1)) (hi : (k0 : Nat) = i) : px_Sq own cc nL pc (pi_aload (pc + 1) i) := by
  intro ls st σ q h
  unfold pi_aload at h
  split at h
  next x hx =>
    cases h
    refine ⟨rfl, ?_⟩
    intro p l e R s m args below meth c H locs cells slots Q D cs A ad lsM C hfr hlo hcc hss hR hL k
    exact lv_aload_n C.1 C.2.1 hd hi (hL.2.2 i _ hx (by simp)) (k lsM hL)
  next => cases h
theorem ps_aload {own : String} {cc : ByteArray} {nL pc : Nat} {i : Nat} (hd : decode cc pc = .ok (.aload i, 2)) : px_Sq own cc nL pc (pi_aload (pc + 2) i) := by
  intro ls st σ q h
  unfold pi_aload at h
  split at h
  next x hx =>
    cases h
    refine ⟨rfl, ?_⟩
    intro p l e R s m args below meth c H locs cells slots Q D cs A ad lsM C hfr hlo hcc hss hR hL k
    exact lv_aload C.1 C.2.1 hd (hL.2.2 i _ hx (by simp)) (k lsM hL)
  next => cases h
theorem ps_istore_n {own : String} {cc : ByteArray} {nL pc : Nat} {k0 : Fin 4} {i : Nat} (hd : decode cc pc = .ok (.istore_n k0, 1)) (hi : (k0 : Nat) = i) (hn : i < nL) : px_Sq own cc nL pc (pi_istore (pc + 1) i) := by
  intro ls st σ q h
  unfold pi_istore at h
  split at h
  next x st' =>
    cases h
    refine ⟨rfl, ?_⟩
    intro p l e R s m args below meth c H locs cells slots Q D cs A ad lsM C hfr hlo hcc hss hR hL k
    exact lv_istore_n C.1 C.2.1 hd hi hL.has hn rfl (fun ls' h' => k ls' (px_L.of_has (x := .int x) h'))
  next => cases h
theorem ps_istore {own : String} {cc : ByteArray} {nL pc : Nat} {i : Nat} (hd : decode cc pc = .ok (.istore i, 2)) (hn : i < nL) : px_Sq own cc nL pc (pi_istore (pc + 2) i) := by
  intro ls st σ q h
  unfold pi_istore at h
  split at h
  next x st' =>
    cases h
    refine ⟨rfl, ?_⟩
    intro p l e R s m args below meth c H locs cells slots Q D cs A ad lsM C hfr hlo hcc hss hR hL k
    exact lv_istore C.1 C.2.1 hd hL.has hn rfl (fun ls' h' => k ls' (px_L.of_has (x := .int x) h'))
  next => cases h
theorem ps_lstore_n {own : String} {cc : ByteArray} {nL pc : Nat} {k0 : Fin 4} {i : Nat} (hd : decode cc pc = .ok (.lstore_n k0, 1)) (hi : (k0 : Nat) = i) (hn : i + 1 < nL) : px_Sq own cc nL pc (pi_lstore (pc + 1) i) := by
  intro ls st σ q h
  unfold pi_lstore at h
  split at h
  next x st' =>
    cases h
    refine ⟨rfl, ?_⟩
    intro p l e R s m args below meth c H locs cells slots Q D cs A ad lsM C hfr hlo hcc hss hR hL k
    exact lv_lstore_n C.1 C.2.1 hd hi hL.has hn rfl (fun ls' h' => k ls' (px_L.of_has2 (x := .long x) h'))
  next => cases h
theorem ps_lstore {own : String} {cc : ByteArray} {nL pc : Nat} {i : Nat} (hd : decode cc pc = .ok (.lstore i, 2)) (hn : i + 1 < nL) : px_Sq own cc nL pc (pi_lstore (pc + 2) i) := by
  intro ls st σ q h
  unfold pi_lstore at h
  split at h
  next x st' =>
    cases h
    refine ⟨rfl, ?_⟩
    intro p l e R s m args below meth c H locs cells slots Q D cs A ad lsM C hfr hlo hcc hss hR hL k
    exact lv_lstore C.1 C.2.1 hd hL.has hn rfl (fun ls' h' => k ls' (px_L.of_has2 (x := .long x) h'))
  next => cases h
theorem ps_iinc {own : String} {cc : ByteArray} {nL pc : Nat} {i : Nat} {n : Int} {v : Int32} (hd : decode cc pc = .ok (.iinc i n, 3)) (hv : Int32.ofInt n = v) (hn : i < nL) : px_Sq own cc nL pc (pi_iinc (pc + 3) i v) := by
  intro ls st σ q h
  unfold pi_iinc at h
  split at h
  next x hx =>
    cases h
    refine ⟨rfl, ?_⟩
    intro p l e R s m args below meth c H locs cells slots Q D cs A ad lsM C hfr hlo hcc hss hR hL k
    obtain ⟨k9, hk9⟩ := List.getElem?_of_mem (px_asc_mem.mpr ⟨.int x, hx, by simp, rfl⟩ : (i, Value.int x) ∈ px_asc ad ls)
    exact lv_iinc C.1 C.2.1 hd hL.has hk9 (by rw [hv]) hn rfl (fun ls' h' => k ls' (px_L.of_has (x := .int (x + v)) h'))
  next => cases h
theorem ps_iadd {own : String} {cc : ByteArray} {nL pc : Nat} (hd : decode cc pc = .ok (.iadd, 1)) : px_Sq own cc nL pc (pi_bin (pc + 1) (fun x y => x + y)) := by
  intro ls st σ q h
  unfold pi_bin at h
  split at h
  next y x st' =>
    cases h
    refine ⟨rfl, ?_⟩
    intro p l e R s m args below meth c H locs cells slots Q D cs A ad lsM C hfr hlo hcc hss hR hL k
    exact lv_iadd C.1 C.2.1 hd (k lsM hL)
  next => cases h
theorem ps_isub {own : String} {cc : ByteArray} {nL pc : Nat} (hd : decode cc pc = .ok (.isub, 1)) : px_Sq own cc nL pc (pi_bin (pc + 1) (fun x y => x - y)) := by
  intro ls st σ q h
  unfold pi_bin at h
  split at h
  next y x st' =>
    cases h
    refine ⟨rfl, ?_⟩
    intro p l e R s m args below meth c H locs cells slots Q D cs A ad lsM C hfr hlo hcc hss hR hL k
    exact lv_isub C.1 C.2.1 hd (k lsM hL)
  next => cases h
theorem ps_imul {own : String} {cc : ByteArray} {nL pc : Nat} (hd : decode cc pc = .ok (.imul, 1)) : px_Sq own cc nL pc (pi_bin (pc + 1) (fun x y => x * y)) := by
  intro ls st σ q h
  unfold pi_bin at h
  split at h
  next y x st' =>
    cases h
    refine ⟨rfl, ?_⟩
    intro p l e R s m args below meth c H locs cells slots Q D cs A ad lsM C hfr hlo hcc hss hR hL k
    exact lv_imul C.1 C.2.1 hd (k lsM hL)
  next => cases h
theorem ps_iand {own : String} {cc : ByteArray} {nL pc : Nat} (hd : decode cc pc = .ok (.iand, 1)) : px_Sq own cc nL pc (pi_bin (pc + 1) (fun x y => x &&& y)) := by
  intro ls st σ q h
  unfold pi_bin at h
  split at h
  next y x st' =>
    cases h
    refine ⟨rfl, ?_⟩
    intro p l e R s m args below meth c H locs cells slots Q D cs A ad lsM C hfr hlo hcc hss hR hL k
    exact lv_iand C.1 C.2.1 hd (k lsM hL)
  next => cases h
theorem ps_ior {own : String} {cc : ByteArray} {nL pc : Nat} (hd : decode cc pc = .ok (.ior, 1)) : px_Sq own cc nL pc (pi_bin (pc + 1) (fun x y => x ||| y)) := by
  intro ls st σ q h
  unfold pi_bin at h
  split at h
  next y x st' =>
    cases h
    refine ⟨rfl, ?_⟩
    intro p l e R s m args below meth c H locs cells slots Q D cs A ad lsM C hfr hlo hcc hss hR hL k
    exact lv_ior C.1 C.2.1 hd (k lsM hL)
  next => cases h
theorem ps_ishl {own : String} {cc : ByteArray} {nL pc : Nat} (hd : decode cc pc = .ok (.ishl, 1)) : px_Sq own cc nL pc (pi_bin (pc + 1) (fun x y => x <<< (y &&& 31))) := by
  intro ls st σ q h
  unfold pi_bin at h
  split at h
  next y x st' =>
    cases h
    refine ⟨rfl, ?_⟩
    intro p l e R s m args below meth c H locs cells slots Q D cs A ad lsM C hfr hlo hcc hss hR hL k
    exact lv_ishl C.1 C.2.1 hd (k lsM hL)
  next => cases h
theorem ps_ishr {own : String} {cc : ByteArray} {nL pc : Nat} (hd : decode cc pc = .ok (.ishr, 1)) : px_Sq own cc nL pc (pi_bin (pc + 1) (fun x y => x >>> (y &&& 31))) := by
  intro ls st σ q h
  unfold pi_bin at h
  split at h
  next y x st' =>
    cases h
    refine ⟨rfl, ?_⟩
    intro p l e R s m args below meth c H locs cells slots Q D cs A ad lsM C hfr hlo hcc hss hR hL k
    exact lv_ishr C.1 C.2.1 hd (k lsM hL)
  next => cases h
theorem ps_iushr {own : String} {cc : ByteArray} {nL pc : Nat} (hd : decode cc pc = .ok (.iushr, 1)) : px_Sq own cc nL pc (pi_bin (pc + 1) (fun x y => (x.toUInt32 >>> (y.toUInt32 &&& Int32.toUInt32 31)).toInt32)) := by
  intro ls st σ q h
  unfold pi_bin at h
  split at h
  next y x st' =>
    cases h
    refine ⟨rfl, ?_⟩
    intro p l e R s m args below meth c H locs cells slots Q D cs A ad lsM C hfr hlo hcc hss hR hL k
    exact lv_iushr C.1 C.2.1 hd rfl (k lsM hL)
  next => cases h
theorem ps_idiv {own : String} {cc : ByteArray} {nL pc : Nat} (hd : decode cc pc = .ok (.idiv, 1)) : px_Sq own cc nL pc (pi_binz (pc + 1) (fun x y => x / y)) := by
  intro ls st σ q h
  unfold pi_binz at h
  split at h
  next y x st' =>
    split at h
    · cases h
    · rename_i hz
      cases h
      refine ⟨rfl, ?_⟩
      intro p l e R s m args below meth c H locs cells slots Q D cs A ad lsM C hfr hlo hcc hss hR hL k
      exact lv_idiv C.1 C.2.1 hd hz (k lsM hL)
  next => cases h
theorem ps_irem {own : String} {cc : ByteArray} {nL pc : Nat} (hd : decode cc pc = .ok (.irem, 1)) : px_Sq own cc nL pc (pi_binz (pc + 1) (fun x y => x - x / y * y)) := by
  intro ls st σ q h
  unfold pi_binz at h
  split at h
  next y x st' =>
    split at h
    · cases h
    · rename_i hz
      cases h
      refine ⟨rfl, ?_⟩
      intro p l e R s m args below meth c H locs cells slots Q D cs A ad lsM C hfr hlo hcc hss hR hL k
      exact lv_irem C.1 C.2.1 hd hz (k lsM hL)
  next => cases h
theorem ps_land {own : String} {cc : ByteArray} {nL pc : Nat} (hd : decode cc pc = .ok (.land, 1)) : px_Sq own cc nL pc (pi_lbin (pc + 1) (fun x y => x &&& y)) := by
  intro ls st σ q h
  unfold pi_lbin at h
  split at h
  next y x st' =>
    cases h
    refine ⟨rfl, ?_⟩
    intro p l e R s m args below meth c H locs cells slots Q D cs A ad lsM C hfr hlo hcc hss hR hL k
    exact lv_land C.1 C.2.1 hd (k lsM hL)
  next => cases h
theorem ps_lor {own : String} {cc : ByteArray} {nL pc : Nat} (hd : decode cc pc = .ok (.lor, 1)) : px_Sq own cc nL pc (pi_lbin (pc + 1) (fun x y => x ||| y)) := by
  intro ls st σ q h
  unfold pi_lbin at h
  split at h
  next y x st' =>
    cases h
    refine ⟨rfl, ?_⟩
    intro p l e R s m args below meth c H locs cells slots Q D cs A ad lsM C hfr hlo hcc hss hR hL k
    exact lv_lor C.1 C.2.1 hd (k lsM hL)
  next => cases h
theorem ps_lxor {own : String} {cc : ByteArray} {nL pc : Nat} (hd : decode cc pc = .ok (.lxor, 1)) : px_Sq own cc nL pc (pi_lbin (pc + 1) (fun x y => x ^^^ y)) := by
  intro ls st σ q h
  unfold pi_lbin at h
  split at h
  next y x st' =>
    cases h
    refine ⟨rfl, ?_⟩
    intro p l e R s m args below meth c H locs cells slots Q D cs A ad lsM C hfr hlo hcc hss hR hL k
    exact lv_lxor C.1 C.2.1 hd (k lsM hL)
  next => cases h
theorem ps_lushr {own : String} {cc : ByteArray} {nL pc : Nat} (hd : decode cc pc = .ok (.lushr, 1)) : px_Sq own cc nL pc (pi_lsh (pc + 1) (fun x y => (x.toUInt64 >>> (y.toInt64.toUInt64 &&& Int64.toUInt64 63)).toInt64)) := by
  intro ls st σ q h
  unfold pi_lsh at h
  split at h
  next y x st' =>
    cases h
    refine ⟨rfl, ?_⟩
    intro p l e R s m args below meth c H locs cells slots Q D cs A ad lsM C hfr hlo hcc hss hR hL k
    exact lv_lushr C.1 C.2.1 hd rfl (k lsM hL)
  next => cases h
theorem ps_lshl {own : String} {cc : ByteArray} {nL pc : Nat} (hd : decode cc pc = .ok (.lshl, 1)) : px_Sq own cc nL pc (pi_lsh (pc + 1) (fun x y => x <<< (y.toInt64 &&& 63))) := by
  intro ls st σ q h
  unfold pi_lsh at h
  split at h
  next y x st' =>
    cases h
    refine ⟨rfl, ?_⟩
    intro p l e R s m args below meth c H locs cells slots Q D cs A ad lsM C hfr hlo hcc hss hR hL k
    exact lv_lshl C.1 C.2.1 hd rfl (k lsM hL)
  next => cases h
theorem ps_lshr {own : String} {cc : ByteArray} {nL pc : Nat} (hd : decode cc pc = .ok (.lshr, 1)) : px_Sq own cc nL pc (pi_lsh (pc + 1) (fun x y => x >>> (y.toInt64 &&& 63))) := by
  intro ls st σ q h
  unfold pi_lsh at h
  split at h
  next y x st' =>
    cases h
    refine ⟨rfl, ?_⟩
    intro p l e R s m args below meth c H locs cells slots Q D cs A ad lsM C hfr hlo hcc hss hR hL k
    exact lv_lshr C.1 C.2.1 hd rfl (k lsM hL)
  next => cases h
theorem ps_ineg {own : String} {cc : ByteArray} {nL pc : Nat} (hd : decode cc pc = .ok (.ineg, 1)) : px_Sq own cc nL pc (pi_un (pc + 1) (fun x => -x)) := by
  intro ls st σ q h
  unfold pi_un at h
  split at h
  next x st' =>
    cases h
    refine ⟨rfl, ?_⟩
    intro p l e R s m args below meth c H locs cells slots Q D cs A ad lsM C hfr hlo hcc hss hR hL k
    exact lv_ineg C.1 C.2.1 hd (k lsM hL)
  next => cases h
theorem ps_i2l {own : String} {cc : ByteArray} {nL pc : Nat} (hd : decode cc pc = .ok (.i2l, 1)) : px_Sq own cc nL pc (pi_i2l (pc + 1)) := by
  intro ls st σ q h
  unfold pi_i2l at h
  split at h
  next x st' =>
    cases h
    refine ⟨rfl, ?_⟩
    intro p l e R s m args below meth c H locs cells slots Q D cs A ad lsM C hfr hlo hcc hss hR hL k
    exact lv_i2l C.1 C.2.1 hd rfl (k lsM hL)
  next => cases h
theorem ps_l2i {own : String} {cc : ByteArray} {nL pc : Nat} (hd : decode cc pc = .ok (.l2i, 1)) : px_Sq own cc nL pc (pi_l2i (pc + 1)) := by
  intro ls st σ q h
  unfold pi_l2i at h
  split at h
  next x st' =>
    cases h
    refine ⟨rfl, ?_⟩
    intro p l e R s m args below meth c H locs cells slots Q D cs A ad lsM C hfr hlo hcc hss hR hL k
    exact lv_l2i C.1 C.2.1 hd rfl (k lsM hL)
  next => cases h
theorem ps_lcmp {own : String} {cc : ByteArray} {nL pc : Nat} (hd : decode cc pc = .ok (.lcmp, 1)) : px_Sq own cc nL pc (pi_lcmp (pc + 1)) := by
  intro ls st σ q h
  unfold pi_lcmp at h
  split at h
  next y x st' =>
    cases h
    refine ⟨rfl, ?_⟩
    intro p l e R s m args below meth c H locs cells slots Q D cs A ad lsM C hfr hlo hcc hss hR hL k
    exact W.lcmp C.1 C.2.1 hd (k lsM hL)
  next => cases h
theorem ps_dup {own : String} {cc : ByteArray} {nL pc : Nat} (hd : decode cc pc = .ok (.dup, 1)) : px_Sq own cc nL pc (pi_dup (pc + 1)) := by
  intro ls st σ q h
  unfold pi_dup at h
  split at h
  next v st' =>
    split at h
    · rename_i hv
      cases h
      refine ⟨rfl, ?_⟩
      intro p l e R s m args below meth c H locs cells slots Q D cs A ad lsM C hfr hlo hcc hss hR hL k
      exact lv_dup C.1 C.2.1 hd ((px_mv_cat ad v).trans hv) (k lsM hL)
    · cases h
  next => cases h
theorem ps_pop {own : String} {cc : ByteArray} {nL pc : Nat} (hd : decode cc pc = .ok (.pop, 1)) : px_Sq own cc nL pc (pi_pop (pc + 1)) := by
  intro ls st σ q h
  unfold pi_pop at h
  split at h
  next v st' =>
    split at h
    · rename_i hv
      cases h
      refine ⟨rfl, ?_⟩
      intro p l e R s m args below meth c H locs cells slots Q D cs A ad lsM C hfr hlo hcc hss hR hL k
      exact lv_pop C.1 C.2.1 hd ((px_mv_cat ad v).trans hv) (k lsM hL)
    · cases h
  next => cases h
theorem ps_dup2 {own : String} {cc : ByteArray} {nL pc : Nat} (hd : decode cc pc = .ok (.dup2, 1)) : px_Sq own cc nL pc (pi_dup2 (pc + 1)) := by
  intro ls st σ q h
  unfold pi_dup2 at h
  split at h
  next v w st' =>
    split at h
    · rename_i hv
      cases h
      refine ⟨rfl, ?_⟩
      intro p l e R s m args below meth c H locs cells slots Q D cs A ad lsM C hfr hlo hcc hss hR hL k
      exact lv_dup2_11 C.1 C.2.1 hd ((px_mv_cat ad v).trans hv.1) ((px_mv_cat ad w).trans hv.2) (k lsM hL)
    · cases h
  next => cases h
theorem ps_if_eq {own : String} {cc : ByteArray} {nL pc tgt : Nat} {off : Int} (hd : decode cc pc = .ok (.ifCond .eq off, 3)) (ht : (pc : Int) + off = (tgt : Int)) : px_Sq own cc nL pc (pi_if (pc + 3) tgt (fun x => x = 0)) := by
  intro ls st σ q h
  unfold pi_if at h
  split at h
  next x st' =>
    cases h
    refine ⟨rfl, ?_⟩
    intro p l e R s m args below meth c H locs cells slots Q D cs A ad lsM C hfr hlo hcc hss hR hL k
    dsimp only at k
    exact lv_if_eq C.1 C.2.1 hd ht (fun z => by have k := k lsM hL; rw [if_pos z] at k; exact k) (fun z => by have k := k lsM hL; rw [if_neg z] at k; exact k)
  next => cases h
theorem ps_if_ne {own : String} {cc : ByteArray} {nL pc tgt : Nat} {off : Int} (hd : decode cc pc = .ok (.ifCond .ne off, 3)) (ht : (pc : Int) + off = (tgt : Int)) : px_Sq own cc nL pc (pi_if (pc + 3) tgt (fun x => ¬ x = 0)) := by
  intro ls st σ q h
  unfold pi_if at h
  split at h
  next x st' =>
    cases h
    refine ⟨rfl, ?_⟩
    intro p l e R s m args below meth c H locs cells slots Q D cs A ad lsM C hfr hlo hcc hss hR hL k
    dsimp only at k
    exact lv_if_ne C.1 C.2.1 hd ht (fun z => by have k := k lsM hL; rw [if_pos z] at k; exact k) (fun z => by have k := k lsM hL; rw [if_neg (fun w => w z)] at k; exact k)
  next => cases h
theorem ps_if_lt {own : String} {cc : ByteArray} {nL pc tgt : Nat} {off : Int} (hd : decode cc pc = .ok (.ifCond .lt off, 3)) (ht : (pc : Int) + off = (tgt : Int)) : px_Sq own cc nL pc (pi_if (pc + 3) tgt (fun x => x < 0)) := by
  intro ls st σ q h
  unfold pi_if at h
  split at h
  next x st' =>
    cases h
    refine ⟨rfl, ?_⟩
    intro p l e R s m args below meth c H locs cells slots Q D cs A ad lsM C hfr hlo hcc hss hR hL k
    dsimp only at k
    exact lv_if_lt C.1 C.2.1 hd ht (fun z => by have k := k lsM hL; rw [if_pos z] at k; exact k) (fun z => by have k := k lsM hL; rw [if_neg z] at k; exact k)
  next => cases h
theorem ps_if_ge {own : String} {cc : ByteArray} {nL pc tgt : Nat} {off : Int} (hd : decode cc pc = .ok (.ifCond .ge off, 3)) (ht : (pc : Int) + off = (tgt : Int)) : px_Sq own cc nL pc (pi_if (pc + 3) tgt (fun x => 0 ≤ x)) := by
  intro ls st σ q h
  unfold pi_if at h
  split at h
  next x st' =>
    cases h
    refine ⟨rfl, ?_⟩
    intro p l e R s m args below meth c H locs cells slots Q D cs A ad lsM C hfr hlo hcc hss hR hL k
    dsimp only at k
    exact lv_if_ge C.1 C.2.1 hd ht (fun z => by have k := k lsM hL; rw [if_pos z] at k; exact k) (fun z => by have k := k lsM hL; rw [if_neg z] at k; exact k)
  next => cases h
theorem ps_if_gt {own : String} {cc : ByteArray} {nL pc tgt : Nat} {off : Int} (hd : decode cc pc = .ok (.ifCond .gt off, 3)) (ht : (pc : Int) + off = (tgt : Int)) : px_Sq own cc nL pc (pi_if (pc + 3) tgt (fun x => 0 < x)) := by
  intro ls st σ q h
  unfold pi_if at h
  split at h
  next x st' =>
    cases h
    refine ⟨rfl, ?_⟩
    intro p l e R s m args below meth c H locs cells slots Q D cs A ad lsM C hfr hlo hcc hss hR hL k
    dsimp only at k
    exact lv_if_gt C.1 C.2.1 hd ht (fun z => by have k := k lsM hL; rw [if_pos z] at k; exact k) (fun z => by have k := k lsM hL; rw [if_neg z] at k; exact k)
  next => cases h
theorem ps_if_le {own : String} {cc : ByteArray} {nL pc tgt : Nat} {off : Int} (hd : decode cc pc = .ok (.ifCond .le off, 3)) (ht : (pc : Int) + off = (tgt : Int)) : px_Sq own cc nL pc (pi_if (pc + 3) tgt (fun x => x ≤ 0)) := by
  intro ls st σ q h
  unfold pi_if at h
  split at h
  next x st' =>
    cases h
    refine ⟨rfl, ?_⟩
    intro p l e R s m args below meth c H locs cells slots Q D cs A ad lsM C hfr hlo hcc hss hR hL k
    dsimp only at k
    exact lv_if_le C.1 C.2.1 hd ht (fun z => by have k := k lsM hL; rw [if_pos z] at k; exact k) (fun z => by have k := k lsM hL; rw [if_neg z] at k; exact k)
  next => cases h
theorem ps_icmp_eq {own : String} {cc : ByteArray} {nL pc tgt : Nat} {off : Int} (hd : decode cc pc = .ok (.if_icmp .eq off, 3)) (ht : (pc : Int) + off = (tgt : Int)) : px_Sq own cc nL pc (pi_icmp (pc + 3) tgt (fun x y => x = y)) := by
  intro ls st σ q h
  unfold pi_icmp at h
  split at h
  next y x st' =>
    cases h
    refine ⟨rfl, ?_⟩
    intro p l e R s m args below meth c H locs cells slots Q D cs A ad lsM C hfr hlo hcc hss hR hL k
    dsimp only at k
    exact lv_icmp_eq C.1 C.2.1 hd ht (fun z => by have k := k lsM hL; rw [if_pos z] at k; exact k) (fun z => by have k := k lsM hL; rw [if_neg z] at k; exact k)
  next => cases h
theorem ps_icmp_ne {own : String} {cc : ByteArray} {nL pc tgt : Nat} {off : Int} (hd : decode cc pc = .ok (.if_icmp .ne off, 3)) (ht : (pc : Int) + off = (tgt : Int)) : px_Sq own cc nL pc (pi_icmp (pc + 3) tgt (fun x y => ¬ x = y)) := by
  intro ls st σ q h
  unfold pi_icmp at h
  split at h
  next y x st' =>
    cases h
    refine ⟨rfl, ?_⟩
    intro p l e R s m args below meth c H locs cells slots Q D cs A ad lsM C hfr hlo hcc hss hR hL k
    dsimp only at k
    exact lv_icmp_ne C.1 C.2.1 hd ht (fun z => by have k := k lsM hL; rw [if_pos z] at k; exact k) (fun z => by have k := k lsM hL; rw [if_neg (fun w => w z)] at k; exact k)
  next => cases h
theorem ps_icmp_lt {own : String} {cc : ByteArray} {nL pc tgt : Nat} {off : Int} (hd : decode cc pc = .ok (.if_icmp .lt off, 3)) (ht : (pc : Int) + off = (tgt : Int)) : px_Sq own cc nL pc (pi_icmp (pc + 3) tgt (fun x y => x < y)) := by
  intro ls st σ q h
  unfold pi_icmp at h
  split at h
  next y x st' =>
    cases h
    refine ⟨rfl, ?_⟩
    intro p l e R s m args below meth c H locs cells slots Q D cs A ad lsM C hfr hlo hcc hss hR hL k
    dsimp only at k
    exact lv_icmp_lt C.1 C.2.1 hd ht (fun z => by have k := k lsM hL; rw [if_pos z] at k; exact k) (fun z => by have k := k lsM hL; rw [if_neg z] at k; exact k)
  next => cases h
theorem ps_icmp_ge {own : String} {cc : ByteArray} {nL pc tgt : Nat} {off : Int} (hd : decode cc pc = .ok (.if_icmp .ge off, 3)) (ht : (pc : Int) + off = (tgt : Int)) : px_Sq own cc nL pc (pi_icmp (pc + 3) tgt (fun x y => y ≤ x)) := by
  intro ls st σ q h
  unfold pi_icmp at h
  split at h
  next y x st' =>
    cases h
    refine ⟨rfl, ?_⟩
    intro p l e R s m args below meth c H locs cells slots Q D cs A ad lsM C hfr hlo hcc hss hR hL k
    dsimp only at k
    exact lv_icmp_ge C.1 C.2.1 hd ht (fun z => by have k := k lsM hL; rw [if_pos z] at k; exact k) (fun z => by have k := k lsM hL; rw [if_neg z] at k; exact k)
  next => cases h
theorem ps_icmp_gt {own : String} {cc : ByteArray} {nL pc tgt : Nat} {off : Int} (hd : decode cc pc = .ok (.if_icmp .gt off, 3)) (ht : (pc : Int) + off = (tgt : Int)) : px_Sq own cc nL pc (pi_icmp (pc + 3) tgt (fun x y => y < x)) := by
  intro ls st σ q h
  unfold pi_icmp at h
  split at h
  next y x st' =>
    cases h
    refine ⟨rfl, ?_⟩
    intro p l e R s m args below meth c H locs cells slots Q D cs A ad lsM C hfr hlo hcc hss hR hL k
    dsimp only at k
    exact lv_icmp_gt C.1 C.2.1 hd ht (fun z => by have k := k lsM hL; rw [if_pos z] at k; exact k) (fun z => by have k := k lsM hL; rw [if_neg z] at k; exact k)
  next => cases h
theorem ps_icmp_le {own : String} {cc : ByteArray} {nL pc tgt : Nat} {off : Int} (hd : decode cc pc = .ok (.if_icmp .le off, 3)) (ht : (pc : Int) + off = (tgt : Int)) : px_Sq own cc nL pc (pi_icmp (pc + 3) tgt (fun x y => x ≤ y)) := by
  intro ls st σ q h
  unfold pi_icmp at h
  split at h
  next y x st' =>
    cases h
    refine ⟨rfl, ?_⟩
    intro p l e R s m args below meth c H locs cells slots Q D cs A ad lsM C hfr hlo hcc hss hR hL k
    dsimp only at k
    exact lv_icmp_le C.1 C.2.1 hd ht (fun z => by have k := k lsM hL; rw [if_pos z] at k; exact k) (fun z => by have k := k lsM hL; rw [if_neg z] at k; exact k)
  next => cases h
theorem ps_goto {own : String} {cc : ByteArray} {nL pc tgt : Nat} {off : Int} (hd : decode cc pc = .ok (.goto off, 3)) (ht : (pc : Int) + off = (tgt : Int)) : px_Sq own cc nL pc (pi_goto tgt) := by
  intro ls st σ q h
  cases h
  refine ⟨rfl, ?_⟩
  intro p l e R s m args below meth c H locs cells slots Q D cs A ad lsM C hfr hlo hcc hss hR hL k
  exact lv_goto C.1 C.2.1 hd ht (k lsM hL)
theorem ps_tsw {own : String} {cc : ByteArray} {nL pc : Nat} {lo hi dflt : Int} {offs : Array Int} {len dt : Nat} {ts : List Nat} (hd : decode cc pc = .ok (.tableswitch dflt lo hi offs, len)) (ht : (pc : Int) + dflt = (dt : Int)) (hts : offs.toList.map (fun o => (pc : Int) + o) = ts.map (fun (t : Nat) => (t : Int))) : px_Sq own cc nL pc (pi_tsw lo hi dt ts) := by
  intro ls st σ q h
  unfold pi_tsw at h
  split at h
  next x st' =>
    split at h
    · rename_i hz
      cases h
      refine ⟨rfl, ?_⟩
      intro p l e R s m args below meth c H locs cells slots Q D cs A ad lsM C hfr hlo hcc hss hR hL k
      exact lv_tableOut C.1 C.2.1 hd hz ht (k lsM hL)
    · rename_i hz
      split at h
      next t htt =>
        cases h
        refine ⟨rfl, ?_⟩
        intro p l e R s m args below meth c H locs cells slots Q D cs A ad lsM C hfr hlo hcc hss hR hL k
        have h1 : (ts.map (fun (t : Nat) => (t : Int)))[(x.toInt - lo).toNat]? = some (t : Int) := by rw [List.getElem?_map, htt]; rfl
        rw [← hts, List.getElem?_map] at h1
        cases ho : offs.toList[(x.toInt - lo).toNat]? with
        | none => rw [ho] at h1; cases h1
        | some o =>
          rw [ho] at h1
          exact lv_tableIn C.1 C.2.1 hd (fun z => hz (Or.inl z)) (fun z => hz (Or.inr z)) (by rw [← Array.getElem?_toList]; exact ho) (Option.some.inj h1) (k lsM hL)
      next => cases h
  next => cases h
