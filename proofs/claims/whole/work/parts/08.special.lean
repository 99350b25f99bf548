/-! ===== the library's own: max, min, arraycopy; static rows; texts; 'cells' made anew ===== -/
def pi_max (n : Nat) : px_F := fun ls st σ => match st with
  | .int y :: .int x :: st => if px_cat st ≤ 8 then some (n, ls, .int (if x < y then y else x) :: st, σ) else none
  | _ => none
def pi_min (n : Nat) : px_F := fun ls st σ => match st with
  | .int y :: .int x :: st => if px_cat st ≤ 8 then some (n, ls, .int (if y < x then y else x) :: st, σ) else none
  | _ => none
theorem ps_max {own : String} {cc : ByteArray} {nL pc idx : Nat} (h1 : Cond.methodLink own idx Lib.Math.max.name ∈ px_TB) (h2 : Cond.static Lib.Math.max.name ∈ px_TB) (h3 : Cond.initialized "java/lang/Math" ∈ px_TB) (h4 : Cond.code Lib.Math.max.name Lib.Math.max.code 2 (some .int) ∈ px_TB) (hd : decode cc pc = .ok (.invokestatic idx, 3)) : px_Sq own cc nL pc (pi_max (pc + 3)) := by
  intro ls st σ q h
  unfold pi_max at h
  split at h
  next y x st' =>
    split at h
    · rename_i hz
      cases h
      refine ⟨rfl, ?_⟩
      intro p l e R s m args below meth c H locs cells slots Q D cs A ad lsM C hfr hlo hcc hss hR hL k
      exact va_mmax C.1 C.2.1 (C.2.2.1.trans hL.1.symm) C.2.2.2.1 (C.2.2.2.2 _ h1) (C.2.2.2.2 _ h2) (C.2.2.2.2 _ h3) (C.2.2.2.2 _ h4) hfr (by rw [px_cat_mv]; omega) hcc hss hd (k lsM hL)
    · cases h
  next => cases h
theorem ps_min {own : String} {cc : ByteArray} {nL pc idx : Nat} (h1 : Cond.methodLink own idx Lib.Math.min.name ∈ px_TB) (h2 : Cond.static Lib.Math.min.name ∈ px_TB) (h3 : Cond.initialized "java/lang/Math" ∈ px_TB) (h4 : Cond.code Lib.Math.min.name Lib.Math.min.code 2 (some .int) ∈ px_TB) (hd : decode cc pc = .ok (.invokestatic idx, 3)) : px_Sq own cc nL pc (pi_min (pc + 3)) := by
  intro ls st σ q h
  unfold pi_min at h
  split at h
  next y x st' =>
    split at h
    · rename_i hz
      cases h
      refine ⟨rfl, ?_⟩
      intro p l e R s m args below meth c H locs cells slots Q D cs A ad lsM C hfr hlo hcc hss hR hL k
      exact va_mmin C.1 C.2.1 (C.2.2.1.trans hL.1.symm) C.2.2.2.1 (C.2.2.2.2 _ h1) (C.2.2.2.2 _ h2) (C.2.2.2.2 _ h3) (C.2.2.2.2 _ h4) hfr (by rw [px_cat_mv]; omega) hcc hss hd (k lsM hL)
    · cases h
  next => cases h
/-- a whole row of ints put in place of another's first ones -/
def px_cp (σ : px_S) (k : Nat) (f : Nat → Int32) (n : Nat) : px_S := (fun a => if a = k then va_cpy f (σ.1 k) 0 0 n else σ.1 a, σ.2)
/-- arraycopy of the first n of one int row to another's -/
def pi_copy (nx : Nat) : px_F := fun ls st σ => match st with
  | .int n :: .int dp :: .ref b :: .int sp :: .ref a :: st => (match px_at σ 0 a, px_at σ 0 b with
    | some M, some N => if sp = 0 ∧ dp = 0 ∧ ¬ n < 0 ∧ n.toNatClampNeg ≤ M ∧ n.toNatClampNeg ≤ N ∧ px_cat st ≤ 8 then some (nx, ls, st, px_cp σ b (σ.1 a) n.toNatClampNeg) else none
    | _, _ => none)
  | _ => none
/-- the same out of FIRST_RULES -/
def pi_copyF (nx : Nat) : px_F := fun ls st σ => match st with
  | .int n :: .int dp :: .ref b :: .int sp :: .ref a :: st => (match px_at σ 0 b with
    | some N => if a = 100 ∧ sp = 0 ∧ dp = 0 ∧ ¬ n < 0 ∧ n.toNatClampNeg ≤ 5 ∧ n.toNatClampNeg ≤ N ∧ px_cat st ≤ 8 then some (nx, ls, st, px_cp σ b px_FR n.toNatClampNeg) else none
    | _ => none)
  | _ => none
theorem px_E_cp {cs : px_C} {ad : Nat → Nat} {σ : px_S} {k n : Nat} {f : Nat → Int32} {j : Nat} (hj : j ≠ k) : px_E cs ad (px_cp σ k f n) j = px_E cs ad σ j := by
  have e : (px_cp σ k f n).1 j = σ.1 j := by simp [px_cp, hj]
  have e2 : (px_cp σ k f n).2 = σ.2 := rfl
  unfold px_E px_fv px_len
  rw [e, e2]
theorem px_cp_self (σ : px_S) (k n : Nat) (f : Nat → Int32) : (px_cp σ k f n).1 k = va_cpy f (σ.1 k) 0 0 n := by simp [px_cp]
theorem ps_copy {own : String} {cc : ByteArray} {nL pc idx : Nat} (h1 : Cond.methodLink own idx arraycopyName ∈ px_TB) (h2 : Cond.native arraycopyName ∈ px_TB) (h3 : Cond.static arraycopyName ∈ px_TB) (h4 : Cond.initialized "java/lang/System" ∈ px_TB) (hd : decode cc pc = .ok (.invokestatic idx, 3)) : px_Sm own cc nL pc (pi_copy (pc + 3)) := by
  intro ls st σ q h
  unfold pi_copy at h
  split at h
  next n dp b sp a st' =>
    split at h
    next M N hM hN =>
      split at h
      next hz =>
        obtain ⟨rfl, rfl, hn, hnM, hnN, hcat⟩ := hz
        cases h
        refine ⟨rfl, ?_⟩
        intro p l e R s m args below meth c H locs cells slots Q D cs A ad lsM C hfr hlo hcc hss hR hL k
        obtain ⟨hk, h0, aa, ha, hty, rfl⟩ := px_at_spec hM
        obtain ⟨hk', h0', ab, hb, htb, rfl⟩ := px_at_spec hN
        have he : (px_W cs ad σ)[a]? = some (ad a, .inl (cs.1, (px_len σ a aa.2, .inl (σ.1 a)))) := by rw [px_W_get hk, px_E_ar h0 ha, hty]; rfl
        have he' : (px_W cs ad σ)[b]? = some (ad b, .inl (cs.1, (px_len σ b ab.2, .inl (σ.1 b)))) := by rw [px_W_get hk', px_E_ar h0' hb, htb]; rfl
        have z0 : (0 : Int32).toNatClampNeg = 0 := by decide
        have z1 : ¬ (0 : Int32) < 0 := by decide
        have hnw : nativeFrameWords "java/lang/System" "arraycopy" 5 + 11 ≤ 36 := by decide +kernel
        have hlo2 : ((st'.map (px_mv ad)).map fun v => v.category).sum + (nativeFrameWords "java/lang/System" "arraycopy" 5 + 11) ≤ R.locals := by rw [px_cat_mv]; omega
        refine va_copyi (ty := .int) (sp := 0) (dp := 0) (n := n) (rest := st'.map (px_mv ad)) C.1 C.2.1 (C.2.2.1.trans hL.1.symm) C.2.2.2.1 (C.2.2.2.2 _ h1) (C.2.2.2.2 _ h2) (C.2.2.2.2 _ h3) (C.2.2.2.2 _ h4) hR.1 hR.2.1 hR.2.2.1 hR.2.2.2.1 a b 0 0 he he' rfl rfl rfl z1 z1 hn (by rw [z0]; omega) (by rw [z0]; omega) (fun _ _ => rfl) hfr hlo2 hd (fun H1 locs1 hP hD hS => ?_)
        refine k H1 locs1 lsM (hR.to (px_W_set ?_ (fun i hi => px_E_cp hi)) hP hD hS) hL
        rw [px_E_ar h0' hb, htb, px_cp_self]; rfl
      next => cases h
    next => cases h
  next => cases h
theorem ps_copyF {own : String} {cc : ByteArray} {nL pc idx : Nat} (h1 : Cond.methodLink own idx arraycopyName ∈ px_TB) (h2 : Cond.native arraycopyName ∈ px_TB) (h3 : Cond.static arraycopyName ∈ px_TB) (h4 : Cond.initialized "java/lang/System" ∈ px_TB) (hd : decode cc pc = .ok (.invokestatic idx, 3)) : px_Sm own cc nL pc (pi_copyF (pc + 3)) := by
  intro ls st σ q h
  unfold pi_copyF at h
  split at h
  next n dp b sp a st' =>
    split at h
    next N hN =>
      split at h
      next hz =>
        obtain ⟨rfl, rfl, rfl, hn, hnM, hnN, hcat⟩ := hz
        cases h
        refine ⟨rfl, ?_⟩
        intro p l e R s m args below meth c H locs cells slots Q D cs A ad lsM C hfr hlo hcc hss hR hL k
        obtain ⟨hk', h0', ab, hb, htb, rfl⟩ := px_at_spec hN
        have he' : (px_W cs ad σ)[b]? = some (ad b, .inl (cs.1, (px_len σ b ab.2, .inl (σ.1 b)))) := by rw [px_W_get hk', px_E_ar h0' hb, htb]; rfl
        have z0 : (0 : Int32).toNatClampNeg = 0 := by decide
        have z1 : ¬ (0 : Int32) < 0 := by decide
        have hnw : nativeFrameWords "java/lang/System" "arraycopy" 5 + 11 ≤ 36 := by decide +kernel
        have hlo2 : ((st'.map (px_mv ad)).map fun v => v.category).sum + (nativeFrameWords "java/lang/System" "arraycopy" 5 + 11) ≤ R.locals := by rw [px_cat_mv]; omega
        have hX := hR.2.2.2.2.1.2.1.2.1
        have hlt : ad 100 < s.heap.size := by
          obtain ⟨scr, h9, -⟩ := hX.1
          exact (Array.getElem?_eq_some_iff.mp h9).1
        refine va_copyx (sp := 0) (dp := 0) (n := n) (rest := st'.map (px_mv ad)) C.1 C.2.1 (C.2.2.1.trans hL.1.symm) C.2.2.2.1 (C.2.2.2.2 _ h1) (C.2.2.2.2 _ h2) (C.2.2.2.2 _ h3) (C.2.2.2.2 _ h4) hR.1 hR.2.1 hR.2.2.1 hR.2.2.2.1 hX.1 hlt hX.2 b 0 he' rfl z1 z1 hn (by rw [z0]; omega) (by rw [z0]; omega) hfr hlo2 hd (fun H1 locs1 hP hD hS => ?_)
        refine k H1 locs1 lsM (hR.to (px_W_set ?_ (fun i hi => px_E_cp hi)) hP hD hS) hL
        rw [px_E_ar h0' hb, htb, px_cp_self]; rfl
      next => cases h
    next => cases h
  next => cases h
theorem ps_getsF {cc : ByteArray} {nL pc : Nat} (hd : decode cc pc = .ok (.getstatic 25, 3)) : px_Sq RX6 cc nL pc (pi_const (pc + 3) (.ref 100)) := by
  intro ls st σ q h
  cases h
  refine ⟨rfl, ?_⟩
  intro p l e R s m args below meth c H locs cells slots Q D cs A ad lsM C hfr hlo hcc hss hR hL k
  obtain ⟨⟨-, -, -, -, a5, -⟩, ⟨b1, -⟩, -⟩ := hR.2.2.2.2.1
  exact va_getsN C.1 C.2.1 b1 hR.2.2.2.1 C.2.2.2.1 (a5.use rfl) (fun _ z => z) hd (k lsM hL)
theorem ps_getsB {cc : ByteArray} {nL pc : Nat} (hd : decode cc pc = .ok (.getstatic 83, 3)) : px_Sq RX6 cc nL pc (pi_const (pc + 3) (.ref 101)) := by
  intro ls st σ q h
  cases h
  refine ⟨rfl, ?_⟩
  intro p l e R s m args below meth c H locs cells slots Q D cs A ad lsM C hfr hlo hcc hss hR hL k
  obtain ⟨⟨-, -, -, -, -, a6⟩, ⟨-, -, b3, -⟩, -⟩ := hR.2.2.2.2.1
  exact va_getsN C.1 C.2.1 b3 hR.2.2.2.1 C.2.2.2.1 (a6.use rfl) (fun _ z => z) hd (k lsM hL)
/-- a place of RULE_BOUNDS -/
def pi_rb (n : Nat) : px_F := fun ls st σ => match st with
  | .int i :: .ref k :: st => if k = 101 ∧ ¬ (i < 0 ∨ 5 ≤ i.toNatClampNeg) then some (n, ls, .int (px_RB i.toNatClampNeg) :: st, σ) else none
  | _ => none
theorem ps_rb {own : String} {cc : ByteArray} {nL pc : Nat} (hd : decode cc pc = .ok (.iaload, 1)) : px_Sq own cc nL pc (pi_rb (pc + 1)) := by
  intro ls st σ q h
  unfold pi_rb at h
  split at h
  next i k st' =>
    split at h
    next hz =>
      obtain ⟨rfl, hin⟩ := hz
      cases h
      refine ⟨rfl, ?_⟩
      intro p l e R s m args below meth c H locs cells slots Q D cs A ad lsM C hfr hlo hcc hss hR hL k
      obtain ⟨-, ⟨-, -, -, b4⟩, -⟩ := hR.2.2.2.2.1
      exact va_ti C.1 C.2.1 b4 hR.2.2.2.1 hin rfl hd (k lsM hL)
    next => cases h
  next => cases h
/-- a text of the program -/
theorem ps_ldcS {cc : ByteArray} {nL pc : Nat} (i : Nat) (hi : i < 7) (hd : decode cc pc = .ok (.ldc (px_si i), 2)) : px_Sq RX6 cc nL pc (pi_const (pc + 2) (.ref (110 + i))) := by
  intro ls st σ q h
  cases h
  refine ⟨rfl, ?_⟩
  intro p l e R s m args below meth c H locs cells slots Q D cs A ad lsM C hfr hlo hcc hss hR hL k
  obtain ⟨-, -, -, -, c2⟩ := hR.2.2.2.2.1
  exact va_ldcS C.1 C.2.1 C.2.2.2.1 (c2 i hi) hd (k lsM hL)
theorem ps_aret {cc : ByteArray} {pc : Nat} {n : String} (hd : decode cc pc = .ok (.areturn, 1)) : px_Sr cc (some (.object n)) pc pr_a := by
  intro st r h
  unfold pr_a at h
  split at h
  · cases h
    intro p l e R s m args below meth c H locs cells slots Qc free ad lsM hx hb hr hlk hq hf
    exact W.aret hx hb hr (Or.inl ⟨n, rfl⟩) (Or.inr ⟨_, rfl⟩) hq hf hd hlk
  · cases h
