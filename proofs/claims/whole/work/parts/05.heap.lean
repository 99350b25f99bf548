/-! ===== steps on the heap ===== -/
theorem px_W_get {cs : px_C} {ad : Nat → Nat} {σ : px_S} {k : Nat} (hk : k < 59) : (px_W cs ad σ)[k]? = some (ad k, px_E cs ad σ k) := by
  unfold px_W
  rw [List.getElem?_map, List.getElem?_range hk]
  rfl
theorem px_W_set {cs : px_C} {ad : Nat → Nat} {σ τ : px_S} {k : Nat} {E : va_E} (hE : px_E cs ad τ k = E) (ho : ∀ j, j ≠ k → px_E cs ad τ j = px_E cs ad σ j) : (px_W cs ad σ).set k (ad k, E) = px_W cs ad τ := by
  apply List.ext_getElem?
  intro j
  by_cases hj : j < 59
  · rw [px_W_get hj]
    by_cases hjk : j = k
    · subst hjk
      rw [List.getElem?_set_self (by simp [px_W]; exact hj), hE]
    · rw [List.getElem?_set_ne (Ne.symm hjk), px_W_get hj, ho j hjk]
  · have h1 : ∀ l : va_W, l.length = 59 → l[j]? = none := fun l hl => List.getElem?_eq_none (by omega)
    rw [h1 _ (by simp [px_W]), h1 _ (by simp [px_W])]
theorem px_ob_lt {k : Nat} {o : Nat × List (Nat × Nat)} (h : px_ob[k]? = some o) : k < 10 := (List.getElem?_eq_some_iff.mp h).1
theorem px_ar_lt {k : Nat} {o : Nat × Nat} (h : px_ar[k]? = some o) : k < 59 := (List.getElem?_eq_some_iff.mp h).1
theorem px_E_ob {cs : px_C} {ad : Nat → Nat} {σ : px_S} {k : Nat} {o : Nat × List (Nat × Nat)} (h : px_ob[k]? = some o) : px_E cs ad σ k = .inr (o.1, o.2.mapIdx fun j d => px_fv ad σ k d j) := by
  unfold px_E; rw [h]
theorem px_E_ar {cs : px_C} {ad : Nat → Nat} {σ : px_S} {k : Nat} {a : Nat × Nat} (h0 : px_ob[k]? = none) (h : px_ar[k]? = some a) : px_E cs ad σ k = if a.1 = 1 then .inl (cs.2.1, (px_len σ k a.2, .inr (.inl (σ.2.1 k)))) else if a.1 = 2 then .inl (cs.2.2, (px_len σ k a.2, .inl (σ.1 k))) else .inl (cs.1, (px_len σ k a.2, .inl (σ.1 k))) := by
  unfold px_E; rw [h0]; dsimp only; rw [h]
theorem px_E_uI {cs : px_C} {ad : Nat → Nat} {σ : px_S} {k i : Nat} {x : Int32} {j : Nat} (hj : j ≠ k) : px_E cs ad (px_uI σ k i x) j = px_E cs ad σ j := by
  have e : (px_uI σ k i x).1 j = σ.1 j := by simp [px_uI, hj]
  have e2 : (px_uI σ k i x).2 = σ.2 := rfl
  unfold px_E px_fv px_len
  rw [e, e2]
theorem px_E_uL {cs : px_C} {ad : Nat → Nat} {σ : px_S} {k i : Nat} {x : Int64} {j : Nat} (hj : j ≠ k) : px_E cs ad (px_uL σ k i x) j = px_E cs ad σ j := by
  have e : (px_uL σ k i x).2.1 j = σ.2.1 j := by simp [px_uL, hj]
  have e1 : (px_uL σ k i x).1 = σ.1 := rfl
  have e2 : (px_uL σ k i x).2.2 = σ.2.2 := rfl
  unfold px_E px_fv px_len
  rw [e, e1, e2]
theorem px_fv_mv (ad : Nat → Nat) (σ : px_S) (k : Nat) (d : Nat × Nat) (j : Nat) : px_mv ad (px_fv (fun k => k) σ k d j) = px_fv ad σ k d j := by
  unfold px_fv
  split
  · rfl
  · split <;> rfl
/-- a step that makes no cell -/
def px_Sm (own : String) (cc : ByteArray) (nL pc : Nat) (f : px_F) : Prop :=
  ∀ (ls st : List Value) (σ : px_S) (q : Nat × List Value × List Value × px_S), f ls st σ = some q → q.2.2.2.2.2 = σ.2.2 ∧
    ∀ (p : Program) (l : Launch) (e : Env) (R : Room) (s : State) (m : MethodId) (args : Array Value) (below : List Frame) (meth : Method) (c : Code) (H : Heap) (locs : List Loc) (cells slots : Nat) (Q : State → Prop) (D : va_G) (cs : px_C) (A : Nat → Prop) (ad : Nat → Nat) (lsM : Array Slot),
      CallFix p m c cc nL s args px_TB own → 1 ≤ R.frames → 44 ≤ R.locals → cells ≤ R.cells → slots ≤ R.slots → px_R D cs A s ad σ H locs → px_L ad nL ls lsM →
      (∀ (H' : Heap) (locs' : List Loc) (lsM' : Array Slot), px_R D cs A s ad q.2.2.2 H' locs' → px_L ad nL q.2.1 lsM' → W p l e R s m args below meth c H' locs' cells slots Q (F0 m q.1 lsM' (q.2.2.1.map (px_mv ad)))) →
      W p l e R s m args below meth c H locs cells slots Q (F0 m pc lsM (st.map (px_mv ad)))
theorem px_Sp.ofm {own : String} {cc : ByteArray} {nL pc : Nat} {f : px_F} (h : px_Sm own cc nL pc f) : px_Sp own cc nL pc f := by
  intro ls st σ q hq
  obtain ⟨e0, h1⟩ := h ls st σ q hq
  have e1 : px_cc q.2.2.2 = px_cc σ := by show q.2.2.2.2.2.2.1 = _; rw [e0]
  have e2 : px_cs q.2.2.2 = px_cs σ := by show q.2.2.2.2.2.2.2 = _; rw [e0]
  refine ⟨⟨by rw [e1]; exact Nat.le_refl _, by rw [e2]; exact Nat.le_refl _⟩, ?_⟩
  intro p l e R s m args below meth c H locs cells slots Q D cs A ad lsM C h2 h3 hR hL h4 h5 k
  rw [e1] at h4 k
  rw [e2] at h5 k
  simp only [Nat.sub_self, Nat.add_zero] at h4 h5 k
  exact h1 p l e R s m args below meth c H locs cells slots Q D cs A ad lsM C h2 h3 h4 h5 hR hL (fun H' locs' lsM' hR' hL' => k ad H' locs' lsM' (fun _ _ => rfl) hR' hL')
/-- a class of the system, at the place ci -/
def px_Kc (ci : Nat) (C : String) (T : u_T) (N : Nat) : Prop := vwCl[ci]? = some (C, T, N) ∧ (∀ w ∈ u_ws C T N, w ∈ px_TB) ∧ (∀ a, a < N → ∀ b, b < N → a ≠ b → (T a).2.1 ≠ (T b).2.1) ∧ ∃ ty : Nat → FieldType, ∀ k, k < N → parseFieldDescriptor (T k).2.2.1 = some (ty k)
theorem ps_get {own : String} {cc : ByteArray} {nL pc : Nat} {idx ci j N : Nat} {C : String} {T : u_T} (hc : px_Kc ci C T N) (hj : j < N) (hw : Cond.fieldLink own idx (T j).1 (T j).2.1 (T j).2.2.1 ∈ px_TB) (hd : decode cc pc = .ok (.getfield idx, 3)) : px_Sq own cc nL pc (pi_get (pc + 3) ci j) := by
  intro ls st σ q h
  unfold pi_get at h
  split at h
  next k st' =>
    split at h
    next o ho =>
      split at h
      next hci =>
        split at h
        next d hdd =>
          cases h
          refine ⟨rfl, ?_⟩
          intro p l e R s m args below meth c H locs cells slots Q D cs A ad lsM Cf hfr hlo hcc hss hR hL kk
          have hk : k < 59 := Nat.lt_of_lt_of_le (px_ob_lt ho) (by decide)
          have he : (px_W cs ad σ)[k]? = some (ad k, .inr (ci, o.2.mapIdx fun j d => px_fv ad σ k d j)) := by rw [px_W_get hk, px_E_ob ho, hci]
          refine va_get (v := px_fv ad σ k d j) Cf.1 Cf.2.1 Cf.2.2.2.2 hc.2.1 Cf.2.2.2.1 hR.1 hR.2.1 k he hc.1 j hj (Cf.2.2.2.2 _ hw) (fun _ z => z) (by rw [List.getElem?_mapIdx, hdd]; rfl) hd ?_
          have k2 := kk lsM hL
          simp only [List.map_cons, px_fv_mv] at k2
          exact k2
        next => cases h
      next => cases h
    next => cases h
  next => cases h
theorem px_fs_set {ad : Nat → Nat} {σ τ : px_S} {k j : Nat} {fs : List (Nat × Nat)} {d : Nat × Nat} {v : Value} (hd : fs[j]? = some d) (hv : px_fv ad τ k d j = v) (ho : ∀ i e, i ≠ j → px_fv ad τ k e i = px_fv ad σ k e i) : (fs.mapIdx fun j d => px_fv ad σ k d j).set j v = fs.mapIdx fun j d => px_fv ad τ k d j := by
  apply List.ext_getElem?
  intro i
  have hjl : j < fs.length := (List.getElem?_eq_some_iff.mp hd).1
  by_cases hij : i = j
  · subst hij
    rw [List.getElem?_set_self (by simpa using hjl), List.getElem?_mapIdx, hd, ← hv]
    rfl
  · rw [List.getElem?_set_ne (Ne.symm hij), List.getElem?_mapIdx, List.getElem?_mapIdx]
    cases hf : fs[i]? with
    | none => rfl
    | some e => simp only [Option.map_some, ho i e hij]
theorem px_R.to {D : va_G} {cs : px_C} {A : Nat → Prop} {s : State} {ad : Nat → Nat} {σ τ : px_S} {H H1 : Heap} {locs locs1 : List Loc} (hR : px_R D cs A s ad σ H locs) {ws : va_W} (hw : ws = px_W cs ad τ) (hP : va_P D vwCl ws H1) (hD : va_D A ws) (hS : va_S A s.heap H1 locs1) : px_R D cs A s ad τ H1 locs1 := by
  subst hw
  exact ⟨hR.1, hP, hD, hS, hR.2.2.2.2.1, hR.2.2.2.2.2⟩
theorem px_nar_i {ty : FieldType} {x : Int32} (h : ty = .int ∨ (ty = .boolean ∧ (x = 0 ∨ x = 1))) : narrow ty (.int x) = .int x ∧ fits ty (.int x) = true := by
  rcases h with rfl | ⟨rfl, rfl | rfl⟩
  · exact ⟨rfl, rfl⟩
  · exact ⟨by decide +kernel, by decide +kernel⟩
  · exact ⟨by decide +kernel, by decide +kernel⟩
theorem ps_putI {own : String} {cc : ByteArray} {nL pc : Nat} {idx ci j N : Nat} {C : String} {T : u_T} {ty : FieldType} (hc : px_Kc ci C T N) (hj : j < N) (hw : Cond.fieldLink own idx (T j).1 (T j).2.1 (T j).2.2.1 ∈ px_TB) (hfin : (T j).2.2.2 = false) (hty : parseFieldDescriptor (T j).2.2.1 = some ty)
    (hkd : ∀ o ∈ px_ob, o.1 = ci → ∀ d, o.2[j]? = some d → (d.1 = 0 ∧ ty = .int) ∨ (d.1 = 3 ∧ ty = .boolean) ∨ (d.1 = 1 ∧ ty = .long)) (hd : decode cc pc = .ok (.putfield idx, 3)) : px_Sm own cc nL pc (pi_put (pc + 3) ci j) := by
  intro ls st σ q h
  unfold pi_put at h
  split at h
  next v k st' =>
    split at h
    next o ho =>
      split at h
      next hci =>
        split at h
        next d hdd =>
          have hk : k < 59 := Nat.lt_of_lt_of_le (px_ob_lt ho) (by decide)
          have hkk := hkd o (List.mem_of_getElem? ho) hci d hdd
          split at h
          next x =>
            split at h
            next hx =>
              cases h
              refine ⟨rfl, ?_⟩
              intro p l e R s m args below meth c H locs cells slots Q D cs A ad lsM Cf hfr hlo hcc hss hR hL kk
              have he : (px_W cs ad σ)[k]? = some (ad k, .inr (ci, o.2.mapIdx fun j d => px_fv ad σ k d j)) := by rw [px_W_get hk, px_E_ob ho, hci]
              have hn : narrow ty (.int x) = .int x ∧ fits ty (.int x) = true := by
                apply px_nar_i
                rcases hx with hx | ⟨hx, hx2⟩
                · rcases hkk with ⟨_, z⟩ | ⟨z, _⟩ | ⟨z, _⟩
                  · exact Or.inl z
                  · omega
                  · omega
                · rcases hkk with ⟨z, _⟩ | ⟨_, z⟩ | ⟨z, _⟩
                  · omega
                  · exact Or.inr ⟨z, hx2⟩
                  · omega
              have hd12 : ¬ d.1 = 1 ∧ ¬ d.1 = 2 := by rcases hx with hx | ⟨hx, _⟩ <;> omega
              obtain ⟨ty0, hty0⟩ := hc.2.2.2
              refine va_put (v := .int x) Cf.1 Cf.2.1 Cf.2.2.2.2 hc.2.1 ty0 hty0 hc.2.2.1 Cf.2.2.2.1 hR.1 hR.2.1 hR.2.2.1 hR.2.2.2.1 k he hc.1 j hj (Cf.2.2.2.2 _ hw) (fun _ z => z) hfin hty hn.1 hn.2 (by simpa using (List.getElem?_eq_some_iff.mp hdd).1) hd (fun H1 locs1 hP hD hS => ?_)
              refine kk H1 locs1 lsM (hR.to ?_ hP hD hS) hL
              refine px_W_set ?_ (fun i hi => px_E_uI hi)
              rw [px_E_ob ho, ← hci]
              congr 2
              refine (px_fs_set (σ := σ) (τ := px_uI σ k j x) hdd ?_ (fun i e hi => ?_)).symm
              · unfold px_fv; rw [if_neg hd12.1, if_neg hd12.2]; simp [px_uI, upd]
              · unfold px_fv; simp [px_uI, upd, hi]
            next => cases h
          next x =>
            split at h
            next hx =>
              cases h
              refine ⟨rfl, ?_⟩
              intro p l e R s m args below meth c H locs cells slots Q D cs A ad lsM Cf hfr hlo hcc hss hR hL kk
              have he : (px_W cs ad σ)[k]? = some (ad k, .inr (ci, o.2.mapIdx fun j d => px_fv ad σ k d j)) := by rw [px_W_get hk, px_E_ob ho, hci]
              have hn : ty = .long := by
                rcases hkk with ⟨z, _⟩ | ⟨z, _⟩ | ⟨_, z⟩
                · omega
                · omega
                · exact z
              subst hn
              obtain ⟨ty0, hty0⟩ := hc.2.2.2
              refine va_put (v := .long x) Cf.1 Cf.2.1 Cf.2.2.2.2 hc.2.1 ty0 hty0 hc.2.2.1 Cf.2.2.2.1 hR.1 hR.2.1 hR.2.2.1 hR.2.2.2.1 k he hc.1 j hj (Cf.2.2.2.2 _ hw) (fun _ z => z) hfin hty rfl rfl (by simpa using (List.getElem?_eq_some_iff.mp hdd).1) hd (fun H1 locs1 hP hD hS => ?_)
              refine kk H1 locs1 lsM (hR.to ?_ hP hD hS) hL
              refine px_W_set ?_ (fun i hi => px_E_uL hi)
              rw [px_E_ob ho, ← hci]
              congr 2
              refine (px_fs_set (σ := σ) (τ := px_uL σ k j x) hdd ?_ (fun i e hi => ?_)).symm
              · unfold px_fv; rw [if_pos hx]; simp [px_uL, vp_updL]
              · unfold px_fv; simp [px_uL, vp_updL, hi]
            next => cases h
          next => cases h
        next => cases h
      next => cases h
    next => cases h
  next => cases h
theorem px_at_spec {σ : px_S} {ty k N : Nat} (h : px_at σ ty k = some N) : k < 59 ∧ px_ob[k]? = none ∧ ∃ a, px_ar[k]? = some a ∧ a.1 = ty ∧ N = px_len σ k a.2 := by
  unfold px_at at h
  split at h
  · cases h
  · rename_i h0
    split at h
    · rename_i a ha
      split at h
      · rename_i h1
        cases h
        exact ⟨px_ar_lt ha, h0, a, ha, h1, rfl⟩
      · cases h
    · cases h
theorem ps_iald {own : String} {cc : ByteArray} {nL pc : Nat} (hd : decode cc pc = .ok (.iaload, 1)) : px_Sq own cc nL pc (pi_ald (pc + 1) 0) := by
  intro ls st σ q h
  unfold pi_ald at h
  split at h
  next i k st' =>
    split at h
    next N hN =>
      split at h
      next => cases h
      next hin =>
        cases h
        refine ⟨rfl, ?_⟩
        intro p l e R s m args below meth c H locs cells slots Q D cs A ad lsM Cf hfr hlo hcc hss hR hL kk
        obtain ⟨hk, h0, a, ha, hty, rfl⟩ := px_at_spec hN
        have he : (px_W cs ad σ)[k]? = some (ad k, .inl (cs.1, (px_len σ k a.2, .inl (σ.1 k)))) := by rw [px_W_get hk, px_E_ar h0 ha, hty]; rfl
        exact va_iald Cf.1 Cf.2.1 hR.1 hR.2.1 k 0 he rfl hin hd (kk lsM hL)
    next => cases h
  next => cases h
theorem ps_zald {own : String} {cc : ByteArray} {nL pc : Nat} (hd : decode cc pc = .ok (.baload, 1)) : px_Sq own cc nL pc (pi_ald (pc + 1) 2) := by
  intro ls st σ q h
  unfold pi_ald at h
  split at h
  next i k st' =>
    split at h
    next N hN =>
      split at h
      next => cases h
      next hin =>
        cases h
        refine ⟨rfl, ?_⟩
        intro p l e R s m args below meth c H locs cells slots Q D cs A ad lsM Cf hfr hlo hcc hss hR hL kk
        obtain ⟨hk, h0, a, ha, hty, rfl⟩ := px_at_spec hN
        have he : (px_W cs ad σ)[k]? = some (ad k, .inl (cs.2.2, (px_len σ k a.2, .inl (σ.1 k)))) := by rw [px_W_get hk, px_E_ar h0 ha, hty]; rfl
        exact va_zald Cf.1 Cf.2.1 hR.1 hR.2.1 k 2 he rfl hin hd (kk lsM hL)
    next => cases h
  next => cases h
theorem ps_lald {own : String} {cc : ByteArray} {nL pc : Nat} (hd : decode cc pc = .ok (.laload, 1)) : px_Sq own cc nL pc (pi_ald (pc + 1) 1) := by
  intro ls st σ q h
  unfold pi_ald at h
  split at h
  next i k st' =>
    split at h
    next N hN =>
      split at h
      next => cases h
      next hin =>
        cases h
        refine ⟨rfl, ?_⟩
        intro p l e R s m args below meth c H locs cells slots Q D cs A ad lsM Cf hfr hlo hcc hss hR hL kk
        obtain ⟨hk, h0, a, ha, hty, rfl⟩ := px_at_spec hN
        have he : (px_W cs ad σ)[k]? = some (ad k, .inl (cs.2.1, (px_len σ k a.2, .inr (.inl (σ.2.1 k))))) := by rw [px_W_get hk, px_E_ar h0 ha, hty]; rfl
        exact va_lald Cf.1 Cf.2.1 hR.1 hR.2.1 k 1 he rfl hin hd (kk lsM hL)
    next => cases h
  next => cases h
theorem ps_alen {own : String} {cc : ByteArray} {nL pc : Nat} (hd : decode cc pc = .ok (.arraylength, 1)) : px_Sq own cc nL pc (pi_alen (pc + 1)) := by
  intro ls st σ q h
  unfold pi_alen at h
  split at h
  next k st' =>
    split at h
    next N hN =>
      cases h
      refine ⟨rfl, ?_⟩
      intro p l e R s m args below meth c H locs cells slots Q D cs A ad lsM Cf hfr hlo hcc hss hR hL kk
      obtain ⟨hk, h0, a, ha, hty, rfl⟩ := px_at_spec hN
      have he : (px_W cs ad σ)[k]? = some (ad k, .inl (cs.1, (px_len σ k a.2, .inl (σ.1 k)))) := by rw [px_W_get hk, px_E_ar h0 ha, hty]; rfl
      exact va_alen Cf.1 Cf.2.1 hR.1 hR.2.1 k 0 he rfl rfl hd (kk lsM hL)
    next => cases h
  next => cases h
theorem px_uI_self (σ : px_S) (k j : Nat) (x : Int32) : (px_uI σ k j x).1 k = upd (σ.1 k) j x := by simp [px_uI]
theorem px_uL_self (σ : px_S) (k j : Nat) (x : Int64) : (px_uL σ k j x).2.1 k = vp_updL (σ.2.1 k) j x := by simp [px_uL]
theorem ps_iast {own : String} {cc : ByteArray} {nL pc : Nat} (hd : decode cc pc = .ok (.iastore, 1)) : px_Sm own cc nL pc (pi_ast (pc + 1) 0) := by
  intro ls st σ q h
  unfold pi_ast at h
  split at h
  next v i k st' =>
    split at h
    next N hN =>
      split at h
      next => cases h
      next hin =>
        split at h
        next x =>
          split at h
          next =>
            cases h
            refine ⟨rfl, ?_⟩
            intro p l e R s m args below meth c H locs cells slots Q D cs A ad lsM Cf hfr hlo hcc hss hR hL kk
            obtain ⟨hk, h0, a, ha, hty, rfl⟩ := px_at_spec hN
            have he : (px_W cs ad σ)[k]? = some (ad k, .inl (cs.1, (px_len σ k a.2, .inl (σ.1 k)))) := by rw [px_W_get hk, px_E_ar h0 ha, hty]; rfl
            refine va_iast Cf.1 Cf.2.1 hR.1 hR.2.1 hR.2.2.1 hR.2.2.2.1 k 0 he rfl hin hd (fun H1 locs1 hP hD hS => ?_)
            refine kk H1 locs1 lsM (hR.to (px_W_set ?_ (fun i hi => px_E_uI hi)) hP hD hS) hL
            rw [px_E_ar h0 ha, hty, px_uI_self]; rfl
          next => cases h
        next => split at h <;> first | (rename_i z; exact absurd z (by decide)) | cases h
        next => cases h
    next => cases h
  next => cases h
theorem ps_zast {own : String} {cc : ByteArray} {nL pc : Nat} (hd : decode cc pc = .ok (.bastore, 1)) : px_Sm own cc nL pc (pi_ast (pc + 1) 2) := by
  intro ls st σ q h
  unfold pi_ast at h
  split at h
  next v i k st' =>
    split at h
    next N hN =>
      split at h
      next => cases h
      next hin =>
        split at h
        next x =>
          split at h
          next hx =>
            cases h
            refine ⟨rfl, ?_⟩
            intro p l e R s m args below meth c H locs cells slots Q D cs A ad lsM Cf hfr hlo hcc hss hR hL kk
            obtain ⟨hk, h0, a, ha, hty, rfl⟩ := px_at_spec hN
            have he : (px_W cs ad σ)[k]? = some (ad k, .inl (cs.2.2, (px_len σ k a.2, .inl (σ.1 k)))) := by rw [px_W_get hk, px_E_ar h0 ha, hty]; rfl
            have hx2 : vp_nar .boolean x = x := by
              rcases hx with hx | ⟨-, rfl | rfl⟩
              · exact absurd hx (by decide)
              · decide +kernel
              · decide +kernel
            refine va_zast Cf.1 Cf.2.1 hR.1 hR.2.1 hR.2.2.1 hR.2.2.2.1 k 2 he rfl hin hd (fun H1 locs1 hP hD hS => ?_)
            rw [hx2] at hP hD
            refine kk H1 locs1 lsM (hR.to (px_W_set ?_ (fun i hi => px_E_uI hi)) hP hD hS) hL
            rw [px_E_ar h0 ha, hty, px_uI_self]; rfl
          next => cases h
        next => split at h <;> first | (rename_i z; exact absurd z (by decide)) | cases h
        next => cases h
    next => cases h
  next => cases h
theorem ps_last {own : String} {cc : ByteArray} {nL pc : Nat} (hd : decode cc pc = .ok (.lastore, 1)) : px_Sm own cc nL pc (pi_ast (pc + 1) 1) := by
  intro ls st σ q h
  unfold pi_ast at h
  split at h
  next v i k st' =>
    split at h
    next N hN =>
      split at h
      next => cases h
      next hin =>
        split at h
        next x =>
          split at h
          · rename_i z
            rcases z with z | ⟨z, -⟩ <;> exact absurd z (by decide)
          · cases h
        next x =>
          split at h
          next =>
            cases h
            refine ⟨rfl, ?_⟩
            intro p l e R s m args below meth c H locs cells slots Q D cs A ad lsM Cf hfr hlo hcc hss hR hL kk
            obtain ⟨hk, h0, a, ha, hty, rfl⟩ := px_at_spec hN
            have he : (px_W cs ad σ)[k]? = some (ad k, .inl (cs.2.1, (px_len σ k a.2, .inr (.inl (σ.2.1 k))))) := by rw [px_W_get hk, px_E_ar h0 ha, hty]; rfl
            refine va_last Cf.1 Cf.2.1 hR.1 hR.2.1 hR.2.2.1 hR.2.2.2.1 k 1 he rfl hin hd (fun H1 locs1 hP hD hS => ?_)
            refine kk H1 locs1 lsM (hR.to (px_W_set ?_ (fun i hi => px_E_uL hi)) hP hD hS) hL
            rw [px_E_ar h0 ha, hty, px_uL_self]; rfl
          next => cases h
        next => cases h
    next => cases h
  next => cases h
