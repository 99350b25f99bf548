/-! ===== calls, returns, methods ===== -/
def px_rm (d mc ms : Nat) : Room := { frames := d, cells := mc, slots := ms, locals := 44 * d }
def px_ws (M : px_M) : List Cond := .code M.1 M.2.1 M.2.2.1 M.2.2.2.1 :: px_TB
def px_Pre (D : va_G) (cs : px_C) (ad : Nat → Nat) (σ : px_S) (vs : List Value) (sz : Nat) : Array Value → State → Prop :=
  va_Pc (vs.map (px_mv ad)) (fun U => U.heap.size = sz ∧ va_P D vwCl (px_W cs ad σ) U.heap ∧ va_K D vwCl (px_tys cs) U ∧ va_D (fun _ => True) (px_W cs ad σ) ∧ px_X ad (va_A (px_W cs ad σ) sz) U U.heap)
def px_Post (D : va_G) (cs : px_C) (ad : Nat → Nat) (σ : px_S) (sz : Nat) (r : Option Value) (τ : px_S) : Array Value → State → Outcome → State → Prop := fun _ st o t =>
  (∃ ad' : Nat → Nat, (∀ k, k ≠ 33 → ad' k = ad k) ∧ o = .returned (r.map (px_mv ad')) ∧ va_P D vwCl (px_W cs ad' τ) t.heap ∧ va_D (va_A (px_W cs ad σ) sz) (px_W cs ad' τ)) ∧ va_F (va_A (px_W cs ad σ) sz) st t
/-- what a method does on the pure machine, it does on the machine -/
def px_Met (l : Launch) (P : Nat → px_M) (d μ : Nat) : Prop := ∀ (f : Nat) (vs : List Value) (σ : px_S) (r : Option Value) (τ : px_S), px_call P d f μ vs σ = some (r, τ) → px_le σ τ ∧
  ∀ (D : va_G) (cs : px_C) (ad : Nat → Nat) (sz : Nat), Met l (P μ).1 (px_ws (P μ)) (px_rm d (px_cc τ - px_cc σ) (px_cs τ - px_cs σ)) (px_Pre D cs ad σ vs sz) (px_Post D cs ad σ sz r τ) (px_cc τ - px_cc σ) (px_cs τ - px_cs σ) (va_A (px_W cs ad σ) sz)
theorem px_blind {D : va_G} {cs : px_C} {ad : Nat → Nat} {σ : px_S} {vs : List Value} {sz : Nat} : FrameBlind (px_Pre D cs ad σ vs sz) := by
  intro a U g mk q
  obtain ⟨q0, q1, qP, qK, qD, qX⟩ := q
  exact ⟨q0, q1, qP, va_K.moved (u := U) (U := U.calling g mk a) (Vm.Alike.refl U.vm) qK, qD, px_X.same (s := U) (U := U.calling g mk a) rfl qX⟩
theorem px_A_le {D : va_G} {cs : px_C} {A : Nat → Prop} {s : State} {ad : Nat → Nat} {σ : px_S} {H : Heap} {locs : List Loc} (hR : px_R D cs A s ad σ H locs) : ∀ q, va_A (px_W cs ad σ) H.size q → A q := by
  intro q h
  rcases h with ⟨k, e, h⟩ | h
  · exact hR.2.2.1.2 k (q, e) h
  · exact hR.2.2.2.2.2 q (Nat.le_trans hR.2.2.2.1.1 h)
theorem px_pre_of {D : va_G} {cs : px_C} {A : Nat → Prop} {s : State} {ad : Nat → Nat} {σ : px_S} {H : Heap} {locs : List Loc} (hR : px_R D cs A s ad σ H locs) (vs : List Value) : ∀ U : State, U.heap = H → s.WarmedH U.vm → px_Pre D cs ad σ vs H.size (vs.map (px_mv ad)).toArray U := by
  intro U hU hW
  refine ⟨rfl, by rw [hU], by rw [hU]; exact hR.2.1, va_K.moved hW.alike hR.1, hR.2.2.1.weaken (fun _ _ _ _ => trivial), ?_⟩
  rw [hU]
  exact ((hR.2.2.2.2.1.kept (fun a ha hn => hR.2.2.2.1.2.1 a ha hn)).moved hW).narrow (px_A_le hR)
/-- behind a call -/
theorem px_behind {p : Program} {l : Launch} {e : Env} {R : Room} {s : State} {m : MethodId} {args : Array Value} {below : List Frame} {meth : Method} {c : Code} {H : Heap} {locs : List Loc} {cells slots mc ms pc : Nat} {Q : State → Prop} {D : va_G} {cs : px_C} {A : Nat → Prop} {ad : Nat → Nat} {σ τ : px_S} {lsM : Array Slot} {st0 rest : List Value} {r : Option Value} {a : Array Value}
    (hr : va_Run p l e R s m args below meth c H locs cells slots mc ms (F0 m pc lsM st0) rest (px_Post D cs ad σ H.size r τ a) (va_A (px_W cs ad σ) H.size)) (hR : px_R D cs A s ad σ H locs)
    (kk : ∀ (ad' : Nat → Nat) (H' : Heap) (locs' : List Loc), (∀ k, k ≠ 33 → ad' k = ad k) → px_R D cs A s ad' τ H' locs' → W p l e R s m args below meth c H' locs' (cells + mc) (slots + ms) Q (F0 m (pc + 3) lsM ((r.map (px_mv ad')).toList ++ rest))) :
    W p l e R s m args below meth c H locs cells slots Q (F0 m pc lsM st0) := by
  intro T hT X
  obtain ⟨v, st₀, t, T', L, h0, X', hL, e1, e2, ⟨⟨ad', hd, hv, hP, hD⟩, hz, hk⟩, st⟩ := hr T hT X
  cases hv
  rw [h0] at hz hk
  have hle := px_A_le hR
  obtain ⟨t2, a1, b1⟩ := kk ad' T'.heap (locs ++ L) hd ⟨hR.1, by rw [e1]; exact hP, hD.weaken (fun _ q _ h => hle q.1 h), ⟨Nat.le_trans hR.2.2.2.1.1 (by rw [e1]; exact hz), fun q h1 h2 => by rw [e1, hk q (Nat.lt_of_lt_of_le h1 hR.2.2.2.1.1) (fun z => h2 (hle q z))]; exact hR.2.2.2.1.2.1 q h1 h2, fun q hq => by
      rcases List.mem_append.mp hq with h | h
      · exact hR.2.2.2.1.2.2 q h
      · exact hle _ (hL q h)⟩, hR.2.2.2.2.1.ad hd, hR.2.2.2.2.2⟩ T' rfl X'
  exact ⟨t2, st t2 a1, b1⟩
/-- a call at a place: what the callee does, the machine does there -/
def px_Sc (l : Launch) (P : Nat → px_M) (d : Nat) (own : String) (cc : ByteArray) (nL pc : Nat) (q : Nat × Nat × Nat × Nat) : Prop :=
  ∀ (f : Nat) (ls st : List Value) (σ : px_S) (r : Option Value) (τ : px_S), q.2.1 ≤ st.length → px_okc q.2.2.1 (st.take q.2.1).reverse (st.drop q.2.1) ls = true → px_call P d f q.1 (st.take q.2.1).reverse σ = some (r, τ) → px_le σ τ ∧
    ∀ (p : Program) (e : Env) (R : Room) (s : State) (m : MethodId) (args : Array Value) (below : List Frame) (meth : Method) (c : Code) (H : Heap) (locs : List Loc) (cells slots : Nat) (Q : State → Prop) (D : va_G) (cs : px_C) (A : Nat → Prop) (ad : Nat → Nat) (lsM : Array Slot),
      CallFix p m c cc nL s args px_TB own → d + 1 ≤ R.frames → 44 * (d + 1) ≤ R.locals → px_R D cs A s ad σ H locs → px_L ad nL ls lsM →
      cells + (px_cc τ - px_cc σ) ≤ R.cells → slots + (px_cs τ - px_cs σ) ≤ R.slots →
      (∀ (ad' : Nat → Nat) (H' : Heap) (locs' : List Loc), (∀ k, k ≠ 33 → ad' k = ad k) → px_R D cs A s ad' τ H' locs' →
        W p l e R s m args below meth c H' locs' (cells + (px_cc τ - px_cc σ)) (slots + (px_cs τ - px_cs σ)) Q (F0 m q.2.2.2 lsM ((r.map (px_mv ad')).toList ++ (st.drop q.2.1).map (px_mv ad)))) →
      W p l e R s m args below meth c H locs cells slots Q (F0 m pc lsM (st.map (px_mv ad)))
theorem px_st_split (st : List Value) (n : Nat) (ad : Nat → Nat) : st.map (px_mv ad) = ((st.take n).reverse.map (px_mv ad)).reverse ++ (st.drop n).map (px_mv ad) := by
  rw [List.map_reverse, List.reverse_reverse, ← List.map_append, List.take_append_drop]
theorem px_cat_mv (ad : Nat → Nat) (st : List Value) : ((st.map (px_mv ad)).map fun v => v.category).sum = px_cat st := by
  unfold px_cat
  rw [List.map_map]
  congr 1
  exact List.map_congr_left fun v _ => px_mv_cat ad v
theorem px_okc_spec {ci : Nat} {as rest ls : List Value} (h : px_okc ci as rest ls = true) : px_cat rest ≤ 8 ∧ rest.all px_nc = true ∧ ls.all px_nc = true ∧ (ci = 0 ∨ (∃ k t o, as = .ref k :: t ∧ px_ob[k]? = some o ∧ o.1 + 1 = ci) ∨ (ci = 100 ∧ ∃ i t, as = .ref (110 + i) :: t ∧ i < 7)) := by
  unfold px_okc at h
  simp only [Bool.and_eq_true, Bool.or_eq_true, decide_eq_true_eq, beq_iff_eq] at h
  obtain ⟨⟨⟨h1, h2⟩, h3⟩, h4⟩ := h
  refine ⟨h2, h3, h4, ?_⟩
  rcases h1 with h1 | h1
  · exact Or.inl h1
  · right
    split at h1
    · rename_i k t
      split at h1
      · rename_i o ho
        exact Or.inl ⟨k, t, o, rfl, ho, by simpa using h1⟩
      · simp only [Bool.and_eq_true, beq_iff_eq, decide_eq_true_eq] at h1
        exact Or.inr ⟨h1.1, k - 110, t, by rw [Nat.add_sub_cancel' h1.2.1], Nat.sub_lt_left_of_lt_add h1.2.1 h1.2.2⟩
    · cases h1
/-- facts of a callee: its words are in the table -/
def px_Fc (P : Nat → px_M) (μ n : Nat) (own : String) (idx : Nat) : Prop := Cond.code (P μ).1 (P μ).2.1 (P μ).2.2.1 (P μ).2.2.2.1 ∈ px_TB ∧ Cond.initialized (P μ).1.cls ∈ px_TB ∧ (P μ).1.cls ≠ "java/lang/invoke/MethodHandle" ∧ (P μ).1.cls ≠ "java/lang/invoke/VarHandle" ∧ (parseMethodDescriptor (P μ).1.desc).map (fun d => d.parameters.length) = some n ∧ (P μ).2.2.1 ≤ 25
theorem px_gw {P : Nat → px_M} {μ n : Nat} {own : String} {idx : Nat} (hF : px_Fc P μ n own idx) : ∀ w ∈ px_ws (P μ), w ∈ px_TB := by
  intro w hw
  rcases List.mem_cons.mp hw with rfl | h
  · exact hF.1
  · exact h
theorem px_nocls {ci N : Nat} {C : String} {T : u_T} (hc : vwCl[ci]? = some (C, T, N)) : ci < 9 := (List.getElem?_eq_some_iff.mp hc).1
theorem ps_callV {l : Launch} {P : Nat → px_M} {d : Nat} {own : String} {cc : ByteArray} {nL pc μ n ci idx N : Nat} {C : String} {T : u_T} (IH : px_Met l P d μ) (hc : vwCl[ci]? = some (C, T, N)) (hC : (P μ).1.cls = C) (hF : px_Fc P μ n own idx) (hl : Cond.methodLink own idx (P μ).1 ∈ px_TB) (hi : Cond.instanceMethod (P μ).1 ∈ px_TB) (hs : Cond.selects C (P μ).1 (P μ).1 ∈ px_TB) (hd : decode cc pc = .ok (.invokevirtual idx, 3)) : px_Sc l P d own cc nL pc (μ, n + 1, ci + 1, pc + 3) := by
  intro f ls st σ r τ hlen hok hcall
  dsimp only at hlen hok hcall ⊢
  obtain ⟨hle, IH⟩ := IH f _ σ r τ hcall
  refine ⟨hle, ?_⟩
  intro p e R s m args below meth c H locs cells slots Q D cs A ad lsM Cf hfr hlo hR hL h4 h5 kk
  obtain ⟨hcat, -, -, hrec⟩ := px_okc_spec hok
  obtain ⟨k, t, o, hst, ho, hoc⟩ : ∃ k t o, (st.take (n + 1)).reverse = .ref k :: t ∧ px_ob[k]? = some o ∧ o.1 + 1 = ci + 1 := by
    rcases hrec with h | h | h
    · omega
    · exact h
    · have := px_nocls hc; omega
  have hk : k < 59 := Nat.lt_of_lt_of_le (px_ob_lt ho) (by decide)
  have hoi : o.1 = ci := by omega
  have he : (px_W cs ad σ)[k]? = some (ad k, .inr (ci, o.2.mapIdx fun j d => px_fv ad σ k d j)) := by rw [px_W_get hk, px_E_ob ho, hoi]
  have htl : (t.map (px_mv ad)).length = n := by
    have h1 : ((st.take (n + 1)).reverse).length = n + 1 := by simp; omega
    rw [hst] at h1
    simpa using h1
  rw [px_st_split st (n + 1) ad, hst]
  refine px_behind (va_runV (As := t.map (px_mv ad)) (b := ad k) (rest := (st.drop (n + 1)).map (px_mv ad)) (C := C) ⟨Cf.1, Cf.2.1, Cf.2.2.1, Cf.2.2.2.1, Cf.2.2.2.2⟩ (IH D cs ad H.size) (cwV n Cf.2.2.2.2 (px_good (fun w hw => ?_)) rfl rfl rfl ⟨hC, hF.2.2.1, hF.2.2.2.1, hF.2.2.2.2.1⟩ ⟨by show d + 1 ≤ R.frames; exact hfr, by show 8 + ((P μ).2.2.1 + 11) + 44 * d ≤ R.locals; have := hF.2.2.2.2.2; omega⟩) ⟨px_blind, va_recv hR.1 hR.2.1 (ci := ci) (q0 := k) hc he, ?_⟩ rfl htl (hL.1) ?_ (lv_room (by rw [px_cat_mv]; exact hcat)) hd ⟨h4, h5⟩) hR kk
  · unfold wsV at hw
    rcases List.mem_append.mp hw with h | h
    · simp only [List.mem_cons, List.not_mem_nil, or_false] at h
      rcases h with rfl | rfl | rfl | rfl
      · exact hl
      · exact hi
      · exact hs
      · rw [← hC]; exact hF.2.1
    · exact px_gw hF w h
  · intro U hU hW
    have := px_pre_of hR (.ref k :: t) U hU hW
    rw [hst]
    exact this
  · simp [px_mv]
theorem ps_callS {l : Launch} {P : Nat → px_M} {d : Nat} {own : String} {cc : ByteArray} {nL pc μ n idx : Nat} (IH : px_Met l P d μ) (hF : px_Fc P μ n own idx) (hl : Cond.methodLink own idx (P μ).1 ∈ px_TB) (hi : Cond.static (P μ).1 ∈ px_TB) (hd : decode cc pc = .ok (.invokestatic idx, 3)) : px_Sc l P d own cc nL pc (μ, n, 0, pc + 3) := by
  intro f ls st σ r τ hlen hok hcall
  dsimp only at hlen hok hcall ⊢
  obtain ⟨hle, IH⟩ := IH f _ σ r τ hcall
  refine ⟨hle, ?_⟩
  intro p e R s m args below meth c H locs cells slots Q D cs A ad lsM Cf hfr hlo hR hL h4 h5 kk
  obtain ⟨hcat, -, -, -⟩ := px_okc_spec hok
  rw [px_st_split st n ad]
  refine px_behind (va_runS (As := (st.take n).reverse.map (px_mv ad)) (rest := (st.drop n).map (px_mv ad)) ⟨Cf.1, Cf.2.1, Cf.2.2.1, Cf.2.2.2.1, Cf.2.2.2.2⟩ (IH D cs ad H.size) (va_cwS n Cf.2.2.2.2 (px_good (fun w hw => ?_)) rfl rfl rfl ⟨hF.2.2.1, hF.2.2.2.1, hF.2.2.2.2.1⟩ ⟨by show d + 1 ≤ R.frames; exact hfr, by show 8 + ((P μ).2.2.1 + 11) + 44 * d ≤ R.locals; have := hF.2.2.2.2.2; omega⟩) ⟨px_blind, px_pre_of hR _⟩ rfl (by simp; omega) (hL.1) rfl (lv_room (by rw [px_cat_mv]; exact hcat)) hd ⟨h4, h5⟩) hR kk
  unfold va_wsS at hw
  rcases List.mem_append.mp hw with h | h
  · simp only [List.mem_cons, List.not_mem_nil, or_false] at h
    rcases h with rfl | rfl | rfl
    · exact hl
    · exact hi
    · exact hF.2.1
  · exact px_gw hF w h
/-- a call of a method of String on a text of the program -/
theorem ps_callT {l : Launch} {P : Nat → px_M} {d : Nat} {own : String} {cc : ByteArray} {nL pc μ n idx : Nat} (IH : px_Met l P d μ) (hC : (P μ).1.cls = "java/lang/String") (hF : px_Fc P μ n own idx) (hl : Cond.methodLink own idx (P μ).1 ∈ px_TB) (hi : Cond.instanceMethod (P μ).1 ∈ px_TB) (hs : Cond.selects "java/lang/String" (P μ).1 (P μ).1 ∈ px_TB) (hd : decode cc pc = .ok (.invokevirtual idx, 3)) : px_Sc l P d own cc nL pc (μ, n + 1, 100, pc + 3) := by
  intro f ls st σ r τ hlen hok hcall
  dsimp only at hlen hok hcall ⊢
  obtain ⟨hle, IH⟩ := IH f _ σ r τ hcall
  refine ⟨hle, ?_⟩
  intro p e R s m args below meth c H locs cells slots Q D cs A ad lsM Cf hfr hlo hR hL h4 h5 kk
  obtain ⟨hcat, -, -, hrec⟩ := px_okc_spec hok
  obtain ⟨i, t, hst, hi7⟩ : ∃ i t, (st.take (n + 1)).reverse = .ref (110 + i) :: t ∧ i < 7 := by
    rcases hrec with h | ⟨k, t, o, -, ho, h⟩ | h
    · omega
    · exfalso
      have h10 := px_ob_lt ho
      have key : ∀ k : Fin 10, (px_ob.getD k.val (0, [])).1 < 9 := by decide +kernel
      have := key ⟨k, h10⟩
      rw [List.getD_eq_getElem?_getD, ho] at this
      have h2 : o.1 < 9 := this
      omega
    · exact h.2
  have htl : (t.map (px_mv ad)).length = n := by
    have h1 : ((st.take (n + 1)).reverse).length = n + 1 := by simp; omega
    rw [hst] at h1
    simpa using h1
  obtain ⟨-, -, -, c1, -⟩ := hR.2.2.2.2.1.kept (fun a ha hn => hR.2.2.2.1.2.1 a ha hn)
  obtain ⟨cell, o1, o2, o3, -⟩ := (c1.1 i hi7).1
  rw [px_st_split st (n + 1) ad, hst]
  refine px_behind (va_runV (As := t.map (px_mv ad)) (b := ad (110 + i)) (rest := (st.drop (n + 1)).map (px_mv ad)) (C := "java/lang/String") ⟨Cf.1, Cf.2.1, Cf.2.2.1, Cf.2.2.2.1, Cf.2.2.2.2⟩ (IH D cs ad H.size) (cwV n Cf.2.2.2.2 (px_good (fun w hw => ?_)) rfl rfl rfl ⟨hC, hF.2.2.1, hF.2.2.2.1, hF.2.2.2.2.1⟩ ⟨by show d + 1 ≤ R.frames; exact hfr, by show 8 + ((P μ).2.2.1 + 11) + 44 * d ≤ R.locals; have := hF.2.2.2.2.2; omega⟩) ⟨px_blind, ⟨cell, o1, o2, o3⟩, ?_⟩ rfl htl (hL.1) ?_ (lv_room (by rw [px_cat_mv]; exact hcat)) hd ⟨h4, h5⟩) hR kk
  · unfold wsV at hw
    rcases List.mem_append.mp hw with h | h
    · simp only [List.mem_cons, List.not_mem_nil, or_false] at h
      rcases h with rfl | rfl | rfl | rfl
      · exact hl
      · exact hi
      · exact hs
      · rw [← hC]; exact hF.2.1
    · exact px_gw hF w h
  · intro U hU hW
    have := px_pre_of hR (.ref (110 + i) :: t) U hU hW
    rw [hst]
    exact this
  · simp [px_mv]
/-- the nest's one: spotOf -/
theorem ps_callSN {l : Launch} {P : Nat → px_M} {d : Nat} {own : String} {cc : ByteArray} {nL pc μ n idx : Nat} (IH : px_Met l P d μ) (hF : px_Fc P μ n own idx) (hl : ∀ ad A U H, px_X ad A U H → va_Nw (.methodLinkNest own idx (P μ).1 RX8) U) (hi : Cond.static (P μ).1 ∈ px_TB) (hd : decode cc pc = .ok (.invokestatic idx, 3)) : px_Sc l P d own cc nL pc (μ, n, 0, pc + 3) := by
  intro f ls st σ r τ hlen hok hcall
  dsimp only at hlen hok hcall ⊢
  obtain ⟨hle, IH⟩ := IH f _ σ r τ hcall
  refine ⟨hle, ?_⟩
  intro p e R s m args below meth c H locs cells slots Q D cs A ad lsM Cf hfr hlo hR hL h4 h5 kk
  obtain ⟨hcat, -, -, -⟩ := px_okc_spec hok
  rw [px_st_split st n ad]
  exact px_behind (va_runSN (As := (st.take n).reverse.map (px_mv ad)) (rest := (st.drop n).map (px_mv ad)) ⟨Cf.1, Cf.2.1, Cf.2.2.1, Cf.2.2.2.1, Cf.2.2.2.2⟩ (IH D cs ad H.size) ⟨va_cnB n Cf.2.2.2.2 (px_good (px_gw hF)) rfl rfl rfl (hl _ _ _ _ hR.2.2.2.2.1) (Cf.2.2.2.2 _ hF.2.1) ⟨hF.2.2.1, hF.2.2.2.1, hF.2.2.2.2.1⟩ ⟨by show d + 1 ≤ R.frames; exact hfr, by show 8 + ((P μ).2.2.1 + 11) + 44 * d ≤ R.locals; have := hF.2.2.2.2.2; omega⟩, Cf.2.2.2.2 _ hi, trivial⟩ ⟨px_blind, px_pre_of hR _⟩ rfl (by simp; omega) (hL.1) rfl (lv_room (by rw [px_cat_mv]; exact hcat)) hd ⟨h4, h5⟩) hR kk
/-- a return -/
def px_Sr (cc : ByteArray) (ret : Option FieldType) (pc : Nat) (g : List Value → Option (Option Value)) : Prop :=
  ∀ (st : List Value) (r : Option Value), g st = some r →
    ∀ (p : Program) (l : Launch) (e : Env) (R : Room) (s : State) (m : MethodId) (args : Array Value) (below : List Frame) (meth : Method) (c : Code) (H : Heap) (locs : List Loc) (cells slots : Nat) (Qc : Array Value → State → Outcome → State → Prop) (free : Addr → Prop) (ad : Nat → Nat) (lsM : Array Slot),
      p.tables.exec = Jvm.exec → c.code = cc → meth.sig.returnType = ret → meth.locks = false →
      (∀ t : State, t.heap = H → s.WarmedH t.vm → Qc args s (.returned (r.map (px_mv ad))) t) → (∀ q ∈ locs, free q.base) →
      W p l e R s m args below meth c H locs cells slots (MQ below Qc args s cells slots free) (F0 m pc lsM (st.map (px_mv ad)))
theorem ps_iret {cc : ByteArray} {pc : Nat} (hd : decode cc pc = .ok (.ireturn, 1)) : px_Sr cc (some .int) pc pr_i := by
  intro st r h
  unfold pr_i at h
  split at h
  · cases h
    intro p l e R s m args below meth c H locs cells slots Qc free ad lsM hx hb hr hlk hq hf
    exact W.iret hx hb hr hq hf hd hlk
  · cases h
theorem ps_zret {cc : ByteArray} {pc : Nat} (hd : decode cc pc = .ok (.ireturn, 1)) : px_Sr cc (some .boolean) pc pr_z := by
  intro st r h
  unfold pr_z at h
  split at h
  · split at h
    · rename_i v hv
      cases h
      intro p l e R s m args below meth c H locs cells slots Qc free ad lsM hx hb hr hlk hq hf
      exact W.zret hx hb hr (px_nar_i (Or.inr ⟨rfl, hv⟩)).1 hq hf hd hlk
    · cases h
  · cases h
theorem ps_lret {cc : ByteArray} {pc : Nat} (hd : decode cc pc = .ok (.lreturn, 1)) : px_Sr cc (some .long) pc pr_l := by
  intro st r h
  unfold pr_l at h
  split at h
  · cases h
    intro p l e R s m args below meth c H locs cells slots Qc free ad lsM hx hb hr hlk hq hf
    exact W.lret hx hb hr hq hf hd hlk
  · cases h
theorem ps_vret {cc : ByteArray} {pc : Nat} (hd : decode cc pc = .ok (.return_, 1)) : px_Sr cc none pc pr_v := by
  intro st r h
  unfold pr_v at h
  split at h
  · cases h
    intro p l e R s m args below meth c H locs cells slots Qc free ad lsM hx hb hr hlk hq hf
    exact W.vret hx hb hr hq hf hd hlk
  · cases h
/-- every row of a method's table is right -/
def px_ok1 (l : Launch) (P : Nat → px_M) (d : Nat) (own : String) (cc : ByteArray) (nL : Nat) (ret : Option FieldType) (q : Nat × px_I) : Prop := match q.2 with
  | .inl f => px_Sp own cc nL q.1 f
  | .inr (.inl cq) => px_Sc l P d own cc nL q.1 cq
  | .inr (.inr g) => px_Sr cc ret q.1 g
def px_ok (l : Launch) (P : Nat → px_M) (d : Nat) (own : String) (cc : ByteArray) (nL : Nat) (ret : Option FieldType) : List (Nat × px_I) → Prop
  | [] => True
  | q :: t => px_ok1 l P d own cc nL ret q ∧ px_ok l P d own cc nL ret t
theorem px_ok_look {l : Launch} {P : Nat → px_M} {d : Nat} {own : String} {cc : ByteArray} {nL : Nat} {ret : Option FieldType} {I : px_I} {pc : Nat} : ∀ (tb : List (Nat × px_I)), px_ok l P d own cc nL ret tb → px_look tb pc = some I → px_ok1 l P d own cc nL ret (pc, I)
  | [], _, h => by cases h
  | q :: t, h0, h => by
    unfold px_look at h
    split at h
    · rename_i e
      cases h
      subst e
      exact h0.1
    · exact px_ok_look t h0.2 h
