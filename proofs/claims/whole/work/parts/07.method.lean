/-! ===== a method out of its table ===== -/
theorem px_lg_len (ad : Nat → Nat) : ∀ vs : List Value, (lg_sl (vs.map (px_mv ad))).length = (px_ents vs).length
  | [] => rfl
  | v :: t => by
    have ih := px_lg_len ad t
    unfold lg_sl at ih ⊢
    simp only [List.map_cons, List.flatMap_cons, List.length_append, ih, px_mv_cat]
    rw [px_ents]
    by_cases h : v.category = 2
    · rw [if_pos h, if_pos h]; simp only [List.length_cons, List.length_nil]; omega
    · rw [if_neg h, if_neg h]; simp only [List.length_cons, List.length_nil]; omega
theorem px_lg_get (ad : Nat → Nat) : ∀ (vs : List Value) (i : Nat) (v : Value), (px_ents vs)[i]? = some v → v ≠ .null → (lg_sl (vs.map (px_mv ad)))[i]? = some (.val (px_mv ad v))
  | [], i, v, h, _ => by simp [px_ents] at h
  | w :: t, i, v, h, hn => by
    have ih := px_lg_get ad t
    unfold lg_sl at ih ⊢
    simp only [List.map_cons, List.flatMap_cons, px_mv_cat]
    rw [px_ents] at h
    by_cases hc : w.category = 2
    · rw [if_pos hc] at h ⊢
      match i, h with
      | 0, h => simp at h; subst h; simp
      | 1, h => simp at h; exact absurd h.symm hn
      | i + 2, h => simp at h; simpa using ih i v h hn
    · rw [if_neg hc] at h ⊢
      match i, h with
      | 0, h => simp at h; subst h; simp
      | i + 1, h => simp at h; simpa using ih i v h hn
theorem px_entry (ad : Nat → Nat) (vs : List Value) {n : Nat} (h : (px_ents vs).length ≤ n) : px_L ad n (px_ents vs ++ List.replicate (n - (px_ents vs).length) .null) ((lg_sl (vs.map (px_mv ad)) ++ List.replicate (n - (lg_sl (vs.map (px_mv ad))).length) Slot.unset).toArray) := by
  obtain ⟨h1, h2, -⟩ := lv_entry (vs.map (px_mv ad)) (n := n) (by rw [px_lg_len]; exact h)
  refine ⟨h1, h2, fun i v hv hn => ?_⟩
  by_cases hi : i < (px_ents vs).length
  · rw [List.getElem?_append_left hi] at hv
    rw [List.getElem?_toArray, List.getElem?_append_left (by rw [px_lg_len]; exact hi)]
    exact px_lg_get ad vs i v hv hn
  · rw [List.getElem?_append_right (by omega)] at hv
    have := List.eq_of_mem_replicate (List.mem_of_getElem? hv)
    exact absurd this hn
section PM
variable {l : Launch} {P : Nat → px_M} {d : Nat} {own : String} {cc : ByteArray} {nL : Nat} {ret : Option FieldType} {tb : List (Nat × px_I)}
theorem px_le_trans {a b c : px_S} (h1 : px_le a b) (h2 : px_le b c) : px_le a c := ⟨Nat.le_trans h1.1 h2.1, Nat.le_trans h1.2 h2.2⟩
theorem px_run_mono (hok : px_ok l P d own cc nL ret tb) (f : Nat) {r : Option Value} {τ : px_S} : ∀ (n pc : Nat) (ls st : List Value) (σ : px_S), px_run (px_call P d f) tb n pc ls st σ = some (r, τ) → px_le σ τ
  | 0, _, _, _, _, h => by cases h
  | n + 1, pc, ls, st, σ, h => by
    unfold px_run at h
    split at h
    · cases h
    · rename_i g hg
      have h1 := px_ok_look tb hok hg
      split at h
      · cases h
      · rename_i q hq
        exact px_le_trans (h1 ls st σ q hq).1 (px_run_mono hok f n _ _ _ _ h)
    · rename_i q hg
      have h1 := px_ok_look tb hok hg
      split at h
      · rename_i hc
        split at h
        · cases h
        · rename_i z hz
          exact px_le_trans (h1 f ls st σ z.1 z.2 hc.1 hc.2 hz).1 (px_run_mono hok f n _ _ _ _ h)
      · cases h
    · split at h
      · cases h
      · cases h
        exact ⟨Nat.le_refl _, Nat.le_refl _⟩
theorem px_run_W (hok : px_ok l P d own cc nL ret tb) (f : Nat) {r : Option Value} {τ : px_S} {p : Program} {e : Env} {R : Room} {s : State} {m : MethodId} {args : Array Value} {below : List Frame} {meth : Method} {c : Code} {D : va_G} {cs : px_C} {A : Nat → Prop} {ad0 : Nat → Nat} {Qc : Array Value → State → Outcome → State → Prop} {free : Addr → Prop}
    (C : CallFix p m c cc nL s args px_TB own) (hr : meth.sig.returnType = ret) (hlk : meth.locks = false) (hfr : d + 1 ≤ R.frames) (hlo : 44 * (d + 1) ≤ R.locals) (hfree : ∀ q, A q → free q)
    (hq : ∀ (ad : Nat → Nat) (H : Heap) (locs : List Loc), (∀ k, k ≠ 33 → ad k = ad0 k) → px_R D cs A s ad τ H locs → ∀ t : State, t.heap = H → s.WarmedH t.vm → Qc args s (.returned (r.map (px_mv ad))) t) :
    ∀ (n pc : Nat) (ls st : List Value) (σ : px_S) (ad : Nat → Nat) (H : Heap) (locs : List Loc) (cells slots : Nat) (lsM : Array Slot), px_run (px_call P d f) tb n pc ls st σ = some (r, τ) → (∀ k, k ≠ 33 → ad k = ad0 k) → px_R D cs A s ad σ H locs → px_L ad nL ls lsM →
      cells + (px_cc τ - px_cc σ) = R.cells → slots + (px_cs τ - px_cs σ) = R.slots →
      W p l e R s m args below meth c H locs cells slots (MQ below Qc args s R.cells R.slots free) (F0 m pc lsM (st.map (px_mv ad)))
  | 0, _, _, _, _, _, _, _, _, _, _, h => by cases h
  | n + 1, pc, ls, st, σ, ad, H, locs, cells, slots, lsM, h => by
    intro had hR hL hcc hss
    unfold px_run at h
    split at h
    · cases h
    · rename_i g hg
      have h1 := px_ok_look tb hok hg
      split at h
      · cases h
      · rename_i q hqq
        obtain ⟨hle, h2⟩ := h1 ls st σ q hqq
        have hle2 := px_run_mono hok f n _ _ _ _ h
        have e1 := hle.1; have e2 := hle.2; have e3 := hle2.1; have e4 := hle2.2
        refine h2 p l e R s m args below meth c H locs cells slots _ D cs A ad lsM C (by omega) (by omega) hR hL (by omega) (by omega) (fun ad' H' locs' lsM' had' hR' hL' => ?_)
        exact px_run_W hok f C hr hlk hfr hlo hfree hq n _ _ _ _ ad' H' locs' _ _ lsM' h (fun k hk => (had' k hk).trans (had k hk)) hR' hL' (by omega) (by omega)
    · rename_i q hg
      have h1 := px_ok_look tb hok hg
      split at h
      · rename_i hc
        split at h
        · cases h
        · rename_i z hz
          obtain ⟨hle, h2⟩ := h1 f ls st σ z.1 z.2 hc.1 hc.2 hz
          have hle2 := px_run_mono hok f n _ _ _ _ h
          have e1 := hle.1; have e2 := hle.2; have e3 := hle2.1; have e4 := hle2.2
          obtain ⟨-, hn1, hn2, -⟩ := px_okc_spec hc.2
          refine h2 p e R s m args below meth c H locs cells slots _ D cs A ad lsM C hfr hlo hR hL (by omega) (by omega) (fun ad' H' locs' had' hR' => ?_)
          have h3 := px_run_W (e := e) (below := below) hok f C hr hlk hfr hlo hfree hq n _ _ _ _ ad' H' locs' (cells + (px_cc z.2 - px_cc σ)) (slots + (px_cs z.2 - px_cs σ)) lsM h (fun k hk => (had' k hk).trans (had k hk)) hR' (hL.ad had' hn2) (by omega) (by omega)
          rw [List.map_append, px_mv_ncs had' hn1] at h3
          have e5 : (z.1.map (px_mv ad')).toList = z.1.toList.map (px_mv ad') := by cases z.1 <;> rfl
          rw [e5]
          exact h3
      · cases h
    · rename_i g hg
      have h1 := px_ok_look tb hok hg
      split at h
      · cases h
      · rename_i r' hr'
        cases h
        have h3 := h1 st r hr' p l e R s m args below meth c H locs cells slots Qc free ad lsM C.1 C.2.1 hr hlk (hq ad H locs had hR) (fun q hq' => hfree _ (hR.2.2.2.1.2.2 q hq'))
        have e1 : cells = R.cells := by omega
        have e2 : slots = R.slots := by omega
        rw [← e1, ← e2]
        exact h3
/-- a method whose table is right does on the machine what it does on the pure machine -/
theorem px_met {μ : Nat} (hown : (P μ).1.cls = own) (hpl : plainName own = true) (hok : px_ok l P d own (P μ).2.1 (P μ).2.2.1 (P μ).2.2.2.1 (P μ).2.2.2.2) : px_Met l P (d + 1) μ := by
  intro f vs σ r τ hcall
  unfold px_call at hcall
  split at hcall
  · rename_i hlen
    refine ⟨px_run_mono hok f _ _ _ _ _ hcall, ?_⟩
    intro D cs ad sz
    refine Met.ofW (cc := (P μ).2.1) (maxL := (P μ).2.2.1) (ret := (P μ).2.2.2.1) (by rw [hown]; exact hpl) rfl ?_
    intro p e s m args below meth c s₁ B hml hv
    obtain ⟨rfl, hsz, hP, hK, hD0, hX⟩ := hv
    subst hsz
    have hts := atoms_spec (ws := px_ws (P μ)) B.pre
    have hown' : s.vm.findClass own = some m.cls := by rw [← hown]; exact findClass_of_methodNamed B.named
    have hR : px_R D cs (va_A (px_W cs ad σ) s.heap.size) s ad σ s.heap [] := ⟨hK, hP, hD0.self, va_S.rf, hX, fun q h => Or.inr h⟩
    rw [lg_entry_eq]
    have h1 := px_run_W (e := e) (below := below) (R := (headSpec (px_ws (P μ)) (px_rm (d + 1) (px_cc τ - px_cc σ) (px_cs τ - px_cs σ))).room) (ad0 := ad) (Qc := px_Post D cs ad σ s.heap.size r τ) (free := va_A (px_W cs ad σ) s.heap.size) hok f ⟨B.exec, B.bytes, hml, hown', fun w hw => hts w (List.mem_cons_of_mem _ hw)⟩ B.returns B.notSynchronized (Nat.le_refl _) (Nat.le_refl _) (fun q h => h) (fun ad' H locs had hR' t ht hW => ⟨⟨ad', had, rfl, by rw [ht]; exact hR'.2.1, hR'.2.2.1⟩, hR'.2.2.2.1.F ht⟩) _ _ _ _ _ ad s.heap [] 0 0 _ hcall (fun _ _ => rfl) hR (px_entry ad vs hlen) (Nat.zero_add _) (Nat.zero_add _)
    exact h1
  · cases hcall
end PM
