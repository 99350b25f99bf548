/-! ===== THE LAW: its own steps (the script), its run, its end ===== -/
def pi_scl (n L : Nat) : px_F := fun ls st σ => match st with
  | .ref k :: st => if k = 102 then some (n, ls, .int (Int32.ofNat L) :: st, σ) else none
  | _ => none
def pi_sld (n L : Nat) (xs : Nat → Int32) : px_F := fun ls st σ => match st with
  | .int i :: .ref k :: st => if k = 102 ∧ ¬ (i < 0 ∨ L ≤ i.toNatClampNeg) then some (n, ls, .int (xs i.toNatClampNeg) :: st, σ) else none
  | _ => none
/-- a step of the law: the script is at 102 -/
def px_SpL (L : Nat) (xs : Nat → Int32) (own : String) (cc : ByteArray) (nL pc : Nat) (f : px_F) : Prop :=
  ∀ (ls st : List Value) (σ : px_S) (q : Nat × List Value × List Value × px_S), f ls st σ = some q → px_le σ q.2.2.2 ∧
    ∀ (p : Program) (l : Launch) (e : Env) (R : Room) (s : State) (m : MethodId) (args : Array Value) (below : List Frame) (meth : Method) (c : Code) (H : Heap) (locs : List Loc) (cells slots : Nat) (Q : State → Prop) (D : va_G) (cs : px_C) (A : Nat → Prop) (ad : Nat → Nat) (lsM : Array Slot),
      va_X (ad 102) L xs s s.heap → ad 102 < s.heap.size → ¬ A (ad 102) →
      CallFix p m c cc nL s args px_TB own → 1 ≤ R.frames → 44 ≤ R.locals → px_R D cs A s ad σ H locs → px_L ad nL ls lsM →
      cells + (px_cc q.2.2.2 - px_cc σ) ≤ R.cells → slots + (px_cs q.2.2.2 - px_cs σ) ≤ R.slots →
      (∀ (ad' : Nat → Nat) (H' : Heap) (locs' : List Loc) (lsM' : Array Slot), (∀ k, k ≠ 33 → ad' k = ad k) → px_R D cs A s ad' q.2.2.2 H' locs' → px_L ad' nL q.2.1 lsM' →
        W p l e R s m args below meth c H' locs' (cells + (px_cc q.2.2.2 - px_cc σ)) (slots + (px_cs q.2.2.2 - px_cs σ)) Q (F0 m q.1 lsM' (q.2.2.1.map (px_mv ad')))) →
      W p l e R s m args below meth c H locs cells slots Q (F0 m pc lsM (st.map (px_mv ad)))
theorem px_SpL.of {L : Nat} {xs : Nat → Int32} {own : String} {cc : ByteArray} {nL pc : Nat} {f : px_F} (h : px_Sp own cc nL pc f) : px_SpL L xs own cc nL pc f := by
  intro ls st σ q hq
  obtain ⟨h1, h2⟩ := h ls st σ q hq
  exact ⟨h1, fun p l e R s m args below meth c H locs cells slots Q D cs A ad lsM _ _ _ => h2 p l e R s m args below meth c H locs cells slots Q D cs A ad lsM⟩
theorem ps_scl {L : Nat} {xs : Nat → Int32} {own : String} {cc : ByteArray} {nL pc : Nat} (hd : decode cc pc = .ok (.arraylength, 1)) : px_SpL L xs own cc nL pc (pi_scl (pc + 1) L) := by
  intro ls st σ q h
  unfold pi_scl at h
  split at h
  next k st' =>
    split at h
    next hz =>
      subst hz
      cases h
      refine ⟨⟨Nat.le_refl _, Nat.le_refl _⟩, ?_⟩
      intro p l e R s m args below meth c H locs cells slots Q D cs A ad lsM hX hbl hbA C hfr hlo hR hL h4 h5 kk
      have k2 := kk ad H locs lsM (fun _ _ => rfl) hR hL
      simp only [Nat.sub_self, Nat.add_zero] at k2
      exact va_slen C.1 C.2.1 hX hbl hbA hR.2.2.2.1 hd k2
    next => cases h
  next => cases h
theorem ps_sld {L : Nat} {xs : Nat → Int32} {own : String} {cc : ByteArray} {nL pc : Nat} (hd : decode cc pc = .ok (.iaload, 1)) : px_SpL L xs own cc nL pc (pi_sld (pc + 1) L xs) := by
  intro ls st σ q h
  unfold pi_sld at h
  split at h
  next i k st' =>
    split at h
    next hz =>
      obtain ⟨hz, hin⟩ := hz
      subst hz
      cases h
      refine ⟨⟨Nat.le_refl _, Nat.le_refl _⟩, ?_⟩
      intro p l e R s m args below meth c H locs cells slots Q D cs A ad lsM hX hbl hbA C hfr hlo hR hL h4 h5 kk
      have k2 := kk ad H locs lsM (fun _ _ => rfl) hR hL
      simp only [Nat.sub_self, Nat.add_zero] at k2
      exact va_sld C.1 C.2.1 hX hbl hbA hR.2.2.2.1 hin hd k2
    next => cases h
  next => cases h
def px_okL1 (l : Launch) (d L : Nat) (xs : Nat → Int32) (own : String) (cc : ByteArray) (nL : Nat) (q : Nat × px_I) : Prop := match q.2 with
  | .inl f => px_SpL L xs own cc nL q.1 f
  | .inr (.inl cq) => px_Sc l px_P d own cc nL q.1 cq
  | .inr (.inr g) => decode cc q.1 = .ok (.ireturn, 1) ∧ g = pr_i
def px_okL (l : Launch) (d L : Nat) (xs : Nat → Int32) (own : String) (cc : ByteArray) (nL : Nat) : List (Nat × px_I) → Prop
  | [] => True
  | q :: t => px_okL1 l d L xs own cc nL q ∧ px_okL l d L xs own cc nL t
theorem px_okL_look {l : Launch} {d L : Nat} {xs : Nat → Int32} {own : String} {cc : ByteArray} {nL : Nat} {I : px_I} {pc : Nat} : ∀ (tb : List (Nat × px_I)), px_okL l d L xs own cc nL tb → px_look tb pc = some I → px_okL1 l d L xs own cc nL (pc, I)
  | [], _, h => by cases h
  | q :: t, h0, h => by
    unfold px_look at h
    split at h
    · rename_i e
      cases h
      subst e
      exact h0.1
    · exact px_okL_look t h0.2 h
section LW
variable {l : Launch} {L : Nat} {xs : Nat → Int32} {tb : List (Nat × px_I)}
theorem px_law_mono (hok : px_okL l 9 L xs RL code 4 tb) (f : Nat) {r : Option Value} {τ : px_S} : ∀ (n pc : Nat) (ls st : List Value) (σ : px_S), px_run (px_call px_P 9 f) tb n pc ls st σ = some (r, τ) → px_le σ τ
  | 0, _, _, _, _, h => by cases h
  | n + 1, pc, ls, st, σ, h => by
    unfold px_run at h
    split at h
    · cases h
    · rename_i g hg
      have h1 := px_okL_look tb hok hg
      split at h
      · cases h
      · rename_i q hq
        exact px_le_trans (h1 ls st σ q hq).1 (px_law_mono hok f n _ _ _ _ h)
    · rename_i q hg
      have h1 := px_okL_look tb hok hg
      split at h
      · rename_i hc
        split at h
        · cases h
        · rename_i z hz
          exact px_le_trans (h1 f ls st σ z.1 z.2 hc.1 hc.2 hz).1 (px_law_mono hok f n _ _ _ _ h)
      · cases h
    · split at h
      · cases h
      · cases h
        exact ⟨Nat.le_refl _, Nat.le_refl _⟩
/-- the law's run on the pure machine, with answer 1, is a run of the machine -/
theorem px_law_W (hok : px_okL l 9 L xs RL code 4 tb) (f : Nat) {τ : px_S} {p : Program} {e : Env} {s : State} {m : MethodId} {b : Nat} {below : List Frame} {meth : Method} {c : Code} {D : va_G} {cs : px_C}
    (C : CallFix p m c code 4 s #[Value.ref b] px_TB RL) (hr : meth.sig.returnType = ret) (hlk : meth.locks = false) (hX : va_X b L xs s s.heap) (hbl : b < s.heap.size) :
    ∀ (n pc : Nat) (ls st : List Value) (σ : px_S) (ad : Nat → Nat) (H : Heap) (locs : List Loc) (cells slots : Nat) (lsM : Array Slot), px_run (px_call px_P 9 f) tb n pc ls st σ = some (some (.int 1), τ) → ad 102 = b → px_R D cs (fun q : Nat => s.heap.size ≤ q) s ad σ H locs → px_L ad 4 ls lsM →
      cells + (px_cc τ - px_cc σ) ≤ 600000 → slots + (px_cs τ - px_cs σ) ≤ 7302250 →
      W p l e room_1 s m #[Value.ref b] below meth c H locs cells slots (lw_Z below #[Value.ref b] s) (F0 m pc lsM (st.map (px_mv ad)))
  | 0, _, _, _, _, _, _, _, _, _, _, h => by cases h
  | n + 1, pc, ls, st, σ, ad, H, locs, cells, slots, lsM, h => by
    intro had hR hL hcc hss
    have hbA : ¬ (fun q : Nat => s.heap.size ≤ q) b := Nat.not_le.mpr hbl
    have hX' : va_X (ad 102) L xs s s.heap := by rw [had]; exact hX
    have hbl' : ad 102 < s.heap.size := by rw [had]; exact hbl
    have hbA' : ¬ (fun q : Nat => s.heap.size ≤ q) (ad 102) := by rw [had]; exact hbA
    unfold px_run at h
    split at h
    · cases h
    · rename_i g hg
      have h1 := px_okL_look tb hok hg
      split at h
      · cases h
      · rename_i q hqq
        obtain ⟨hle, h2⟩ := h1 ls st σ q hqq
        have hle2 := px_law_mono hok f n _ _ _ _ h
        have e1 := hle.1; have e2 := hle.2; have e3 := hle2.1; have e4 := hle2.2
        refine h2 p l e room_1 s m #[Value.ref b] below meth c H locs cells slots _ D cs _ ad lsM hX' hbl' hbA' C (by decide) (by decide) hR hL (by show _ ≤ 600000; omega) (by show _ ≤ 7302250; omega) (fun ad' H' locs' lsM' had' hR' hL' => ?_)
        exact px_law_W hok f C hr hlk hX hbl n _ _ _ _ ad' H' locs' _ _ lsM' h ((had' 102 (by decide)).trans had) hR' hL' (by omega) (by omega)
    · rename_i q hg
      have h1 := px_okL_look tb hok hg
      split at h
      · rename_i hc
        split at h
        · cases h
        · rename_i z hz
          obtain ⟨hle, h2⟩ := h1 f ls st σ z.1 z.2 hc.1 hc.2 hz
          have hle2 := px_law_mono hok f n _ _ _ _ h
          have e1 := hle.1; have e2 := hle.2; have e3 := hle2.1; have e4 := hle2.2
          obtain ⟨-, hn1, hn2, -⟩ := px_okc_spec hc.2
          refine h2 p e room_1 s m #[Value.ref b] below meth c H locs cells slots _ D cs _ ad lsM C (by decide) (by decide) hR hL (by show _ ≤ 600000; omega) (by show _ ≤ 7302250; omega) (fun ad' H' locs' had' hR' => ?_)
          have h3 := px_law_W (e := e) (below := below) hok f C hr hlk hX hbl n _ _ _ _ ad' H' locs' (cells + (px_cc z.2 - px_cc σ)) (slots + (px_cs z.2 - px_cs σ)) lsM h ((had' 102 (by decide)).trans had) hR' (hL.ad had' hn2) (by omega) (by omega)
          rw [List.map_append, px_mv_ncs had' hn1] at h3
          have e5 : (z.1.map (px_mv ad')).toList = z.1.toList.map (px_mv ad') := by cases z.1 <;> rfl
          rw [e5]
          exact h3
      · cases h
    · rename_i g hg
      obtain ⟨hd, rfl⟩ := px_okL_look tb hok hg
      split at h
      · cases h
      · rename_i r' hr'
        cases h
        unfold pr_i at hr'
        split at hr'
        · cases hr'
          refine va_forget (fun q hq => hR.2.2.2.1.2.2 q hq) ?_
          refine W.widen (k := 600000) (n := 7302250) (by omega) (by omega) ?_
          exact lw_ret C.1 C.2.1 hr hlk hd
        · cases hr'
end LW
