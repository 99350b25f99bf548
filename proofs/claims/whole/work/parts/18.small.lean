/-! ===== before the whole world stands: new rows, Arrays.fill, atFirst; what a constructor takes and gives ===== -/
theorem px_arr0 {args : Array Value} {s : State} {ty : FieldType} (h : (Cond.arrayClass ty).before args s = true) : ∃ cA, ArrOfT s cA ty ∧ s.vm.findClass ("[" ++ ty.toString) = some cA := by
  obtain ⟨cA, kA, comp, h1, h2, h3⟩ := Cond.arrayClass_spec h
  exact ⟨cA, fun n z => ⟨fun k h => (by cases h), kA, h2, comp, h3⟩, h1⟩
section PN
variable {p : Program} {l : Launch} {e : Env} {R : Room} {s : State} {m : MethodId} {args : Array Value} {below : List Frame} {meth : Method} {c : Code} {H : Heap} {locs : List Loc} {cells slots : Nat} {Q : State → Prop}
variable {cc : ByteArray} {pc : Nat} {ls : Array Slot} {rest : List Value} {D : va_G} {A : Nat → Prop} {ws : va_W} {H0 : Heap} {cs : px_C}
theorem px_newI (hx : p.tables.exec = Jvm.exec) (hb : c.code = cc) (harr : (Cond.arrayClass .int).before args s = true) (hK : va_K D vwCl (px_tys cs) s) (hP : va_P D vwCl ws H) (hD : va_D A ws) (hS : va_S A H0 H locs) (hA : ∀ q, H0.size ≤ q → A q) {n : Int32} {N : Nat} (hn : ¬ n < 0) (hN : n.toNatClampNeg = N) (hby : N * 4 ≤ 536870912) (h1 : cells + 1 ≤ R.cells) (h2 : slots + N ≤ R.slots) (hd : decode cc pc = .ok (.newarray .int, 2))
    (kk : ∀ (q : Nat) (H1 : Heap), va_P D vwCl (ws ++ [(q, .inl (cs.1, (N, .inl (fun _ => 0))))]) H1 → va_D A (ws ++ [(q, .inl (cs.1, (N, .inl (fun _ => 0))))]) → va_S A H0 H1 locs → W p l e R s m args below meth c H1 locs (cells + 1) (slots + N) Q (F0 m (pc + 2) ls (.ref q :: rest))) : W p l e R s m args below meth c H locs cells slots Q (F0 m pc ls (.int n :: rest)) := by
  refine va_newa (atype := .int) (ty := .int) (a0 := (N, .inl (fun _ => 0))) hx hb harr rfl hK hP hD hS hA (fun cA => rfl) hn hN hby h1 h2 hd (fun q cA H1 hK1 hP1 hD1 hS1 => ?_)
  have hcA : cA = cs.1 := by
    have g1 := (hK1.2 3 (cA, .int) rfl).2
    have g2 := (hK1.2 0 (cs.1, .int) rfl).2
    exact Option.some.inj (g1.symm.trans g2)
  subst hcA
  exact kk q H1 hP1 hD1 hS1
theorem px_newZ (hx : p.tables.exec = Jvm.exec) (hb : c.code = cc) (harr : (Cond.arrayClass .boolean).before args s = true) (hK : va_K D vwCl (px_tys cs) s) (hP : va_P D vwCl ws H) (hD : va_D A ws) (hS : va_S A H0 H locs) (hA : ∀ q, H0.size ≤ q → A q) {n : Int32} {N : Nat} (hn : ¬ n < 0) (hN : n.toNatClampNeg = N) (hby : N * 4 ≤ 536870912) (h1 : cells + 1 ≤ R.cells) (h2 : slots + N ≤ R.slots) (hd : decode cc pc = .ok (.newarray .boolean, 2))
    (kk : ∀ (q : Nat) (H1 : Heap), va_P D vwCl (ws ++ [(q, .inl (cs.2.2, (N, .inl (fun _ => 0))))]) H1 → va_D A (ws ++ [(q, .inl (cs.2.2, (N, .inl (fun _ => 0))))]) → va_S A H0 H1 locs → W p l e R s m args below meth c H1 locs (cells + 1) (slots + N) Q (F0 m (pc + 2) ls (.ref q :: rest))) : W p l e R s m args below meth c H locs cells slots Q (F0 m pc ls (.int n :: rest)) := by
  refine va_newa (atype := .boolean) (ty := .boolean) (a0 := (N, .inl (fun _ => 0))) hx hb harr rfl hK hP hD hS hA (fun cA => rfl) hn hN (by show N * 1 ≤ _; omega) h1 h2 hd (fun q cA H1 hK1 hP1 hD1 hS1 => ?_)
  have hcA : cA = cs.2.2 := by
    have g1 := (hK1.2 3 (cA, .boolean) rfl).2
    have g2 := (hK1.2 2 (cs.2.2, .boolean) rfl).2
    exact Option.some.inj (g1.symm.trans g2)
  subst hcA
  exact kk q H1 hP1 hD1 hS1
theorem px_newJ (hx : p.tables.exec = Jvm.exec) (hb : c.code = cc) (harr : (Cond.arrayClass .long).before args s = true) (hK : va_K D vwCl (px_tys cs) s) (hP : va_P D vwCl ws H) (hD : va_D A ws) (hS : va_S A H0 H locs) (hA : ∀ q, H0.size ≤ q → A q) {n : Int32} {N : Nat} (hn : ¬ n < 0) (hN : n.toNatClampNeg = N) (hby : N * 8 ≤ 536870912) (h1 : cells + 1 ≤ R.cells) (h2 : slots + N ≤ R.slots) (hd : decode cc pc = .ok (.newarray .long, 2))
    (kk : ∀ (q : Nat) (H1 : Heap), va_P D vwCl (ws ++ [(q, .inl (cs.2.1, (N, .inr (.inl (fun _ => 0)))))]) H1 → va_D A (ws ++ [(q, .inl (cs.2.1, (N, .inr (.inl (fun _ => 0)))))]) → va_S A H0 H1 locs → W p l e R s m args below meth c H1 locs (cells + 1) (slots + N) Q (F0 m (pc + 2) ls (.ref q :: rest))) : W p l e R s m args below meth c H locs cells slots Q (F0 m pc ls (.int n :: rest)) := by
  refine va_newa (atype := .long) (ty := .long) (a0 := (N, .inr (.inl (fun _ => 0)))) hx hb harr rfl hK hP hD hS hA (fun cA => rfl) hn hN hby h1 h2 hd (fun q cA H1 hK1 hP1 hD1 hS1 => ?_)
  have hcA : cA = cs.2.1 := by
    have g1 := (hK1.2 3 (cA, .long) rfl).2
    have g2 := (hK1.2 1 (cs.2.1, .long) rfl).2
    exact Option.some.inj (g1.symm.trans g2)
  subst hcA
  exact kk q H1 hP1 hD1 hS1
end PN
/-- a constructor's start: its world, what else it needs -/
def pc_Pre (D : va_G) (cs : px_C) (W0 : va_W) (vs : List Value) (sz : Nat) (X : State → Prop) : Array Value → State → Prop :=
  va_Pc vs (fun U => U.heap.size = sz ∧ va_P D vwCl W0 U.heap ∧ va_K D vwCl (px_tys cs) U ∧ va_D (fun _ => True) W0 ∧ X U)
theorem pc_blind {D : va_G} {cs : px_C} {W0 : va_W} {vs : List Value} {sz : Nat} {X : State → Prop} (hX : ∀ (U V : State), V.vm = U.vm → V.heap = U.heap → X U → X V) : FrameBlind (pc_Pre D cs W0 vs sz X) := by
  intro a U g mk q
  obtain ⟨q0, q1, qP, qK, qD, qX⟩ := q
  exact ⟨q0, q1, qP, va_K.moved (u := U) (U := U.calling g mk a) (Vm.Alike.refl U.vm) qK, qD, hX U _ rfl rfl qX⟩
/-- Arrays.fill on a row alone -/
def px_fl (v : Int32) (i : Nat) (f : Nat → Int32) : Nat → Int32 := fun j => if j < i then v else f j
theorem px_fl_s (v : Int32) (i : Nat) (f : Nat → Int32) : upd (px_fl v i f) i v = px_fl v (i + 1) f := by
  funext j
  unfold upd px_fl
  by_cases h : j = i
  · subst h; simp
  · by_cases h2 : j < i
    · simp [h, h2, Nat.lt_succ_of_lt h2]
    · have : ¬ j < i + 1 := by omega
      simp [h, h2, this]
set_option maxHeartbeats 4000000 in
theorem cn_fill (l : Launch) (D : va_G) (cs : px_C) (a sz N : Nat) (hN : N < 2 ^ 31) (v : Int32) (f : Nat → Int32) : Met l yJ7_fill_53178 (.code yJ7_fill_53178 cJ7_fill_53178 4 none :: px_TB) { frames := 1, cells := 0, slots := 0, locals := 44 } (pc_Pre D cs [(a, .inl (cs.1, (N, .inl f)))] [.ref a, .int v] sz (fun _ => True)) (va_Qv (fun _ : Unit => True) (fun _ t => va_P D vwCl [(a, .inl (cs.1, (N, .inl (px_fl v N f))))] t.heap ∧ va_D (va_A [(a, .inl (cs.1, (N, .inl f)))] sz) [(a, .inl (cs.1, (N, .inl (px_fl v N f))))]) (va_A [(a, .inl (cs.1, (N, .inl f)))] sz)) 0 0 (va_A [(a, .inl (cs.1, (N, .inl f)))] sz) := by
  refine Met.ofW (cc := cJ7_fill_53178) (maxL := 4) (ret := none) (by decide +kernel) rfl ?_
  intro p e s m args below meth c s₁ B hml hv
  obtain ⟨rfl, hsz, hP, hK, hD0, -⟩ := hv
  have hx := B.exec
  have hb := B.bytes
  have hr := B.returns
  have hlocks := B.notSynchronized
  subst hsz
  have hD := hD0.self (sz := s.heap.size)
  generalize hAe : va_A [(a, .inl (cs.1, (N, .inl f)))] s.heap.size = A at hD ⊢
  have hS : va_S A s.heap s.heap [] := va_S.rf
  have hl := lv_entry ([.ref a, .int v]) (n := 4) (Nat.le_of_ble_eq_true rfl)
  rw [lg_entry_eq]
  generalize (lg_sl ([.ref a, .int v]) ++ List.replicate (4 - (lg_sl ([.ref a, .int v])).length) Slot.unset).toArray = ls at hl ⊢
  have hl : lv_has ls 4 [(0, .ref a), (1, .int v)] := hl
  refine lv_iconst (v := 0) hx hb dJ7_fill_53178_0 (by decide) ?_
  refine lv_istore_n (lv' := [(2, .int 0), (0, .ref a), (1, .int v)]) hx hb dJ7_fill_53178_1 rfl hl (by decide) rfl (fun ls hl => ?_)
  refine lv_aload_n hx hb dJ7_fill_53178_2 rfl (lv_at hl 1 rfl) ?_
  refine va_alen (ty := .int) hx hb hK hP 0 0 rfl rfl rfl dJ7_fill_53178_3 ?_
  refine lv_istore_n (lv' := [(3, .int (nI N)), (2, .int 0), (0, .ref a), (1, .int v)]) hx hb dJ7_fill_53178_4 rfl hl (by decide) rfl (fun ls hl => ?_)
  have loop : ∀ (n i : Nat), i ≤ N → N - i < n → ∀ (H : Heap) (locs : List Loc) (ls : Array Slot), va_P D vwCl [(a, .inl (cs.1, (N, .inl (px_fl v i f))))] H → va_D A [(a, .inl (cs.1, (N, .inl (px_fl v i f))))] → va_S A s.heap H locs → lv_has ls 4 [(3, .int (nI N)), (2, .int (nI i)), (0, .ref a), (1, .int v)] → W p l e (headSpec (.code yJ7_fill_53178 cJ7_fill_53178 4 none :: px_TB) { frames := 1, cells := 0, slots := 0, locals := 44 }).room s m ([.ref a, .int v] : List Value).toArray below meth c H locs 0 0 (MQ below (va_Qv (fun _ : Unit => True) (fun _ t => va_P D vwCl [(a, .inl (cs.1, (N, .inl (px_fl v N f))))] t.heap ∧ va_D A [(a, .inl (cs.1, (N, .inl (px_fl v N f))))]) A) ([.ref a, .int v] : List Value).toArray s 0 0 A) (F0 m 5 ls []) := by
    intro n
    induction n with
    | zero => intro i h1 h2; omega
    | succ n ih =>
      intro i hi hin H locs ls hP hD hS hl
      refine lv_iload_n hx hb dJ7_fill_53178_5 rfl (lv_at hl 1 rfl) ?_
      refine lv_iload_n hx hb dJ7_fill_53178_6 rfl (lv_at hl 0 rfl) ?_
      refine lv_icmp_ge (tgt := 20) hx hb dJ7_fill_53178_7 (by decide) (fun hc => ?_) (fun hc => ?_)
      · have : i = N := by
          have := (nI_leI hN (by omega)).mp hc
          omega
        subst this
        exact W.vret hx hb hr (fun t ht hW => ⟨⟨(), rfl, trivial, by rw [ht]; exact hP, hD⟩, hS.F ht⟩) hS.2.2 dJ7_fill_53178_20
      · have hlt : i < N := by
          rcases Nat.lt_or_ge i N with q | q
          · exact q
          · exact absurd (nI_le q (by omega)) hc
        refine lv_aload_n hx hb dJ7_fill_53178_10 rfl (lv_at hl 2 rfl) ?_
        refine lv_iload_n hx hb dJ7_fill_53178_11 rfl (lv_at hl 1 rfl) ?_
        refine lv_iload_n hx hb dJ7_fill_53178_12 rfl (lv_at hl 3 rfl) ?_
        refine va_iast hx hb hK hP hD hS 0 0 rfl rfl (vp_in_nI hlt hN) dJ7_fill_53178_13 (fun H locs hP hD hS => ?_)
        have ec : (nI i).toNatClampNeg = i := nI_clamp (by omega)
        have hP : va_P D vwCl [(a, .inl (cs.1, (N, .inl (px_fl v (i + 1) f))))] H := by
          have h9 := hP
          rw [ec, px_fl_s] at h9
          exact h9
        have hD : va_D A [(a, .inl (cs.1, (N, .inl (px_fl v (i + 1) f))))] := by
          have h9 := hD
          rw [ec, px_fl_s] at h9
          exact h9
        refine lv_iinc (v := nI (i + 1)) (lv' := [(2, .int (nI (i + 1))), (3, .int (nI N)), (0, .ref a), (1, .int v)]) hx hb dJ7_fill_53178_14 hl (k := 1) rfl (by rw [← nI_1]; rfl) (by decide) rfl (fun ls hl => ?_)
        refine lv_goto (tgt := 5) hx hb dJ7_fill_53178_17 (by decide) ?_
        exact ih (i + 1) hlt (by omega) H locs ls hP hD hS (lv_sub hl [1, 0, 2, 3] rfl)
  have e0 : px_fl v 0 f = f := by funext j; simp [px_fl]
  refine loop (N + 1) 0 (Nat.zero_le _) (by omega) s.heap [] ls ?_ ?_ hS (lv_sub hl [0, 1, 2, 3] rfl)
  · rw [e0]; exact hP
  · rw [e0]; exact hD
/-- the model's atFirst -/
def px_af (k : Int32) : Int32 := if k = 1 then 50 else if k = 2 then 1 else if k = 3 then 14 else if k = 4 then 5 else 0
