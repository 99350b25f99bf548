/-! ===== THE PURE MACHINE IS THE MACHINE: what holds between them, and a row a step ===== -/
def px_TB : List Cond := lw_tbl.filter goodWord
theorem px_in {w : Cond} (i : Nat) (h : lw_tbl[i]? = some w) (g : goodWord w = true) : w ∈ px_TB := List.mem_filter.mpr ⟨List.mem_of_getElem? h, g⟩
theorem px_good {ws : List Cond} (h : ∀ w ∈ ws, w ∈ px_TB) : GoodIn px_TB ws := fun w hw => ⟨h w hw, good_of_word (List.mem_filter.mp (h w hw)).2⟩
def px_FR (j : Nat) : Int32 := ([0, 50, 1, 14, 5] : List Int32).getD j 0
def px_RB (j : Nat) : Int32 := ([2, 100, 1, 14, 5] : List Int32).getD j 0
def px_sl : List Nat := [4, 3, 5, 4, 4, 3, 2]
def px_sb : List (List Int32) := [[110, 101, 97, 114], [102, 105, 116], [116, 114, 117, 115, 116], [107, 101, 101, 112], [100, 101, 101, 112], [121, 101, 115], [110, 111]]
def px_si (i : Nat) : Nat := [90, 92, 94, 96, 98, 72, 78].getD i 0
def px_sx (i : Nat) : String := ["near", "fit", "trust", "keep", "deep", "yes", "no"].getD i ""
/-- what stays: the nest's words, the two static rows, the texts of the program -/
def px_X (ad : Nat → Nat) (A : Nat → Prop) (U : State) (H : Heap) : Prop :=
  (va_Nw (.methodLinkNest RX1 59 yX8_spotOf RX8) U ∧ va_Nw (.methodLinkNest RX0 48 yX8_spotOf RX8) U ∧ va_Nw (.methodLinkNest RX2 92 yX8_spotOf RX8) U ∧ va_Nw (.methodLinkNest RX3 73 yX8_spotOf RX8) U ∧ va_Nw (.fieldLinkNest RX6 25 RX8 "FIRST_RULES" "[I" RX8) U ∧ va_Nw (.fieldLinkNest RX6 83 RX8 "RULE_BOUNDS" "[I" RX8) U) ∧
  (va_Z RX8 "FIRST_RULES" "[I" (.ref (ad 100)) A U H ∧ (va_X (ad 100) 5 px_FR U H ∧ ¬ A (ad 100)) ∧ va_Z RX8 "RULE_BOUNDS" "[I" (.ref (ad 101)) A U H ∧ va_T .int (ad 101) 5 (fun j => .int (px_RB j)) A U H) ∧
  (va_Z RJ0 "COMPACT_STRINGS" "Z" (.int 1) A U H ∧ va_Z RJ3 "SIOOBE_FORMATTER" "Ljava/util/function/BiFunction;" (px_mv ad (.float 0)) A U H) ∧
  vk_S 7 px_sl px_sb (fun i => ad (110 + i)) (fun i => ad (120 + i)) A U H ∧ ∀ i, i < 7 → vk_R RX6 (px_si i) (px_sx i) (ad (110 + i)) U
theorem px_X.moved {ad : Nat → Nat} {A : Nat → Prop} {s U : State} {H : Heap} (hW : s.WarmedH U.vm) (h : px_X ad A s H) : px_X ad A U H := by
  obtain ⟨⟨a1, a2, a3, a4, a5, a6⟩, ⟨b1, b2, b3, b4⟩, ⟨b5, b6⟩, c1, c2⟩ := h
  exact ⟨⟨a1.warmM hW, a2.warmM hW, a3.warmM hW, a4.warmM hW, a5.warmF hW, a6.warmF hW⟩, ⟨b1.moved hW.alike, ⟨b2.1.moved hW.alike, b2.2⟩, b3.moved hW.alike, b4.moved hW.alike⟩, ⟨b5.moved hW.alike, b6.moved hW.alike⟩, c1.moved hW.alike, fun i hi => (c2 i hi).warm hW⟩
theorem px_X.same {ad : Nat → Nat} {A : Nat → Prop} {s U : State} {H : Heap} (hv : U.vm = s.vm) (h : px_X ad A s H) : px_X ad A U H := by
  obtain ⟨⟨a1, a2, a3, a4, a5, a6⟩, ⟨b1, b2, b3, b4⟩, ⟨b5, b6⟩, c1, c2⟩ := h
  have hal : s.vm.Alike U.vm := by rw [hv]; exact Vm.Alike.refl _
  exact ⟨⟨a1.same rfl hv.symm, a2.same rfl hv.symm, a3.same rfl hv.symm, a4.same rfl hv.symm, a5.same rfl hv.symm, a6.same rfl hv.symm⟩, ⟨b1.moved hal, ⟨b2.1.moved hal, b2.2⟩, b3.moved hal, b4.moved hal⟩, ⟨b5.moved hal, b6.moved hal⟩, c1.moved hal, fun i hi => (c2 i hi).same hv⟩
theorem px_X.kept {ad : Nat → Nat} {A : Nat → Prop} {U : State} {H H1 : Heap} (h : px_X ad A U H) (hq : ∀ a : Nat, a < H.size → ¬ A a → H1[a]? = H[a]?) : px_X ad A U H1 := by
  obtain ⟨a, ⟨b1, b2, b3, b4⟩, ⟨b5, b6⟩, c1, c2⟩ := h
  have hlt : ad 100 < H.size := by
    obtain ⟨scr, h1, -⟩ := b2.1
    exact (Array.getElem?_eq_some_iff.mp h1).1
  exact ⟨a, ⟨b1.kept hq, ⟨b2.1.kept (hq _ hlt b2.2), b2.2⟩, b3.kept hq, b4.kept hq⟩, ⟨b5.kept hq, b6.kept hq⟩, c1.kept hq, c2⟩
theorem px_X.narrow {ad : Nat → Nat} {A B : Nat → Prop} {U : State} {H : Heap} (h : px_X ad A U H) (hAB : ∀ q, B q → A q) : px_X ad B U H := by
  obtain ⟨a, ⟨b1, b2, b3, b4⟩, ⟨b5, b6⟩, c1, c2⟩ := h
  exact ⟨a, ⟨b1.narrow hAB, ⟨b2.1, fun z => b2.2 (hAB _ z)⟩, b3.narrow hAB, b4.narrow hAB⟩, ⟨b5.narrow hAB, b6.narrow hAB⟩, c1.narrow hAB, c2⟩
theorem px_X.ad {ad ad' : Nat → Nat} {A : Nat → Prop} {U : State} {H : Heap} (hd : ∀ k, k ≠ 33 → ad' k = ad k) (h : px_X ad A U H) : px_X ad' A U H := by
  obtain ⟨a, ⟨b1, b2, b3, b4⟩, ⟨b5, b6⟩, c1, c2⟩ := h
  have e1 : (fun i => ad' (110 + i)) = fun i => ad (110 + i) := funext fun i => hd _ (by omega)
  have e2 : (fun i => ad' (120 + i)) = fun i => ad (120 + i) := funext fun i => hd _ (by omega)
  have e3 : px_mv ad' (.float 0) = px_mv ad (.float 0) := by simp only [px_mv, hd 130 (by decide), hd 131 (by decide)]
  refine ⟨a, ⟨?_, ?_, ?_, ?_⟩, ⟨b5, by rw [e3]; exact b6⟩, ?_, fun i hi => ?_⟩
  · rw [hd 100 (by decide)]; exact b1
  · rw [hd 100 (by decide)]; exact b2
  · rw [hd 101 (by decide)]; exact b3
  · rw [hd 101 (by decide)]; exact b4
  · rw [e1, e2]; exact c1
  · rw [hd (110 + i) (by omega)]; exact c2 i hi
/-- the worlds: the machine's heap holds the state -/
def px_R (D : va_G) (cs : px_C) (A : Nat → Prop) (s : State) (ad : Nat → Nat) (σ : px_S) (H : Heap) (locs : List Loc) : Prop :=
  va_K D vwCl (px_tys cs) s ∧ va_P D vwCl (px_W cs ad σ) H ∧ va_D A (px_W cs ad σ) ∧ va_S A s.heap H locs ∧ px_X ad A s s.heap ∧ ∀ q, s.heap.size ≤ q → A q
/-- the locals -/
def px_L (ad : Nat → Nat) (nL : Nat) (ls : List Value) (lsM : Array Slot) : Prop := lsM.size = nL ∧ lv_wf lsM ∧ ∀ (i : Nat) (v : Value), ls[i]? = some v → v ≠ .null → lsM[i]? = some (.val (px_mv ad v))
theorem px_mv_cat (ad : Nat → Nat) (v : Value) : (px_mv ad v).category = v.category := by
  cases v with
  | float b => simp only [px_mv]; split <;> rfl
  | _ => rfl
/-- the list that the kit's rows speak of -/
def px_asc (ad : Nat → Nat) (ls : List Value) : List (Nat × Value) := (List.range ls.length).filterMap fun i => match ls[i]? with
  | some v => if v = .null then none else some (i, px_mv ad v)
  | none => none
theorem px_asc_mem {ad : Nat → Nat} {ls : List Value} {q : Nat × Value} : q ∈ px_asc ad ls ↔ ∃ v, ls[q.1]? = some v ∧ v ≠ .null ∧ q.2 = px_mv ad v := by
  unfold px_asc
  rw [List.mem_filterMap]
  constructor
  · rintro ⟨i, -, h⟩
    cases hv : ls[i]? with
    | none => simp [hv] at h
    | some v =>
      simp only [hv] at h
      by_cases hn : v = .null
      · simp [hn] at h
      · rw [if_neg hn] at h
        cases h
        exact ⟨v, hv, hn, rfl⟩
  · rintro ⟨v, h1, h2, h3⟩
    refine ⟨q.1, List.mem_range.mpr (List.getElem?_eq_some_iff.mp h1).1, ?_⟩
    simp only [h1, if_neg h2, ← h3]
theorem px_L.has {ad : Nat → Nat} {nL : Nat} {ls : List Value} {lsM : Array Slot} (h : px_L ad nL ls lsM) : lv_has lsM nL (px_asc ad ls) := by
  refine ⟨h.1, h.2.1, fun q hq => ?_⟩
  obtain ⟨v, h1, h2, h3⟩ := px_asc_mem.mp hq
  rw [h3]
  exact h.2.2 q.1 v h1 h2
theorem px_kill_get {ls : List Value} {i j : Nat} {v : Value} (h : (px_kill ls i)[j]? = some v) (hn : v ≠ .null) : ls[j]? = some v ∧ ¬ (j + 1 = i ∧ v.category = 2) := by
  cases i with
  | zero => exact ⟨h, fun z => by omega⟩
  | succ i =>
    unfold px_kill at h
    dsimp only at h
    cases hv : ls[i]? with
    | none =>
      simp only [hv] at h
      refine ⟨h, fun z => ?_⟩
      have : j = i := by omega
      subst this
      rw [hv] at h; cases h
    | some w =>
      have key : ∀ (hc : w.category = 2), (ls.set i .null)[j]? = some v → ls[j]? = some v ∧ ¬ (j + 1 = i + 1 ∧ v.category = 2) := by
        intro hc h
        by_cases hj : j = i
        · subst hj
          rw [List.getElem?_set_self (List.getElem?_eq_some_iff.mp hv).1] at h
          cases h
          exact absurd rfl hn
        · rw [List.getElem?_set_ne (Ne.symm hj)] at h
          exact ⟨h, fun z => hj (by omega)⟩
      have key1 : ∀ (hc : w.category = 1), ls[j]? = some v → ls[j]? = some v ∧ ¬ (j + 1 = i + 1 ∧ v.category = 2) := by
        intro hc h9
        refine ⟨h9, fun z => ?_⟩
        have e9 : j = i := by omega
        rw [e9, hv] at h9
        have e8 : w = v := Option.some.inj h9
        rw [← e8] at z
        omega
      cases w with
      | long x => simp only [hv] at h; exact key rfl h
      | double x => simp only [hv] at h; exact key rfl h
      | int x => simp only [hv] at h; exact key1 rfl h
      | float x => simp only [hv] at h; exact key1 rfl h
      | null => simp only [hv] at h; exact key1 rfl h
      | ref x => simp only [hv] at h; exact key1 rfl h
      | retAddr x => simp only [hv] at h; exact key1 rfl h
theorem px_L.of_has {ad : Nat → Nat} {nL i : Nat} {ls : List Value} {lsM : Array Slot} {x : Value} (h : lv_has lsM nL ((i, px_mv ad x) :: (px_asc ad ls).filter (fun q => !(q.1 == i) && !(q.1 + 1 == i && q.2.category == 2)))) : px_L ad nL (px_st1 ls i x) lsM := by
  refine ⟨h.1, h.2.1, fun j v hj hn => ?_⟩
  unfold px_st1 at hj
  by_cases hji : j = i
  · subst hji
    have hlt : j < (px_kill ls j).length := by
      have := (List.getElem?_eq_some_iff.mp hj).1
      simpa using this
    rw [List.getElem?_set_self hlt] at hj
    cases hj
    exact h.2.2 _ List.mem_cons_self
  · rw [List.getElem?_set_ne (Ne.symm hji)] at hj
    obtain ⟨h1, h2⟩ := px_kill_get hj hn
    refine h.2.2 (j, px_mv ad v) (List.mem_cons_of_mem _ (List.mem_filter.mpr ⟨px_asc_mem.mpr ⟨v, h1, hn, rfl⟩, ?_⟩))
    dsimp only
    rw [px_mv_cat]
    simp only [Bool.and_eq_true, Bool.not_eq_true', beq_eq_false_iff_ne, Bool.and_eq_false_iff]
    refine ⟨hji, ?_⟩
    by_cases hz : j + 1 = i
    · exact Or.inr (fun z => h2 ⟨hz, z⟩)
    · exact Or.inl hz
theorem px_L.of_has2 {ad : Nat → Nat} {nL i : Nat} {ls : List Value} {lsM : Array Slot} {x : Value} (h : lv_has lsM nL ((i, px_mv ad x) :: (px_asc ad ls).filter (fun q => !(q.1 == i) && (!(q.1 == i + 1) && !(q.1 + 1 == i && q.2.category == 2))))) : px_L ad nL (px_st2 ls i x) lsM := by
  refine ⟨h.1, h.2.1, fun j v hj hn => ?_⟩
  unfold px_st2 at hj
  by_cases hji : j = i
  · subst hji
    have hlt : j < ((px_kill ls j).set (j + 1) .null).length := by
      have := (List.getElem?_eq_some_iff.mp hj).1
      simpa using this
    rw [List.getElem?_set_self hlt] at hj
    cases hj
    exact h.2.2 _ List.mem_cons_self
  · rw [List.getElem?_set_ne (Ne.symm hji)] at hj
    by_cases hj1 : j = i + 1
    · subst hj1
      have hlt : i + 1 < (px_kill ls i).length := by
        have := (List.getElem?_eq_some_iff.mp hj).1
        simpa using this
      rw [List.getElem?_set_self hlt] at hj
      cases hj
      exact absurd rfl hn
    · rw [List.getElem?_set_ne (Ne.symm hj1)] at hj
      obtain ⟨h1, h2⟩ := px_kill_get hj hn
      refine h.2.2 (j, px_mv ad v) (List.mem_cons_of_mem _ (List.mem_filter.mpr ⟨px_asc_mem.mpr ⟨v, h1, hn, rfl⟩, ?_⟩))
      dsimp only
      rw [px_mv_cat]
      simp only [Bool.and_eq_true, Bool.not_eq_true', beq_eq_false_iff_ne, Bool.and_eq_false_iff]
      refine ⟨hji, hj1, ?_⟩
      by_cases hz : j + 1 = i
      · exact Or.inr (fun z => h2 ⟨hz, z⟩)
      · exact Or.inl hz
/-- no hold on 'cells': the values stay when its address moves -/
theorem px_mv_nc {ad ad' : Nat → Nat} (hd : ∀ k, k ≠ 33 → ad' k = ad k) {v : Value} (h : px_nc v = true) : px_mv ad' v = px_mv ad v := by
  cases v with
  | ref k =>
    have hk : k ≠ 33 := by simpa [px_nc] using h
    show Value.ref (ad' k) = Value.ref (ad k)
    rw [hd k hk]
  | float b => simp only [px_mv, hd 130 (by decide), hd 131 (by decide)]
  | _ => rfl
theorem px_mv_ncs {ad ad' : Nat → Nat} (hd : ∀ k, k ≠ 33 → ad' k = ad k) {st : List Value} (h : st.all px_nc = true) : st.map (px_mv ad') = st.map (px_mv ad) :=
  List.map_congr_left fun v hv => px_mv_nc hd (List.all_eq_true.mp h v hv)
theorem px_L.ad {ad ad' : Nat → Nat} {nL : Nat} {ls : List Value} {lsM : Array Slot} (hd : ∀ k, k ≠ 33 → ad' k = ad k) (hn : ls.all px_nc = true) (h : px_L ad nL ls lsM) : px_L ad' nL ls lsM :=
  ⟨h.1, h.2.1, fun i v hv hz => by rw [px_mv_nc hd (List.all_eq_true.mp hn v (List.mem_of_getElem? hv))]; exact h.2.2 i v hv hz⟩
/-- a step that calls nothing: what the table's step does, the machine does -/
def px_Sp (own : String) (cc : ByteArray) (nL pc : Nat) (f : px_F) : Prop :=
  ∀ (ls st : List Value) (σ : px_S) (q : Nat × List Value × List Value × px_S), f ls st σ = some q → px_le σ q.2.2.2 ∧
    ∀ (p : Program) (l : Launch) (e : Env) (R : Room) (s : State) (m : MethodId) (args : Array Value) (below : List Frame) (meth : Method) (c : Code) (H : Heap) (locs : List Loc) (cells slots : Nat) (Q : State → Prop) (D : va_G) (cs : px_C) (A : Nat → Prop) (ad : Nat → Nat) (lsM : Array Slot),
      CallFix p m c cc nL s args px_TB own → 1 ≤ R.frames → 44 ≤ R.locals → px_R D cs A s ad σ H locs → px_L ad nL ls lsM →
      cells + (px_cc q.2.2.2 - px_cc σ) ≤ R.cells → slots + (px_cs q.2.2.2 - px_cs σ) ≤ R.slots →
      (∀ (ad' : Nat → Nat) (H' : Heap) (locs' : List Loc) (lsM' : Array Slot), (∀ k, k ≠ 33 → ad' k = ad k) → px_R D cs A s ad' q.2.2.2 H' locs' → px_L ad' nL q.2.1 lsM' →
        W p l e R s m args below meth c H' locs' (cells + (px_cc q.2.2.2 - px_cc σ)) (slots + (px_cs q.2.2.2 - px_cs σ)) Q (F0 m q.1 lsM' (q.2.2.1.map (px_mv ad')))) →
      W p l e R s m args below meth c H locs cells slots Q (F0 m pc lsM (st.map (px_mv ad)))
/-- a step that leaves the state -/
def px_Sq (own : String) (cc : ByteArray) (nL pc : Nat) (f : px_F) : Prop :=
  ∀ (ls st : List Value) (σ : px_S) (q : Nat × List Value × List Value × px_S), f ls st σ = some q → q.2.2.2 = σ ∧
    ∀ (p : Program) (l : Launch) (e : Env) (R : Room) (s : State) (m : MethodId) (args : Array Value) (below : List Frame) (meth : Method) (c : Code) (H : Heap) (locs : List Loc) (cells slots : Nat) (Q : State → Prop) (D : va_G) (cs : px_C) (A : Nat → Prop) (ad : Nat → Nat) (lsM : Array Slot),
      CallFix p m c cc nL s args px_TB own → 1 ≤ R.frames → 44 ≤ R.locals → cells ≤ R.cells → slots ≤ R.slots → px_R D cs A s ad σ H locs → px_L ad nL ls lsM →
      (∀ lsM' : Array Slot, px_L ad nL q.2.1 lsM' → W p l e R s m args below meth c H locs cells slots Q (F0 m q.1 lsM' (q.2.2.1.map (px_mv ad)))) →
      W p l e R s m args below meth c H locs cells slots Q (F0 m pc lsM (st.map (px_mv ad)))
theorem px_Sp.of {own : String} {cc : ByteArray} {nL pc : Nat} {f : px_F} (h : px_Sq own cc nL pc f) : px_Sp own cc nL pc f := by
  intro ls st σ q hq
  obtain ⟨e0, h1⟩ := h ls st σ q hq
  refine ⟨by rw [e0]; exact ⟨Nat.le_refl _, Nat.le_refl _⟩, ?_⟩
  intro p l e R s m args below meth c H locs cells slots Q D cs A ad lsM C h2 h3 hR hL h4 h5 k
  rw [e0] at h4 h5 k
  simp only [Nat.sub_self, Nat.add_zero] at h4 h5 k
  exact h1 p l e R s m args below meth c H locs cells slots Q D cs A ad lsM C h2 h3 h4 h5 hR hL (fun lsM' hL' => k ad H locs lsM' (fun _ _ => rfl) hR hL')
