/-! ===== reasoning on the pure machine: what a run comes to ===== -/
/-- from a place of a table (calls at depth d), the run ends, with Q -/
def Wp (d : Nat) (tb : List (Nat × px_I)) (pc : Nat) (ls st : List Value) (σ : px_S) (Q : Option Value → px_S → Prop) : Prop :=
  ∃ (r : Option Value) (τ : px_S), Q r τ ∧ ∃ f0, ∀ f, f0 ≤ f → ∀ n, f0 ≤ n → px_run (px_call px_P d f) tb n pc ls st σ = some (r, τ)
/-- a call at depth d ends, with Q -/
def Cw (d μ : Nat) (vs : List Value) (σ : px_S) (Q : Option Value → px_S → Prop) : Prop :=
  ∃ (r : Option Value) (τ : px_S), Q r τ ∧ ∃ f0, ∀ f, f0 ≤ f → px_call px_P d f μ vs σ = some (r, τ)
theorem px_okc_mk {ci : Nat} {as rest ls : List Value} (h1 : (ci == 0 || (match as with
    | .ref k :: _ => (match px_ob[k]? with
      | some o => o.1 + 1 == ci
      | none => ci == 100 && decide (110 ≤ k ∧ k < 117))
    | _ => false)) = true) (h2 : decide (px_cat rest ≤ 8) = true) (h3 : rest.all px_nc = true) (h4 : ls.all px_nc = true) : px_okc ci as rest ls = true := by
  unfold px_okc
  rw [h2, h3, h4, Bool.and_true, Bool.and_true, Bool.and_true]
  exact h1
section WP
variable {d : Nat} {tb : List (Nat × px_I)} {pc : Nat} {ls st : List Value} {σ : px_S} {Q Q' : Option Value → px_S → Prop}
theorem Wp.mono (h : Wp d tb pc ls st σ Q) (hq : ∀ r τ, Q r τ → Q' r τ) : Wp d tb pc ls st σ Q' := by
  obtain ⟨r, τ, h1, h2⟩ := h
  exact ⟨r, τ, hq r τ h1, h2⟩
theorem Cw.mono {μ : Nat} {vs : List Value} (h : Cw d μ vs σ Q) (hq : ∀ r τ, Q r τ → Q' r τ) : Cw d μ vs σ Q' := by
  obtain ⟨r, τ, h1, h2⟩ := h
  exact ⟨r, τ, hq r τ h1, h2⟩
theorem Wp.step {f : px_F} {q : Nat × List Value × List Value × px_S} (hl : px_look tb pc = some (.inl f)) (hf : f ls st σ = some q) (w : Wp d tb q.1 q.2.1 q.2.2.1 q.2.2.2 Q) : Wp d tb pc ls st σ Q := by
  obtain ⟨r, τ, h1, f0, h2⟩ := w
  refine ⟨r, τ, h1, f0 + 1, fun f hf' n hn => ?_⟩
  obtain ⟨n, rfl⟩ : ∃ k, n = k + 1 := ⟨n - 1, by omega⟩
  unfold px_run
  rw [hl]
  dsimp only
  rw [hf]
  exact h2 f (by omega) n (by omega)
/-- some steps at once -/
def px_adv (tb : List (Nat × px_I)) : Nat → Nat → List Value → List Value → px_S → Option (Nat × List Value × List Value × px_S)
  | 0, pc, ls, st, σ => some (pc, ls, st, σ)
  | n + 1, pc, ls, st, σ => match px_look tb pc with
    | some (.inl f) => (match f ls st σ with
      | some q => px_adv tb n q.1 q.2.1 q.2.2.1 q.2.2.2
      | none => none)
    | _ => none
theorem Wp.adv (k : Nat) : ∀ {pc : Nat} {ls st : List Value} {σ : px_S} {pc' : Nat} {ls' st' : List Value} {σ' : px_S}, px_adv tb k pc ls st σ = some (pc', ls', st', σ') → Wp d tb pc' ls' st' σ' Q → Wp d tb pc ls st σ Q := by
  induction k with
  | zero => intro pc ls st σ pc' ls' st' σ' h w; cases h; exact w
  | succ k ih =>
    intro pc ls st σ pc' ls' st' σ' h w
    unfold px_adv at h
    split at h
    · rename_i f hf
      split at h
      · rename_i q hq
        exact Wp.step hf hq (ih h w)
      · cases h
    · cases h
theorem Wp.if_ {n t : Nat} {c : Int32 → Prop} [DecidablePred c] {x : Int32} (hl : px_look tb pc = some (.inl (pi_if n t c))) (ht : c x → Wp d tb t ls st σ Q) (hf : ¬ c x → Wp d tb n ls st σ Q) : Wp d tb pc ls (.int x :: st) σ Q := by
  refine Wp.step hl rfl ?_
  dsimp only
  split
  · rename_i h; exact ht h
  · rename_i h; exact hf h
theorem Wp.icmp {n t : Nat} {c : Int32 → Int32 → Prop} [∀ x y, Decidable (c x y)] {x y : Int32} (hl : px_look tb pc = some (.inl (pi_icmp n t c))) (ht : c x y → Wp d tb t ls st σ Q) (hf : ¬ c x y → Wp d tb n ls st σ Q) : Wp d tb pc ls (.int y :: .int x :: st) σ Q := by
  refine Wp.step hl rfl ?_
  dsimp only
  split
  · rename_i h; exact ht h
  · rename_i h; exact hf h
theorem Wp.binz {n : Nat} {f : Int32 → Int32 → Int32} {x y : Int32} (hl : px_look tb pc = some (.inl (pi_binz n f))) (hy : ¬ y = 0) (w : Wp d tb n ls (.int (f x y) :: st) σ Q) : Wp d tb pc ls (.int y :: .int x :: st) σ Q := by
  refine Wp.step (q := (n, ls, .int (f x y) :: st, σ)) hl ?_ w
  simp [pi_binz, hy]
theorem Wp.iald {n k N : Nat} {i : Int32} (hl : px_look tb pc = some (.inl (pi_ald n 0))) (ha : px_at σ 0 k = some N) (hi : ¬ (i < 0 ∨ N ≤ i.toNatClampNeg)) (w : Wp d tb n ls (.int (σ.1 k i.toNatClampNeg) :: st) σ Q) : Wp d tb pc ls (.int i :: .ref k :: st) σ Q := by
  refine Wp.step (q := (n, ls, .int (σ.1 k i.toNatClampNeg) :: st, σ)) hl ?_ w
  simp [pi_ald, ha, hi]
theorem Wp.zald {n k N : Nat} {i : Int32} (hl : px_look tb pc = some (.inl (pi_ald n 2))) (ha : px_at σ 2 k = some N) (hi : ¬ (i < 0 ∨ N ≤ i.toNatClampNeg)) (w : Wp d tb n ls (.int (σ.1 k i.toNatClampNeg) :: st) σ Q) : Wp d tb pc ls (.int i :: .ref k :: st) σ Q := by
  refine Wp.step (q := (n, ls, .int (σ.1 k i.toNatClampNeg) :: st, σ)) hl ?_ w
  simp [pi_ald, ha, hi]
theorem Wp.lald {n k N : Nat} {i : Int32} (hl : px_look tb pc = some (.inl (pi_ald n 1))) (ha : px_at σ 1 k = some N) (hi : ¬ (i < 0 ∨ N ≤ i.toNatClampNeg)) (w : Wp d tb n ls (.long (σ.2.1 k i.toNatClampNeg) :: st) σ Q) : Wp d tb pc ls (.int i :: .ref k :: st) σ Q := by
  refine Wp.step (q := (n, ls, .long (σ.2.1 k i.toNatClampNeg) :: st, σ)) hl ?_ w
  simp [pi_ald, ha, hi]
theorem Wp.iast {n k N : Nat} {i x : Int32} (hl : px_look tb pc = some (.inl (pi_ast n 0))) (ha : px_at σ 0 k = some N) (hi : ¬ (i < 0 ∨ N ≤ i.toNatClampNeg)) (w : Wp d tb n ls st (px_uI σ k i.toNatClampNeg x) Q) : Wp d tb pc ls (.int x :: .int i :: .ref k :: st) σ Q := by
  refine Wp.step (q := (n, ls, st, px_uI σ k i.toNatClampNeg x)) hl ?_ w
  simp [pi_ast, ha, hi]
theorem Wp.zast {n k N : Nat} {i x : Int32} (hl : px_look tb pc = some (.inl (pi_ast n 2))) (ha : px_at σ 2 k = some N) (hx : x = 0 ∨ x = 1) (hi : ¬ (i < 0 ∨ N ≤ i.toNatClampNeg)) (w : Wp d tb n ls st (px_uI σ k i.toNatClampNeg x) Q) : Wp d tb pc ls (.int x :: .int i :: .ref k :: st) σ Q := by
  refine Wp.step (q := (n, ls, st, px_uI σ k i.toNatClampNeg x)) hl ?_ w
  simp [pi_ast, ha, hi, hx]
theorem Wp.last {n k N : Nat} {i : Int32} {x : Int64} (hl : px_look tb pc = some (.inl (pi_ast n 1))) (ha : px_at σ 1 k = some N) (hi : ¬ (i < 0 ∨ N ≤ i.toNatClampNeg)) (w : Wp d tb n ls st (px_uL σ k i.toNatClampNeg x) Q) : Wp d tb pc ls (.long x :: .int i :: .ref k :: st) σ Q := by
  refine Wp.step (q := (n, ls, st, px_uL σ k i.toNatClampNeg x)) hl ?_ w
  simp [pi_ast, ha, hi]
theorem Wp.rb {n : Nat} {i : Int32} (hl : px_look tb pc = some (.inl (pi_rb n))) (hi : ¬ (i < 0 ∨ 5 ≤ i.toNatClampNeg)) (w : Wp d tb n ls (.int (px_RB i.toNatClampNeg) :: st) σ Q) : Wp d tb pc ls (.int i :: .ref 101 :: st) σ Q := by
  refine Wp.step (q := (n, ls, .int (px_RB i.toNatClampNeg) :: st, σ)) hl ?_ w
  simp [pi_rb, hi]
theorem Wp.tsw {lo hi : Int} {dt : Nat} {ts : List Nat} {x : Int32} (hl : px_look tb pc = some (.inl (pi_tsw lo hi dt ts))) (hlen : lo + (ts.length : Int) = hi + 1) (h0 : x.toInt < lo ∨ hi < x.toInt → Wp d tb dt ls st σ Q) (h1 : ∀ (j t : Nat), ts[j]? = some t → x.toInt = lo + (j : Int) → Wp d tb t ls st σ Q) : Wp d tb pc ls (.int x :: st) σ Q := by
  by_cases h : x.toInt < lo ∨ hi < x.toInt
  · exact Wp.step (q := (dt, ls, st, σ)) hl (by simp [pi_tsw, h]) (h0 h)
  · have hj : (x.toInt - lo).toNat < ts.length := by omega
    obtain ⟨t, ht⟩ : ∃ t, ts[(x.toInt - lo).toNat]? = some t := ⟨_, List.getElem?_eq_getElem hj⟩
    refine Wp.step (q := (t, ls, st, σ)) hl ?_ (h1 _ t ht (by omega))
    simp only [pi_tsw, if_neg h, ht]
theorem Wp.newc {n : Nat} {x : Int32} (hl : px_look tb pc = some (.inl (pi_newc n))) (h1 : ¬ x < 0) (h2 : x.toNatClampNeg ≤ 100000) (h3 : ls.all px_nc = true) (h4 : st.all px_nc = true) (w : Wp d tb n ls st (px_nw σ x.toNatClampNeg) Q) : Wp d tb pc ls (.int x :: .ref 6 :: st) σ Q :=
  Wp.step (q := (n, ls, st, px_nw σ x.toNatClampNeg)) hl (by unfold pi_newc; exact if_pos ⟨rfl, h1, h2, h3, h4⟩) w
theorem Wp.call {q : Nat × Nat × Nat × Nat} (hl : px_look tb pc = some (.inr (.inl q))) (hn : q.2.1 ≤ st.length) (hok : px_okc q.2.2.1 (st.take q.2.1).reverse (st.drop q.2.1) ls = true) (w : Cw d q.1 (st.take q.2.1).reverse σ (fun r τ => Wp d tb q.2.2.2 ls (r.toList ++ st.drop q.2.1) τ Q)) : Wp d tb pc ls st σ Q := by
  obtain ⟨r, τ, ⟨r2, τ2, hQ, f1, h1⟩, f2, h2⟩ := w
  refine ⟨r2, τ2, hQ, f1 + f2 + 1, fun f hf n hn' => ?_⟩
  obtain ⟨n, rfl⟩ : ∃ k, n = k + 1 := ⟨n - 1, by omega⟩
  unfold px_run
  rw [hl]
  dsimp only
  rw [if_pos ⟨hn, hok⟩, h2 f (by omega)]
  exact h1 f (by omega) n (by omega)
theorem Wp.ret {g : List Value → Option (Option Value)} {r : Option Value} (hl : px_look tb pc = some (.inr (.inr g))) (hg : g st = some r) (hq : Q r σ) : Wp d tb pc ls st σ Q := by
  refine ⟨r, σ, hq, 1, fun f hf n hn => ?_⟩
  obtain ⟨n, rfl⟩ : ∃ k, n = k + 1 := ⟨n - 1, by omega⟩
  unfold px_run
  rw [hl]
  dsimp only
  rw [hg]
theorem Wp.zret {x : Int32} (hl : px_look tb pc = some (.inr (.inr pr_z))) (hx : x = 0 ∨ x = 1) (hq : Q (some (.int x)) σ) : Wp d tb pc ls [.int x] σ Q := Wp.ret hl (by simp [pr_z, hx]) hq
theorem Cw.of {μ nL : Nat} {vs : List Value} {y : MethodName} {cc : ByteArray} {rt : Option FieldType} (hP : px_P μ = (y, cc, nL, rt, tb)) (hn : (px_ents vs).length ≤ nL) (w : Wp d tb 0 (px_ents vs ++ List.replicate (nL - (px_ents vs).length) .null) [] σ Q) : Cw (d + 1) μ vs σ Q := by
  obtain ⟨r, τ, h1, f0, h2⟩ := w
  refine ⟨r, τ, h1, f0, fun f hf => ?_⟩
  unfold px_call
  rw [hP]
  dsimp only
  rw [if_pos hn]
  exact h2 f hf f hf
/-- a loop: by a measure that falls -/
theorem Wp.loop {α : Type} (I : α → Prop) (m : α → Nat) (w : α → Prop) (hs : ∀ a, I a → (∀ b, I b → m b < m a → w b) → w a) : ∀ a, I a → w a := by
  have key : ∀ n a, m a < n → I a → w a := by
    intro n
    induction n with
    | zero => intro a h; omega
    | succ n ih => intro a h ha; exact hs a ha (fun b hb hlt => ih b (by omega) hb)
  exact fun a ha => key (m a + 1) a (by omega) ha
end WP
