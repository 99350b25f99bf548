/-! ===== rows found breadth first (pure) ===== -/
theorem b_snoc : ∀ l : List Nat, l = [] ∨ ∃ L b, l = L ++ [b]
  | [] => Or.inl rfl
  | a :: l => by
    right
    rcases b_snoc l with h | ⟨L, b, h⟩
    · exact ⟨[], a, by rw [h]; rfl⟩
    · exact ⟨a :: L, b, by rw [h]; rfl⟩
theorem b_go_app {ln : Nat → Nat} {tx : Nat → Nat → Nat} {w : Nat} : ∀ (r : List Nat) (u : Nat → Nat), q_go ln tx u (r ++ [w]) = q_mv ln tx (q_go ln tx u r) w
  | [], _ => rfl
  | v :: r, u => b_go_app r (q_mv ln tx u v)
theorem b_ok_app {ln : Nat → Nat} {tx : Nat → Nat → Nat} {w : Nat} : ∀ (r : List Nat) (u : Nat → Nat), q_ok ln tx u (r ++ [w]) ↔ (q_ok ln tx u r ∧ q_hd ln tx (q_go ln tx u r) w)
  | [], u => ⟨fun h => ⟨trivial, h.1⟩, fun h => ⟨h.2, trivial⟩⟩
  | v :: r, u => by
    have ih := b_ok_app (ln := ln) (tx := tx) (w := w) r (q_mv ln tx u v)
    constructor
    · intro h; exact ⟨⟨h.1, (ih.mp h.2).1⟩, (ih.mp h.2).2⟩
    · intro h; exact ⟨h.1.1, ih.mpr ⟨h.1.2, h.2⟩⟩
theorem b_lx_app : ∀ s t : List Nat, s.length = t.length → q_lx s t → s ≠ t → ∀ x y, q_lx (s ++ x) (t ++ y)
  | [], [], _, _, h, _, _ => absurd rfl h
  | [], _ :: _, h, _, _, _, _ => by cases h
  | _ :: _, [], h, _, _, _, _ => by cases h
  | a :: s, b :: t, hl, h, hne, x, y => by
    rcases h with h | ⟨h1, h2⟩
    · exact Or.inl h
    · exact Or.inr ⟨h1, b_lx_app s t (by simpa using hl) h2 (fun e => hne (by rw [h1, e])) x y⟩
theorem b_lx_same {v w : Nat} (h : v ≤ w) : ∀ s : List Nat, q_lx (s ++ [v]) (s ++ [w])
  | [] => by
    rcases Nat.lt_or_ge v w with z | z
    · exact Or.inl z
    · exact Or.inr ⟨by omega, trivial⟩
  | _ :: s => Or.inr ⟨rfl, b_lx_same h s⟩
theorem b_lx_pre {v w : Nat} : ∀ s t : List Nat, s.length = t.length → q_lx (s ++ [v]) (t ++ [w]) → q_lx s t ∧ (s = t → v ≤ w)
  | [], [], _, h => by
    refine ⟨trivial, fun _ => ?_⟩
    rcases h with h | ⟨h, -⟩ <;> omega
  | [], _ :: _, h, _ => by cases h
  | _ :: _, [], h, _ => by cases h
  | a :: s, b :: t, hl, h => by
    rcases h with h | ⟨h1, h2⟩
    · exact ⟨Or.inl h, fun e => by have := (List.cons.inj e).1; omega⟩
    · obtain ⟨g1, g2⟩ := b_lx_pre s t (by simpa using hl) h2
      exact ⟨Or.inr ⟨h1, g1⟩, fun e => g2 (List.cons.inj e).2⟩
def b_lt (s t : List Nat) : Prop := q_sl s t ∧ s ≠ t
theorem b_app {s t : List Nat} {v w : Nat} (h : b_lt s t) : b_lt (s ++ [v]) (t ++ [w]) := by
  obtain ⟨h, hne⟩ := h
  refine ⟨?_, fun e => hne (List.append_inj_left' e rfl)⟩
  rcases h with h | ⟨h1, h2⟩
  · exact Or.inl (by simp; omega)
  · exact Or.inr ⟨by simp; omega, b_lx_app s t h1 h2 hne _ _⟩
theorem b_app2 {s : List Nat} {v w : Nat} (h : v < w) : b_lt (s ++ [v]) (s ++ [w]) :=
  ⟨Or.inr ⟨by simp, b_lx_same (by omega) s⟩, fun e => by have := List.append_cancel_left e; cases this; omega⟩
theorem b_pre {s t : List Nat} {v w : Nat} (h : q_sl (s ++ [v]) (t ++ [w])) : q_sl s t ∧ (s = t → v ≤ w) := by
  rcases h with h | ⟨h1, h2⟩
  · simp at h
    exact ⟨Or.inl (by omega), fun e => by rw [e] at h; omega⟩
  · have hl : s.length = t.length := by simp at h1; omega
    obtain ⟨g1, g2⟩ := b_lx_pre s t hl h2
    exact ⟨Or.inr ⟨hl, g1⟩, g2⟩
theorem b_lt_tr {s t r : List Nat} (h1 : b_lt s t) (h2 : b_lt t r) : b_lt s r := ⟨q_sl_tr h1.1 h2.1, fun e => h1.2 (q_sl_anti h1.1 (by rw [e]; exact h2.1))⟩
/-- found: m states S with their rows R, each but the first from the state pr by the text wd; q of them are gone through, of the next one the texts below t -/
def b_D (ln : Nat → Nat) (tx : Nat → Nat → Nat) (m q t : Nat) (S : Nat → Nat → Nat) (R : Nat → List Nat) (pr wd : Nat → Nat) : Prop :=
  (0 < m ∧ S 0 = (fun _ => 0) ∧ R 0 = []) ∧
  (∀ j, j < m → (∀ k, S j k ≤ ln k) ∧ q_ok ln tx (fun _ => 0) (R j) ∧ q_go ln tx (fun _ => 0) (R j) = S j) ∧
  (∀ i j, i < j → j < m → b_lt (R i) (R j)) ∧
  (∀ i j, i < j → j < m → S i ≠ S j) ∧
  (∀ j, 0 < j → j < m → pr j < j ∧ (pr j < q ∨ (pr j = q ∧ wd j < t)) ∧ q_hd ln tx (S (pr j)) (wd j) ∧ R j = R (pr j) ++ [wd j] ∧ S j = q_mv ln tx (S (pr j)) (wd j)) ∧
  (∀ i v, (i < q ∨ (i = q ∧ v < t)) → i < m → q_hd ln tx (S i) v → ∃ j, j < m ∧ S j = q_mv ln tx (S i) v ∧ q_sl (R j) (R i ++ [v]))
section BD
variable {ln : Nat → Nat} {tx : Nat → Nat → Nat} {m q t : Nat} {S : Nat → Nat → Nat} {R : Nat → List Nat} {pr wd : Nat → Nat}
theorem b_D0 (pr wd : Nat → Nat) : b_D ln tx 1 0 0 (fun _ _ => 0) (fun _ => []) pr wd := by
  refine ⟨⟨by omega, rfl, rfl⟩, fun j hj => ⟨fun k => Nat.zero_le _, trivial, rfl⟩, fun i j h1 h2 => by omega, fun i j h1 h2 => by omega, fun j h1 h2 => by omega, fun i v h1 h2 => by omega⟩
/-- an index is told by its row -/
theorem b_D.ix (h : b_D ln tx m q t S R pr wd) {i j : Nat} (hi : i < m) (hj : j < m) (hs : q_sl (R i) (R j)) : i ≤ j := by
  rcases Nat.lt_or_ge j i with z | z
  · have := h.2.2.1 j i z hi
    exact absurd (q_sl_anti hs this.1) (fun e => this.2 e.symm)
  · exact z
/-- all rows that are not behind a found one lead to found states, by rows not behind them -/
theorem b_D.all (h : b_D ln tx m q t S R pr wd) : ∀ n (r : List Nat), r.length = n → q_ok ln tx (fun _ => 0) r → ∀ j0, j0 < m → q_sl r (R j0) → ∃ j, j < m ∧ S j = q_go ln tx (fun _ => 0) r ∧ q_sl (R j) r := by
  obtain ⟨⟨a1, a2, a3⟩, b, c, d, e, f⟩ := id h
  intro n
  induction n with
  | zero =>
    intro r hr hok j0 hj0 hs
    have er : r = [] := List.eq_nil_of_length_eq_zero hr
    subst er
    exact ⟨0, a1, by rw [a2]; rfl, by rw [a3]; exact q_sl_rf _⟩
  | succ n ih =>
    intro r hr hok j0 hj0 hs
    rcases b_snoc r with er | ⟨r', v, er⟩
    · rw [er] at hr; cases hr
    · subst er
      have hl : r'.length = n := by simp at hr; omega
      obtain ⟨hok1, hhd⟩ := (b_ok_app r' _).mp hok
      have hpos : 0 < j0 := by
        rcases Nat.eq_zero_or_pos j0 with z | z
        · rw [z, a3] at hs
          rcases hs with hs | ⟨hs, -⟩ <;> simp at hs
        · exact z
      obtain ⟨e1, e2, e3, e4, e5⟩ := e j0 hpos hj0
      rw [e4] at hs
      obtain ⟨p1, p2⟩ := b_pre hs
      obtain ⟨i, i1, i2, i3⟩ := ih r' hl hok1 (pr j0) (by omega) p1
      have hii : i ≤ pr j0 := h.ix i1 (by omega) (q_sl_tr i3 p1)
      have hdone : i < q ∨ (i = q ∧ v < t) := by
        rcases Nat.lt_or_ge i q with z | z
        · exact Or.inl z
        · have eq : pr j0 = q ∧ wd j0 < t := by omega
          have eiq : i = pr j0 := by omega
          rw [eiq] at i3
          have er' : r' = R (pr j0) := q_sl_anti p1 i3
          have := p2 er'
          exact Or.inr ⟨by omega, by omega⟩
      obtain ⟨j, j1, j2, j3⟩ := f i v hdone i1 (by rw [i2]; exact hhd)
      refine ⟨j, j1, by rw [j2, i2, b_go_app], q_sl_tr j3 ?_⟩
      by_cases hri : R i = r'
      · rw [hri]; exact q_sl_rf _
      · exact (b_app ⟨i3, hri⟩).1
theorem b_D.row (h : b_D ln tx m q t S R pr wd) {j : Nat} (hj : j < m) (he : q_end ln (S j)) : q_isR ln tx (fun _ => 0) (R j) := by
  obtain ⟨-, b2, b3⟩ := h.2.1 j hj
  refine ⟨⟨b2, by rw [b3]; exact he⟩, fun r hr => ?_⟩
  rcases q_sl_tot (R j) r with z | z
  · exact z
  · obtain ⟨i, i1, i2, i3⟩ := h.all r.length r rfl hr.1 j hj z
    have e : S i = S j := by
      rw [i2]
      funext k
      by_cases hk : k < 4
      · rw [hr.2 k hk, he k hk]
      · have g : ∀ (r : List Nat) (u : Nat → Nat), q_go ln tx u r k = u k := by
          intro r
          induction r with
          | nil => intro u; rfl
          | cons w r ih => intro u; rw [q_go, ih]; unfold q_mv; rw [if_neg (fun z => hk z.1)]
        rw [g, ← b3, g]
    have eij : i = j := by
      rcases Nat.lt_trichotomy i j with z | z | z
      · exact absurd e (h.2.2.2.1 i j z hj)
      · exact z
      · exact absurd e.symm (h.2.2.2.1 j i z i1)
    rw [eij] at i3
    exact i3
/-- when all that was found is gone through, the end is found -/
theorem b_D.done (h : b_D ln tx m q t S R pr wd) (hq : m ≤ q) (hex : ∃ r, q_to ln tx (fun _ => 0) r) : ∃ j, j < m ∧ q_end ln (S j) := by
  obtain ⟨⟨a1, a2, a3⟩, b, c, d, e, f⟩ := id h
  have key : ∀ n (r : List Nat), r.length = n → q_ok ln tx (fun _ => 0) r → ∃ j, j < m ∧ S j = q_go ln tx (fun _ => 0) r := by
    intro n
    induction n with
    | zero =>
      intro r hr hok
      have er : r = [] := List.eq_nil_of_length_eq_zero hr
      subst er
      exact ⟨0, a1, by rw [a2]; rfl⟩
    | succ n ih =>
      intro r hr hok
      rcases b_snoc r with er | ⟨r', v, er⟩
      · rw [er] at hr; cases hr
      · subst er
        obtain ⟨hok1, hhd⟩ := (b_ok_app r' _).mp hok
        obtain ⟨i, i1, i2⟩ := ih r' (by simp at hr; omega) hok1
        obtain ⟨j, j1, j2, -⟩ := f i v (Or.inl (by omega)) i1 (by rw [i2]; exact hhd)
        exact ⟨j, j1, by rw [j2, i2, b_go_app]⟩
  obtain ⟨r, hr⟩ := hex
  obtain ⟨j, j1, j2⟩ := key _ r rfl hr.1
  exact ⟨j, j1, by rw [j2]; exact hr.2⟩
theorem b_D.next (h : b_D ln tx m q t S R pr wd) (ha : ∀ v, q_hd ln tx (S q) v → v < t) : b_D ln tx m (q + 1) 0 S R pr wd := by
  obtain ⟨a, b, c, d, e, f⟩ := h
  refine ⟨a, b, c, d, fun j j1 j2 => ?_, fun i v hi him hv => ?_⟩
  · obtain ⟨e1, e2, e3⟩ := e j j1 j2
    exact ⟨e1, Or.inl (by omega), e3⟩
  · rcases Nat.lt_or_ge i q with z | z
    · exact f i v (Or.inl z) him hv
    · have : i = q := by omega
      subst this
      exact f i v (Or.inr ⟨rfl, ha v hv⟩) him hv
theorem b_D.skip (h : b_D ln tx m q t S R pr wd) {w j : Nat} (hq : q < m) (hw : q_hd ln tx (S q) w) (htw : t ≤ w) (hno : ∀ v, q_hd ln tx (S q) v → v < w → v < t) (hj : j < m) (hS : S j = q_mv ln tx (S q) w) : b_D ln tx m q (w + 1) S R pr wd := by
  obtain ⟨a, b, c, d, e, f⟩ := h
  refine ⟨a, b, c, d, fun j j1 j2 => ?_, fun i v hi him hv => ?_⟩
  · obtain ⟨e1, e2, e3⟩ := e j j1 j2
    exact ⟨e1, by omega, e3⟩
  · rcases hi with hi | ⟨hi, hvw⟩
    · exact f i v (Or.inl hi) him hv
    · subst hi
      by_cases hvw2 : v < w
      · exact f i v (Or.inr ⟨rfl, hno v hv hvw2⟩) him hv
      · have : v = w := by omega
        subst this
        refine ⟨j, hj, hS, ?_⟩
        rcases Nat.eq_zero_or_pos j with z | z
        · rw [z, a.2.2]; exact Or.inl (by simp)
        · obtain ⟨e1, e2, e3, e4, e5⟩ := e j z hj
          rw [e4]
          rcases e2 with e2 | ⟨e2, e6⟩
          · exact (b_app (c (pr j) i e2 hq)).1
          · rw [e2]; exact (b_app2 (by omega)).1
theorem b_D.add (h : b_D ln tx m q t S R pr wd) {w : Nat} (hq : q < m) (hw : q_hd ln tx (S q) w) (htw : t ≤ w) (hno : ∀ v, q_hd ln tx (S q) v → v < w → v < t) (hnew : ∀ j, j < m → S j ≠ q_mv ln tx (S q) w) : b_D ln tx (m + 1) q (w + 1) (va_up S m (q_mv ln tx (S q) w)) (va_up R m (R q ++ [w])) (va_up pr m q) (va_up wd m w) := by
  obtain ⟨⟨a1, a2, a3⟩, b, c, d, e, f⟩ := h
  have sS : ∀ j, j < m → va_up S m (q_mv ln tx (S q) w) j = S j := fun j hj => va_up_ne _ _ (by omega)
  have sR : ∀ j, j < m → va_up R m (R q ++ [w]) j = R j := fun j hj => va_up_ne _ _ (by omega)
  have sp : ∀ j, j < m → va_up pr m q j = pr j := fun j hj => va_up_ne _ _ (by omega)
  have sw : ∀ j, j < m → va_up wd m w j = wd j := fun j hj => va_up_ne _ _ (by omega)
  refine ⟨⟨by omega, by rw [sS 0 a1]; exact a2, by rw [sR 0 a1]; exact a3⟩, fun j hj => ?_, fun i j hij hj => ?_, fun i j hij hj => ?_, fun j j1 j2 => ?_, fun i v hi him hv => ?_⟩
  · by_cases hjm : j = m
    · subst hjm
      rw [va_up_self, va_up_self]
      obtain ⟨b1, b2, b3⟩ := b q hq
      exact ⟨q_mv_in b1, (b_ok_app _ _).mpr ⟨b2, by rw [b3]; exact hw⟩, by rw [b_go_app, b3]⟩
    · rw [sS j (by omega), sR j (by omega)]; exact b j (by omega)
  · by_cases hjm : j = m
    · subst hjm
      rw [va_up_self, sR i hij]
      rcases Nat.eq_zero_or_pos i with z | z
      · rw [z, a3]; exact ⟨Or.inl (by simp), fun e => by have := congrArg List.length e; simp at this⟩
      · obtain ⟨e1, e2, e3, e4, e5⟩ := e i z hij
        rw [e4]
        rcases e2 with e2 | ⟨e2, e6⟩
        · exact b_app (c (pr i) q e2 hq)
        · rw [e2]; exact b_app2 (by omega)
    · rw [sR j (by omega), sR i (by omega)]; exact c i j hij (by omega)
  · by_cases hjm : j = m
    · subst hjm
      rw [va_up_self, sS i hij]; exact hnew i hij
    · rw [sS j (by omega), sS i (by omega)]; exact d i j hij (by omega)
  · by_cases hjm : j = m
    · subst hjm
      rw [va_up_self, va_up_self, va_up_self, va_up_self, sS q hq, sR q hq]
      exact ⟨hq, Or.inr ⟨rfl, by omega⟩, hw, rfl, rfl⟩
    · obtain ⟨e1, e2, e3, e4, e5⟩ := e j j1 (by omega)
      rw [sp j (by omega), sw j (by omega), sS j (by omega), sR j (by omega), sS (pr j) (by omega), sR (pr j) (by omega)]
      exact ⟨e1, by omega, e3, e4, e5⟩
  · have himm : i < m := by omega
    rw [sS i himm] at hv ⊢
    rw [sR i himm]
    have lift : (∃ j, j < m ∧ S j = q_mv ln tx (S i) v ∧ q_sl (R j) (R i ++ [v])) → ∃ j, j < m + 1 ∧ va_up S m (q_mv ln tx (S q) w) j = q_mv ln tx (S i) v ∧ q_sl (va_up R m (R q ++ [w]) j) (R i ++ [v]) := by
      rintro ⟨j, j1, j2, j3⟩
      exact ⟨j, by omega, by rw [sS j j1]; exact j2, by rw [sR j j1]; exact j3⟩
    rcases hi with hi | ⟨hi, hvw⟩
    · exact lift (f i v (Or.inl hi) himm hv)
    · subst hi
      by_cases hvw2 : v < w
      · exact lift (f i v (Or.inr ⟨rfl, hno v hv hvw2⟩) himm hv)
      · have : v = w := by omega
        subst this
        exact ⟨m, by omega, by rw [va_up_self], by rw [va_up_self]; exact q_sl_rf _⟩
end BD
/-! states as numbers -/
def b_e (u : Nat → Nat) : Nat := u 0 + 16 * u 1 + 256 * u 2 + 4096 * u 3
def b_16 (k : Nat) : Nat := if k = 0 then 1 else if k = 1 then 16 else if k = 2 then 256 else 4096
theorem b_e_dig {u : Nat → Nat} (hu : ∀ k, u k ≤ 15) {k : Nat} (hk : k < 4) : b_e u / b_16 k % 16 = u k := by
  have h0 := hu 0; have h1 := hu 1; have h2 := hu 2; have h3 := hu 3
  have kk : k = 0 ∨ k = 1 ∨ k = 2 ∨ k = 3 := by omega
  unfold b_e
  rcases kk with rfl | rfl | rfl | rfl
  · show (u 0 + 16 * u 1 + 256 * u 2 + 4096 * u 3) / 1 % 16 = u 0; omega
  · show (u 0 + 16 * u 1 + 256 * u 2 + 4096 * u 3) / 16 % 16 = u 1; omega
  · show (u 0 + 16 * u 1 + 256 * u 2 + 4096 * u 3) / 256 % 16 = u 2; omega
  · show (u 0 + 16 * u 1 + 256 * u 2 + 4096 * u 3) / 4096 % 16 = u 3; omega
theorem b_e_inj {u v : Nat → Nat} (hu : ∀ k, u k ≤ 15) (hv : ∀ k, v k ≤ 15) (h4 : ∀ k, 4 ≤ k → u k = v k) (h : b_e u = b_e v) : u = v := by
  funext k
  by_cases hk : k < 4
  · rw [← b_e_dig hu hk, ← b_e_dig hv hk, h]
  · exact h4 k (by omega)
/-- the step of a text -/
def b_a (ln : Nat → Nat) (tx : Nat → Nat → Nat) (u : Nat → Nat) (w k : Nat) : Nat := if k < 4 ∧ u k < ln k ∧ tx k (u k) = w then 1 else 0
theorem b_a_le {ln : Nat → Nat} {tx : Nat → Nat → Nat} {u : Nat → Nat} {w : Nat} (k : Nat) : b_a ln tx u w k ≤ 1 := by unfold b_a; split <;> omega
def b_st (ln : Nat → Nat) (tx : Nat → Nat → Nat) (u : Nat → Nat) (w : Nat) : Nat := b_e (b_a ln tx u w)
theorem b_st_mv {ln : Nat → Nat} {tx : Nat → Nat → Nat} {u : Nat → Nat} {w : Nat} : b_e (q_mv ln tx u w) = b_e u + b_st ln tx u w := by
  have key : ∀ k, q_mv ln tx u w k = u k + b_a ln tx u w k := fun k => by
    unfold q_mv b_a
    by_cases h : k < 4 ∧ u k < ln k ∧ tx k (u k) = w
    · rw [if_pos h, if_pos h]
    · rw [if_neg h, if_neg h, Nat.add_zero]
  unfold b_st b_e
  rw [key 0, key 1, key 2, key 3]
  omega
theorem b_st_pos {ln : Nat → Nat} {tx : Nat → Nat → Nat} {u : Nat → Nat} {w : Nat} (h : q_hd ln tx u w) : 0 < b_st ln tx u w ∧ b_st ln tx u w ≤ 4369 := by
  obtain ⟨k, hk, h1, h2⟩ := h
  have e : b_a ln tx u w k = 1 := if_pos ⟨hk, h1, h2⟩
  have l0 := b_a_le (ln := ln) (tx := tx) (u := u) (w := w) 0
  have l1 := b_a_le (ln := ln) (tx := tx) (u := u) (w := w) 1
  have l2 := b_a_le (ln := ln) (tx := tx) (u := u) (w := w) 2
  have l3 := b_a_le (ln := ln) (tx := tx) (u := u) (w := w) 3
  unfold b_st b_e
  have kk : k = 0 ∨ k = 1 ∨ k = 2 ∨ k = 3 := by omega
  rcases kk with rfl | rfl | rfl | rfl <;> omega
