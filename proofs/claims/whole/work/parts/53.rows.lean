/-! ===== texts as numbers; rows in which all pieces stand ===== -/
def q_pkd (f : Nat → Nat) : Nat → Nat
  | 0 => 0
  | n + 1 => 64 * q_pkd f n + f n
def q_pn (t : List Nat) : Nat := q_pkd (fun k => t.getD k 0) 8
theorem q_pkd_lt {f : Nat → Nat} (hf : ∀ k, f k ≤ 63) : ∀ n, q_pkd f n < 64 ^ n
  | 0 => by rw [q_pkd]; decide
  | n + 1 => by have := q_pkd_lt hf n; have := hf n; rw [q_pkd, Nat.pow_succ]; omega
theorem q_pkd_div {f : Nat → Nat} (hf : ∀ k, f k ≤ 63) (m : Nat) : ∀ j, q_pkd f (m + j) / 64 ^ j = q_pkd f m
  | 0 => by rw [Nat.pow_zero, Nat.div_one]; rfl
  | j + 1 => by
    have h := hf (m + j)
    rw [← Nat.add_assoc, q_pkd, Nat.pow_succ, Nat.mul_comm (64 ^ j), ← Nat.div_div_eq_div_mul]
    rw [show (64 * q_pkd f (m + j) + f (m + j)) / 64 = q_pkd f (m + j) by omega]
    exact q_pkd_div hf m j
theorem q_pkd_dig {f : Nat → Nat} (hf : ∀ k, f k ≤ 63) {k : Nat} (hk : k < 8) : q_pkd f 8 / 64 ^ (7 - k) % 64 = f k := by
  have h := q_pkd_div hf (k + 1) (7 - k)
  rw [show k + 1 + (7 - k) = 8 by omega] at h
  rw [h, q_pkd]
  have := hf k
  omega
theorem q_pkd_lex {f g : Nat → Nat} (hf : ∀ k, f k ≤ 63) {k : Nat} (he : ∀ i, i < k → f i = g i) (hk : f k < g k) : ∀ n, k < n → q_pkd f n < q_pkd g n := by
  have eq : ∀ m, m ≤ k → q_pkd f m = q_pkd g m := by
    intro m
    induction m with
    | zero => intro _; rfl
    | succ m ih => intro hm; rw [q_pkd, q_pkd, ih (by omega), he m (by omega)]
  intro n
  induction n with
  | zero => intro h; omega
  | succ n ih =>
    intro hn
    rw [q_pkd, q_pkd]
    by_cases h : k = n
    · subst h; rw [eq k (Nat.le_refl _)]; omega
    · have := ih (by omega); have := hf n; omega
theorem q_pkd_eq {f g : Nat → Nat} : ∀ n, (∀ i, i < n → f i = g i) → q_pkd f n = q_pkd g n
  | 0, _ => rfl
  | n + 1, h => by rw [q_pkd, q_pkd, q_pkd_eq n (fun i hi => h i (by omega)), h n (by omega)]
theorem q_pn_lt {t : List Nat} (ht : q_words t) : q_pn t < 2 ^ 48 := q_pkd_lt (fun k => q_word_lt ht k) 8
theorem q_pn_dig {t : List Nat} (ht : q_words t) {k : Nat} (hk : k < 8) : q_pn t / 64 ^ (7 - k) % 64 = t.getD k 0 := q_pkd_dig (fun k => q_word_lt ht k) hk
theorem q_getD_ge {t : List Nat} {k : Nat} (h : t.length ≤ k) : t.getD k 0 = 0 := by
  rw [List.getD_eq_getElem?_getD, List.getElem?_eq_none h]; rfl
theorem q_getD_pos {t : List Nat} (ht : q_words t) {k : Nat} (h : k < t.length) : 1 ≤ t.getD k 0 := by
  rw [List.getD_eq_getElem?_getD, List.getElem?_eq_getElem h]
  exact (ht.2 _ (List.getElem_mem h)).1
theorem q_words_ext {s t : List Nat} (hs : q_words s) (ht : q_words t) (h : ∀ k, k < 8 → s.getD k 0 = t.getD k 0) : s = t := by
  have hl : s.length = t.length := by
    apply Decidable.byContradiction
    intro hne
    rcases Nat.lt_or_gt_of_ne hne with hlt | hlt
    · have h1 := h s.length (by have := ht.1; omega)
      have h2 := q_getD_pos ht hlt
      rw [q_getD_ge (Nat.le_refl _)] at h1; omega
    · have h1 := h t.length (by have := hs.1; omega)
      have h2 := q_getD_pos hs hlt
      rw [q_getD_ge (t := t) (Nat.le_refl _)] at h1; omega
  exact q_list_eq hl (fun k hk => h k (by have := hs.1; omega))
theorem q_pn_inj {s t : List Nat} (hs : q_words s) (ht : q_words t) (h : q_pn s = q_pn t) : s = t :=
  q_words_ext hs ht (fun k hk => by rw [← q_pn_dig hs hk, ← q_pn_dig ht hk, h])
/-- a text out of its number -/
def q_utf (w : Nat) : Nat → Nat → List Nat
  | 0, _ => []
  | m + 1, k => if w / 64 ^ (7 - k) % 64 = 0 then [] else (w / 64 ^ (7 - k) % 64) :: q_utf w m (k + 1)
def q_ut (w : Nat) : List Nat := q_utf w 8 0
theorem q_utf_pk {t : List Nat} (ht : q_words t) : ∀ m k, k + m = 8 → q_utf (q_pn t) m k = t.drop k
  | 0, k, hk => by rw [q_utf, List.drop_eq_nil_of_le (by have := ht.1; omega)]
  | m + 1, k, hk => by
    rw [q_utf, q_pn_dig ht (by omega)]
    by_cases h : k < t.length
    · have h1 := q_getD_pos ht h
      rw [if_neg (by omega), q_utf_pk ht m (k + 1) (by omega), List.drop_eq_getElem_cons h]
      congr 1
      rw [List.getD_eq_getElem?_getD, List.getElem?_eq_getElem h]; rfl
    · rw [if_pos (q_getD_ge (by omega)), List.drop_eq_nil_of_le (by omega)]
theorem q_ut_pk {t : List Nat} (ht : q_words t) : q_ut (q_pn t) = t := q_utf_pk ht 8 0 rfl
/-! ===== the pieces (ln: how many texts, tx: their numbers), states (how many are behind), rows ===== -/
def q_hd (ln : Nat → Nat) (tx : Nat → Nat → Nat) (u : Nat → Nat) (w : Nat) : Prop := ∃ k, k < 4 ∧ u k < ln k ∧ tx k (u k) = w
def q_mv (ln : Nat → Nat) (tx : Nat → Nat → Nat) (u : Nat → Nat) (w : Nat) : Nat → Nat := fun k => if k < 4 ∧ u k < ln k ∧ tx k (u k) = w then u k + 1 else u k
def q_go (ln : Nat → Nat) (tx : Nat → Nat → Nat) : (Nat → Nat) → List Nat → (Nat → Nat)
  | u, [] => u
  | u, w :: r => q_go ln tx (q_mv ln tx u w) r
def q_ok (ln : Nat → Nat) (tx : Nat → Nat → Nat) : (Nat → Nat) → List Nat → Prop
  | _, [] => True
  | u, w :: r => q_hd ln tx u w ∧ q_ok ln tx (q_mv ln tx u w) r
def q_end (ln : Nat → Nat) (u : Nat → Nat) : Prop := ∀ k, k < 4 → u k = ln k
def q_to (ln : Nat → Nat) (tx : Nat → Nat → Nat) (u : Nat → Nat) (r : List Nat) : Prop := q_ok ln tx u r ∧ q_end ln (q_go ln tx u r)
def q_lx : List Nat → List Nat → Prop
  | [], _ => True
  | _ :: _, [] => False
  | a :: s, b :: t => a < b ∨ (a = b ∧ q_lx s t)
/-- shorter, or as long and not behind -/
def q_sl (s t : List Nat) : Prop := s.length < t.length ∨ (s.length = t.length ∧ q_lx s t)
theorem q_lx_rf : ∀ s, q_lx s s
  | [] => trivial
  | _ :: s => Or.inr ⟨rfl, q_lx_rf s⟩
theorem q_lx_anti : ∀ s t, s.length = t.length → q_lx s t → q_lx t s → s = t
  | [], [], _, _, _ => rfl
  | [], _ :: _, h, _, _ => by cases h
  | _ :: _, [], h, _, _ => by cases h
  | a :: s, b :: t, h, h1, h2 => by
    rcases h1 with h1 | ⟨h1, h3⟩
    · rcases h2 with h2 | ⟨h2, h4⟩ <;> omega
    · rcases h2 with h2 | ⟨h2, h4⟩
      · omega
      · rw [h1, q_lx_anti s t (by simpa using h) h3 h4]
theorem q_lx_tr : ∀ s t r, q_lx s t → q_lx t r → q_lx s r
  | [], _, _, _, _ => trivial
  | _ :: _, [], _, h, _ => h.elim
  | _ :: _, _ :: _, [], _, h => h.elim
  | a :: s, b :: t, c :: r, h1, h2 => by
    rcases h1 with h1 | ⟨h1, h3⟩ <;> rcases h2 with h2 | ⟨h2, h4⟩
    · exact Or.inl (by omega)
    · exact Or.inl (by omega)
    · exact Or.inl (by omega)
    · exact Or.inr ⟨by omega, q_lx_tr s t r h3 h4⟩
theorem q_lx_tot : ∀ s t, s.length = t.length → q_lx s t ∨ q_lx t s
  | [], _, _ => Or.inl trivial
  | _ :: _, [], h => by cases h
  | a :: s, b :: t, h => by
    rcases Nat.lt_or_ge a b with h1 | h1
    · exact Or.inl (Or.inl h1)
    · rcases Nat.lt_or_ge b a with h2 | h2
      · exact Or.inr (Or.inl h2)
      · have e : a = b := by omega
        rcases q_lx_tot s t (by simpa using h) with h3 | h3
        · exact Or.inl (Or.inr ⟨e, h3⟩)
        · exact Or.inr (Or.inr ⟨e.symm, h3⟩)
theorem q_sl_rf (s : List Nat) : q_sl s s := Or.inr ⟨rfl, q_lx_rf s⟩
theorem q_sl_anti {s t : List Nat} (h1 : q_sl s t) (h2 : q_sl t s) : s = t := by
  rcases h1 with h1 | ⟨h1, h3⟩ <;> rcases h2 with h2 | ⟨h2, h4⟩
  · omega
  · omega
  · omega
  · exact q_lx_anti s t h1 h3 h4
theorem q_sl_tr {s t r : List Nat} (h1 : q_sl s t) (h2 : q_sl t r) : q_sl s r := by
  rcases h1 with h1 | ⟨h1, h3⟩ <;> rcases h2 with h2 | ⟨h2, h4⟩
  · exact Or.inl (by omega)
  · exact Or.inl (by omega)
  · exact Or.inl (by omega)
  · exact Or.inr ⟨by omega, q_lx_tr s t r h3 h4⟩
theorem q_sl_tot (s t : List Nat) : q_sl s t ∨ q_sl t s := by
  rcases Nat.lt_trichotomy s.length t.length with h | h | h
  · exact Or.inl (Or.inl h)
  · rcases q_lx_tot s t h with h2 | h2
    · exact Or.inl (Or.inr ⟨h, h2⟩)
    · exact Or.inr (Or.inr ⟨h.symm, h2⟩)
  · exact Or.inr (Or.inl h)
/-- the row that is sought: to the end, none before it -/
def q_isR (ln : Nat → Nat) (tx : Nat → Nat → Nat) (u : Nat → Nat) (r : List Nat) : Prop := q_to ln tx u r ∧ ∀ s, q_to ln tx u s → q_sl r s
theorem q_isR_one {ln : Nat → Nat} {tx : Nat → Nat → Nat} {u : Nat → Nat} {r s : List Nat} (h1 : q_isR ln tx u r) (h2 : q_isR ln tx u s) : r = s := q_sl_anti (h1.2 s h2.1) (h2.2 r h1.1)
noncomputable def q_best (ln : Nat → Nat) (tx : Nat → Nat → Nat) : List Nat := Classical.epsilon (fun r => q_isR ln tx (fun _ => 0) r)
theorem q_best_eq {ln : Nat → Nat} {tx : Nat → Nat → Nat} {r : List Nat} (h : q_isR ln tx (fun _ => 0) r) : q_best ln tx = r := q_isR_one (Classical.epsilon_spec (p := fun r => q_isR ln tx (fun _ => 0) r) ⟨r, h⟩) h
def q_rem (ln : Nat → Nat) (u : Nat → Nat) : Nat := (ln 0 - u 0) + (ln 1 - u 1) + (ln 2 - u 2) + (ln 3 - u 3)
theorem q_mv_in {ln : Nat → Nat} {tx : Nat → Nat → Nat} {u : Nat → Nat} {w : Nat} (hu : ∀ k, u k ≤ ln k) : ∀ k, q_mv ln tx u w k ≤ ln k := by
  intro k
  unfold q_mv
  have := hu k
  split <;> omega
theorem q_mv_ge {ln : Nat → Nat} {tx : Nat → Nat → Nat} {u : Nat → Nat} {w : Nat} (k : Nat) : u k ≤ q_mv ln tx u w k ∧ q_mv ln tx u w k ≤ u k + 1 := by
  unfold q_mv
  split <;> omega
theorem q_mv_rem {ln : Nat → Nat} {tx : Nat → Nat → Nat} {u : Nat → Nat} {w : Nat} (h : q_hd ln tx u w) : q_rem ln (q_mv ln tx u w) < q_rem ln u := by
  obtain ⟨k, hk, h1, h2⟩ := h
  have g := fun i => q_mv_ge (ln := ln) (tx := tx) (u := u) (w := w) i
  have e : q_mv ln tx u w k = u k + 1 := by unfold q_mv; rw [if_pos ⟨hk, h1, h2⟩]
  have g0 := g 0; have g1 := g 1; have g2 := g 2; have g3 := g 3
  unfold q_rem
  have kk : k = 0 ∨ k = 1 ∨ k = 2 ∨ k = 3 := by omega
  rcases kk with q | q | q | q <;> subst q <;> omega
theorem q_end_dec (ln u : Nat → Nat) : q_end ln u ∨ ∃ k, k < 4 ∧ u k ≠ ln k := by
  by_cases h : q_end ln u
  · exact Or.inl h
  · right
    apply Classical.byContradiction
    intro hn
    exact h (fun k hk => Classical.byContradiction (fun hne => hn ⟨k, hk, hne⟩))
/-- each state has a row to the end -/
theorem q_to_ex {ln : Nat → Nat} {tx : Nat → Nat → Nat} : ∀ n (u : Nat → Nat), q_rem ln u ≤ n → (∀ k, u k ≤ ln k) → ∃ r, q_to ln tx u r ∧ r.length ≤ n := by
  intro n
  induction n with
  | zero =>
    intro u hn hu
    refine ⟨[], ⟨trivial, fun k hk => ?_⟩, Nat.le_refl _⟩
    have h := hu k
    show u k = ln k
    have kk : k = 0 ∨ k = 1 ∨ k = 2 ∨ k = 3 := by omega
    unfold q_rem at hn
    rcases kk with q | q | q | q <;> subst q <;> omega
  | succ n ih =>
    intro u hn hu
    rcases q_end_dec ln u with he | ⟨k, hk, hne⟩
    · exact ⟨[], ⟨trivial, he⟩, Nat.zero_le _⟩
    · have hd : q_hd ln tx u (tx k (u k)) := ⟨k, hk, by have := hu k; omega, rfl⟩
      obtain ⟨r, hr, hl⟩ := ih (q_mv ln tx u (tx k (u k))) (by have := q_mv_rem hd; omega) (q_mv_in hu)
      exact ⟨tx k (u k) :: r, ⟨⟨hd, hr.1⟩, hr.2⟩, by simp; omega⟩
/-- how many texts are wanted from a state -/
def q_isW (ln : Nat → Nat) (tx : Nat → Nat → Nat) (u : Nat → Nat) (m : Nat) : Prop := (∃ r, q_to ln tx u r ∧ r.length = m) ∧ ∀ r, q_to ln tx u r → m ≤ r.length
theorem q_isW_end {ln : Nat → Nat} {tx : Nat → Nat → Nat} {u : Nat → Nat} (h : q_end ln u) : q_isW ln tx u 0 := ⟨⟨[], ⟨trivial, h⟩, rfl⟩, fun _ _ => Nat.zero_le _⟩
theorem q_isW_one {ln : Nat → Nat} {tx : Nat → Nat → Nat} {u : Nat → Nat} {m n : Nat} (h1 : q_isW ln tx u m) (h2 : q_isW ln tx u n) : m = n := by
  obtain ⟨r, hr, e1⟩ := h1.1
  obtain ⟨s, hs, e2⟩ := h2.1
  have a1 := h1.2 s hs
  have a2 := h2.2 r hr
  omega
/-- the least over the heads -/
theorem q_isW_step {ln : Nat → Nat} {tx : Nat → Nat → Nat} {u : Nat → Nat} {m : Nat} (hne : ¬ q_end ln u) (h1 : ∃ w n, q_hd ln tx u w ∧ q_isW ln tx (q_mv ln tx u w) n ∧ m = n + 1) (h2 : ∀ w n, q_hd ln tx u w → q_isW ln tx (q_mv ln tx u w) n → m ≤ n + 1) (hex : ∀ w, q_hd ln tx u w → ∃ n, q_isW ln tx (q_mv ln tx u w) n) : q_isW ln tx u m := by
  obtain ⟨w, n, hw, hn, e⟩ := h1
  obtain ⟨r, hr, el⟩ := hn.1
  refine ⟨⟨w :: r, ⟨⟨hw, hr.1⟩, hr.2⟩, by simp; omega⟩, fun s hs => ?_⟩
  cases s with
  | nil => exact absurd hs.2 hne
  | cons v s =>
    obtain ⟨⟨hv, ho⟩, he⟩ := hs
    obtain ⟨n2, hn2⟩ := hex v hv
    have h3 := h2 v n2 hv hn2
    have h4 := hn2.2 s ⟨ho, he⟩
    simp; omega
/-- a row whose steps each take the least of the shortest ways is the row that is sought -/
theorem q_isR_cons {ln : Nat → Nat} {tx : Nat → Nat → Nat} {u : Nat → Nat} {w m : Nat} {r : List Nat} (hne : ¬ q_end ln u) (hw : q_hd ln tx u w) (hm : q_isW ln tx u (m + 1)) (hn : q_isW ln tx (q_mv ln tx u w) m) (hl : ∀ v, q_hd ln tx u v → q_isW ln tx (q_mv ln tx u v) m → w ≤ v) (hr : q_isR ln tx (q_mv ln tx u w) r) : q_isR ln tx u (w :: r) := by
  have er : r.length = m := by
    obtain ⟨s, hs, e⟩ := hn.1
    have h1 := hn.2 r hr.1
    rcases hr.2 s hs with h2 | h2
    · omega
    · omega
  refine ⟨⟨⟨hw, hr.1.1⟩, hr.1.2⟩, fun s hs => ?_⟩
  cases s with
  | nil => exact absurd hs.2 hne
  | cons v s =>
    have h1 := hm.2 _ hs
    simp only [List.length_cons] at h1
    obtain ⟨⟨hv, ho⟩, he⟩ := hs
    by_cases hlen : s.length = m
    · refine Or.inr ⟨by simp [er, hlen], ?_⟩
      have hWv : q_isW ln tx (q_mv ln tx u v) m := ⟨⟨s, ⟨ho, he⟩, hlen⟩, fun s2 hs2 => by
        have := hm.2 (v :: s2) ⟨⟨hv, hs2.1⟩, hs2.2⟩
        simp only [List.length_cons] at this
        omega⟩
      have hle := hl v hv hWv
      by_cases e : w = v
      · subst e
        rcases hr.2 s ⟨ho, he⟩ with h2 | h2
        · omega
        · exact Or.inr ⟨rfl, h2.2⟩
      · exact Or.inl (by omega)
    · exact Or.inl (by simp; omega)
