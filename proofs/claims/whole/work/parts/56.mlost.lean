/-! ===== the row found; pieces; lost letters: the reference ===== -/
def q_rc (k : Nat) : Prop := k = 9 ∨ k = 54 ∨ k = 55
def q_fl (f : Nat → Bool) : Nat → List Nat
  | 0 => []
  | n + 1 => q_fl f n ++ (if f n then [n] else [])
theorem q_fl_len (f : Nat → Bool) : ∀ n, (q_fl f n).length = q_cnt f n
  | 0 => rfl
  | n + 1 => by rw [q_fl, q_cnt, List.length_append, q_fl_len f n]; cases f n <;> rfl
theorem q_fl_in {f : Nat → Bool} {x : Nat} : ∀ n, x ∈ q_fl f n → x < n ∧ f x = true
  | 0, h => by cases h
  | n + 1, h => by
    rw [q_fl, List.mem_append] at h
    rcases h with h | h
    · have := q_fl_in n h; exact ⟨by omega, this.2⟩
    · cases hf : f n with
      | false => rw [hf] at h; cases h
      | true => rw [hf] at h; simp at h; subst h; exact ⟨by omega, hf⟩
theorem q_getD_mem {L : List Nat} {k : Nat} (h : k < L.length) : L.getD k 0 ∈ L := by
  rw [List.getD_eq_getElem?_getD, List.getElem?_eq_getElem h]; exact List.getElem_mem h
theorem q_getD_al {L M : List Nat} {k : Nat} (h : k < L.length) : (L ++ M).getD k 0 = L.getD k 0 := by
  rw [List.getD_eq_getElem?_getD, List.getD_eq_getElem?_getD, List.getElem?_append_left h]
theorem q_getD_ar {L : List Nat} {x : Nat} : (L ++ [x]).getD L.length 0 = x := by
  rw [List.getD_eq_getElem?_getD]; simp
noncomputable def q_ms (V : QV) (a : Int32) (p : Nat → Option Nat) (g : Nat) : List Nat := q_fl (fun x => decide (q_gn V a p x = some g)) (v_n V)
def q_pl (V : QV) (p : Nat → Option Nat) (x : Nat) : List Nat := q_fl (fun l => q_pce V p (14 * x + l)) (v_sz V x)
def q_lnL (V : QV) (p : Nat → Option Nat) (L : List Nat) (k : Nat) : Nat := if k < 4 ∧ k < L.length then (q_pl V p (L.getD k 0)).length else 0
def q_spL (V : QV) (p : Nat → Option Nat) (L : List Nat) (k i : Nat) : Nat := 14 * L.getD k 0 + (q_pl V p (L.getD k 0)).getD i 0
noncomputable def q_rowOf (V : QV) (p : Nat → Option Nat) (L : List Nat) : List Nat := q_best (q_lnL V p L) (q_tn V (q_spL V p L))
def q_lw (t : List Nat) (k : Int32) : Int32 := if k = -1 then nI t.length else if q_in k 0 ((t.length : Int) - 1) then nI (t.getD k.toNatClampNeg 0) else -1
noncomputable def q_lsf (V : QV) (p : Nat → Option Nat) (L : List Nat) (w : Int) : Int32 := if w = 0 then nI L.length else if w = 1 then nI (L.getD 0 0) else if 4 < L.length then -1005 else nI (q_rowOf V p L).length
noncomputable def sp_lost (V : QV) (g w : Int32) : Int32 := if q_in g 0 ((q_gs V (-1) (q_par V (-1)) : Int) - 1) then (if q_in w 0 2 then q_lsf V (q_par V (-1)) (q_ms V (-1) (q_par V (-1)) g.toNatClampNeg) w.toInt else -1002) else -1001
noncomputable def q_lwf (V : QV) (p : Nat → Option Nat) (L : List Nat) (i k : Int32) : Int32 := if 4 < L.length then -1005 else if q_in i 0 (((q_rowOf V p L).length : Int) - 1) then q_lw (q_ut ((q_rowOf V p L).getD i.toNatClampNeg 0)) k else -1
noncomputable def sp_lostWord (V : QV) (g i k : Int32) : Int32 := if q_in g 0 ((q_gs V (-1) (q_par V (-1)) : Int) - 1) then q_lwf V (q_par V (-1)) (q_ms V (-1) (q_par V (-1)) g.toNatClampNeg) i k else -1001
/-- members: what a list of letters must be for rows -/
theorem q_RW_L {V : QV} {p : Nat → Option Nat} {L : List Nat} (hV : q_wf V) (hL : ∀ x ∈ L, x < v_n V) : q_RW V (q_lnL V p L) (q_spL V p L) ∧ ∀ k, 4 ≤ k → q_lnL V p L k = 0 := by
  have key : ∀ k, k < L.length → (q_pl V p (L.getD k 0)).length ≤ 14 := fun k hk => by
    have hx := hL _ (q_getD_mem hk)
    have := (hV.2.1 _ hx).1
    have h2 := q_cnt_le (fun l => q_pce V p (14 * (L.getD k 0) + l)) (v_sz V (L.getD k 0))
    unfold q_pl
    rw [q_fl_len]
    omega
  refine ⟨⟨fun k => ?_, fun k i hk hi => ?_⟩, fun k hk => if_neg (by omega)⟩
  · unfold q_lnL
    split
    · rename_i z; exact key k z.2
    · omega
  · unfold q_lnL at hi
    split at hi
    · rename_i z
      have hx := hL _ (q_getD_mem z.2)
      exact ⟨_, _, hx, (q_fl_in _ (q_getD_mem hi)).1, rfl⟩
    · omega
section QFS
variable {d : Nat} {Q : Option Value → px_S → Prop} {σ : px_S} {V : QV} {a : Int32} {ln : Nat → Nat} {sp : Nat → Nat → Nat} {p : Nat → Option Nat}
theorem m_findRow (hV : q_wf V) (hM : q_Ma V a σ) (hW : q_RW V ln sp) (h4 : ∀ k, 4 ≤ k → ln k = 0) (hP : q_RP V ln sp σ) (h : ∀ τ r, q_Ma V a τ → q_eqx q_rc σ τ → q_isR ln (q_tn V sp) (fun _ => 0) r → r.length ≤ 56 → τ.1 9 25 = nI r.length → (∀ i, i < r.length → ∃ t, q_sp V t ∧ τ.1 55 i = nI t ∧ q_pn (v_tx V t) = r.getD i 0) → Q none τ) : Cw (d + 3) 168 [.ref 9] σ Q := by
  have lE := q_enc_lt hW.1
  have p0 : σ.1 52 (0 : Int32).toNatClampNeg = nI (ln 0) := hP.1 0 (by decide)
  have p1 : σ.1 52 (1 : Int32).toNatClampNeg = nI (ln 1) := hP.1 1 (by decide)
  have p2 : σ.1 52 (2 : Int32).toNatClampNeg = nI (ln 2) := hP.1 2 (by decide)
  have p3 : σ.1 52 (3 : Int32).toNatClampNeg = nI (ln 3) := hP.1 3 (by decide)
  have eE : ((nI (ln 0) + (15 : Int32) * nI (ln 1)) + (225 : Int32) * nI (ln 2)) + (3375 : Int32) * nI (ln 3) = nI (q_enc ln) := by
    rw [show (15 : Int32) = nI 15 from rfl, show (225 : Int32) = nI 225 from rfl, show (3375 : Int32) = nI 3375 from rfl, pk_mul, pk_mul, pk_mul, nI_add, nI_add, nI_add]; rfl
  have rp : ∀ {τ : px_S}, q_eqx q_rc σ τ → q_RP V ln sp τ := fun he => hP.eqx (he.2 52 (by unfold q_rc; omega)) (he.2 53 (by unfold q_rc; omega))
  have second : ∀ m u i (τ : px_S) (v3 v4 v5 v6 : Value), (∀ k, u k ≤ ln k) → q_isW ln (q_tn V sp) u m → i + m ≤ 56 → τ.1 9 25 = nI i → q_eqx q_rc σ τ → q_Ma V a τ → (∀ u, (∀ k, u k ≤ ln k) → q_WT ln (q_tn V sp) τ u) → px_nc v5 = true → px_nc v6 = true → (∀ r τ', q_isR ln (q_tn V sp) u r → r.length = m → τ'.1 9 25 = nI (i + m) → (∀ j, j < i → τ'.1 55 j = τ.1 55 j) → (∀ j, j < m → ∃ t, q_sp V t ∧ τ'.1 55 (i + j) = nI t ∧ q_pn (v_tx V t) = r.getD j 0) → q_eqx q_rc σ τ' → q_Ma V a τ' → Q none τ') → Wp (d + 2) tb_168 149 [.ref 9, .int (nI (q_enc ln)), .int (nI (q_enc u)), v3, v4, v5, v6] [] τ Q := by
    intro m
    induction m with
    | zero =>
      intro u i τ v3 v4 v5 v6 hu hWm him h25 he hMt hT n5 n6 kk
      obtain ⟨r, hr, hl⟩ := hWm.1
      have er : r = [] := List.length_eq_zero_iff.mp hl
      subst er
      have hend : q_end ln u := hr.2
      refine b168_149 (fun _ => b168_271 (kk [] τ ⟨hr, fun s _ => ?_⟩ rfl h25 (fun _ _ => rfl) (fun j hj => absurd hj (Nat.not_lt_zero _)) he hMt)) (fun g => absurd (by rw [(q_end_enc hu).mpr hend]) g)
      cases s with
      | nil => exact Or.inr ⟨rfl, trivial⟩
      | cons _ _ => exact Or.inl (Nat.succ_pos _)
    | succ m ih =>
      intro u i τ v3 v4 v5 v6 hu hWm him h25 he hMt hT n5 n6 kk
      have hne : ¬ q_end ln u := fun z => by have := q_isW_one (q_isW_end z) hWm; omega
      have lu := q_enc_lt (fun k => Nat.le_trans (hu k) (hW.1 k))
      obtain ⟨ii, ci⟩ := q_lt (j := i) (N := 56) (by omega) (by decide)
      refine b168_149 (fun g => absurd ((q_end_enc hu).mp ((nI_eq (by omega) (by omega)).mp g)) hne) (fun _ => m_pick hV hMt hW (rp he) hu hT hWm n5 n6 (fun t x4 w5 w6 ht hhd hn hmin k5 k6 => b168_241 (by rw [h25]; exact ii) ?_))
      rw [h25, ci]
      refine b168_251 ?_
      rw [show (px_uI τ 55 i (nI t)).1 9 25 = nI i by rw [q_uc (by decide)]; exact h25, nI_1]
      have he2 : q_eqx q_rc σ (px_uI (px_uI τ 55 i (nI t)) 9 25 (nI (i + 1))) := (he.tr (q_eqx.uI (Or.inr (Or.inr rfl)))).tr (q_eqx.uI (Or.inl rfl))
      have hM2 : q_Ma V a (px_uI (px_uI τ 55 i (nI t)) 9 25 (nI (i + 1))) := (hMt.eqx (q_eqx.uI (by unfold q_scr; omega))).u9 (by decide)
      refine b168_261 k5 k6 (m_behind hV hM2 hW (rp he2) hu ht (b168_267 ?_))
      refine ih (q_mv ln (q_tn V sp) u (q_pn (v_tx V t))) (i + 1) _ _ _ _ _ (q_mv_in hu) hn (by omega) q_u9 he2 hM2 (fun v hv => ?_) k5 k6 (fun r τ' hr hrl g25 glo ghi ge gM => ?_)
      · obtain ⟨n, n1, n2, n3⟩ := hT v hv
        exact ⟨n, n1, by rw [q_uc (by decide), q_uc (by decide)]; exact n2, n3⟩
      · refine kk (q_pn (v_tx V t) :: r) τ' (q_isR_cons hne hhd hWm hn hmin hr) (by simp [hrl]) (by rw [g25]; congr 1; omega) (fun j hj => ?_) (fun j hj => ?_) ge gM
        · rw [glo j (by omega), q_uc (by decide), q_u, if_neg (fun z => by omega)]
        · cases j with
          | zero => exact ⟨t, ht, by rw [Nat.add_zero, glo i (by omega), q_uc (by decide), q_u, if_pos ⟨rfl, rfl⟩], rfl⟩
          | succ j =>
            obtain ⟨t2, h1, h2, h3⟩ := ghi j (by omega)
            exact ⟨t2, h1, by rw [← h2, show i + (j + 1) = i + 1 + j by omega], by rw [h3]; rfl⟩
  have body : ∀ s (τ : px_S) (v3 v4 v5 v6 : Value), s ≤ q_enc ln → q_eqx q_rc σ τ → q_Ma V a τ → (∀ u, (∀ k, u k ≤ ln k) → s < q_enc u → q_WT ln (q_tn V sp) τ u) → px_nc v3 = true → px_nc v4 = true → px_nc v5 = true → px_nc v6 = true → (∀ τ' v3 v4 v5 v6, q_eqx q_rc σ τ' → q_Ma V a τ' → (∀ u, (∀ k, u k ≤ ln k) → s ≤ q_enc u → q_WT ln (q_tn V sp) τ' u) → px_nc v3 = true → px_nc v4 = true → px_nc v5 = true → px_nc v6 = true → Wp (d + 2) tb_168 136 [.ref 9, .int (nI (q_enc ln)), .int (nI s), v3, v4, v5, v6] [] τ' Q) → Wp (d + 2) tb_168 41 [.ref 9, .int (nI (q_enc ln)), .int (nI s), v3, v4, v5, v6] [] τ Q := by
    intro s τ v3 v4 v5 v6 hs he hMt hT n3 n4 n5 n6 kk
    refine b168_41 (fun g => absurd g (nI_pos (by omega))) (fun _ => b168_45 n3 n4 n5 n6 (m_isWithin hW (rp he) (by omega) (fun hin => ?_) (fun hout => ?_)))
    · refine b168_50 (fun g => absurd g (by decide)) (fun _ => ?_)
      obtain ⟨u, hu, rfl⟩ : ∃ u, (∀ k, u k ≤ ln k) ∧ s = q_enc u := ⟨q_de s, hin, (q_enc_de (by omega)).symm⟩
      refine m_want1 hV hMt hW (rp he) hu hT n5 n6 (fun m w3 w4 w5 w6 hm hWm k3 k4 k5 k6 => kk _ w3 w4 w5 w6 (he.tr (q_eqx.uI (Or.inr (Or.inl rfl)))) (hMt.eqx (q_eqx.uI (by unfold q_scr; omega))) (fun v hv hle => ?_) k3 k4 k5 k6)
      by_cases hve : q_enc v = q_enc u
      · have e : v = u := by rw [← q_de_encf hW.1 h4 hv, ← q_de_encf hW.1 h4 hu, hve]
        subst e
        exact ⟨m, hm, by rw [q_u, if_pos ⟨rfl, rfl⟩], hWm⟩
      · obtain ⟨n, n1, n2, n3⟩ := hT v hv (by omega)
        exact ⟨n, n1, by rw [q_u, if_neg (fun z => hve z.2)]; exact n2, n3⟩
    · refine b168_50 (fun _ => kk τ v3 v4 v5 v6 he hMt (fun u hu hle => ?_) n3 n4 n5 n6) (fun g => absurd rfl g)
      by_cases hse : s = q_enc u
      · exact absurd (fun k hk => by rw [hse, q_de_encf hW.1 h4 hu]; exact hu k) hout
      · exact hT u hu (by omega)
  have first : ∀ s (τ : px_S) (v3 v4 v5 v6 : Value), s ≤ q_enc ln → q_eqx q_rc σ τ → q_Ma V a τ → (∀ u, (∀ k, u k ≤ ln k) → s < q_enc u → q_WT ln (q_tn V sp) τ u) → px_nc v3 = true → px_nc v4 = true → px_nc v5 = true → px_nc v6 = true → Wp (d + 2) tb_168 41 [.ref 9, .int (nI (q_enc ln)), .int (nI s), v3, v4, v5, v6] [] τ Q := by
    intro s
    induction s with
    | zero =>
      intro τ v3 v4 v5 v6 hs he hMt hT n3 n4 n5 n6
      refine body 0 τ v3 v4 v5 v6 hs he hMt hT n3 n4 n5 n6 (fun τ' w3 w4 w5 w6 he' hM' hT' k3 k4 k5 k6 => b168_136 (b168_41 (fun _ => b168_142 (b168_147 ?_)) (fun g => absurd (by decide) g)))
      have hu0 : ∀ k, (fun _ : Nat => 0) k ≤ ln k := fun k => Nat.zero_le _
      obtain ⟨m, m1, -, m3⟩ := hT' (fun _ => 0) hu0 (Nat.zero_le _)
      refine second m (fun _ => 0) 0 _ w3 w4 w5 w6 hu0 m3 (by omega) q_u9 (he'.tr (q_eqx.uI (Or.inl rfl))) (hM'.u9 (by decide)) (fun u hu => ?_) k5 k6 (fun r τ'' hr hrl g25 _ ghi ge gM => ?_)
      · obtain ⟨n, n1, n2, n3⟩ := hT' u hu (Nat.zero_le _)
        exact ⟨n, n1, by rw [q_uc (by decide)]; exact n2, n3⟩
      · refine h τ'' r gM ge hr (by omega) (by rw [g25]; congr 1; omega) (fun i hi => ?_)
        obtain ⟨t, h1, h2, h3⟩ := ghi i (by omega)
        exact ⟨t, h1, by rw [← h2, Nat.zero_add], h3⟩
    | succ s ih =>
      intro τ v3 v4 v5 v6 hs he hMt hT n3 n4 n5 n6
      refine body (s + 1) τ v3 v4 v5 v6 hs he hMt hT n3 n4 n5 n6 (fun τ' w3 w4 w5 w6 he' hM' hT' k3 k4 k5 k6 => b168_136 ?_)
      rw [pk_m1]
      exact ih τ' w3 w4 w5 w6 (by omega) he' hM' (fun u hu hlt => hT' u hu (by omega)) k3 k4 k5 k6
  refine e168 (b168_0 (by unfold vp_in; decide) (by unfold vp_in; decide) (by unfold vp_in; decide) (by unfold vp_in; decide) ?_)
  rw [p0, p1, p2, p3, eE]
  exact first (q_enc ln) σ .null .null .null .null (Nat.le_refl _) q_eqx.rf hM (fun u hu hlt => absurd (q_enc_mono hu) (by omega)) rfl rfl rfl rfl
theorem q_gn_lt {x c : Nat} (hx : x < v_n V) (h : q_gn V a p x = some c) : c ≤ x := by
  unfold q_gn at h
  split at h
  · rename_i hm
    cases h
    have h1 := (q_lab_ok (V := V) (a := a) (p := p) hx hm).1
    have h2 := q_cnt_le (q_isr V a p) (q_lab V a p x)
    omega
  · cases h
def q_fp (k : Nat) : Prop := k = 9 ∨ k = 47 ∨ k = 51 ∨ k = 52 ∨ k = 53
/-- what findPieces has of a list of members -/
def q_FP (V : QV) (p : Nat → Option Nat) (L : List Nat) (τ : px_S) : Prop := τ.1 9 22 = nI L.length ∧ (∀ k, k < 4 → k < L.length → τ.1 51 k = nI (L.getD k 0) ∧ τ.1 52 k = nI (q_pl V p (L.getD k 0)).length ∧ ∀ i, i < (q_pl V p (L.getD k 0)).length → τ.1 53 (14 * k + i) = nI (q_spL V p L k i))
theorem m_findPieces {g : Nat} (hV : q_wf V) (hM : q_Ma V a σ) (hp : q_okp p (v_n V)) (hr : q_row p (v_n V) σ) (hG : ∀ x, x < v_n V → σ.1 50 x = q_bi (q_gn V a p x)) (hg : g ≤ 40) (h : ∀ τ, q_Ma V a τ → q_eqx q_fp σ τ → q_FP V p (q_ms V a p g) τ → q_RP V (q_lnL V p (q_ms V a p g)) (q_spL V p (q_ms V a p g)) τ → Q none τ) : Cw (d + 6) 167 [.ref 9, .int (nI g)] σ Q := by
  have hn := hV.1
  have fp49 : ¬ q_fp 49 := by unfold q_fp; omega
  have fp50 : ¬ q_fp 50 := by unfold q_fp; omega
  have s1fp : ∀ k, q_s1 k → q_fp k := by intro k hk; unfold q_s1 at hk; unfold q_fp; omega
  let f : Nat → Bool := fun x => decide (q_gn V a p x = some g)
  -- the rest of the sizes is 0
  have tail : ∀ m k (τ : px_S) (v3 : Value), k + m = 4 ∨ (4 ≤ k ∧ m = 0) → q_eqx q_fp σ τ → q_Ma V a τ → q_FP V p (q_fl f (v_n V)) τ → (q_fl f (v_n V)).length ≤ k → (∀ j, (q_fl f (v_n V)).length ≤ j → j < k → j < 4 → τ.1 52 j = 0) → k ≤ 40 → Wp (d + 5) tb_167 146 [.ref 9, .int (nI g), .int (nI k), v3] [] τ Q := by
    intro m
    induction m with
    | zero =>
      intro k τ v3 hk he hMt hF hLk h0 hk40
      refine b167_146 (fun _ => b167_164 (h τ hMt he hF ⟨fun j hj => ?_, fun j i hj hi => ?_⟩)) (fun z => absurd (nI_le (a := 4) (b := k) (by omega) (by omega)) z)
      · show τ.1 52 j = nI (q_lnL V p (q_fl f (v_n V)) j)
        unfold q_lnL
        by_cases hjl : j < (q_fl f (v_n V)).length
        · rw [if_pos ⟨hj, hjl⟩]; exact (hF.2 j hj hjl).2.1
        · rw [if_neg (fun z => hjl z.2)]; exact h0 j (by omega) (by omega) hj
      · have hi' : i < q_lnL V p (q_fl f (v_n V)) j := hi
        unfold q_lnL at hi'
        split at hi'
        · rename_i z; exact (hF.2 j z.1 z.2).2.2 i hi'
        · omega
    | succ m ih =>
      intro k τ v3 hk he hMt hF hLk h0 hk40
      obtain ⟨ik, ck⟩ := q_lt (j := k) (N := 4) (by omega) (by decide)
      refine b167_146 (fun z => absurd z (nI_ge (a := k) (b := 4) (by omega) (by decide))) (fun _ => b167_151 ik (b167_158 ?_))
      rw [ck, nI_1]
      refine ih (k + 1) _ v3 (by omega) (he.tr (q_eqx.uI (by unfold q_fp; omega))) (hMt.eqx (q_eqx.uI (by unfold q_scr; omega))) ⟨by rw [q_uc (by decide)]; exact hF.1, fun j hj hjl => ?_⟩ (by omega) (fun j h1 h2 h3 => ?_) (by omega)
      · obtain ⟨f1, f2, f3⟩ := hF.2 j hj hjl
        exact ⟨by rw [q_uc (by decide)]; exact f1, by rw [q_u, if_neg (fun z => by omega)]; exact f2, fun i hi => by rw [q_uc (by decide)]; exact f3 i hi⟩
      · rw [q_u]
        by_cases hjk : j = k
        · rw [if_pos ⟨rfl, hjk⟩]
        · rw [if_neg (fun z => hjk z.2)]; exact h0 j h1 (by omega) h3
  have loop : ∀ n x (τ : px_S) (v3 : Value), x + n = v_n V → q_eqx q_fp σ τ → q_Ma V a τ → q_FP V p (q_fl f x) τ → px_nc v3 = true → Wp (d + 5) tb_167 7 [.ref 9, .int (nI g), .int (nI x), v3] [] τ Q := by
    intro n
    induction n with
    | zero =>
      intro x τ v3 hx he hMt hF n3
      have ex : x = v_n V := by omega
      subst ex
      refine b167_7 (fun _ => b167_141 ?_) (fun z => absurd (by rw [hMt.1]; exact Int32.le_refl _) z)
      have hl := q_cnt_le f (v_n V)
      rw [← q_fl_len] at hl
      rw [hF.1]
      exact tail (4 - (q_fl f (v_n V)).length) _ τ v3 (by omega) he hMt hF (Nat.le_refl _) (fun j h1 h2 _ => by omega) (by omega)
    | succ n ih =>
      intro x τ v3 hx he hMt hF n3
      have hxn : x < v_n V := by omega
      obtain ⟨ix, cx⟩ := q_lt (j := x) (N := 40) (by omega) (by decide)
      have hl := q_cnt_le f x
      rw [← q_fl_len] at hl
      have gx : τ.1 50 x = q_bi (q_gn V a p x) := by rw [he.2 50 fp50]; exact hG x hxn
      have gb : ∀ z, q_gn V a p x = some z → z < 560 := fun z hz => by have := q_gn_lt hxn hz; omega
      refine b167_7 (fun z => absurd z (by rw [hMt.1]; exact nI_ge (by omega) (by omega))) (fun _ => b167_15 ix (fun z => ?_) (fun z => ?_))
      · rw [cx, gx, q_bi_eq gb (by omega)] at z
        refine b167_135 ?_
        rw [nI_1]
        refine ih (x + 1) τ v3 (by omega) he hMt ?_ n3
        have e : q_fl f (x + 1) = q_fl f x := by rw [q_fl, show f x = false from decide_eq_false z]; simp
        rw [e]; exact hF
      · rw [cx, gx, q_bi_eq gb (by omega)] at z
        have hz : f x = true := decide_eq_true (Decidable.not_not.mp z)
        have e : q_fl f (x + 1) = q_fl f x ++ [x] := by rw [q_fl, hz]; simp
        have el : (q_fl f x ++ [x]).length = (q_fl f x).length + 1 := by simp
        by_cases h4 : 4 ≤ (q_fl f x).length
        · refine b167_25 (fun _ => b167_125 (b167_135 ?_)) (fun w => absurd (by rw [hF.1]; exact nI_le h4 (by omega)) w)
          rw [hF.1, nI_1, nI_1]
          refine ih (x + 1) _ v3 (by omega) (he.tr (q_eqx.uI (Or.inl rfl))) (hMt.u9 (by decide)) ⟨by rw [q_u9, e, el], fun k hk hkl => ?_⟩ n3
          obtain ⟨f1, f2, f3⟩ := hF.2 k hk (by omega)
          rw [e, q_getD_al (by omega)]
          refine ⟨by rw [q_uc (by decide)]; exact f1, by rw [q_uc (by decide)]; exact f2, fun i hi => ?_⟩
          rw [q_uc (by decide), f3 i hi]
          unfold q_spL
          rw [q_getD_al (by omega)]
        · obtain ⟨ik, ck⟩ := q_lt (j := (q_fl f x).length) (N := 4) (by omega) (by decide)
          have hk4 : (q_fl f x).length < 4 := by omega
          generalize hK : (q_fl f x).length = K at ik ck hk4 el hl h4
          have h22 : τ.1 9 22 = nI K := by rw [← hK]; exact hF.1
          refine b167_25 (fun w => absurd (by rw [h22] at w; exact w) (nI_ge hk4 (by decide))) (fun _ => b167_33 (by rw [h22]; exact ik) ?_)
          rw [h22, ck]
          have h22a : (px_uI τ 51 K (nI x)).1 9 22 = nI K := by rw [q_uc (by decide)]; exact h22
          refine b167_43 (by rw [h22a]; exact ik) (b167_53 ?_)
          rw [h22a, ck]
          have hsz := (hV.2.1 x hxn).1
          let pc : Nat → Bool := fun l => q_pce V p (14 * x + l)
          have fin : ∀ (τ' : px_S) (x3 : Int32), q_eqx q_fp σ τ' → q_Ma V a τ' → τ'.1 9 22 = nI K → (∀ k, k < K → τ'.1 51 k = τ.1 51 k ∧ τ'.1 52 k = τ.1 52 k ∧ ∀ i, i < 14 → τ'.1 53 (14 * k + i) = τ.1 53 (14 * k + i)) → τ'.1 51 K = nI x → τ'.1 52 K = nI (q_pl V p x).length → (∀ i, i < (q_pl V p x).length → τ'.1 53 (14 * K + i) = nI (14 * x + (q_pl V p x).getD i 0)) → Wp (d + 5) tb_167 125 [.ref 9, .int (nI g), .int (nI x), .int x3] [] τ' Q := by
            intro τ' x3 he' hM' g22 gold g51 g52 g53
            refine b167_125 (b167_135 ?_)
            rw [g22, nI_1, nI_1]
            refine ih (x + 1) _ _ (by omega) (he'.tr (q_eqx.uI (Or.inl rfl))) (hM'.u9 (by decide)) ⟨by rw [q_u9, e, el], fun k hk hkl => ?_⟩ rfl
            rw [e] at hkl ⊢
            rw [el] at hkl
            rw [q_uc (by decide), q_uc (by decide), q_uc (by decide)]
            unfold q_spL
            by_cases hkK : k = K
            · rw [hkK]
              have eg : (q_fl f x ++ [x]).getD K 0 = x := by rw [← hK]; exact q_getD_ar
              rw [eg]
              exact ⟨g51, g52, g53⟩
            · obtain ⟨o1, o2, o3⟩ := gold k (by omega)
              obtain ⟨f1, f2, f3⟩ := hF.2 k hk (by omega)
              rw [q_getD_al (by omega)]
              refine ⟨by rw [o1]; exact f1, by rw [o2]; exact f2, fun i hi => ?_⟩
              have hi14 : i < 14 := by
                have hx2 := (q_fl_in x (q_getD_mem (L := q_fl f x) (k := k) (by omega))).1
                have h1 := (hV.2.1 _ (show (q_fl f x).getD k 0 < v_n V by omega)).1
                have h2 := q_cnt_le (fun l => q_pce V p (14 * ((q_fl f x).getD k 0) + l)) (v_sz V ((q_fl f x).getD k 0))
                rw [← q_fl_len] at h2
                have h3 : i < (q_fl (fun l => q_pce V p (14 * ((q_fl f x).getD k 0) + l)) (v_sz V ((q_fl f x).getD k 0))).length := hi
                omega
              rw [o3 i hi14]; exact f3 i hi
          have inner : ∀ n2 l (τ' : px_S), l + n2 = v_sz V x → q_eqx q_fp σ τ' → q_Ma V a τ' → τ'.1 9 22 = nI K → (∀ k, k < K → τ'.1 51 k = τ.1 51 k ∧ τ'.1 52 k = τ.1 52 k ∧ ∀ i, i < 14 → τ'.1 53 (14 * k + i) = τ.1 53 (14 * k + i)) → τ'.1 51 K = nI x → τ'.1 52 K = nI (q_fl pc l).length → (∀ i, i < (q_fl pc l).length → τ'.1 53 (14 * K + i) = nI (14 * x + (q_fl pc l).getD i 0)) → Wp (d + 5) tb_167 55 [.ref 9, .int (nI g), .int (nI x), .int (nI l)] [] τ' Q := by
            intro n2
            induction n2 with
            | zero =>
              intro l τ' hl2 he' hM' g22 gold g51 g52 g53
              have el2 : l = v_sz V x := by omega
              subst el2
              refine b167_55 ix (fun _ => fin τ' _ he' hM' g22 gold g51 g52 g53) (fun w => absurd ?_ w)
              rw [cx, (hM'.2.1 x hxn).2.2.2.1]; exact Int32.le_refl _
            | succ n2 ih2 =>
              intro l τ' hl2 he' hM' g22 gold g51 g52 g53
              have hls : l < v_sz V x := by omega
              have hlc := q_cnt_le pc l
              rw [← q_fl_len] at hlc
              refine b167_55 ix (fun w => absurd w ?_) (fun _ => b167_65 ?_)
              · rw [cx, (hM'.2.1 x hxn).2.2.2.1]; exact nI_ge hls (by omega)
              rw [q_ix14]
              refine m_isPiece hV hM' hp (hr.eqx he' fp49) (q_wf_sp hxn hls) (fun τ2 he2 => ?_)
              have he3 : q_eqx q_fp σ τ2 := he'.tr (he2.mono s1fp)
              have hM3 : q_Ma V a τ2 := hM'.eqx (he2.mono q_s1_scr)
              have c9 : τ2.1 9 = τ'.1 9 := he2.2 9 (by unfold q_s1; omega)
              have c51 : τ2.1 51 = τ'.1 51 := he2.2 51 (by unfold q_s1; omega)
              have c52 : τ2.1 52 = τ'.1 52 := he2.2 52 (by unfold q_s1; omega)
              have c53 : τ2.1 53 = τ'.1 53 := he2.2 53 (by unfold q_s1; omega)
              rw [← c9] at g22
              rw [← c51] at g51
              rw [← c52] at g52
              rw [← c51, ← c52, ← c53] at gold
              rw [← c53] at g53
              refine b167_75 (fun w => b167_119 ?_) (fun w => ?_)
              · have hz2 : pc l = false := q_bz.mp w
                have e2 : q_fl pc (l + 1) = q_fl pc l := by rw [q_fl, hz2]; simp
                rw [nI_1]
                exact ih2 (l + 1) τ2 (by omega) he3 hM3 g22 gold g51 (by rw [e2]; exact g52) (by rw [e2]; exact g53)
              · have hz2 : pc l = true := by
                  cases hb : pc l with
                  | true => rfl
                  | false => exact absurd (q_bz.mpr hb) w
                have e2 : q_fl pc (l + 1) = q_fl pc l ++ [l] := by rw [q_fl, hz2]; simp
                generalize hN : (q_fl pc l).length = N at hlc g52 g53
                obtain ⟨i3, c3⟩ := q_lt (j := 14 * K + N) (N := 56) (by omega) (by decide)
                have g52c : τ2.1 52 (nI K).toNatClampNeg = nI N := by rw [ck]; exact g52
                refine b167_78 (by rw [g22]; exact ik) (by rw [g22, g52c, q_ix14]; exact i3) ?_
                rw [g22, g52c, q_ix14, q_ix14, c3]
                have h22b : (px_uI τ2 53 (14 * K + N) (nI (14 * x + l))).1 9 22 = nI K := by rw [q_uc (by decide)]; exact g22
                refine b167_106 (by rw [h22b]; exact ik) (by rw [h22b]; exact ik) (b167_119 ?_)
                rw [h22b, ck, q_uc (by decide), g52, nI_1, nI_1]
                refine ih2 (l + 1) _ (by omega) ((he3.tr (q_eqx.uI (by unfold q_fp; omega))).tr (q_eqx.uI (by unfold q_fp; omega))) ((hM3.eqx (q_eqx.uI (by unfold q_scr; omega))).eqx (q_eqx.uI (by unfold q_scr; omega))) (by rw [q_uc (by decide)]; exact h22b) (fun k hk => ?_) (by rw [q_uc (by decide), q_uc (by decide)]; exact g51) ?_ (fun i hi => ?_)
                · obtain ⟨o1, o2, o3⟩ := gold k hk
                  refine ⟨by rw [q_uc (by decide), q_uc (by decide)]; exact o1, by rw [q_u, if_neg (fun z => by omega), q_uc (by decide)]; exact o2, fun i hi => ?_⟩
                  rw [q_uc (by decide), q_u, if_neg (fun z => by omega)]; exact o3 i hi
                · rw [q_u, if_pos ⟨rfl, rfl⟩, e2]; simp [hN]
                · rw [q_uc (by decide), q_u]
                  rw [e2] at hi ⊢
                  by_cases hiN : i = N
                  · subst hiN
                    rw [if_pos ⟨rfl, rfl⟩, ← hN, q_getD_ar]
                  · have hi' : i < (q_fl pc l).length := by simp at hi; omega
                    rw [if_neg (fun z => hiN (by omega)), q_getD_al hi']
                    exact g53 i (by omega)
          refine inner (v_sz V x) 0 _ (by omega) ((he.tr (q_eqx.uI (by unfold q_fp; omega))).tr (q_eqx.uI (by unfold q_fp; omega))) ((hMt.eqx (q_eqx.uI (by unfold q_scr; omega))).eqx (q_eqx.uI (by unfold q_scr; omega))) (by rw [q_uc (by decide)]; exact h22a) (fun k hk => ⟨?_, ?_, fun i _ => ?_⟩) ?_ ?_ (fun i hi => absurd hi (Nat.not_lt_zero _))
          · rw [q_uc (by decide), q_u, if_neg (fun z => by omega)]
          · rw [q_u, if_neg (fun z => by omega), q_uc (by decide)]
          · rw [q_uc (by decide), q_uc (by decide)]
          · rw [q_uc (by decide), q_u, if_pos ⟨rfl, rfl⟩]
          · rw [q_u, if_pos ⟨rfl, rfl⟩]; rfl
  refine e167 (b167_0 (b167_5 (loop (v_n V) 0 _ .null (by omega) (q_eqx.uI (Or.inl rfl)) (hM.u9 (by decide)) ⟨q_u9, fun k _ hk => absurd hk (Nat.not_lt_zero _)⟩ rfl)))
end QFS
