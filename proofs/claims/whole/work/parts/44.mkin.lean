/-! ===== about, quarrel, order, span, still: the reference ===== -/
def q_nth (f : Nat → Bool) (i : Int32) : Nat → Nat → Nat → Int32
  | 0, _, _ => -1
  | m + 1, x, c => if f x then (if nI c = i then nI x else q_nth f i m (x + 1) (c + 1)) else q_nth f i m (x + 1) c
def sp_quarrel (V : QV) (i : Int32) : Int32 := q_nth (q_qrl V (q_par V (-1))) i (v_n V) 0 0
def q_nxf (V : QV) (a : Int32) (p : Nat → Option Nat) (W : Nat → Bool) (x : Nat) : Bool := q_seen V a x && ((match p x with
  | none => true
  | some y => W y) && !W x)
def q_nx (V : QV) (a : Int32) (p : Nat → Option Nat) (W : Nat → Bool) : Option Nat := q_up (q_nxf V a p W) (v_n V) 0
def q_odr (V : QV) (p : Nat → Option Nat) (i : Int32) : Nat → (Nat → Bool) → Nat → Int32
  | 0, _, _ => -1
  | k + 1, W, c => match q_nx V (-1) p W with
    | none => -1
    | some x => if nI c = i then nI x else q_odr V p i k (va_up W x true) (c + 1)
def sp_order (V : QV) (i : Int32) : Int32 := q_odr V (q_par V (-1)) i 41 (fun _ => false) 0
def q_lowf (V : QV) (p : Nat → Option Nat) : Nat → Option Nat → Int32 → Int32
  | 0, _, c => c
  | _ + 1, none, c => c
  | k + 1, some z, c => q_lowf V p k (p z) (if c < v_dy V z then v_dy V z else c)
def q_hic (V : QV) (p : Nat → Option Nat) (x y : Nat) (c : Int32) : Bool := decide (¬ y = x) && (q_seen V (-1) y && (decide (0 ≤ v_dy V y) && (decide (v_dy V y < c) && q_cm p y x)))
def q_hif (V : QV) (p : Nat → Option Nat) (x : Nat) : Nat → Int32
  | 0 => 9999
  | y + 1 => if q_hic V p x y (q_hif V p x y) then v_dy V y else q_hif V p x y
def sp_span (V : QV) (x w : Int32) : Int32 := if q_has V x then (if q_in w 0 1 then (if q_seen V (-1) x.toNatClampNeg then (if 0 ≤ v_dy V x.toNatClampNeg then v_dy V x.toNatClampNeg else if w.toInt = 0 then q_lowf V (q_par V (-1)) 40 (q_par V (-1) x.toNatClampNeg) 0 else q_hif V (q_par V (-1)) x.toNatClampNeg (v_n V)) else -1003) else -1002) else -1001
def q_fold (f : Nat → Int32 → Int32) : Nat → Int32 → Int32
  | 0, c => c
  | n + 1, c => f n (q_fold f n c)
def q_stb (V : QV) (p : Nat → Option Nat) (x s : Nat) (c : Int32) : Int32 := match q_org V p 6 s with
  | none => c
  | some z => if z / 14 = x ∧ v_tx V z = v_tx V s then c ||| ((1 : Int32) <<< (nI (z % 14) &&& 31)) else c
def q_stl (V : QV) (a : Int32) (p : Nat → Option Nat) (x : Nat) : Int32 := q_fold (fun y c => if decide (¬ y = x) && q_seen V a y then q_fold (fun m c => q_stb V p x (14 * y + m) c) (v_sz V y) c else c) (v_n V) 0
def sp_still (V : QV) (x : Int32) : Int32 := if q_has V x then (if v_tk V x.toNatClampNeg then q_stl V x (q_par V x) x.toNatClampNeg else -1003) else -1001
theorem q_Ma.as {V : QV} {a b : Int32} {σ : px_S} (h : q_Ma V a σ) : q_Ma V b (px_uI σ 9 13 b) := by
  obtain ⟨h1, h2, h3, h4, h5, h6, h7, h8, h10, h11⟩ := h
  have e : ∀ i, i ≠ 13 → (px_uI σ 9 13 b).1 9 i = σ.1 9 i := fun i hi => q_u9n hi
  have u : ∀ k, k ≠ 9 → (px_uI σ 9 13 b).1 k = σ.1 k := fun k hk => q_uc hk
  refine ⟨?_, ?_, ?_, ?_, ?_, q_u9, ?_, ?_, ?_, ?_⟩
  · rw [e 1 (by decide)]; exact h1
  · rw [u 38 (by decide), u 39 (by decide), u 40 (by decide), u 41 (by decide), u 42 (by decide)]; exact h2
  · rw [u 43 (by decide), u 44 (by decide), u 45 (by decide)]; exact h3
  · rw [e 10 (by decide), u 46 (by decide)]; exact h4
  · rw [e 12 (by decide)]; exact h5
  · rw [u 37 (by decide)]; exact h7
  · rw [e 26 (by decide), u 56 (by decide)]; exact h8
  · rw [e 29 (by decide), u 57 (by decide)]; exact h10
  · rw [e 32 (by decide)]; exact h11
theorem q_cnt_f : ∀ n, q_cnt (fun _ => false) n = 0
  | 0 => rfl
  | n + 1 => by rw [q_cnt, q_cnt_f n]; rfl
theorem q_cnt_up {W : Nat → Bool} {x : Nat} (h0 : W x = false) : ∀ n, q_cnt (va_up W x true) n = q_cnt W n + if x < n then 1 else 0
  | 0 => rfl
  | n + 1 => by
    rw [q_cnt, q_cnt, q_cnt_up h0 n]
    by_cases h : n = x
    · subst h; rw [va_up_self, h0]; simp
    · rw [va_up_ne _ _ h]
      by_cases h2 : x < n
      · rw [if_pos h2, if_pos (show x < n + 1 by omega)]; omega
      · rw [if_neg h2, if_neg (show ¬ x < n + 1 by omega)]; omega
theorem q_up_none {f : Nat → Bool} : ∀ (m i : Nat), q_up f m i = none → ∀ l, i ≤ l → l < i + m → f l = false
  | 0, _, _, l, h1, h2 => by omega
  | m + 1, i, h, l, h1, h2 => by
    rw [q_up] at h
    split at h
    · cases h
    · rename_i hf
      by_cases hl : l = i
      · subst hl; cases hb : f l with
        | true => exact absurd hb hf
        | false => rfl
      · exact q_up_none m (i + 1) h l (by omega) (by omega)
section QK
variable {d : Nat} {Q : Option Value → px_S → Prop} {σ : px_S} {V : QV}
theorem m_about {x w : Int32} (hV : q_wf V) (hM : q_M V σ) (h : ∀ τ, q_M V τ → q_mk σ τ → Q (some (.int (sp_about V x w))) τ) : Cw (d + 7) 146 [.ref 9, .int x, .int w] σ Q := by
  have hn := hV.1
  have hp := q_par_ok hV (-1)
  refine e146 (b146_0 (m_noLetter hV hM (fun j hj ej => ?_) (fun hno => ?_)))
  · subst ej
    have hh : q_has V (nI j) := q_has_nI hn hj
    obtain ⟨ij, cj⟩ := q_lt (j := j) (N := 40) (by omega) (by decide)
    unfold sp_about at h
    rw [if_pos hh, cj] at h
    refine b146_5 (fun _ => b146_12 (m_inI (a' := 0) (b' := 11) (by decide) (by decide) (fun a1 a2 => ?_) (fun g => ?_))) (fun g => absurd rfl g)
    · rw [if_pos (show q_in w 0 11 from ⟨a1, a2⟩)] at h
      obtain ⟨g1, g2, g3, g4, g5⟩ := hM.2.1 j hj
      refine b146_21 (fun _ => b146_28 (fun g6 => ?_) (fun g6 => ?_)) (fun g => absurd (by decide) g)
      · have hw6 : ¬ w.toInt < 6 := by
          have : (6 : Int32).toInt ≤ w.toInt := Int32.le_iff_toInt_le.mp g6
          have e6 : (6 : Int32).toInt = 6 := by decide
          omega
        rw [if_neg hw6] at h
        refine b146_111 (m_findParents hV hM (fun τ he hr hk3 => b146_115 ?_))
        have hMt : q_M V τ := hM.eqx (he.mono q_s3_scr)
        refine m_isSeen hV hMt hj ?_
        have hmk : q_mk σ τ := q_mk.scr he q_s3_scr hk3
        cases hs : q_seen V (-1) j with
        | false =>
          rw [hs] at h
          exact b146_120 (fun g => absurd rfl g) (fun _ => b146_123 (h τ hMt hmk))
        | true =>
          rw [hs, if_pos rfl] at h
          refine b146_120 (fun _ => b146_125 ?_) (fun g => absurd (by decide) g)
          have loop : ∀ m y, y + m = v_n V → Wp (d + 6) tb_146 133 [.ref 9, .int (nI j), .int w, .int (nI (q_cnt (fun y => decide (q_par V (-1) y = some j)) y)), .int (nI (q_cnt (fun y => q_seen V (-1) y && decide (q_root (q_par V (-1)) 40 y = q_root (q_par V (-1)) 40 j)) y)), .int (nI y)] [] τ Q := by
            intro m
            induction m with
            | zero =>
              intro y hy
              have e : y = v_n V := by omega
              subst e
              refine b146_133 (fun _ => b146_206 (fun g => ?_) (fun i t hi hx => ?_)) (fun g => absurd (by rw [hMt.1]; exact Int32.le_refl _) g)
              · have h11 : w.toInt = 11 := by omega
                have h0 := h
                have h := h τ hMt hmk
                unfold q_abk at h
                rw [h11] at h
                rw [if_neg (by decide), if_neg (by decide), if_neg (by decide), if_neg (by decide), if_neg (by decide)] at h
                cases hpj : q_par V (-1) j with
                | none =>
                  rw [hpj] at h
                  refine b146_264 ij (fun g => absurd g ?_) (fun _ => b146_273 (b146_288 h))
                  rw [cj, hr j hj, q_rw_none hpj]; decide
                | some z =>
                  refine b146_264 ij (fun _ => b146_277 ij ?_) (fun g => absurd ?_ g)
                  · rw [cj, hr j hj, q_rw_some hpj]
                    have hz : z < v_n V := by obtain ⟨r, hrk⟩ := id hp; exact (hrk j z hpj).2.1
                    refine m_fitOf hV hMt hj hz (fun τ' he' => b146_288 ?_)
                    have h := h0 τ' (hMt.eqx (he'.mono q_s2_scr)) (hmk.tr (q_mk.mc (he'.mono q_s2_mc)))
                    unfold q_abk at h
                    rw [h11, hpj] at h
                    rw [if_neg (by decide), if_neg (by decide), if_neg (by decide), if_neg (by decide), if_neg (by decide)] at h
                    exact h
                  · rw [cj, hr j hj, q_rw_some hpj]; exact nI_pos' (by have : z < v_n V := (by obtain ⟨r, hrk⟩ := id hp; exact (hrk j z hpj).2.1); omega)
              · have h := h τ hMt hmk
                unfold q_abk at h
                match i, hi, hx with
                | 0, hi, hx =>
                  cases hi
                  rw [if_pos (by omega)] at h
                  refine b146_240 ij ?_
                  rw [cj, hr j hj]; exact h
                | 1, hi, hx =>
                  cases hi
                  rw [if_neg (by omega), if_pos (by omega)] at h
                  exact b146_247 (m_rootOf hp hn hr hj (b146_252 h))
                | 2, hi, hx =>
                  cases hi
                  rw [if_neg (by omega), if_neg (by omega), if_pos (by omega)] at h
                  exact b146_253 (m_stepsOf hp hn hr hj (b146_258 h))
                | 3, hi, hx =>
                  cases hi
                  rw [if_neg (by omega), if_neg (by omega), if_neg (by omega), if_pos (by omega)] at h
                  exact b146_259 h
                | 4, hi, hx =>
                  cases hi
                  rw [if_neg (by omega), if_neg (by omega), if_neg (by omega), if_neg (by omega), if_pos (by omega)] at h
                  exact b146_261 h
                | k5 + 5, hi, hx => simp at hi
            | succ m ih =>
              intro y hy
              have hyn : y < v_n V := by omega
              obtain ⟨iy, cy⟩ := q_lt (j := y) (N := 40) (by omega) (by decide)
              have hq := q_rw_eq (y := y) hp hn hj
              have lr := q_root_lt hp 40 y hyn
              have lr2 := q_root_lt hp 40 j hj
              have snd : ∀ b2, (q_seen V (-1) y && decide (q_root (q_par V (-1)) 40 y = q_root (q_par V (-1)) 40 j)) = b2 → Wp (d + 6) tb_146 194 [.ref 9, .int (nI j), .int w, .int (nI (q_cnt (fun y => decide (q_par V (-1) y = some j)) (y + 1))), .int (nI (q_cnt (fun y => q_seen V (-1) y && decide (q_root (q_par V (-1)) 40 y = q_root (q_par V (-1)) 40 j)) y)), .int (nI y)] [.int (q_b b2), .int (nI (q_cnt (fun y => q_seen V (-1) y && decide (q_root (q_par V (-1)) 40 y = q_root (q_par V (-1)) 40 j)) y))] τ Q := by
                intro b2 hb2
                refine b146_194 (m_one (b146_197 ?_))
                rw [q_one, q_oneN hb2, nI_1]
                exact ih (y + 1) (by omega)
              have fst : ∀ b1, decide (q_par V (-1) y = some j) = b1 → Wp (d + 6) tb_146 159 [.ref 9, .int (nI j), .int w, .int (nI (q_cnt (fun y => decide (q_par V (-1) y = some j)) y)), .int (nI (q_cnt (fun y => q_seen V (-1) y && decide (q_root (q_par V (-1)) 40 y = q_root (q_par V (-1)) 40 j)) y)), .int (nI y)] [.int (q_b b1), .int (nI (q_cnt (fun y => decide (q_par V (-1) y = some j)) y))] τ Q := by
                intro b1 hb1
                refine b146_159 (m_one (b146_162 (m_isSeen hV hMt hyn ?_)))
                rw [q_one, q_oneN (f := fun y => decide (q_par V (-1) y = some j)) hb1]
                cases hsy : q_seen V (-1) y with
                | false => exact b146_172 (fun _ => b146_193 (snd false (by rw [hsy]; rfl))) (fun g => absurd rfl g)
                | true =>
                  refine b146_172 (fun g => absurd g (by decide)) (fun _ => b146_175 (m_rootOf hp hn hr hyn (b146_181 (m_rootOf hp hn hr hj ?_))))
                  refine b146_186 (fun g => b146_193 (snd false ?_)) (fun g => b146_189 (snd true ?_))
                  · rw [nI_eq (by omega) (by omega)] at g
                    rw [hsy, decide_eq_false g]; rfl
                  · rw [Decidable.not_not, nI_eq (by omega) (by omega)] at g
                    rw [hsy, decide_eq_true g]; rfl
              refine b146_133 (fun g => absurd g (by rw [hMt.1]; exact nI_ge (by omega) (by omega))) (fun _ => b146_142 iy (fun g => ?_) (fun g => ?_))
              · rw [cy, hr y hyn, hq] at g
                exact b146_158 (fst false (decide_eq_false g))
              · rw [cy, hr y hyn, hq] at g
                exact b146_154 (fst true (decide_eq_true (Decidable.not_not.mp g)))
          exact loop (v_n V) 0 (by omega)
      · have hw6 : w.toInt < 6 := by
          have : w.toInt < (6 : Int32).toInt := Int32.lt_iff_toInt_lt.mp (Int32.not_le.mp g6)
          have e6 : (6 : Int32).toInt = 6 := by decide
          omega
        rw [if_pos hw6] at h
        have h := h σ hM q_mk.rf
        refine b146_34 (fun w0 => ?_) (fun w0 => b146_38 ij (b146_110 ?_))
        · rw [q_tI _ _ (n := 0) (by decide)] at w0
          rw [if_neg w0] at h
          refine b146_47 (fun w1 => ?_) (fun w1 => b146_52 ij (b146_110 ?_))
          · rw [q_tI _ _ (n := 1) (by decide)] at w1
            rw [if_neg w1] at h
            refine b146_61 (fun w2 => ?_) (fun w2 => b146_66 ij (b146_110 ?_))
            · rw [q_tI _ _ (n := 2) (by decide)] at w2
              rw [if_neg w2] at h
              refine b146_75 (fun w3 => ?_) (fun w3 => b146_80 ij (b146_110 ?_))
              · rw [q_tI _ _ (n := 3) (by decide)] at w3
                rw [if_neg w3] at h
                refine b146_89 (fun w4 => ?_) (fun w4 => ?_)
                · rw [q_tI _ _ (n := 4) (by decide)] at w4
                  rw [if_neg w4] at h
                  refine b146_102 (m_isSeen hV hM hj (b146_107 (m_one (b146_110 ?_))))
                  have e := q_one (b := q_seen V (-1) j)
                  rw [e]; exact h
                · rw [Decidable.not_not, q_tI _ _ (n := 4) (by decide)] at w4
                  rw [if_pos w4] at h
                  exact b146_94 (m_quoted hV hM hj (b146_99 (b146_110 h)))
              · rw [Decidable.not_not, q_tI _ _ (n := 3) (by decide)] at w3
                rw [if_pos w3] at h
                rw [cj, g4]; exact h
            · rw [Decidable.not_not, q_tI _ _ (n := 2) (by decide)] at w2
              rw [if_pos w2] at h
              rw [cj, g3]; exact h
          · rw [Decidable.not_not, q_tI _ _ (n := 1) (by decide)] at w1
            rw [if_pos w1] at h
            rw [cj, g2]; exact h
        · rw [Decidable.not_not, q_tI _ _ (n := 0) (by decide)] at w0
          rw [if_pos w0] at h
          rw [cj, g1]; exact h
    · rw [if_neg g] at h
      exact b146_21 (fun g => absurd rfl g) (fun _ => b146_24 (h σ hM q_mk.rf))
  · unfold sp_about at h
    rw [if_neg (fun z => by obtain ⟨j, h1, h2⟩ := q_has_of z; exact hno j h1 h2)] at h
    exact b146_5 (fun g => absurd g (by decide)) (fun _ => b146_8 (h σ hM q_mk.rf))
theorem m_quarrel {i : Int32} (hV : q_wf V) (hM : q_M V σ) (h : ∀ τ, q_M V τ → q_mk σ τ → Q (some (.int (sp_quarrel V i))) τ) : Cw (d + 7) 176 [.ref 9, .int i] σ Q := by
  have hn := hV.1
  have hp := q_par_ok hV (-1)
  refine e176 (b176_0 (m_findParents hV hM (fun τ he hr hk3 => b176_4 ?_)))
  have hMt : q_M V τ := hM.eqx (he.mono q_s3_scr)
  have h := h τ hMt (q_mk.scr he q_s3_scr hk3)
  unfold sp_quarrel at h
  have loop : ∀ m x c, x + m = v_n V → Q (some (.int (q_nth (q_qrl V (q_par V (-1))) i m x c))) τ → Wp (d + 6) tb_176 8 [.ref 9, .int i, .int (nI c), .int (nI x)] [] τ Q := by
    intro m
    induction m with
    | zero =>
      intro x c hx hq
      exact b176_8 (fun _ => b176_40 hq) (fun g => absurd (by rw [hMt.1, show x = v_n V by omega]; exact Int32.le_refl _) g)
    | succ m ih =>
      intro x c hx hq
      refine b176_8 (fun g => absurd g (by rw [hMt.1]; exact nI_ge (by omega) (by omega))) (fun _ => b176_16 (m_quarrels hV hMt hp hr (by omega) ?_))
      rw [q_nth] at hq
      cases hb : q_qrl V (q_par V (-1)) x with
      | false =>
        rw [hb] at hq
        refine b176_21 (fun _ => b176_34 ?_) (fun g => absurd rfl g)
        rw [nI_1]; exact ih (x + 1) c (by omega) hq
      | true =>
        rw [hb, if_pos rfl] at hq
        refine b176_21 (fun g => absurd g (by decide)) (fun _ => b176_24 (fun g => b176_31 (b176_34 ?_)) (fun g => b176_29 ?_))
        · rw [if_neg g] at hq
          rw [nI_1, nI_1]; exact ih (x + 1) (c + 1) (by omega) hq
        · rw [if_pos (Decidable.not_not.mp g)] at hq
          exact hq
  exact loop (v_n V) 0 0 (by omega) h
theorem m_order {i : Int32} (hV : q_wf V) (hM : q_M V σ) (h : ∀ τ, q_M V τ → q_mk σ τ → Q (some (.int (sp_order V i))) τ) : Cw (d + 7) 175 [.ref 9, .int i] σ Q := by
  have hn := hV.1
  have hp := q_par_ok hV (-1)
  refine e175 (b175_0 (m_findParents hV hM (fun τ he hr hk3 => b175_4 ?_)))
  have hMt : q_M V τ := hM.eqx (he.mono q_s3_scr)
  have h := h τ hMt (q_mk.scr he q_s3_scr hk3)
  unfold sp_order at h
  have inner : ∀ (W : Nat → Bool) (y3 : Int64) (x5 : Int32), q_set y3 W → (∀ o, o = q_nx V (-1) (q_par V (-1)) W → ∀ x8 x7, px_nc x8 = true → Wp (d + 6) tb_175 104 [.ref 9, .int i, .int 1, .long y3, .null, .int x5, .int (q_bi o), .int x7, x8] [] τ Q) → ∀ x m (v8 : Value), x + m = v_n V → px_nc v8 = true → Wp (d + 6) tb_175 26 [.ref 9, .int i, .int 1, .long y3, .null, .int x5, .int (q_bi (q_up (q_nxf V (-1) (q_par V (-1)) W) m x)), .int (nI x - 1), v8] [] τ Q := by
    intro W y3 x5 hW hq x
    induction x with
    | zero =>
      intro m v8 hx nv
      have e : m = v_n V := by omega
      subst e
      exact b175_26 (fun _ => hq _ rfl v8 _ nv) (fun g => absurd (by decide) g)
    | succ x ih =>
      intro m v8 hx nv
      have hxn : x < v_n V := by omega
      obtain ⟨ix, cx⟩ := q_lt (j := x) (N := 40) (by omega) (by decide)
      rw [nI_pred]
      have ih' := fun (b : Bool) (hb : q_nxf V (-1) (q_par V (-1)) W x = b) v8 nv => (by
        have e := ih (m + 1) v8 (by omega) nv
        rw [q_up, hb] at e
        exact e : Wp (d + 6) tb_175 26 [.ref 9, .int i, .int 1, .long y3, .null, .int x5, .int (q_bi (if b = true then some x else q_up (q_nxf V (-1) (q_par V (-1)) W) m (x + 1))), .int (nI x - 1), v8] [] τ Q)
      have no : ∀ (x8 : Int32), q_nxf V (-1) (q_par V (-1)) W x = false → Wp (d + 6) tb_175 94 [.ref 9, .int i, .int 1, .long y3, .null, .int x5, .int (q_bi (q_up (q_nxf V (-1) (q_par V (-1)) W) m (x + 1))), .int (nI x), .int x8] [] τ Q := fun x8 hb => b175_94 (b175_96 (by rw [q_am1]; exact ih' false hb (.int x8) rfl))
      have fre : ∀ b, (match q_par V (-1) x with
          | none => true
          | some y => W y) = b → Wp (d + 6) tb_175 62 [.ref 9, .int i, .int 1, .long y3, .null, .int x5, .int (q_bi (q_up (q_nxf V (-1) (q_par V (-1)) W) m (x + 1))), .int (nI x), v8] [.int (q_b b)] τ Q := by
        intro b hb
        refine b175_62 (m_isSeen hV hMt hxn ?_)
        cases hs : q_seen V (-1) x with
        | false => exact b175_70 (fun _ => no _ (by unfold q_nxf; rw [hs]; rfl)) (fun g => absurd rfl g)
        | true =>
          refine b175_70 (fun g => absurd g (by decide)) (fun _ => b175_73 (fun g => no _ ?_) (fun g => b175_78 (fun g2 => no _ ?_) (fun g2 => b175_89 (b175_96 ?_))))
          · rw [q_bz] at g; unfold q_nxf; rw [hs, hb, g]; rfl
          · rw [hW.s0 (by omega)] at g2
            have : W x = true := by cases hw : W x with
              | true => rfl
              | false => exact absurd hw g2
            unfold q_nxf; rw [this]; simp
          · rw [Decidable.not_not, hW.s0 (by omega)] at g2
            rw [q_bz] at g
            have hb1 : b = true := by cases b with
              | true => rfl
              | false => exact absurd rfl g
            have e := ih' true (by unfold q_nxf; rw [hs, hb, hb1, g2]; rfl) (.int (q_b b)) rfl
            rw [q_am1]
            exact e
      refine b175_26 (fun g => absurd g (nI_pos (by omega))) (fun _ => ?_)
      cases hpx : q_par V (-1) x with
      | none =>
        refine b175_31 ix (fun _ => b175_57 (fre true (by rw [hpx]))) (fun g => absurd (by rw [cx, hr x hxn, q_rw_none hpx]; decide) g)
      | some z =>
        have hz : z < v_n V := by obtain ⟨r, hrk⟩ := id hp; exact (hrk x z hpx).2.1
        refine b175_31 ix (fun g => absurd g (by rw [cx, hr x hxn, q_rw_some hpx]; exact nI_pos (by omega))) (fun _ => b175_41 ix (fun g => ?_) (fun g => ?_))
        · rw [cx, hr x hxn, q_rw_some hpx, hW.s1 (by omega)] at g
          exact b175_61 (fre false (by
            rw [hpx]
            show W z = false
            cases hw : W z with
            | true => exact absurd hw g
            | false => rfl))
        · rw [cx, hr x hxn, q_rw_some hpx, Decidable.not_not, hW.s1 (by omega)] at g
          exact b175_57 (fre true (by rw [hpx]; exact g))
  have outer : ∀ k c (W : Nat → Bool) (y3 : Int64) (v6 v7 v8 : Value), k + c = 41 → q_cnt W (v_n V) = c → q_set y3 W → px_nc v8 = true → Q (some (.int (q_odr V (q_par V (-1)) i k W c))) τ → Wp (d + 6) tb_175 11 [.ref 9, .int i, .int 1, .long y3, .null, .int (nI c), v6, v7, v8] [] τ Q := by
    intro k
    induction k with
    | zero =>
      intro c W y3 v6 v7 v8 hk hc hW nv hq
      have := q_cnt_le W (v_n V)
      omega
    | succ k ih =>
      intro c W y3 v6 v7 v8 hk hc hW nv hq
      rw [q_odr] at hq
      refine b175_11 (fun g => absurd g (by decide)) (fun _ => b175_15 ?_)
      rw [hMt.1]
      refine inner W y3 (nI c) hW (fun o ho x8 x7 n8 => ?_) (v_n V) 0 v8 (by omega) nv
      cases o with
      | none =>
        rw [← ho] at hq
        exact b175_104 (fun _ => b175_113 (b175_114 (fun _ => b175_138 (b175_11 (fun _ => b175_141 hq) (fun g => absurd rfl g))) (fun g => absurd rfl g))) (fun g => absurd (by decide) g)
      | some z =>
        rw [← ho] at hq
        have hq : Q (some (.int (if nI c = i then nI z else q_odr V (q_par V (-1)) i k (va_up W z true) (c + 1)))) τ := hq
        obtain ⟨-, z2, z3⟩ := q_up_in _ _ _ ho.symm
        have hwz : W z = false := by
          unfold q_nxf at z3
          cases hw : W z with
          | false => rfl
          | true => rw [hw] at z3; simp at z3
        refine b175_104 (fun g => absurd g (nI_pos (by omega))) (fun _ => b175_109 (b175_114 (fun g => absurd g (by decide)) (fun _ => b175_119 (fun g => b175_128 (b175_138 ?_)) (fun g => b175_125 ?_))))
        · rw [if_neg g] at hq
          rw [nI_1]
          exact ih (c + 1) (va_up W z true) _ _ _ x8 (by omega) (by rw [q_cnt_up hwz, if_pos (by omega)]; omega) (hW.add (by omega)) n8 hq
        · rw [if_pos (Decidable.not_not.mp g)] at hq
          exact hq
  exact outer 41 0 (fun _ => false) 0 .null .null .null (by omega) (q_cnt_f _) q_set.zero rfl h
theorem q_dy_neg {x : Nat} (hV : q_wf V) (hx : x < v_n V) : v_dy V x < 0 ↔ v_dy V x = -1 := by
  rcases (hV.2.1 x hx).2.2.1 with h | ⟨e, he, h⟩
  · rw [h]; decide
  · rw [h]; exact ⟨fun z => absurd z (nI_pos (by omega)), fun z => absurd z.symm (q_m1ne (by omega))⟩
theorem m_span {x w : Int32} (hV : q_wf V) (hM : q_M V σ) (h : ∀ τ, q_M V τ → q_mk σ τ → Q (some (.int (sp_span V x w))) τ) : Cw (d + 7) 178 [.ref 9, .int x, .int w] σ Q := by
  have hn := hV.1
  have hp := q_par_ok hV (-1)
  refine e178 (b178_0 (m_noLetter hV hM (fun j hj ej => ?_) (fun hno => ?_)))
  · subst ej
    have hh : q_has V (nI j) := q_has_nI hn hj
    obtain ⟨ij, cj⟩ := q_lt (j := j) (N := 40) (by omega) (by decide)
    unfold sp_span at h
    rw [if_pos hh, cj] at h
    refine b178_5 (fun _ => b178_12 (m_inI (a' := 0) (b' := 1) (by decide) (by decide) (fun a1 a2 => ?_) (fun g => ?_))) (fun g => absurd rfl g)
    · rw [if_pos (show q_in w 0 1 from ⟨a1, a2⟩)] at h
      obtain ⟨g1, g2, g3, g4, g5⟩ := hM.2.1 j hj
      refine b178_19 (fun _ => b178_26 (m_isSeen hV hM hj ?_)) (fun g => absurd (by decide) g)
      cases hs : q_seen V (-1) j with
      | false =>
        rw [hs] at h
        exact b178_31 (fun g => absurd rfl g) (fun _ => b178_34 (h σ hM q_mk.rf))
      | true =>
        rw [hs, if_pos rfl] at h
        refine b178_31 (fun _ => b178_38 ij (fun g => ?_) (fun g => b178_47 ij ?_)) (fun g => absurd (by decide) g)
        · rw [cj, g2] at g
          rw [if_neg (Int32.not_le.mpr g)] at h
          refine b178_54 (m_findParents hV hM (fun τ he hr hk3 => b178_58 ij ?_))
          have hMt : q_M V τ := hM.eqx (he.mono q_s3_scr)
          have h := h τ hMt (q_mk.scr he q_s3_scr hk3)
          rw [cj, hr j hj]
          have hloop : ∀ (low : Int32) m y (hi : Int32), y + m = v_n V → hi = q_hif V (q_par V (-1)) j y → (low = q_lowf V (q_par V (-1)) 40 (q_par V (-1) j) 0) → Wp (d + 6) tb_178 116 [.ref 9, .int (nI j), .int w, .int low, .int hi, .int (nI y)] [] τ Q := by
            intro low m
            induction m with
            | zero =>
              intro y hi hy ehi elow
              have e : y = v_n V := by omega
              subst e
              refine b178_116 (fun _ => b178_192 (fun w0 => b178_200 (b178_202 ?_)) (fun w0 => b178_196 (b178_202 ?_))) (fun g => absurd (by rw [hMt.1]; exact Int32.le_refl _) g)
              · rw [q_tI _ _ (n := 0) (by decide)] at w0
                rw [if_neg w0] at h
                rw [ehi]; exact h
              · rw [Decidable.not_not, q_tI _ _ (n := 0) (by decide)] at w0
                rw [if_pos w0] at h
                rw [elow]; exact h
            | succ m ih =>
              intro y hi hy ehi elow
              have hyn : y < v_n V := by omega
              obtain ⟨iy, cy⟩ := q_lt (j := y) (N := 40) (by omega) (by decide)
              have dy := (hMt.2.1 y hyn).2.1
              have no : q_hic V (q_par V (-1)) j y hi = false → Wp (d + 6) tb_178 182 [.ref 9, .int (nI j), .int w, .int low, .int hi, .int (nI y)] [] τ Q := by
                intro hb
                refine b178_182 (b178_184 ?_)
                rw [nI_1]
                exact ih (y + 1) hi (by omega) (by rw [q_hif, ← ehi, hb]; rfl) elow
              refine b178_116 (fun g => absurd g (by rw [hMt.1]; exact nI_ge (by omega) (by omega))) (fun _ => b178_125 (fun g => no ?_) (fun k1 => b178_131 (m_isSeen hV hMt hyn ?_)))
              · rw [nI_eq (by omega) (by omega)] at g
                unfold q_hic; rw [g]; simp
              · rw [nI_eq (by omega) (by omega)] at k1
                cases hsy : q_seen V (-1) y with
                | false => exact b178_137 (fun _ => no (by unfold q_hic; rw [hsy]; simp)) (fun g => absurd rfl g)
                | true =>
                  refine b178_137 (fun g => absurd g (by decide)) (fun _ => b178_140 iy (fun g => no ?_) (fun k2 => b178_150 iy (fun g => no ?_) (fun k3 => b178_162 (m_comesTo hp hn hr hyn hj ?_))))
                  · rw [cy, dy] at g
                    unfold q_hic; rw [decide_eq_false (p := 0 ≤ v_dy V y) (Int32.not_le.mpr g)]; simp
                  · rw [cy, dy] at g
                    unfold q_hic; rw [decide_eq_false (p := v_dy V y < hi) (Int32.not_lt.mpr g)]; simp
                  · rw [cy, dy] at k2 k3
                    cases hc : q_cm (q_par V (-1)) y j with
                    | false => exact b178_169 (fun _ => no (by unfold q_hic; rw [hc]; simp)) (fun g => absurd rfl g)
                    | true =>
                      refine b178_169 (fun g => absurd g (by decide)) (fun _ => b178_172 iy (b178_184 ?_))
                      rw [cy, dy, nI_1]
                      refine ih (y + 1) _ (by omega) ?_ elow
                      have hb : q_hic V (q_par V (-1)) j y (q_hif V (q_par V (-1)) j y) = true := by
                        rw [← ehi]
                        unfold q_hic
                        rw [hsy, hc, decide_eq_true k1, decide_eq_true (Int32.not_lt.mp k2), decide_eq_true (Int32.not_le.mp k3)]; rfl
                      rw [q_hif, hb]; rfl
          have lloop : ∀ k (o : Option Nat) (c x5 : Int32), x5 = q_bi o → (∀ z, o = some z → z < v_n V ∧ q_it (q_par V (-1)) k z = none) → q_lowf V (q_par V (-1)) k o c = q_lowf V (q_par V (-1)) 40 (q_par V (-1) j) 0 → Wp (d + 6) tb_178 73 [.ref 9, .int (nI j), .int w, .int c, .int 9999, .int x5] [] τ Q := by
            intro k
            induction k with
            | zero =>
              intro o c x5 ex hz ec
              cases o with
              | none =>
                subst ex
                refine b178_73 (fun _ => b178_113 (hloop c (v_n V) 0 9999 (by omega) rfl ?_)) (fun g => absurd (by decide) g)
                rw [← ec]; rfl
              | some z => obtain ⟨-, h2⟩ := hz z rfl; cases h2
            | succ k ih =>
              intro o c x5 ex hz ec
              cases o with
              | none =>
                subst ex
                refine b178_73 (fun _ => b178_113 (hloop c (v_n V) 0 9999 (by omega) rfl ?_)) (fun g => absurd (by decide) g)
                rw [← ec]; rfl
              | some z =>
                have ex : x5 = nI z := ex
                subst ex
                obtain ⟨h1, h2⟩ := hz z rfl
                obtain ⟨iz, cz⟩ := q_lt (j := z) (N := 40) (by omega) (by decide)
                have dz := (hMt.2.1 z h1).2.1
                have nxt : ∀ s0 : Int32, s0 = (if c < v_dy V z then v_dy V z else c) → Wp (d + 6) tb_178 100 [.ref 9, .int (nI j), .int w, .int c, .int 9999, .int (nI z)] [.int s0] τ Q := by
                  intro s0 e0
                  refine b178_100 iz ?_
                  rw [cz, hr z h1]
                  refine ih (q_par V (-1) z) s0 _ ?_ (fun u hu => ?_) ?_
                  · cases hpz : q_par V (-1) z with
                    | none => rw [q_rw_none hpz]; rfl
                    | some u => rw [q_rw_some hpz]; rfl
                  · obtain ⟨r, hrk⟩ := id hp
                    rw [q_it, hu] at h2
                    exact ⟨(hrk z u hu).2.1, h2⟩
                  · rw [e0]; exact ec
                refine b178_73 (fun g => absurd g (nI_pos (by omega))) (fun _ => b178_78 iz (fun g => ?_) (fun g => ?_))
                · rw [cz, dz] at g
                  exact b178_99 (nxt c (by rw [if_neg (Int32.not_lt.mpr g)]))
                · rw [cz, dz] at g
                  refine b178_89 iz ?_
                  rw [cz, dz]
                  exact nxt _ (by rw [if_pos (Int32.not_le.mp g)])
          refine lloop 40 (q_par V (-1) j) 0 _ ?_ (fun z hz => ?_) rfl
          · cases hpj : q_par V (-1) j with
            | none => rw [q_rw_none hpj]; rfl
            | some u => rw [q_rw_some hpj]; rfl
          · obtain ⟨r, hrk⟩ := id hp
            have hzn := (hrk j z hz).2.1
            refine ⟨hzn, ?_⟩
            cases e : q_it (q_par V (-1)) 40 z with
            | none => rfl
            | some u => have := q_it_lt hp hzn e; omega
        · rw [cj, g2] at g
          rw [if_pos (Int32.not_lt.mp g)] at h
          rw [cj, g2]; exact h σ hM q_mk.rf
    · rw [if_neg g] at h
      exact b178_19 (fun g => absurd rfl g) (fun _ => b178_22 (h σ hM q_mk.rf))
  · unfold sp_span at h
    rw [if_neg (fun z => by obtain ⟨j, h1, h2⟩ := q_has_of z; exact hno j h1 h2)] at h
    exact b178_5 (fun g => absurd g (by decide)) (fun _ => b178_8 (h σ hM q_mk.rf))
theorem m_still {x : Int32} (hV : q_wf V) (hM : q_M V σ) (h : ∀ τ, q_M V τ → q_mk σ τ → Q (some (.int (sp_still V x))) τ) : Cw (d + 7) 183 [.ref 9, .int x] σ Q := by
  have hn := hV.1
  refine e183 (b183_0 (m_noLetter hV hM (fun j hj ej => ?_) (fun hno => ?_)))
  · subst ej
    have hh : q_has V (nI j) := q_has_nI hn hj
    obtain ⟨ij, cj⟩ := q_lt (j := j) (N := 40) (by omega) (by decide)
    unfold sp_still at h
    rw [if_pos hh, cj] at h
    have ht := (hM.2.1 j hj).2.2.2.2
    have hp := q_par_ok hV (nI j)
    cases hb : v_tk V j with
    | false =>
      rw [hb] at h
      exact b183_5 (fun _ => b183_12 ij (fun g => absurd (by rw [cj, ht, hb]; rfl) g) (fun _ => b183_21 (h σ hM q_mk.rf))) (fun g => absurd rfl g)
    | true =>
      rw [hb, if_pos rfl] at h
      refine b183_5 (fun _ => b183_12 ij (fun _ => b183_25 (b183_30 ?_)) (fun g => absurd (by rw [cj, ht, hb]; decide) g)) (fun g => absurd rfl g)
      have hM1 : q_Ma V (nI j) (px_uI σ 9 13 (nI j)) := hM.as
      have mk1 : q_mk σ (px_uI σ 9 13 (nI j)) := q_mk.mc (q_eqx.uI (Or.inl rfl))
      refine m_findParents hV hM1 (fun τ he hr hk3 => b183_34 ?_)
      have hMt : q_Ma V (nI j) τ := hM1.eqx (he.mono q_s3_scr)
      have mkt : q_mk σ τ := mk1.tr (q_mk.scr he q_s3_scr hk3)
      let p := q_par V (nI j)
      let f := fun (y : Nat) (c : Int32) => if decide (¬ y = j) && q_seen V (nI j) y then q_fold (fun m c => q_stb V p j (14 * y + m) c) (v_sz V y) c else c
      have loop : ∀ m y (τ' : px_S) (v4 v5 v6 : Value), y + m = v_n V → q_eqx q_s1 τ τ' → px_nc v5 = true → px_nc v6 = true → Wp (d + 6) tb_183 38 [.ref 9, .int (nI j), .int (q_fold f y 0), .int (nI y), v4, v5, v6] [] τ' Q := by
        intro m
        induction m with
        | zero =>
          intro y τ' v4 v5 v6 hy he' n5 n6
          have e : y = v_n V := by omega
          subst e
          have hM' : q_Ma V (nI j) τ' := hMt.eqx (he'.mono q_s1_scr)
          refine b183_38 (fun _ => b183_151 (b183_156 ?_)) (fun g => absurd (by rw [hM'.1]; exact Int32.le_refl _) g)
          exact h _ hM'.as ((mkt.tr (q_mk.s1 he')).tr (q_mk.mc (q_eqx.uI (Or.inl rfl))))
        | succ m ih =>
          intro y τ' v4 v5 v6 hy he' n5 n6
          have hyn : y < v_n V := by omega
          have hsy := (hV.2.1 y hyn).1
          obtain ⟨iy, cy⟩ := q_lt (j := y) (N := 40) (by omega) (by decide)
          have next : ∀ (τ2 : px_S) (c x4 : Int32) (v5 v6 : Value), q_eqx q_s1 τ τ2 → px_nc v5 = true → px_nc v6 = true → c = f y (q_fold f y 0) → Wp (d + 6) tb_183 145 [.ref 9, .int (nI j), .int c, .int (nI y), .int x4, v5, v6] [] τ2 Q := by
            intro τ2 c x4 v5 v6 he2 n5 n6 hc
            refine b183_145 ?_
            rw [nI_1, hc]
            exact ih (y + 1) τ2 _ _ _ (by omega) he2 n5 n6
          have hM' : q_Ma V (nI j) τ' := hMt.eqx (he'.mono q_s1_scr)
          refine b183_38 (fun g => absurd g (by rw [hM'.1]; exact nI_ge (by omega) (by omega))) (fun _ => b183_46 ?_)
          by_cases hok : (decide (¬ y = j) && q_seen V (nI j) y) = true
          · have hyj : ¬ y = j := by simp at hok; exact hok.1
            have hs : q_seen V (nI j) y = true := by simp at hok; exact hok.2
            have ef : f y (q_fold f y 0) = q_fold (fun m c => q_stb V p j (14 * y + m) c) (v_sz V y) (q_fold f y 0) := by show (if _ then _ else _) = _; rw [if_pos hok]
            have inner : ∀ m i (τ2 : px_S) (v5 v6 : Value), i + m = v_sz V y → q_eqx q_s1 τ τ2 → px_nc v5 = true → px_nc v6 = true → Wp (d + 6) tb_183 49 [.ref 9, .int (nI j), .int (q_fold (fun m c => q_stb V p j (14 * y + m) c) i (q_fold f y 0)), .int (nI y), .int (nI i), v5, v6] [] τ2 Q := by
              intro m
              induction m with
              | zero =>
                intro i τ2 v5 v6 hi he2 n5 n6
                have e : i = v_sz V y := by omega
                have hM2 : q_Ma V (nI j) τ2 := hMt.eqx (he2.mono q_s1_scr)
                refine b183_49 iy (fun _ => next τ2 _ _ v5 v6 he2 n5 n6 ?_) (fun g => absurd (by rw [cy, (hM2.2.1 y hyn).2.2.2.1, e]; exact Int32.le_refl _) g)
                rw [ef, e]
              | succ m ih2 =>
                intro i τ2 v5 v6 hi he2 n5 n6
                have hM2 : q_Ma V (nI j) τ2 := hMt.eqx (he2.mono q_s1_scr)
                have hst := q_wf_sp (l := i) hyn (by omega)
                obtain ⟨is, cs⟩ := q_lt (j := 14 * y + i) (N := 560) (by omega) (by decide)
                have d5 := (hV.sp hst).1
                have ed := (hM2.sp hst).1
                have go : ∀ (τ3 : px_S) (c x6 : Int32), q_eqx q_s1 τ τ3 → c = q_stb V p j (14 * y + i) (q_fold (fun m c => q_stb V p j (14 * y + m) c) i (q_fold f y 0)) → Wp (d + 6) tb_183 139 [.ref 9, .int (nI j), .int c, .int (nI y), .int (nI i), .int (nI (14 * y + i)), .int x6] [] τ3 Q := by
                  intro τ3 c x6 he3 hc
                  refine b183_139 ?_
                  rw [nI_1, hc]
                  exact ih2 (i + 1) τ3 _ _ (by omega) he3 rfl rfl
                refine b183_49 iy (fun g => absurd g (by rw [cy, (hM2.2.1 y hyn).2.2.2.1]; exact nI_ge (by omega) (by omega))) (fun _ => b183_60 (fun g => absurd ((nI_eq (by omega) (by omega)).mp g) hyj) (fun _ => b183_65 n5 n6 (m_isSeen hV hM2 hyn ?_)))
                rw [hs]
                refine b183_70 (fun g => absurd g (by decide)) (fun _ => b183_73 (by rw [q_ix14]; exact is) (fun g => ?_) (fun g => ?_))
                · rw [q_ix14, cs, ed] at g
                  rw [q_ix14]
                  have h0 : v_dp V (14 * y + i) = 0 := by
                    rcases Nat.eq_zero_or_pos (v_dp V (14 * y + i)) with e | e
                    · exact e
                    · exact absurd g (nI_nle e (by omega))
                  refine b183_101 (b183_102 (fun _ => go τ2 _ _ he2 ?_) (fun g => absurd (by decide) g))
                  have eo : q_org V p 6 (14 * y + i) = some (14 * y + i) := by rw [q_org, if_pos h0]
                  unfold q_stb
                  rw [eo]
                  show _ = if (14 * y + i) / 14 = j ∧ _ then _ else _
                  rw [if_neg (fun z => hyj (by have := z.1; omega))]
                · rw [q_ix14]
                  refine b183_92 n6 (m_originOf hV hM2 hp (hr.eqx he2 q_s1_49) hst (fun τ3 he3 => b183_98 ?_))
                  have hM3 : q_Ma V (nI j) τ3 := hM2.eqx (he3.mono q_s1_scr)
                  cases ho : q_org V (q_par V (nI j)) 6 (14 * y + i) with
                  | none =>
                    refine b183_102 (fun _ => go τ3 _ _ (he2.tr he3) ?_) (fun g => absurd (by decide) g)
                    unfold q_stb; rw [show q_org V p 6 (14 * y + i) = none from ho]
                  | some z =>
                    have hz := q_org_sp hp 6 _ z hst ho
                    have lz := q_sp_lt hV hz
                    have e1 : nI z / (14 : Int32) = nI (z / 14) := by rw [show (14 : Int32) = nI 14 from rfl, pk_div (by omega) (by decide) (by decide)]
                    have e2 : nI z - nI z / (14 : Int32) * (14 : Int32) = nI (z % 14) := by rw [show (14 : Int32) = nI 14 from rfl, pk_rem (by omega) (by decide) (by decide)]
                    have eq : ∀ c, q_stb V p j (14 * y + i) c = if z / 14 = j ∧ v_tx V z = v_tx V (14 * y + i) then c ||| ((1 : Int32) <<< (nI (z % 14) &&& 31)) else c := by
                      intro c; unfold q_stb; rw [show q_org V p 6 (14 * y + i) = some z from ho]
                    refine b183_102 (fun g => absurd g (nI_pos (by omega))) (fun _ => ?_)
                    show Wp (d + 6) tb_183 109 [.ref 9, .int (nI j), _, .int (nI y), .int (nI i), .int (nI (14 * y + i)), .int (nI z)] [] τ3 Q
                    refine b183_109 (fun g => go τ3 _ _ (he2.tr he3) ?_) (fun g => b183_118 (m_isSame hV hM3 hz hst ?_))
                    · rw [e1, nI_eq (by omega) (by omega)] at g
                      rw [eq, if_neg (fun u => g u.1)]
                    · rw [e1, Decidable.not_not, nI_eq (by omega) (by omega)] at g
                      by_cases htx : v_tx V z = v_tx V (14 * y + i)
                      · rw [if_pos htx]
                        refine b183_126 (fun g => absurd g (by decide)) (fun _ => b183_129 (go τ3 _ _ (he2.tr he3) ?_))
                        rw [eq, if_pos ⟨g, htx⟩, e2]
                      · rw [if_neg htx]
                        exact b183_126 (fun _ => go τ3 _ _ (he2.tr he3) (by rw [eq, if_neg (fun u => htx u.2)])) (fun g => absurd rfl g)
            exact inner (v_sz V y) 0 τ' v5 v6 (by omega) he' n5 n6
          · have ef : f y (q_fold f y 0) = q_fold f y 0 := by show (if _ then _ else _) = _; rw [if_neg hok]
            refine b183_49 iy (fun _ => next τ' _ _ v5 v6 he' n5 n6 ef.symm) (fun _ => b183_60 (fun g => next τ' _ _ v5 v6 he' n5 n6 ef.symm) (fun g => b183_65 n5 n6 (m_isSeen hV hM' hyn ?_)))
            have hs : q_seen V (nI j) y = false := by
              cases hs : q_seen V (nI j) y with
              | false => rfl
              | true =>
                rw [nI_eq (by omega) (by omega)] at g
                exact absurd (by rw [hs, decide_eq_true g]; rfl) hok
            rw [hs]
            exact b183_70 (fun _ => next τ' _ _ v5 v6 he' n5 n6 ef.symm) (fun g => absurd rfl g)
      exact loop (v_n V) 0 τ .null .null .null (by omega) q_eqx.rf rfl rfl
  · unfold sp_still at h
    rw [if_neg (fun z => by obtain ⟨j, h1, h2⟩ := q_has_of z; exact hno j h1 h2)] at h
    exact b183_5 (fun g => absurd g (by decide)) (fun _ => b183_8 (h σ hM q_mk.rf))
end QK
