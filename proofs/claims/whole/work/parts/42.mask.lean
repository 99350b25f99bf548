/-! ===== differ, fit, told, origin, altered, echoes, about: the reference ===== -/
def q_md (k : Nat) : Prop := k = 9 ∨ 37 ≤ k
/-- what a call of the reference leaves of the rest -/
def q_mk (σ τ : px_S) : Prop := q_eqx q_md σ τ ∧ q_pk σ τ
theorem q_s1_mc : ∀ k, q_s1 k → q_mc k := by intro k h; unfold q_s1 at h; unfold q_mc; omega
theorem q_s2_mc : ∀ k, q_s2 k → q_mc k := by intro k h; unfold q_s2 at h; unfold q_mc; omega
theorem q_scr_md : ∀ k, q_scr k → q_md k := by intro k h; unfold q_scr at h; unfold q_md; omega
theorem q_mk.rf {σ : px_S} : q_mk σ σ := ⟨q_eqx.rf, q_pk.rf⟩
theorem q_mk.tr {σ τ υ : px_S} (h1 : q_mk σ τ) (h2 : q_mk τ υ) : q_mk σ υ := ⟨h1.1.tr h2.1, h1.2.tr h2.2⟩
theorem q_mk.mc {σ τ : px_S} (h : q_eqx q_mc σ τ) : q_mk σ τ := ⟨h.mono (fun k hk => by unfold q_mc at hk; unfold q_md; omega), q_pk.eqx h (by unfold q_mc; omega)⟩
theorem q_mk.s1 {σ τ : px_S} (h : q_eqx q_s1 σ τ) : q_mk σ τ := q_mk.mc (h.mono q_s1_mc)
theorem q_mk.scr {σ τ : px_S} {S : Nat → Prop} (h : q_eqx S σ τ) (hS : ∀ k, S k → q_scr k) (hk : q_pk σ τ) : q_mk σ τ := ⟨h.mono (fun k hk => q_scr_md k (hS k hk)), hk⟩
theorem q_s13 : ∀ k, q_s1 k → q_s3 k := by intro k h; unfold q_s1 at h; unfold q_s3; omega
theorem q_s1e {σ τ : px_S} (h : q_eqx (fun k => k = 47) σ τ) : q_eqx q_s1 σ τ := h
abbrev q_isl (V : QV) (x l : Int32) : Prop := q_has V x ∧ 0 ≤ l.toInt ∧ l.toInt < (v_sz V x.toNatClampNeg : Int)
theorem q_isl_nI {V : QV} (hV : q_wf V) {j k : Nat} (hj : j < v_n V) (hk : k < v_sz V j) : q_isl V (nI j) (nI k) := by
  have hn := hV.1
  have := (hV.2.1 j hj).1
  refine ⟨q_has_nI hn hj, ?_⟩
  rw [nI_toInt (by omega), nI_clamp (by omega)]
  omega
theorem q_isl_of {V : QV} {x l : Int32} (hV : q_wf V) (h : q_isl V x l) : ∃ j k, j < v_n V ∧ k < v_sz V j ∧ x = nI j ∧ l = nI k := by
  have hn := hV.1
  obtain ⟨h1, h2, h3⟩ := h
  obtain ⟨j, hj, ej⟩ := q_has_of h1
  rw [ej, nI_clamp (by omega)] at h3
  exact ⟨j, l.toInt.toNat, hj, by omega, ej, q_ofInt (by omega)⟩
theorem q_isl_no {V : QV} {x l : Int32} (hV : q_wf V) (h : ∀ j k, j < v_n V → k < v_sz V j → x = nI j → ¬ l = nI k) : ¬ q_isl V x l := fun z => by
  obtain ⟨j, k0, h1, h2, h3, h4⟩ := q_isl_of hV z
  exact h j k0 h1 h2 h3 h4
abbrev q_spt (x l : Int32) : Nat := 14 * x.toNatClampNeg + l.toNatClampNeg
def sp_differ (V : QV) (x l y m : Int32) : Int32 := if q_isl V x l ∧ q_isl V y m then nI (q_dist (v_tx V (q_spt x l)) (v_tx V (q_spt y m))) else -1001
def sp_fit (V : QV) (x y : Int32) : Int32 := if q_has V x ∧ q_has V y then (if x = y ∨ q_seen V (-1) x.toNatClampNeg = false ∨ q_seen V (-1) y.toNatClampNeg = false then -1003 else nI (q_fit V x.toNatClampNeg y.toNatClampNeg)) else -1001
def q_wd (t : List Nat) (k : Nat) : Int32 := if k < t.length then nI (t.getD k 0) else -1
def sp_told (V : QV) (x l w : Int32) : Int32 := if q_isl V x l then (if q_in w 0 9 then (if w.toInt = 0 then nI (v_dp V (q_spt x l)) else if w.toInt = 1 then nI (v_tx V (q_spt x l)).length else q_wd (v_tx V (q_spt x l)) (w.toInt.toNat - 2)) else -1002) else -1001
def sp_origin (V : QV) (x l w : Int32) : Int32 := if q_isl V x l then (if q_in w 0 2 then (if q_seen V (-1) x.toNatClampNeg then (match q_org V (q_par V (-1)) 6 (q_spt x l) with
    | none => -1
    | some z => if w.toInt = 0 then nI (z / 14) else if w.toInt = 1 then nI (z % 14) else v_wr V (z / 14)) else -1003) else -1002) else -1001
def sp_altered (V : QV) (x l : Int32) : Int32 := if q_isl V x l then (if q_seen V (-1) x.toNatClampNeg then q_b (q_alt V (q_par V (-1)) (q_spt x l)) else -1003) else -1001
def q_sum (f : Nat → Nat) : Nat → Nat
  | 0 => 0
  | n + 1 => q_sum f n + f n
/-- lines of seen letters whose origin is o -/
def q_from (V : QV) (a : Int32) (p : Nat → Option Nat) (o : Option Nat) : Nat := q_sum (fun y => if q_seen V a y then q_cnt (fun m => decide (q_org V p 6 (14 * y + m) = o)) (v_sz V y) else 0) (v_n V)
def sp_echoes (V : QV) (x l : Int32) : Int32 := if q_isl V x l then nI (q_from V (-1) (q_par V (-1)) (some (q_spt x l))) else -1001
def q_abk (V : QV) (p : Nat → Option Nat) (x : Nat) (w : Int) : Int32 :=
  if w = 6 then q_rw p x else if w = 7 then nI (q_root p 40 x) else if w = 8 then nI (q_stp p 40 x) else if w = 9 then nI (q_cnt (fun y => decide (p y = some x)) (v_n V)) else
  if w = 10 then nI (q_cnt (fun y => q_seen V (-1) y && decide (q_root p 40 y = q_root p 40 x)) (v_n V)) else match p x with
    | none => -1
    | some y => nI (q_fit V x y)
def sp_about (V : QV) (x w : Int32) : Int32 := if q_has V x then (if q_in w 0 11 then (if w.toInt < 6 then (if w.toInt = 0 then v_wr V x.toNatClampNeg else if w.toInt = 1 then v_dy V x.toNatClampNeg else if w.toInt = 2 then v_nm V x.toNatClampNeg else if w.toInt = 3 then nI (v_sz V x.toNatClampNeg) else if w.toInt = 4 then nI (q_quo V x.toNatClampNeg) else q_b (q_seen V (-1) x.toNatClampNeg)) else (if q_seen V (-1) x.toNatClampNeg then q_abk V (q_par V (-1)) x.toNatClampNeg w.toInt else -1)) else -1002) else -1001
theorem q_rw_eq {p : Nat → Option Nat} {n y x : Nat} (hp : q_okp p n) (hn : n ≤ 40) (hx : x < n) : q_rw p y = nI x ↔ p y = some x := by
  cases h : p y with
  | none =>
    rw [q_rw_none h]
    exact ⟨fun e => absurd e (q_m1ne (by omega)), fun e => by cases e⟩
  | some z =>
    rw [q_rw_some h]
    obtain ⟨r, hr⟩ := hp
    have := (hr y z h).2.1
    rw [nI_eq (by omega) (by omega)]
    exact ⟨fun e => by rw [e], fun e => by cases e; rfl⟩
theorem q_one {b : Bool} : (if q_b b = 0 then (0 : Int32) else 1) = q_b b := by cases b <;> decide
theorem q_bN (b : Bool) : q_b b = nI (if b then 1 else 0) := by cases b <;> rfl
theorem q_oneN {b : Bool} {f : Nat → Bool} {n : Nat} (h : f n = b) : nI (q_cnt f n) + q_b b = nI (q_cnt f (n + 1)) := by
  rw [q_cnt, h, q_bN, nI_add]
theorem q_oneM {b : Bool} (c : Nat) : nI c + q_b b = nI (c + if b then 1 else 0) := by rw [q_bN, nI_add]
theorem q_root_lt {p : Nat → Option Nat} {n : Nat} (hp : q_okp p n) : ∀ (k y : Nat), y < n → q_root p k y < n
  | 0, y, hy => hy
  | k + 1, y, hy => by
    rw [q_root]
    cases h : p y with
    | none => exact hy
    | some z =>
      obtain ⟨r, hr⟩ := id hp
      exact q_root_lt hp k z (hr y z h).2.1
theorem q_org_sp {V : QV} {p : Nat → Option Nat} (hp : q_okp p (v_n V)) : ∀ (k s z : Nat), q_sp V s → q_org V p k s = some z → q_sp V z
  | 0, s, z, _, h => by cases h
  | k + 1, s, z, hs, h => by
    rw [q_org] at h
    split at h
    · cases h; exact hs
    · cases hh : q_held V p s with
      | none => rw [hh] at h; cases h
      | some t => rw [hh] at h; exact q_org_sp hp k t z (q_held_in hp hh).1 h
theorem q_bi_eq {o : Option Nat} {s : Nat} (ho : ∀ z, o = some z → z < 560) (hs : s < 560) : q_bi o = nI s ↔ o = some s := by
  cases o with
  | none => exact ⟨fun e => absurd e (q_m1ne (by omega)), fun e => by cases e⟩
  | some z =>
    have := ho z rfl
    show nI z = nI s ↔ _
    rw [nI_eq (by omega) (by omega)]
    exact ⟨fun e => by rw [e], fun e => by cases e; rfl⟩
theorem q_bi_neg {o : Option Nat} (ho : ∀ z, o = some z → z < 560) : q_bi o < 0 ↔ o = none := by
  cases o with
  | none => exact ⟨fun _ => rfl, fun _ => by show (-1 : Int32) < 0; decide⟩
  | some z =>
    have := ho z rfl
    exact ⟨fun e => absurd e (nI_pos (by omega)), fun e => by cases e⟩
section QA
variable {d : Nat} {Q : Option Value → px_S → Prop} {σ : px_S} {V : QV}
theorem m_differ {x l y m : Int32} (hV : q_wf V) (hM : q_M V σ) (h : ∀ τ, q_M V τ → q_mk σ τ → Q (some (.int (sp_differ V x l y m))) τ) : Cw (d + 4) 139 [.ref 9, .int x, .int l, .int y, .int m] σ Q := by
  have hn := hV.1
  have no : ¬ (q_isl V x l ∧ q_isl V y m) → Wp (d + 3) tb_139 19 [.ref 9, .int x, .int l, .int y, .int m] [] σ Q := fun hz => by
    have e : sp_differ V x l y m = -1001 := by unfold sp_differ; rw [if_neg hz]
    rw [e] at h
    exact b139_19 (b139_42 (h σ hM q_mk.rf))
  refine e139 (b139_0 (m_noLine hV hM (fun j k hj hk ex el => ?_) (fun hno => b139_6 (fun _ => no (fun z => q_isl_no hV hno z.1)) (fun g => absurd (by decide) g))))
  refine b139_6 (fun g => absurd rfl g) (fun _ => b139_9 (m_noLine hV hM (fun j2 k2 hj2 hk2 ey em => ?_) (fun hno => b139_16 (fun g => absurd g (by decide)) (fun _ => no (fun z => q_isl_no hV hno z.2)))))
  refine b139_16 (fun _ => b139_25 ?_) (fun g => absurd rfl g)
  have s1 := (hV.2.1 j hj).1
  have s2 := (hV.2.1 j2 hj2).1
  have e : sp_differ V x l y m = nI (q_dist (v_tx V (14 * j + k)) (v_tx V (14 * j2 + k2))) := by
    unfold sp_differ q_spt
    rw [ex, el, ey, em, if_pos ⟨q_isl_nI hV hj hk, q_isl_nI hV hj2 hk2⟩, nI_clamp (by omega), nI_clamp (by omega), nI_clamp (by omega), nI_clamp (by omega)]
  rw [e] at h
  subst ex; subst el; subst ey; subst em
  rw [q_ix14, q_ix14]
  exact m_differBy hV hM (q_wf_sp hj hk) (q_wf_sp hj2 hk2) (fun τ he => b139_42 (h τ (hM.eqx ((q_s1e he).mono q_s1_scr)) (q_mk.s1 (q_s1e he))))
theorem m_fit {x y : Int32} (hV : q_wf V) (hM : q_M V σ) (h : ∀ τ, q_M V τ → q_mk σ τ → Q (some (.int (sp_fit V x y))) τ) : Cw (d + 5) 142 [.ref 9, .int x, .int y] σ Q := by
  have hn := hV.1
  have no : ¬ (q_has V x ∧ q_has V y) → Wp (d + 4) tb_142 16 [.ref 9, .int x, .int y] [] σ Q := fun hz => by
    have e : sp_fit V x y = -1001 := by unfold sp_fit; rw [if_neg hz]
    rw [e] at h
    exact b142_16 (h σ hM q_mk.rf)
  have nh : ∀ {u : Int32}, (∀ j, j < v_n V → ¬ u = nI j) → ¬ q_has V u := fun hno z => by obtain ⟨j, h1, h2⟩ := q_has_of z; exact hno j h1 h2
  refine e142 (b142_0 (m_noLetter hV hM (fun j hj ex => ?_) (fun hno => b142_5 (fun _ => no (fun z => nh hno z.1)) (fun g => absurd (by decide) g))))
  refine b142_5 (fun g => absurd rfl g) (fun _ => b142_8 (m_noLetter hV hM (fun i hi ey => ?_) (fun hno => b142_13 (fun g => absurd g (by decide)) (fun _ => no (fun z => nh hno z.2)))))
  subst ex; subst ey
  have cj : (nI j).toNatClampNeg = j := nI_clamp (by omega)
  have ci : (nI i).toNatClampNeg = i := nI_clamp (by omega)
  have hb : q_has V (nI j) ∧ q_has V (nI i) := ⟨q_has_nI hn hj, q_has_nI hn hi⟩
  have bad : (nI j = nI i ∨ q_seen V (-1) j = false ∨ q_seen V (-1) i = false) → Wp (d + 4) tb_142 41 [.ref 9, .int (nI j), .int (nI i)] [] σ Q := fun hz => by
    have e : sp_fit V (nI j) (nI i) = -1003 := by unfold sp_fit; rw [if_pos hb, cj, ci, if_pos hz]
    rw [e] at h
    exact b142_41 (b142_53 (h σ hM q_mk.rf))
  refine b142_13 (fun _ => b142_20 (fun g => bad (Or.inl g)) (fun g1 => b142_25 (m_isSeen hV hM hj ?_))) (fun g => absurd rfl g)
  cases hs : q_seen V (-1) j with
  | false => exact b142_30 (fun _ => bad (Or.inr (Or.inl hs))) (fun g => absurd rfl g)
  | true =>
    refine b142_30 (fun g => absurd g (by decide)) (fun _ => b142_33 (m_isSeen hV hM hi ?_))
    cases hs2 : q_seen V (-1) i with
    | false => exact b142_38 (fun g => absurd rfl g) (fun _ => bad (Or.inr (Or.inr hs2)))
    | true =>
      have e : sp_fit V (nI j) (nI i) = nI (q_fit V j i) := by
        unfold sp_fit
        rw [if_pos hb, cj, ci, if_neg]
        rintro (z | z | z)
        · exact g1 z
        · rw [hs] at z; cases z
        · rw [hs2] at z; cases z
      rw [e] at h
      exact b142_38 (fun _ => b142_47 (m_fitOf hV hM hj hi (fun τ he => b142_53 (h τ (hM.eqx (he.mono q_s2_scr)) (q_mk.mc (he.mono q_s2_mc)))))) (fun g => absurd (by decide) g)
theorem q_tI (x : Int32) (c : Int32) {n : Int} (hc : c.toInt = n) : x = c ↔ x.toInt = n := by rw [← hc]; exact Int32.toInt_inj.symm
theorem m_told {x l w : Int32} (hV : q_wf V) (hM : q_M V σ) (h : ∀ τ, q_M V τ → q_mk σ τ → Q (some (.int (sp_told V x l w))) τ) : Cw (d + 4) 153 [.ref 9, .int x, .int l, .int w] σ Q := by
  have hn := hV.1
  have h := h σ hM q_mk.rf
  refine e153 (b153_0 (m_noLine hV hM (fun j k hj hk ex el => ?_) (fun hno => ?_)))
  · subst ex; subst el
    have s1 := (hV.2.1 j hj).1
    have hi := q_isl_nI hV hj hk
    have esp : q_spt (nI j) (nI k) = 14 * j + k := by unfold q_spt; rw [nI_clamp (by omega), nI_clamp (by omega)]
    have hsp := q_wf_sp hj hk
    obtain ⟨is, cs⟩ := q_lt (j := 14 * j + k) (N := 560) (by omega) (by decide)
    obtain ⟨g1, g2, g3⟩ := hM.sp hsp
    obtain ⟨d5, hw⟩ := hV.sp hsp
    unfold sp_told at h
    rw [if_pos hi, esp] at h
    refine b153_6 (fun _ => b153_13 (m_inI (a' := 0) (b' := 9) (by decide) (by decide) (fun a1 a2 => ?_) (fun g => ?_))) (fun g => absurd rfl g)
    · have hin : q_in w 0 9 := ⟨a1, a2⟩
      rw [if_pos hin] at h
      rw [q_ix14]
      obtain ⟨c, hc⟩ : ∃ c : Nat, w.toInt = (c : Int) := ⟨w.toInt.toNat, by omega⟩
      have ew : w = nI c := q_ofInt hc
      have hwl := hw.1
      refine b153_30 (fun _ => b153_37 (fun w0 => b153_51 (fun w1 => ?_) (fun w1 => b153_56 is (b153_97 ?_))) (fun w0 => b153_41 is (b153_97 ?_))) (fun g => absurd (by decide) g)
      · rw [q_tI _ _ (n := 0) (by decide)] at w0
        rw [q_tI _ _ (n := 1) (by decide)] at w1
        rw [if_neg w0, if_neg w1] at h
        obtain ⟨c, rfl⟩ : ∃ c2, c = c2 + 2 := ⟨c - 2, by omega⟩
        have e2 : w.toInt.toNat - 2 = c := by omega
        have e3 : w - 2 = nI c := by rw [ew, show (2 : Int32) = nI 2 from rfl, pk_sub (by omega)]; rfl
        have e4 : (8 : Int32) * nI (14 * j + k) + w - 2 = nI (8 * (14 * j + k) + c) := by
          rw [ew, q_ix8, show (2 : Int32) = nI 2 from rfl, pk_sub (by omega)]; congr 1
        rw [e2] at h
        unfold q_wd at h
        refine b153_66 is (fun g => ?_) (fun g => ?_)
        · rw [cs, g2, e3, nI_leI (by omega) (by omega)] at g
          rw [if_neg (by omega)] at h
          exact b153_96 (b153_97 h)
        · rw [cs, g2, e3, nI_leI (by omega) (by omega)] at g
          rw [if_pos (by omega)] at h
          obtain ⟨i8, c8⟩ := q_lt (j := 8 * (14 * j + k) + c) (N := 4480) (by omega) (by decide)
          refine b153_79 (by rw [e4]; exact i8) (b153_97 ?_)
          rw [e4, c8, g3 c (by omega)]
          exact h
      · rw [q_tI _ _ (n := 0) (by decide)] at w0
        have w1 := Decidable.not_not.mp w1
        rw [q_tI _ _ (n := 1) (by decide)] at w1
        rw [if_neg w0, if_pos w1] at h
        rw [cs, g2]; exact h
      · have w0 := Decidable.not_not.mp w0
        rw [q_tI _ _ (n := 0) (by decide)] at w0
        rw [if_pos w0] at h
        rw [cs, g1]; exact h
    · rw [if_neg g] at h
      exact b153_30 (fun g => absurd rfl g) (fun _ => b153_33 h)
  · unfold sp_told at h
    rw [if_neg (q_isl_no hV hno)] at h
    exact b153_6 (fun g => absurd g (by decide)) (fun _ => b153_9 h)
theorem m_origin {x l w : Int32} (hV : q_wf V) (hM : q_M V σ) (h : ∀ τ, q_M V τ → q_mk σ τ → Q (some (.int (sp_origin V x l w))) τ) : Cw (d + 7) 154 [.ref 9, .int x, .int l, .int w] σ Q := by
  have hn := hV.1
  have hp := q_par_ok hV (-1)
  refine e154 (b154_0 (m_noLine hV hM (fun j k hj hk ex el => ?_) (fun hno => ?_)))
  · subst ex; subst el
    have s1 := (hV.2.1 j hj).1
    have hi := q_isl_nI hV hj hk
    have esp : q_spt (nI j) (nI k) = 14 * j + k := by unfold q_spt; rw [nI_clamp (by omega), nI_clamp (by omega)]
    have cj : (nI j).toNatClampNeg = j := nI_clamp (by omega)
    have hsp := q_wf_sp hj hk
    unfold sp_origin at h
    rw [if_pos hi, esp, cj] at h
    refine b154_6 (fun _ => b154_13 (m_inI (a' := 0) (b' := 2) (by decide) (by decide) (fun a1 a2 => ?_) (fun g => ?_))) (fun g => absurd rfl g)
    · have hin : q_in w 0 2 := ⟨a1, a2⟩
      rw [if_pos hin] at h
      refine b154_22 (fun _ => b154_29 (m_isSeen hV hM hj ?_)) (fun g => absurd (by decide) g)
      cases hs : q_seen V (-1) j with
      | false =>
        rw [hs] at h
        exact b154_34 (fun g => absurd rfl g) (fun _ => b154_37 (h σ hM q_mk.rf))
      | true =>
        rw [hs, if_pos rfl] at h
        refine b154_34 (fun _ => b154_41 (m_findParents hV hM (fun τ he hr hk3 => b154_45 ?_))) (fun g => absurd (by decide) g)
        have hMt : q_M V τ := hM.eqx (he.mono q_s3_scr)
        rw [q_ix14]
        refine m_originOf hV hMt hp hr hsp (fun τ' he' => ?_)
        have hM' : q_M V τ' := hMt.eqx (he'.mono q_s1_scr)
        have h := h τ' hM' ((q_mk.scr he q_s3_scr hk3).tr (q_mk.s1 he'))
        cases ho : q_org V (q_par V (-1)) 6 (14 * j + k) with
        | none =>
          rw [ho] at h
          exact b154_55 (fun g => absurd g (by decide)) (fun _ => b154_62 (b154_101 h))
        | some z =>
          rw [ho] at h
          have h : Q (some (.int (if w.toInt = 0 then nI (z / 14) else if w.toInt = 1 then nI (z % 14) else v_wr V (z / 14)))) τ' := h
          have hz := q_org_sp hp 6 _ z hsp ho
          have lz := q_sp_lt hV hz
          have e1 : nI z / (14 : Int32) = nI (z / 14) := by rw [show (14 : Int32) = nI 14 from rfl, pk_div (by omega) (by decide) (by decide)]
          have e2 : nI z - nI z / (14 : Int32) * (14 : Int32) = nI (z % 14) := by rw [show (14 : Int32) = nI 14 from rfl, pk_rem (by omega) (by decide) (by decide)]
          refine b154_55 (fun _ => b154_66 (fun w0 => b154_78 (fun w1 => ?_) (fun w1 => b154_83 (b154_101 ?_))) (fun w0 => b154_70 (b154_101 ?_))) (fun g => absurd (nI_pos' (by omega)) g)
          · rw [q_tI _ _ (n := 0) (by decide)] at w0
            rw [q_tI _ _ (n := 1) (by decide)] at w1
            rw [if_neg w0, if_neg w1] at h
            have hzn : z / 14 < v_n V := by
              obtain ⟨u, v, hu, hv, rfl⟩ := hz
              rw [(q_sp_div hV hu hv).1]; exact hu
            obtain ⟨iz, cz⟩ := q_lt (j := z / 14) (N := 40) (by omega) (by decide)
            show Wp (d + 6) tb_154 91 [.ref 9, .int (nI j), .int (nI k), .int w, .int (nI z)] [] τ' Q
            refine b154_91 (by rw [e1]; exact iz) (b154_101 ?_)
            rw [e1, cz, (hM'.2.1 _ hzn).1]; exact h
          · rw [q_tI _ _ (n := 0) (by decide)] at w0
            have w1 := Decidable.not_not.mp w1
            rw [q_tI _ _ (n := 1) (by decide)] at w1
            rw [if_neg w0, if_pos w1] at h
            show Q (some (.int (nI z - nI z / (14 : Int32) * (14 : Int32)))) τ'
            rw [e2]; exact h
          · have w0 := Decidable.not_not.mp w0
            rw [q_tI _ _ (n := 0) (by decide)] at w0
            rw [if_pos w0] at h
            show Q (some (.int (nI z / (14 : Int32)))) τ'
            rw [e1]; exact h
    · rw [if_neg g] at h
      exact b154_22 (fun g => absurd rfl g) (fun _ => b154_25 (h σ hM q_mk.rf))
  · unfold sp_origin at h
    rw [if_neg (q_isl_no hV hno)] at h
    exact b154_6 (fun g => absurd g (by decide)) (fun _ => b154_9 (h σ hM q_mk.rf))
theorem m_altered {x l : Int32} (hV : q_wf V) (hM : q_M V σ) (h : ∀ τ, q_M V τ → q_mk σ τ → Q (some (.int (sp_altered V x l))) τ) : Cw (d + 7) 158 [.ref 9, .int x, .int l] σ Q := by
  have hn := hV.1
  have hp := q_par_ok hV (-1)
  refine e158 (b158_0 (m_noLine hV hM (fun j k hj hk ex el => ?_) (fun hno => ?_)))
  · subst ex; subst el
    have s1 := (hV.2.1 j hj).1
    have hi := q_isl_nI hV hj hk
    have esp : q_spt (nI j) (nI k) = 14 * j + k := by unfold q_spt; rw [nI_clamp (by omega), nI_clamp (by omega)]
    have cj : (nI j).toNatClampNeg = j := nI_clamp (by omega)
    have hsp := q_wf_sp hj hk
    unfold sp_altered at h
    rw [if_pos hi, esp, cj] at h
    refine b158_6 (fun _ => b158_13 (m_isSeen hV hM hj ?_)) (fun g => absurd rfl g)
    cases hs : q_seen V (-1) j with
    | false =>
      rw [hs] at h
      exact b158_18 (fun g => absurd rfl g) (fun _ => b158_21 (h σ hM q_mk.rf))
    | true =>
      rw [hs, if_pos rfl] at h
      refine b158_18 (fun _ => b158_25 (m_findParents hV hM (fun τ he hr hk3 => b158_29 ?_))) (fun g => absurd (by decide) g)
      have hMt : q_M V τ := hM.eqx (he.mono q_s3_scr)
      rw [q_ix14]
      refine m_isAltered hV hMt hp hr hsp (fun τ' he' => b158_39 (m_one (b158_42 ?_)))
      rw [q_one]
      exact h τ' (hMt.eqx (he'.mono q_s1_scr)) ((q_mk.scr he q_s3_scr hk3).tr (q_mk.s1 he'))
  · unfold sp_altered at h
    rw [if_neg (q_isl_no hV hno)] at h
    exact b158_6 (fun g => absurd g (by decide)) (fun _ => b158_9 (h σ hM q_mk.rf))
theorem m_echoes {x l : Int32} (hV : q_wf V) (hM : q_M V σ) (h : ∀ τ, q_M V τ → q_mk σ τ → Q (some (.int (sp_echoes V x l))) τ) : Cw (d + 7) 160 [.ref 9, .int x, .int l] σ Q := by
  have hn := hV.1
  have hp := q_par_ok hV (-1)
  refine e160 (b160_0 (m_noLine hV hM (fun j k hj hk ex el => ?_) (fun hno => ?_)))
  · subst ex; subst el
    have s1 := (hV.2.1 j hj).1
    have hi := q_isl_nI hV hj hk
    have esp : q_spt (nI j) (nI k) = 14 * j + k := by unfold q_spt; rw [nI_clamp (by omega), nI_clamp (by omega)]
    have hsp := q_wf_sp hj hk
    have lsp := q_sp_lt hV hsp
    unfold sp_echoes q_from at h
    rw [if_pos hi, esp] at h
    refine b160_6 (fun _ => b160_13 (m_findParents hV hM (fun τ he hr hk3 => b160_17 ?_))) (fun g => absurd rfl g)
    have hMt : q_M V τ := hM.eqx (he.mono q_s3_scr)
    let g := fun y => if q_seen V (-1) y then q_cnt (fun m => decide (q_org V (q_par V (-1)) 6 (14 * y + m) = some (14 * j + k))) (v_sz V y) else 0
    have loop : ∀ m y (τ' : px_S) (v5 : Value), y + m = v_n V → q_eqx q_s1 τ τ' → Wp (d + 6) tb_160 22 [.ref 9, .int (nI j), .int (nI k), .int (nI (q_sum g y)), .int (nI y), v5] [] τ' Q := by
      intro m
      induction m with
      | zero =>
        intro y τ' v5 hy he'
        have e : y = v_n V := by omega
        subst e
        have hM' : q_M V τ' := hMt.eqx (he'.mono q_s1_scr)
        exact b160_22 (fun _ => b160_99 (h τ' hM' ((q_mk.scr he q_s3_scr hk3).tr (q_mk.s1 he')))) (fun g => absurd (by rw [hM'.1]; exact Int32.le_refl _) g)
      | succ m ih =>
        intro y τ' v5 hy he'
        have hyn : y < v_n V := by omega
        have hsy := (hV.2.1 y hyn).1
        obtain ⟨iy, cy⟩ := q_lt (j := y) (N := 40) (by omega) (by decide)
        have next : ∀ (τ2 : px_S) (c : Nat) (x5 : Int32), q_eqx q_s1 τ τ2 → c = g y → Wp (d + 6) tb_160 93 [.ref 9, .int (nI j), .int (nI k), .int (nI (q_sum g y + c)), .int (nI y), .int x5] [] τ2 Q := by
          intro τ2 c x5 he2 hc
          refine b160_93 ?_
          rw [nI_1, hc]
          exact ih (y + 1) τ2 _ (by omega) he2
        have inner : ∀ m i (τ2 : px_S), i + m = v_sz V y → q_eqx q_s1 τ τ2 → (q_seen V (-1) y = false → i = 0) → Wp (d + 6) tb_160 34 [.ref 9, .int (nI j), .int (nI k), .int (nI (q_sum g y + q_cnt (fun m => decide (q_org V (q_par V (-1)) 6 (14 * y + m) = some (14 * j + k))) i)), .int (nI y), .int (nI i)] [] τ2 Q := by
          intro m
          induction m with
          | zero =>
            intro i τ2 hi he2 hs0
            have e : i = v_sz V y := by omega
            have hM2 : q_M V τ2 := hMt.eqx (he2.mono q_s1_scr)
            refine b160_34 iy (fun _ => next τ2 _ _ he2 ?_) (fun g => absurd (by rw [cy, (hM2.2.1 y hyn).2.2.2.1, e]; exact Int32.le_refl _) g)
            cases hs : q_seen V (-1) y with
            | false => show _ = if q_seen V (-1) y = true then _ else 0; rw [hs, hs0 hs]; rfl
            | true => show _ = if q_seen V (-1) y = true then _ else 0; rw [hs, if_pos rfl, e]
          | succ m ih2 =>
            intro i τ2 hi he2 hs0
            have hM2 : q_M V τ2 := hMt.eqx (he2.mono q_s1_scr)
            have hst := q_wf_sp (l := i) hyn (by omega)
            refine b160_34 iy (fun g => absurd g (by rw [cy, (hM2.2.1 y hyn).2.2.2.1]; exact nI_ge (by omega) (by omega))) (fun _ => b160_46 (m_isSeen hV hM2 hyn ?_))
            cases hs : q_seen V (-1) y with
            | false =>
              have h0 := hs0 hs
              subst h0
              exact b160_52 (fun _ => next τ2 _ _ he2 (by show _ = if q_seen V (-1) y = true then _ else 0; rw [hs]; rfl)) (fun g => absurd rfl g)
            | true =>
              refine b160_52 (fun g => absurd g (by decide)) (fun _ => b160_55 ?_)
              rw [q_ix14]
              refine m_originOf hV hM2 hp (hr.eqx he2 q_s1_49) hst (fun τ3 he3 => ?_)
              have hq : (q_bi (q_org V (q_par V (-1)) 6 (14 * y + i)) = nI (14 * j + k)) ↔ _ := q_bi_eq (fun z hz => q_sp_lt hV (q_org_sp hp 6 _ z hst hz)) lsp
              have fin : ∀ b : Bool, decide (q_org V (q_par V (-1)) 6 (14 * y + i) = some (14 * j + k)) = b → Wp (d + 6) tb_160 82 [.ref 9, .int (nI j), .int (nI k), .int (nI (q_sum g y + q_cnt (fun m => decide (q_org V (q_par V (-1)) 6 (14 * y + m) = some (14 * j + k))) i)), .int (nI y), .int (nI i)] [.int (q_b b), .int (nI (q_sum g y + q_cnt (fun m => decide (q_org V (q_par V (-1)) 6 (14 * y + m) = some (14 * j + k))) i))] τ3 Q := by
                intro b hb
                refine b160_82 (m_one (b160_85 ?_))
                rw [q_one, q_oneM, nI_1, Nat.add_assoc]
                have := ih2 (i + 1) τ3 (by omega) (he2.tr he3) (fun z => by rw [hs] at z; cases z)
                rw [q_cnt, hb] at this
                exact this
              refine b160_68 (fun g => ?_) (fun g => ?_)
              · rw [q_ix14, hq] at g
                exact b160_81 (fin false (decide_eq_false g))
              · rw [q_ix14, hq] at g
                exact b160_77 (fin true (decide_eq_true (Decidable.not_not.mp g)))
        have hM' : q_M V τ' := hMt.eqx (he'.mono q_s1_scr)
        exact b160_22 (fun g => absurd g (by rw [hM'.1]; exact nI_ge (by omega) (by omega))) (fun _ => b160_31 (inner (v_sz V y) 0 τ' (by omega) he' (fun _ => rfl)))
    exact loop (v_n V) 0 τ .null (by omega) q_eqx.rf
  · unfold sp_echoes at h
    rw [if_neg (q_isl_no hV hno)] at h
    exact b160_6 (fun g => absurd g (by decide)) (fun _ => b160_9 (h σ hM q_mk.rf))
end QA
