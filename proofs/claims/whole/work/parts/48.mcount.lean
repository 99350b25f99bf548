/-! ===== count: the reference ===== -/
def q_pv (σ : px_S) : Prop := ∀ y, y < 40 → σ.1 49 y = -1 ∨ ∃ z, z < 40 ∧ σ.1 49 y = nI z
theorem q_pv.pk {σ τ : px_S} (h : q_pv σ) (hk : q_pk σ τ) : q_pv τ := fun y hy => by
  rcases hk y with e | e
  · rw [e]; exact h y hy
  · exact e
def q_alts (V : QV) (a : Int32) (p : Nat → Option Nat) : Nat := q_sum (fun x => if q_seen V a x then q_cnt (fun l => q_alt V p (14 * x + l)) (v_sz V x) else 0) (v_n V)
noncomputable def q_ctf (V : QV) (p : Nat → Option Nat) (w : Int) : Int32 :=
  if w = 0 then nI (v_n V) else if w = 1 then nI (q_cnt (q_seen V (-1)) (v_n V)) else if w = 2 then nI (v_dr V).length else if w = 3 then nI (q_cnt (fun x => q_seen V (-1) x && (p x).isNone) (v_n V)) else
  if w = 4 then nI (q_alts V (-1) p) else if w = 5 then nI (q_from V (-1) p none) else if w = 6 then nI (q_gs V (-1) p) else if w = 7 then nI (q_cnt (fun x => q_seen V (-1) x && q_qrl V p x) (v_n V)) else
  if w = 8 then nI (v_sg V).length else if w = 9 then nI (v_by V).length else if w = 10 then v_kn V else -1002
noncomputable def sp_count (V : QV) (w : Int32) : Int32 := q_ctf V (q_par V (-1)) w.toInt
section QCN
variable {d : Nat} {Q : Option Value → px_S → Prop} {σ : px_S} {V : QV}
theorem m_quarrels_any {x : Nat} (hx : x < 40) (hpv : q_pv σ) (h : ∀ b : Bool, Q (some (.int (q_b b))) σ) : Cw (d + 1) 177 [.ref 9, .int (nI x)] σ Q := by
  obtain ⟨ix, cx⟩ := q_lt (j := x) (N := 40) hx (by decide)
  have no : ∀ z : Int32, Wp d tb_177 48 [.ref 9, .int (nI x), .int z] [] σ Q := fun z => b177_48 (b177_49 (Or.inl rfl) (h false))
  refine e177 (b177_0 ix (fun _ => no _) (fun g => ?_))
  rcases hpv x hx with e | ⟨z, hz, e⟩
  · rw [cx, e] at g; exact absurd (by decide) g
  · obtain ⟨iz, cz⟩ := q_lt (j := z) (N := 40) hz (by decide)
    rw [cx, e]
    exact b177_11 ix (fun _ => no _) (fun _ => b177_20 iz (fun _ => no _) (fun _ => b177_29 ix iz (fun _ => no _) (fun _ => b177_44 (b177_49 (Or.inr rfl) (h true)))))
theorem m_count {w : Int32} (hV : q_wf V) (hM : q_M V σ) (hpv : q_pv σ) (h : ∀ τ, q_M V τ → q_mk σ τ → Q (some (.int (sp_count V w))) τ) : Cw (d + 8) 184 [.ref 9, .int w] σ Q := by
  have hn := hV.1
  have hp := q_par_ok hV (-1)
  have body : ∀ (τ : px_S), q_M V τ → q_mk σ τ → (3 ≤ w.toInt ∧ w.toInt ≤ 7 → q_row (q_par V (-1)) (v_n V) τ ∧ τ.1 9 18 = nI (q_gs V (-1) (q_par V (-1)))) → Wp (d + 7) tb_184 15 [.ref 9, .int w, .null, .null, .null, .null, .null, .null, .null] [] τ Q := by
    intro τ hMt hmk hR
    have hpv2 : q_pv τ := hpv.pk hmk.2
    let fr := fun x => q_seen V (-1) x && (q_par V (-1) x).isNone
    let fq := fun x => q_seen V (-1) x && q_qrl V (q_par V (-1)) x
    let fa := fun x => if q_seen V (-1) x then q_cnt (fun l => q_alt V (q_par V (-1)) (14 * x + l)) (v_sz V x) else 0
    let fu := fun x => if q_seen V (-1) x then q_cnt (fun m => decide (q_org V (q_par V (-1)) 6 (14 * x + m) = none)) (v_sz V x) else 0
    have loop : ∀ m x (τ' : px_S) (x3 x4 x5 x6 : Int32) (v8 : Value), x + m = v_n V → q_eqx q_s1 τ τ' → px_nc v8 = true → (3 ≤ w.toInt ∧ w.toInt ≤ 7 → x3 = nI (q_cnt fr x) ∧ x6 = nI (q_cnt fq x)) → (4 ≤ w.toInt ∧ w.toInt ≤ 5 → x4 = nI (q_sum fa x) ∧ x5 = nI (q_sum fu x)) → Wp (d + 7) tb_184 31 [.ref 9, .int w, .int (nI (q_cnt (q_seen V (-1)) x)), .int x3, .int x4, .int x5, .int x6, .int (nI x), v8] [] τ' Q := by
      intro m
      induction m with
      | zero =>
        intro x τ' x3 x4 x5 x6 v8 hx he n8 h1 h2
        have e : x = v_n V := by omega
        subst e
        have hM' : q_M V τ' := hMt.eqx (he.mono q_s1_scr)
        have h := h τ' hM' (hmk.tr (q_mk.s1 he))
        unfold sp_count q_ctf at h
        refine b184_31 (fun _ => b184_211 (fun g => b184_315 ?_) (fun j t hj hw => ?_)) (fun g => absurd (by rw [hM'.1]; exact Int32.le_refl _) g)
        · rw [if_neg (by omega), if_neg (by omega), if_neg (by omega), if_neg (by omega), if_neg (by omega), if_neg (by omega), if_neg (by omega), if_neg (by omega), if_neg (by omega), if_neg (by omega), if_neg (by omega)] at h
          exact h
        · match j, hj, hw with
          | 0, hj, hw => cases hj; rw [if_pos (by omega)] at h; refine b184_272 ?_; rw [hM'.1]; exact h
          | 1, hj, hw => cases hj; rw [if_neg (by omega), if_pos (by omega)] at h; exact b184_277 h
          | 2, hj, hw => cases hj; rw [if_neg (by omega), if_neg (by omega), if_pos (by omega)] at h; refine b184_279 ?_; rw [hM'.2.2.2.1.1]; exact h
          | 3, hj, hw => cases hj; rw [if_neg (by omega), if_neg (by omega), if_neg (by omega), if_pos (by omega)] at h; refine b184_284 ?_; rw [(h1 (by omega)).1]; exact h
          | 4, hj, hw => cases hj; rw [if_neg (by omega), if_neg (by omega), if_neg (by omega), if_neg (by omega), if_pos (by omega)] at h; refine b184_286 ?_; rw [(h2 (by omega)).1]; exact h
          | 5, hj, hw => cases hj; rw [if_neg (by omega), if_neg (by omega), if_neg (by omega), if_neg (by omega), if_neg (by omega), if_pos (by omega)] at h; refine b184_289 ?_; rw [(h2 (by omega)).2]; exact h
          | 6, hj, hw =>
            cases hj
            rw [if_neg (by omega), if_neg (by omega), if_neg (by omega), if_neg (by omega), if_neg (by omega), if_neg (by omega), if_pos (by omega)] at h
            refine b184_292 ?_
            rw [he.2 9 (by unfold q_s1; omega), (hR (by omega)).2]; exact h
          | 7, hj, hw =>
            cases hj
            rw [if_neg (by omega), if_neg (by omega), if_neg (by omega), if_neg (by omega), if_neg (by omega), if_neg (by omega), if_neg (by omega), if_pos (by omega)] at h
            refine b184_297 ?_; rw [(h1 (by omega)).2]; exact h
          | 8, hj, hw =>
            cases hj
            rw [if_neg (by omega), if_neg (by omega), if_neg (by omega), if_neg (by omega), if_neg (by omega), if_neg (by omega), if_neg (by omega), if_neg (by omega), if_pos (by omega)] at h
            refine b184_300 ?_; rw [hM'.2.2.2.2.2.2.2.1.1]; exact h
          | 9, hj, hw =>
            cases hj
            rw [if_neg (by omega), if_neg (by omega), if_neg (by omega), if_neg (by omega), if_neg (by omega), if_neg (by omega), if_neg (by omega), if_neg (by omega), if_neg (by omega), if_pos (by omega)] at h
            refine b184_305 ?_; rw [hM'.2.2.2.2.2.2.2.2.1.1]; exact h
          | 10, hj, hw =>
            cases hj
            rw [if_neg (by omega), if_neg (by omega), if_neg (by omega), if_neg (by omega), if_neg (by omega), if_neg (by omega), if_neg (by omega), if_neg (by omega), if_neg (by omega), if_neg (by omega), if_pos (by omega)] at h
            refine b184_310 ?_; rw [hM'.2.2.2.2.1]; exact h
          | k0 + 11, hj, hw => simp at hj
      | succ m ih =>
        intro x τ' x3 x4 x5 x6 v8 hx he n8 h1 h2
        have hxn : x < v_n V := by omega
        have hM' : q_M V τ' := hMt.eqx (he.mono q_s1_scr)
        have hsz := (hV.2.1 x hxn).1
        obtain ⟨ix, cx⟩ := q_lt (j := x) (N := 40) (by omega) (by decide)
        -- behind the lines
        have tail : ∀ (τ2 : px_S) (x4 x5 x8 : Int32), q_eqx q_s1 τ τ2 → (4 ≤ w.toInt ∧ w.toInt ≤ 5 → x4 = nI (q_sum fa (x + 1)) ∧ x5 = nI (q_sum fu (x + 1))) → Wp (d + 7) tb_184 144 [.ref 9, .int w, .int (nI (q_cnt (q_seen V (-1)) (x + 1))), .int x3, .int x4, .int x5, .int x6, .int (nI x), .int x8] [] τ2 Q := by
          intro τ2 x4 x5 x8 he2 h2'
          have hM2 : q_M V τ2 := hMt.eqx (he2.mono q_s1_scr)
          have hpvt : q_pv τ2 := hpv2.pk (q_mk.s1 he2).2
          have fin : ∀ (x3' : Int32) (b6 : Bool), (3 ≤ w.toInt ∧ w.toInt ≤ 7 → x3' = nI (q_cnt fr (x + 1)) ∧ b6 = fq x) → Wp (d + 7) tb_184 199 [.ref 9, .int w, .int (nI (q_cnt (q_seen V (-1)) (x + 1))), .int x3', .int x4, .int x5, .int x6, .int (nI x), .int x8] [.int (q_b b6), .int x6] τ2 Q := by
            intro x3' b6 hb
            refine b184_199 (m_one (b184_202 ?_))
            rw [q_one, nI_1]
            refine ih (x + 1) τ2 _ _ _ _ _ (by omega) he2 rfl (fun z => ⟨(hb z).1, ?_⟩) h2'
            rw [(h1 z).2]
            exact q_oneN (hb z).2.symm
          have mid : ∀ (b3 : Bool), (3 ≤ w.toInt ∧ w.toInt ≤ 7 → b3 = fr x) → Wp (d + 7) tb_184 169 [.ref 9, .int w, .int (nI (q_cnt (q_seen V (-1)) (x + 1))), .int x3, .int x4, .int x5, .int x6, .int (nI x), .int x8] [.int (q_b b3), .int x3] τ2 Q := by
            intro b3 hb
            refine b184_169 (m_one (b184_172 (m_isSeen hV hM2 hxn ?_)))
            rw [q_one]
            have h3' : 3 ≤ w.toInt ∧ w.toInt ≤ 7 → x3 + q_b b3 = nI (q_cnt fr (x + 1)) := fun z => by rw [(h1 z).1]; exact q_oneN (hb z).symm
            cases hs : q_seen V (-1) x with
            | false => exact b184_182 (fun _ => b184_198 (fin _ false (fun z => ⟨h3' z, by show _ = (q_seen V (-1) x && _); rw [hs]; rfl⟩))) (fun g => absurd rfl g)
            | true =>
              refine b184_182 (fun g => absurd g (by decide)) (fun _ => b184_185 ?_)
              by_cases hw : 3 ≤ w.toInt ∧ w.toInt ≤ 7
              · refine m_quarrels hV hM2 hp ((hR hw).1.eqx he2 q_s1_49) hxn ?_
                have efq : fq x = q_qrl V (q_par V (-1)) x := by show (q_seen V (-1) x && _) = _; rw [hs]; rfl
                cases hb2 : q_qrl V (q_par V (-1)) x with
                | false => exact b184_191 (fun _ => b184_198 (fin _ false (fun z => ⟨h3' z, by rw [efq, hb2]⟩))) (fun g => absurd rfl g)
                | true => exact b184_191 (fun g => absurd g (by decide)) (fun _ => b184_194 (fin _ true (fun z => ⟨h3' z, by rw [efq, hb2]⟩)))
              · refine m_quarrels_any (by omega) hpvt (fun b => ?_)
                exact b184_191 (fun _ => b184_198 (fin _ false (fun z => absurd z hw))) (fun _ => b184_194 (fin _ true (fun z => absurd z hw)))
          refine b184_144 (m_isSeen hV hM2 hxn ?_)
          cases hs : q_seen V (-1) x with
          | false => exact b184_151 (fun _ => b184_168 (mid false (fun _ => by show _ = (q_seen V (-1) x && _); rw [hs]; rfl))) (fun g => absurd rfl g)
          | true =>
            refine b184_151 (fun g => absurd g (by decide)) (fun _ => b184_154 ix (fun g => b184_168 (mid false (fun z => ?_))) (fun g => b184_164 (mid true (fun z => ?_))))
            · rw [cx, (hR z).1.eqx he2 q_s1_49 x hxn] at g
              show _ = (q_seen V (-1) x && (q_par V (-1) x).isNone)
              cases hpx : q_par V (-1) x with
              | none => rw [q_rw_none hpx] at g; exact absurd g (by decide)
              | some z2 => simp
            · rw [cx, (hR z).1.eqx he2 q_s1_49 x hxn] at g
              show _ = (q_seen V (-1) x && (q_par V (-1) x).isNone)
              cases hpx : q_par V (-1) x with
              | none => rw [hs]; rfl
              | some z2 =>
                rw [q_rw_some hpx] at g
                have : z2 < v_n V := by obtain ⟨r, hrk⟩ := id hp; exact (hrk x z2 hpx).2.1
                exact absurd (nI_pos' (by omega)) g
        refine b184_31 (fun g => absurd g (by rw [hM'.1]; exact nI_ge (by omega) (by omega))) (fun _ => b184_40 n8 (m_isSeen hV hM' hxn (b184_47 n8 (m_one (b184_50 ?_)))))
        have e0 : nI (q_cnt (q_seen V (-1)) x) + (if (if q_seen V (-1) x = true then (1 : Int32) else 0) = 0 then 0 else 1) = nI (q_cnt (q_seen V (-1)) (x + 1)) := by
          have := q_one (b := q_seen V (-1) x)
          rw [this]; exact q_oneN rfl
        rw [e0]
        by_cases hok : q_seen V (-1) x = true ∧ (4 ≤ w.toInt ∧ w.toInt ≤ 5)
        · obtain ⟨hs, hw⟩ := hok
          have efa : fa x = q_cnt (fun l => q_alt V (q_par V (-1)) (14 * x + l)) (v_sz V x) := by show (if _ then _ else _) = _; rw [if_pos hs]
          have efu : fu x = q_cnt (fun m => decide (q_org V (q_par V (-1)) 6 (14 * x + m) = none)) (v_sz V x) := by show (if _ then _ else _) = _; rw [if_pos hs]
          have hrow := (hR (by omega)).1
          have inner : ∀ j l (τ2 : px_S), l + j = v_sz V x → q_eqx q_s1 τ τ2 → Wp (d + 7) tb_184 55 [.ref 9, .int w, .int (nI (q_cnt (q_seen V (-1)) (x + 1))), .int x3, .int (nI (q_sum fa x + q_cnt (fun l => q_alt V (q_par V (-1)) (14 * x + l)) l)), .int (nI (q_sum fu x + q_cnt (fun m => decide (q_org V (q_par V (-1)) 6 (14 * x + m) = none)) l)), .int x6, .int (nI x), .int (nI l)] [] τ2 Q := by
            intro j
            induction j with
            | zero =>
              intro l τ2 hl he2
              have e : l = v_sz V x := by omega
              subst e
              have hM2 : q_M V τ2 := hMt.eqx (he2.mono q_s1_scr)
              refine b184_55 ix (fun _ => tail τ2 _ _ _ he2 (fun _ => ⟨?_, ?_⟩)) (fun g => absurd (by rw [cx, (hM2.2.1 x hxn).2.2.2.1]; exact Int32.le_refl _) g)
              · rw [q_sum, efa]
              · rw [q_sum, efu]
            | succ j ih2 =>
              intro l τ2 hl he2
              have hM2 : q_M V τ2 := hMt.eqx (he2.mono q_s1_scr)
              have hsp := q_wf_sp (l := l) hxn (by omega)
              refine b184_55 ix (fun g => absurd g (by rw [cx, (hM2.2.1 x hxn).2.2.2.1]; exact nI_ge (by omega) (by omega))) (fun _ => b184_67 (m_isSeen hV hM2 hxn ?_))
              rw [hs]
              refine b184_73 (fun g => absurd g (by decide)) (fun _ => b184_76 (m_inI (a' := 4) (b' := 5) (by decide) (by decide) (fun _ _ => b184_87 (fun g => absurd g (by decide)) (fun _ => b184_90 ?_)) (fun g => absurd hw g)))
              rw [q_ix14]
              refine m_isAltered hV hM2 hp (hrow.eqx he2 q_s1_49) hsp (fun τ3 he3 => b184_104 (m_one (b184_107 ?_)))
              have hM3 : q_M V τ3 := hM2.eqx (he3.mono q_s1_scr)
              rw [q_ix14]
              refine m_originOf hV hM3 hp (hrow.eqx (he2.tr he3) q_s1_49) hsp (fun τ4 he4 => ?_)
              rw [q_one, q_oneM, Nat.add_assoc]
              have fin : ∀ b : Bool, decide (q_org V (q_par V (-1)) 6 (14 * x + l) = none) = b → Wp (d + 7) tb_184 132 [.ref 9, .int w, .int (nI (q_cnt (q_seen V (-1)) (x + 1))), .int x3, .int (nI (q_sum fa x + (q_cnt (fun l => q_alt V (q_par V (-1)) (14 * x + l)) l + if q_alt V (q_par V (-1)) (14 * x + l) = true then 1 else 0))), .int (nI (q_sum fu x + q_cnt (fun m => decide (q_org V (q_par V (-1)) 6 (14 * x + m) = none)) l)), .int x6, .int (nI x), .int (nI l)] [.int (q_b b), .int (nI (q_sum fu x + q_cnt (fun m => decide (q_org V (q_par V (-1)) 6 (14 * x + m) = none)) l))] τ4 Q := by
                intro b hb
                refine b184_132 (m_one (b184_135 ?_))
                rw [q_one, q_oneM, nI_1, Nat.add_assoc]
                have e := ih2 (l + 1) τ4 (by omega) ((he2.tr he3).tr he4)
                have c1 : q_cnt (fun m => decide (q_org V (q_par V (-1)) 6 (14 * x + m) = none)) (l + 1) = q_cnt (fun m => decide (q_org V (q_par V (-1)) 6 (14 * x + m) = none)) l + if b = true then 1 else 0 := by rw [q_cnt, hb]
                rw [c1] at e
                exact e
              have hq := q_bi_neg (o := q_org V (q_par V (-1)) 6 (14 * x + l)) (fun z hz => q_sp_lt hV (q_org_sp hp 6 _ z hsp hz))
              refine b184_124 (fun g => b184_131 (fin false ?_)) (fun g => b184_127 (fin true ?_))
              · exact decide_eq_false (fun e => Int32.not_lt.mpr g (hq.mpr e))
              · exact decide_eq_true (hq.mp (Int32.not_le.mp g))
          by_cases hw2 : 4 ≤ w.toInt ∧ w.toInt ≤ 5
          · rw [(h2 hw2).1, (h2 hw2).2]
            exact inner (v_sz V x) 0 τ' (by omega) he
          · exact absurd hw hw2
        · have nn : 4 ≤ w.toInt ∧ w.toInt ≤ 5 → x4 = nI (q_sum fa (x + 1)) ∧ x5 = nI (q_sum fu (x + 1)) := by
            intro hw
            have hs : ¬ q_seen V (-1) x = true := fun z => hok ⟨z, hw⟩
            have efa : fa x = 0 := by show (if _ then _ else _) = _; rw [if_neg hs]
            have efu : fu x = 0 := by show (if _ then _ else _) = _; rw [if_neg hs]
            rw [q_sum, q_sum, efa, efu]
            exact h2 hw
          refine b184_55 ix (fun _ => tail τ' _ _ _ he nn) (fun _ => b184_67 (m_isSeen hV hM' hxn ?_))
          cases hs : q_seen V (-1) x with
          | false => exact b184_73 (fun _ => tail τ' _ _ _ he nn) (fun g => absurd rfl g)
          | true =>
            refine b184_73 (fun g => absurd g (by decide)) (fun _ => b184_76 (m_inI (a' := 4) (b' := 5) (by decide) (by decide) (fun g1 g2 => absurd ⟨hs, g1, g2⟩ hok) (fun _ => b184_87 (fun _ => tail τ' _ _ _ he nn) (fun g => absurd rfl g))))
    exact b184_15 (loop (v_n V) 0 τ 0 0 0 0 .null (by omega) q_eqx.rf rfl (fun _ => ⟨rfl, rfl⟩) (fun _ => ⟨rfl, rfl⟩))
  have e3 : (3 : Int32).toInt = 3 := by decide
  have e7 : (7 : Int32).toInt = 7 := by decide
  refine e184 (b184_0 (fun g => body σ hM q_mk.rf (fun z => ?_)) (fun g => b184_5 (fun g2 => body σ hM q_mk.rf (fun z => ?_)) (fun g2 => b184_11 (m_findGroups hV hM (fun τ hMt hk hr h1 h2 => body τ hMt hk (fun _ => ⟨hr, h2⟩))))))
  · have := Int32.lt_iff_toInt_lt.mp g; omega
  · have := Int32.lt_iff_toInt_lt.mp g2; omega
end QCN
