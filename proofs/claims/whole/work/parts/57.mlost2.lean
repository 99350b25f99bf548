/-! ===== lost, lostWord: the reference ===== -/
theorem q_fl_mem {f : Nat → Bool} {x : Nat} (hf : f x = true) : ∀ n, x < n → x ∈ q_fl f n
  | 0, h => absurd h (Nat.not_lt_zero _)
  | n + 1, h => by
    rw [q_fl, List.mem_append]
    by_cases e : x = n
    · right; subst e; rw [hf]; simp
    · exact Or.inl (q_fl_mem hf n (by omega))
theorem q_cnt_ex {f : Nat → Bool} {c : Nat} : ∀ n, c < q_cnt f n → ∃ x, x < n ∧ f x = true ∧ q_cnt f x = c
  | 0, h => absurd h (Nat.not_lt_zero _)
  | n + 1, h => by
    by_cases h2 : c < q_cnt f n
    · obtain ⟨x, h3, h4⟩ := q_cnt_ex n h2
      exact ⟨x, by omega, h4⟩
    · unfold q_cnt at h
      cases hf : f n with
      | false => rw [hf] at h; simp at h; omega
      | true => rw [hf] at h; simp at h; exact ⟨n, by omega, hf, by omega⟩
theorem q_ms_in {V : QV} {a : Int32} {p : Nat → Option Nat} {g : Nat} : ∀ x ∈ q_ms V a p g, x < v_n V := fun x hx => (q_fl_in _ hx).1
theorem q_ms_ne {V : QV} {a : Int32} {p : Nat → Option Nat} {g : Nat} (hg : g < q_gs V a p) : 0 < (q_ms V a p g).length := by
  obtain ⟨x, h1, h2, h3⟩ := q_cnt_ex (v_n V) hg
  obtain ⟨h4, h5⟩ := q_lab_r h2
  have e : q_gn V a p x = some g := by unfold q_gn; rw [if_pos h4, h5, h3]
  exact List.length_pos_of_mem (q_fl_mem (f := fun x => decide (q_gn V a p x = some g)) (decide_eq_true e) _ h1)
theorem q_fp_mc : ∀ k, q_fp k → q_mc k := by intro k h; unfold q_fp at h; unfold q_mc; omega
theorem q_rc_mc : ∀ k, q_rc k → q_mc k := by intro k h; unfold q_rc at h; unfold q_mc; omega
section QLO
variable {d : Nat} {Q : Option Value → px_S → Prop} {σ : px_S} {V : QV}
theorem q_ms_le {a : Int32} {p : Nat → Option Nat} {g : Nat} : (q_ms V a p g).length ≤ v_n V := by unfold q_ms; rw [q_fl_len]; exact q_cnt_le _ _
theorem m_lost {g w : Int32} (hV : q_wf V) (hM : q_M V σ) (h : ∀ τ, q_M V τ → q_mk σ τ → Q (some (.int (sp_lost V g w))) τ) : Cw (d + 8) 166 [.ref 9, .int g, .int w] σ Q := by
  have hn := hV.1
  have hgs : q_gs V (-1) (q_par V (-1)) ≤ v_n V := q_cnt_le _ _
  refine e166 (b166_0 (m_findGroups hV hM (fun τ hMt hk hr h1 h2 => b166_4 (m_inI (a' := 0) (b' := (q_gs V (-1) (q_par V (-1)) : Int) - 1) (by decide) (by rw [q_i64, h2]; exact q_m1 (by omega)) (fun g1 g2 => ?_) (fun hno => ?_)))))
  · have hin : q_in g 0 ((q_gs V (-1) (q_par V (-1)) : Int) - 1) := ⟨g1, g2⟩
    refine b166_17 (fun _ => b166_24 (m_inI (a' := 0) (b' := 2) (by decide) (by decide) (fun w1 w2 => ?_) (fun wno => ?_))) (fun z => absurd (by decide) z)
    · have win : q_in w 0 2 := ⟨w1, w2⟩
      obtain ⟨gN, eg⟩ : ∃ gN : Nat, g.toInt = (gN : Int) := ⟨g.toInt.toNat, by omega⟩
      have eg2 := q_ofInt eg
      subst eg2
      have cg : (nI gN).toNatClampNeg = gN := nI_clamp (by omega)
      unfold sp_lost at h
      rw [if_pos hin, if_pos win, cg] at h
      have hne := q_ms_ne (V := V) (a := -1) (p := q_par V (-1)) (g := gN) (by omega)
      have hle : (q_ms V (-1) (q_par V (-1)) gN).length ≤ v_n V := q_ms_le
      refine b166_33 (fun _ => b166_40 (m_findPieces hV hMt (q_par_ok hV _) hr h1 (by omega) (fun τ2 hM2 he2 hF hP => ?_))) (fun z => absurd (by decide) z)
      have hk2 : q_mk σ τ2 := hk.tr (q_mk.mc (he2.mono q_fp_mc))
      by_cases w2 : w.toInt < 2
      · refine b166_45 (fun z => absurd z ?_) (fun _ => ?_)
        · rw [Int32.le_iff_toInt_le]; show ¬ (2 : Int) ≤ _; omega
        by_cases w0 : w.toInt = 0
        · have e : w = 0 := Int32.toInt_inj.mp w0
          refine b166_50 (fun z => absurd e z) (fun _ => b166_54 (b166_67 ?_))
          rw [hF.1]
          unfold q_lsf at h
          rw [if_pos w0] at h
          exact h τ2 hM2 hk2
        · have e : ¬ w = 0 := fun z => w0 (by rw [z]; rfl)
          refine b166_50 (fun _ => b166_61 (by unfold vp_in; decide) (b166_67 ?_)) (fun z => absurd e z)
          have e51 : τ2.1 51 (0 : Int32).toNatClampNeg = nI ((q_ms V (-1) (q_par V (-1)) gN).getD 0 0) := (hF.2 0 (by decide) hne).1
          rw [e51]
          unfold q_lsf at h
          rw [if_neg w0, if_pos (by omega)] at h
          exact h τ2 hM2 hk2
      · refine b166_45 (fun _ => ?_) (fun z => absurd ?_ z)
        · unfold q_lsf at h
          rw [if_neg (by omega), if_neg (by omega)] at h
          by_cases h4 : 4 < (q_ms V (-1) (q_par V (-1)) gN).length
          · rw [if_pos h4] at h
            exact b166_68 (fun z => absurd z (by rw [hF.1]; exact nI_ge h4 (by omega))) (fun _ => b166_76 (h τ2 hM2 hk2))
          · rw [if_neg h4] at h
            obtain ⟨hW, hz4⟩ := q_RW_L (p := q_par V (-1)) hV (q_ms_in (V := V) (a := -1) (p := q_par V (-1)) (g := gN))
            refine b166_68 (fun _ => b166_80 (m_findRow hV hM2 hW hz4 hP (fun τ3 r hM3 he3 hR hrl h25 _ => b166_84 ?_))) (fun z => absurd (by rw [hF.1]; exact nI_le (b := 4) (by omega) (by decide)) z)
            rw [h25]
            have er : q_rowOf V (q_par V (-1)) (q_ms V (-1) (q_par V (-1)) gN) = r := q_best_eq hR
            rw [er] at h
            exact h τ3 hM3 (hk2.tr (q_mk.mc (he3.mono q_rc_mc)))
        · rw [Int32.le_iff_toInt_le]; show (2 : Int) ≤ _; omega
    · refine b166_33 (fun z => absurd rfl z) (fun _ => b166_36 ?_)
      unfold sp_lost at h
      rw [if_pos hin, if_neg wno] at h
      exact h τ hMt hk
  · refine b166_17 (fun z => absurd rfl z) (fun _ => b166_20 ?_)
    unfold sp_lost at h
    rw [if_neg hno] at h
    exact h τ hMt hk
theorem m_lostWord {g i k : Int32} (hV : q_wf V) (hM : q_M V σ) (h : ∀ τ, q_M V τ → q_mk σ τ → Q (some (.int (sp_lostWord V g i k))) τ) : Cw (d + 8) 174 [.ref 9, .int g, .int i, .int k] σ Q := by
  have hn := hV.1
  have hgs : q_gs V (-1) (q_par V (-1)) ≤ v_n V := q_cnt_le _ _
  refine e174 (b174_0 (m_findGroups hV hM (fun τ hMt hk hr h1 h2 => b174_4 (m_inI (a' := 0) (b' := (q_gs V (-1) (q_par V (-1)) : Int) - 1) (by decide) (by rw [q_i64, h2]; exact q_m1 (by omega)) (fun g1 g2 => ?_) (fun hno => ?_)))))
  · have hin : q_in g 0 ((q_gs V (-1) (q_par V (-1)) : Int) - 1) := ⟨g1, g2⟩
    obtain ⟨gN, eg⟩ : ∃ gN : Nat, g.toInt = (gN : Int) := ⟨g.toInt.toNat, by omega⟩
    have eg2 := q_ofInt eg
    subst eg2
    have cg : (nI gN).toNatClampNeg = gN := nI_clamp (by omega)
    unfold sp_lostWord at h
    rw [if_pos hin, cg] at h
    have hle : (q_ms V (-1) (q_par V (-1)) gN).length ≤ v_n V := q_ms_le
    refine b174_17 (fun _ => b174_24 (m_findPieces hV hMt (q_par_ok hV _) hr h1 (by omega) (fun τ2 hM2 he2 hF hP => ?_))) (fun z => absurd (by decide) z)
    have hk2 : q_mk σ τ2 := hk.tr (q_mk.mc (he2.mono q_fp_mc))
    unfold q_lwf at h
    by_cases h4 : 4 < (q_ms V (-1) (q_par V (-1)) gN).length
    · rw [if_pos h4] at h
      exact b174_29 (fun z => absurd z (by rw [hF.1]; exact nI_ge h4 (by omega))) (fun _ => b174_37 (h τ2 hM2 hk2))
    · rw [if_neg h4] at h
      obtain ⟨hW, hz4⟩ := q_RW_L (p := q_par V (-1)) hV (q_ms_in (V := V) (a := -1) (p := q_par V (-1)) (g := gN))
      refine b174_29 (fun _ => b174_41 (m_findRow hV hM2 hW hz4 hP (fun τ3 r hM3 he3 hR hrl h25 hrow => ?_))) (fun z => absurd (by rw [hF.1]; exact nI_le (b := 4) (by omega) (by decide)) z)
      have er : q_rowOf V (q_par V (-1)) (q_ms V (-1) (q_par V (-1)) gN) = r := q_best_eq hR
      rw [er] at h
      have h' : Q (some (.int (if q_in i 0 ((r.length : Int) - 1) then q_lw (q_ut (r.getD i.toNatClampNeg 0)) k else -1))) τ3 := h τ3 hM3 (hk2.tr (q_mk.mc (he3.mono q_rc_mc)))
      refine b174_45 (m_inI (a' := 0) (b' := (r.length : Int) - 1) (by decide) (by rw [q_i64, h25]; exact q_m1 (by omega)) (fun i1 i2 => ?_) (fun ino => ?_))
      · rw [if_pos ⟨i1, i2⟩] at h'
        obtain ⟨iN, ei⟩ : ∃ iN : Nat, i.toInt = (iN : Int) := ⟨i.toInt.toNat, by omega⟩
        have ei2 := q_ofInt ei
        subst ei2
        obtain ⟨ii, ci⟩ := q_lt (j := iN) (N := 56) (by omega) (by decide)
        rw [ci] at h'
        obtain ⟨t, ht, e55, epn⟩ := hrow iN (by omega)
        have lt := q_sp_lt hV ht
        obtain ⟨it, ct⟩ := q_lt (j := t) (N := 560) lt (by decide)
        obtain ⟨-, m1, w1⟩ := hM3.sp ht
        obtain ⟨-, v1⟩ := hV.sp ht
        have n1 := v1.1
        rw [← epn, q_ut_pk v1] at h'
        unfold q_lw at h'
        refine b174_58 (fun _ => b174_63 ii (fun hk1 => ?_) (fun hk1 => ?_)) (fun z => absurd (by decide) z)
        · rw [ci, e55]
          rw [if_neg hk1] at h'
          refine b174_86 it (m_inI (a' := 0) (b' := ((v_tx V t).length : Int) - 1) (by decide) (by rw [q_i64, ct, m1]; exact q_m1 (by omega)) (fun k1 k2 => ?_) (fun kno => ?_))
          · rw [if_pos ⟨k1, k2⟩] at h'
            obtain ⟨kN, ek⟩ : ∃ kN : Nat, k.toInt = (kN : Int) := ⟨k.toInt.toNat, by omega⟩
            have ek2 := q_ofInt ek
            subst ek2
            obtain ⟨i4, c4⟩ := q_lt (j := 8 * t + kN) (N := 4480) (by omega) (by decide)
            have ckN : (nI kN).toNatClampNeg = kN := nI_clamp (by omega)
            rw [ckN] at h'
            refine b174_102 (fun z => absurd z (by decide)) (fun _ => b174_105 (by rw [q_ix8]; exact i4) (b174_121 ?_))
            rw [q_ix8, c4, w1 kN (by omega)]
            exact h'
          · rw [if_neg kno] at h'
            exact b174_102 (fun _ => b174_120 (b174_121 h')) (fun z => absurd rfl z)
        · rw [ci, e55]
          rw [if_pos (Decidable.not_not.mp hk1)] at h'
          refine b174_76 it (b174_121 ?_)
          rw [ct, m1]
          exact h'
      · rw [if_neg ino] at h'
        exact b174_58 (fun z => absurd rfl z) (fun _ => b174_61 h')
  · refine b174_17 (fun z => absurd rfl z) (fun _ => b174_20 ?_)
    unfold sp_lostWord at h
    rw [if_neg hno] at h
    exact h τ hMt hk
end QLO
