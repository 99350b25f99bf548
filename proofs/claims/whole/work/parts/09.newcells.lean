/-! ===== 'cells' made anew: new int[n], put into the field ===== -/
def px_nw (σ : px_S) (N : Nat) : px_S := (fun a => if a = 33 then (fun _ => 0) else σ.1 a, σ.2.1, N, px_cc σ + 1, px_cs σ + N)
def pi_newc (n : Nat) : px_F := fun ls st σ => match st with
  | .int x :: .ref k :: st => if k = 6 ∧ ¬ x < 0 ∧ x.toNatClampNeg ≤ 100000 ∧ ls.all px_nc = true ∧ st.all px_nc = true then some (n, ls, st, px_nw σ x.toNatClampNeg) else none
  | _ => none
theorem px_ob_33 : ∀ k o, px_ob[k]? = some o → k ≠ 6 → ∀ d ∈ o.2, d.1 = 2 → d.2 ≠ 33 := by
  intro k o h hk d hd
  have hk10 := px_ob_lt h
  have key : ∀ k : Fin 10, k.val ≠ 6 → ∀ d ∈ (px_ob.getD k.val (0, [])).2, d.1 = 2 → d.2 ≠ 33 := by decide +kernel
  have := key ⟨k, hk10⟩ hk d
  rw [List.getD_eq_getElem?_getD, h] at this
  exact this hd
theorem px_E_nw {cs : px_C} {ad : Nat → Nat} {σ : px_S} {q N j : Nat} (hj : j ≠ 33) (h6 : j ≠ 6) : px_E cs (va_up ad 33 q) (px_nw σ N) j = px_E cs ad σ j := by
  have e : (px_nw σ N).1 j = σ.1 j := by simp [px_nw, hj]
  have e2 : (px_nw σ N).2.1 = σ.2.1 := rfl
  cases h : px_ob[j]? with
  | some o =>
    rw [px_E_ob h, px_E_ob h]
    congr 2
    apply List.ext_getElem?
    intro i
    rw [List.getElem?_mapIdx, List.getElem?_mapIdx]
    cases hd : o.2[i]? with
    | none => rfl
    | some d =>
      have h33 := px_ob_33 j o h h6 d (List.mem_of_getElem? hd)
      simp only [Option.map_some, px_fv, e, e2]
      by_cases h1 : d.1 = 1
      · simp [h1]
      · by_cases h2 : d.1 = 2
        · simp [h2, va_up_ne _ _ (h33 h2)]
        · simp [h1, h2]
  | none =>
    cases ha : px_ar[j]? with
    | none => unfold px_E; rw [h]; dsimp only; rw [ha]
    | some a =>
      rw [px_E_ar h ha, px_E_ar h ha, e, e2]
      simp only [px_len, hj, if_false]
theorem ps_newc {cc : ByteArray} {nL pc idx : Nat} (h1 : Cond.arrayClass .int ∈ px_TB) (hc : px_Kc 5 RX5 TX5 7) (hw : Cond.fieldLink RX5 idx RX5 "cells" "[I" ∈ px_TB) (hd1 : decode cc pc = .ok (.newarray .int, 2)) (hd2 : decode cc (pc + 2) = .ok (.putfield idx, 3)) : px_Sp RX5 cc nL pc (pi_newc (pc + 5)) := by
  intro ls st σ q h
  unfold pi_newc at h
  split at h
  next x k st' =>
    split at h
    next hz =>
      obtain ⟨rfl, hx, hN, hnl, hns⟩ := hz
      cases h
      refine ⟨⟨Nat.le_succ _, Nat.le_add_right _ _⟩, ?_⟩
      intro p l e R s m args below meth c H locs cells slots Q D cs A ad lsM Cf hfr hlo hR hL h4 h5 kk
      have e4 : px_cc (px_nw σ x.toNatClampNeg) - px_cc σ = 1 := by show px_cc σ + 1 - px_cc σ = 1; omega
      have e5 : px_cs (px_nw σ x.toNatClampNeg) - px_cs σ = x.toNatClampNeg := by show px_cs σ + x.toNatClampNeg - px_cs σ = _; omega
      dsimp only at h4 h5 kk
      rw [e4] at h4 kk
      rw [e5] at h5 kk
      refine va_newa (atype := .int) (ty := .int) (a0 := (x.toNatClampNeg, .inl (fun _ => 0))) Cf.1 Cf.2.1 (Cf.2.2.2.2 _ h1) rfl hR.1 hR.2.1 hR.2.2.1 hR.2.2.2.1 hR.2.2.2.2.2 (fun cA => rfl) hx rfl (by show x.toNatClampNeg * 4 ≤ _; omega) h4 h5 hd1 (fun q cA H1 hK1 hP1 hD1 hS1 => ?_)
      have hcA : cA = cs.1 := by
        have g1 := (hK1.2 3 (cA, .int) rfl).2
        have g2 := (hK1.2 0 (cs.1, .int) rfl).2
        exact Option.some.inj (g1.symm.trans g2)
      subst hcA
      have ho : px_ob[6]? = some (5, [(2, 29), (2, 30), (2, 31), (2, 32), (0, 0), (0, 0), (2, 33)]) := rfl
      have hlen : (px_W cs ad σ).length = 59 := by simp [px_W]
      have he : (px_W cs ad σ ++ [(q, Sum.inl (cs.1, (x.toNatClampNeg, .inl (fun _ => 0))))])[6]? = some (ad 6, .inr (5, ([(2, 29), (2, 30), (2, 31), (2, 32), (0, 0), (0, 0), (2, 33)] : List (Nat × Nat)).mapIdx fun j d => px_fv ad σ 6 d j)) := by
        rw [List.getElem?_append_left (by rw [hlen]; decide), px_W_get (by decide), px_E_ob ho]
      obtain ⟨ty0, hty0⟩ := hc.2.2.2
      refine va_put (v := .ref q) (ty := .array .int) Cf.1 Cf.2.1 Cf.2.2.2.2 hc.2.1 ty0 hty0 hc.2.2.1 Cf.2.2.2.1 hK1 hP1 hD1 hS1 6 he hc.1 6 (by decide) (Cf.2.2.2.2 _ hw) (fun _ z => z) rfl (by decide +kernel) rfl rfl (by simp) hd2 (fun H2 locs2 hP2 hD2 hS2 => ?_)
      have had : ∀ k, k ≠ 33 → va_up ad 33 q k = ad k := fun k hk => va_up_ne _ _ hk
      have key : ∀ (k : Nat) (z : Nat × va_E), (px_W cs (va_up ad 33 q) (px_nw σ x.toNatClampNeg))[k]? = some z → ((px_W cs ad σ ++ [((q, Sum.inl (cs.1, (x.toNatClampNeg, Sum.inl (fun _ => 0)))) : Nat × va_E)]).set 6 (ad 6, .inr (5, (([(2, 29), (2, 30), (2, 31), (2, 32), (0, 0), (0, 0), (2, 33)] : List (Nat × Nat)).mapIdx fun j d => px_fv ad σ 6 d j).set 6 (.ref q))))[if k = 33 then 59 else k]? = some z := by
        intro k z hk
        have hk59 : k < 59 := by
          have := (List.getElem?_eq_some_iff.mp hk).1
          simpa [px_W] using this
        rw [px_W_get hk59] at hk
        cases hk
        by_cases h33 : k = 33
        · subst h33
          rw [if_pos rfl, List.getElem?_set_ne (by decide), List.getElem?_append_right (by rw [hlen]; decide), hlen]
          rw [px_E_ar (a := (0, 0)) rfl rfl, va_up_self]
          rfl
        · rw [if_neg h33]
          by_cases h6 : k = 6
          · subst h6
            rw [List.getElem?_set_self (by simp [px_W])]
            rw [px_E_ob ho, had 6 (by decide)]
            rfl
          · rw [List.getElem?_set_ne (Ne.symm h6), List.getElem?_append_left (by rw [hlen]; exact hk59), px_W_get hk59, px_E_nw h33 h6, had k h33]
      have hDn : va_D A (px_W cs (va_up ad 33 q) (px_nw σ x.toNatClampNeg)) := by
        refine ⟨fun i j y z hi hj hyz => ?_, fun k z hk => hD2.2 _ z (key k z hk)⟩
        have h9 := hD2.1 _ _ y z (key i y hi) (key j z hj) hyz
        have hi59 : i < 59 := by
          have := (List.getElem?_eq_some_iff.mp hi).1
          simpa [px_W] using this
        have hj59 : j < 59 := by
          have := (List.getElem?_eq_some_iff.mp hj).1
          simpa [px_W] using this
        split at h9 <;> split at h9 <;> omega
      have h9 := kk (va_up ad 33 q) H2 locs2 lsM had ⟨hR.1, fun k z hk => hP2 _ z (key k z hk), hDn, hS2, hR.2.2.2.2.1.ad had, hR.2.2.2.2.2⟩ (hL.ad had hnl)
      rw [px_mv_ncs had hns] at h9
      exact h9
    next => cases h
  next => cases h
