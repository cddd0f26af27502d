set_option linter.all false
noncomputable section
theorem At.c {M : gM} {V : vV} {lf : Nat → Nat} (h : At M V lf) : CV M V lf := h.1
theorem At.F {M : gM} {V : vV} {lf : Nat → Nat} (h : At M V lf) : cvF M V lf := h.1.2.2.2.2.2.2
theorem sLand {M : gM} {x : Int32} : s_X12_isLand M x := by unfold s_X12_isLand s_X12_isLand_13; (repeat' split) <;> trivial
theorem fLand {M : gM} {x : Int32} : f_X12_isLand M x = bz (isB x 2) := by
  unfold f_X12_isLand f_X12_isLand_13
  exact isB_md (n := 2)
theorem sBit {M : gM} {x : Int32} : s_X12_bit M x := by unfold s_X12_bit; split <;> trivial
theorem fBit {M : gM} {b : Bool} : f_X12_bit M (bz b) = bz b := by cases b <;> rfl
theorem fBit01 {M : gM} {x : Int32} (h : vp_in x 2) : f_X12_bit M x = x := by rcases vp01 h with rfl | rfl <;> rfl
theorem le_lt {x : Int32} {a : Nat} (ha : a + 1 < 2 ^ 31) : (x ≤ nI a) = (x < nI (a + 1)) := propext (by
  rw [Int32.le_iff_toInt_le, Int32.lt_iff_toInt_lt, nI_toInt (by omega), nI_toInt ha]
  omega)
theorem isB_ite {α : Type} {x : Int32} {a : Nat} (ha : a + 1 < 2 ^ 31) {u v : α} : (if x < 0 then u else if x ≤ nI a then v else u) = if isB x (a + 1) = true then v else u := by
  have le := le_lt (x := x) ha
  unfold isB
  by_cases p : x < 0
  · rw [if_pos p, if_neg (by simp [p])]
  · by_cases q : x < nI (a + 1)
    · rw [if_neg p, if_pos (le.mpr q), if_pos (by simp [p, q])]
    · rw [if_neg p, if_neg (fun z => q (le.mp z)), if_neg (by simp [q])]
-- why, struckBy
def a_why (V : vV) (x1 x2 : Int32) : Int32 := if isB x1 (vA V) = true then (if isB x2 (vT V) = true then vwhy V (nn x1) (nn x2) else -1) else -1
def a_sby (V : vV) (x1 x2 : Int32) : Int32 := if isB x1 (vA V) = true then (if isB x2 (vT V) = true then oI (vstruck V (nn x1) (nn x2)) else -1) else -1
theorem oI_ok {V : vV} {p t : Nat} : oI (vstruck V p t) = -2 ∨ ∃ b, b < vA V ∧ oI (vstruck V p t) = nI b := by
  cases h : vstruck V p t with
  | none => exact Or.inl rfl
  | some b => exact Or.inr ⟨b, vstruck_lt h, rfl⟩
theorem qC_why {M : gM} {V : vV} {lf : Nat → Nat} (h : At M V lf) (x1 x2 : Int32) : s_X12_why M x1 x2 ∧ (f_X12_why M x1 x2).1 = a_why V x1 x2 := by
  have h12 := h.2.2.A.2
  have h8 := h.2.2.T.2
  simp only [s_X12_why, f_X12_why, bnd, bndP, sX7_isA, fX7_isA h.c h.2.2, sX7_isT, fX7_isT h.c h.2.2, true_and, bz_0, a_why]
  rcases isP_cases (x := x1) (n := vA V) (by omega) with e | ⟨j, hj, rfl, e⟩
  · simp [e]
  · rcases isP_cases (x := x2) (n := vT V) (by omega) with e2 | ⟨t, ht, rfl, e2⟩
    · simp [e, e2]
    · obtain ⟨a1, a2⟩ := X4_weigh h.c h.2.2 ht
      simp only [e, e2, Bool.true_eq_false, if_false, if_true, a1, nn_nI (show j < 2 ^ 31 by omega), nn_nI (show t < 2 ^ 31 by omega), true_and]
      exact ⟨⟨vpi (by omega), trivial⟩, (a2 j hj).1⟩
theorem qM_why {M : gM} {V : vV} {lf : Nat → Nat} (h : At M V lf) (x1 x2 : Int32) : s_X13_why M x1 x2 ∧ (f_X13_why M x1 x2).1 = a_why V x1 x2 := by
  have h1 := h.thr 0
  clear h
  simp only [s_X13_why, f_X13_why, s_X13_why_30, f_X13_why_30, bnd, bndP]
  generalize wrI M 67 0 0 0 0 = M1 at *
  obtain ⟨c, rfl, w⟩ := h1
  have h12 := w.A.2
  have h8 := w.T.2
  simp only [s_isA, f_isA w, s_isT, f_isT w, true_and, bz_0, a_why]
  rcases isP_cases (x := x1) (n := vA (mV M1)) (by omega) with e | ⟨j, hj, rfl, e⟩
  · simp [e]
  · rcases isP_cases (x := x2) (n := vT (mV M1)) (by omega) with e2 | ⟨t, ht, rfl, e2⟩
    · simp [e, e2]
    · obtain ⟨a1, a2⟩ := X13_why w hj ht
      simp only [e, e2, Bool.true_eq_false, if_false, if_true, a1, a2, nn_nI (show j < 2 ^ 31 by omega), nn_nI (show t < 2 ^ 31 by omega), true_and]
theorem qC_sby {M : gM} {V : vV} {lf : Nat → Nat} (h : At M V lf) (x1 x2 : Int32) : s_X12_struckBy M x1 x2 ∧ (f_X12_struckBy M x1 x2).1 = a_sby V x1 x2 := by
  have h12 := h.2.2.A.2
  have h8 := h.2.2.T.2
  simp only [s_X12_struckBy, f_X12_struckBy, bnd, bndP, sX7_isA, fX7_isA h.c h.2.2, sX7_isT, fX7_isT h.c h.2.2, true_and, bz_0, a_sby]
  rcases isP_cases (x := x1) (n := vA V) (by omega) with e | ⟨j, hj, rfl, e⟩
  · simp [e]
  · rcases isP_cases (x := x2) (n := vT V) (by omega) with e2 | ⟨t, ht, rfl, e2⟩
    · simp [e, e2]
    · obtain ⟨a1, a2⟩ := X4_weigh h.c h.2.2 ht
      simp only [e, e2, Bool.true_eq_false, if_false, if_true, a1, nn_nI (show j < 2 ^ 31 by omega), nn_nI (show t < 2 ^ 31 by omega), true_and, (a2 j hj).2, sO2]
      refine ⟨⟨vpi (by omega), trivial⟩, fO2_n (n := 12) ?_ (by decide)⟩
      rcases oI_ok (V := V) (p := j) (t := t) with z | ⟨b, hb, z⟩
      · exact Or.inl z
      · exact Or.inr (by rw [z]; exact vpi (by omega))
theorem qM_sby {M : gM} {V : vV} {lf : Nat → Nat} (h : At M V lf) (x1 x2 : Int32) : s_X13_struckBy M x1 x2 ∧ (f_X13_struckBy M x1 x2).1 = a_sby V x1 x2 := by
  have h1 := h.thr 0
  clear h
  simp only [s_X13_struckBy, f_X13_struckBy, s_X13_struckBy_30, f_X13_struckBy_30, bnd, bndP]
  generalize wrI M 67 0 0 0 0 = M1 at *
  obtain ⟨c, rfl, w⟩ := h1
  have h12 := w.A.2
  have h8 := w.T.2
  simp only [s_isA, f_isA w, s_isT, f_isT w, true_and, bz_0, a_sby]
  rcases isP_cases (x := x1) (n := vA (mV M1)) (by omega) with e | ⟨j, hj, rfl, e⟩
  · simp [e]
  · rcases isP_cases (x := x2) (n := vT (mV M1)) (by omega) with e2 | ⟨t, ht, rfl, e2⟩
    · simp [e, e2]
    · obtain ⟨a1, a2⟩ := X13_struck w hj ht
      simp only [e, e2, Bool.true_eq_false, if_false, if_true, a1, a2, nn_nI (show j < 2 ^ 31 by omega), nn_nI (show t < 2 ^ 31 by omega), true_and]
-- form
def a_form (V : vV) (x1 x2 : Int32) : Int32 := if isB x1 (vA V) = true then (if isB x2 2 = true then bz (vform V (nn x1) (nn x2)) else -1) else -1
theorem qC_form {M : gM} {V : vV} {lf : Nat → Nat} (h : At M V lf) (x1 x2 : Int32) : s_X12_form M x1 x2 ∧ f_X12_form M x1 x2 = a_form V x1 x2 := by
  have h12 := h.2.2.A.2
  simp only [s_X12_form, f_X12_form, bnd, bndP, sX7_isA, fX7_isA h.c h.2.2, sLand, fLand, true_and, bz_0, a_form]
  rcases isP_cases (x := x1) (n := vA V) (by omega) with e | ⟨j, hj, rfl, e⟩
  · simp [e]
  · rcases isP_cases (x := x2) (n := 2) (by omega) with e2 | ⟨t, ht, rfl, e2⟩
    · simp [e, e2]
    · obtain ⟨a1, a2⟩ := X4_lived h.c h.2.2 hj
      obtain ⟨b1, b2⟩ := X4_form h.c h.2.2 hj ht
      have i12 : vp_in (nI j) 12 := vpi (by omega)
      simp only [e, e2, Bool.true_eq_false, if_false, if_true, nn_nI (show j < 2 ^ 31 by omega), nn_nI (show t < 2 ^ 31 by omega), a1, a2, b1, b2, i12, sBit, fBit, true_and]
theorem qM_form {M : gM} {V : vV} {lf : Nat → Nat} (h : At M V lf) (x1 x2 : Int32) : s_X13_form M x1 x2 ∧ (f_X13_form M x1 x2).1 = a_form V x1 x2 := by
  have h1 := h.thr 0
  clear h
  simp only [s_X13_form, f_X13_form, bnd, bndP]
  generalize wrI M 67 0 0 0 0 = M1 at *
  obtain ⟨c, rfl, w⟩ := h1
  have h12 := w.A.2
  simp only [s_isA, f_isA w, true_and, bz_0, a_form]
  rcases isP_cases (x := x1) (n := vA (mV M1)) (by omega) with e | ⟨j, hj, rfl, e⟩
  · simp [e]
  · have k := fun (u v : Int32 × gM) => isB_ite (x := x2) (a := 1) (by omega) (u := u) (v := v)
    have k2 := fun (u v : Prop) => isB_ite (x := x2) (a := 1) (by omega) (u := u) (v := v)
    have k : ∀ (u v : Int32 × gM), (if x2 < 0 then u else if x2 ≤ 1 then v else u) = if isB x2 2 = true then v else u := k
    have k2 : ∀ (u v : Prop), (if x2 < 0 then u else if x2 ≤ 1 then v else u) = if isB x2 2 = true then v else u := k2
    simp only [e, Bool.true_eq_false, if_false, if_true, k, k2]
    rcases isP_cases (x := x2) (n := 2) (by omega) with e2 | ⟨t, ht, rfl, e2⟩
    · simp [e2]
    · obtain ⟨a1, a2⟩ := X13_form w hj (vpi ht)
      simp only [e2, if_true, a1, a2, true_and, bz_0, nn_nI (show j < 2 ^ 31 by omega)]
      cases hf : vform (mV M1) j (nn (nI t)) <;> simp [bz]
-- heirs
def a_heirs (V : vV) (x1 : Int32) : Int32 := if isB x1 (vP V) = true then (if V.2.1 (nn x1) = -2 then -3 else vheirs V (nn x1)) else -1
theorem qC_heirs {M : gM} {V : vV} {lf : Nat → Nat} (h : At M V lf) (x1 : Int32) : s_X12_heirs M x1 ∧ f_X12_heirs M x1 = a_heirs V x1 := by
  have h10 := h.2.2.P.2
  simp only [s_X12_heirs, f_X12_heirs, bnd, bndP, sX7_isP, fX7_isP h.c h.2.2, true_and, bz_0, a_heirs]
  rcases isP_cases (x := x1) (n := vP V) (by omega) with e | ⟨j, hj, rfl, e⟩
  · simp [e]
  · have i10 : vp_in (nI j) 10 := vpi (by omega)
    simp only [e, Bool.true_eq_false, if_false, if_true, nn_nI (show j < 2 ^ 31 by omega), sX6_mortal, fX6_mortal h.c h.2.2 hj, i10, true_and, bz_0, decide_eq_false_iff_not]
    by_cases m : V.2.1 j = -2
    · simp [m]
    · obtain ⟨a1, a2⟩ := X7_heirs h.c h.2.2 hj m
      simp [m, a1, a2]
theorem qM_heirs {M : gM} {V : vV} {lf : Nat → Nat} (h : At M V lf) (x1 : Int32) : s_X13_heirs M x1 ∧ (f_X13_heirs M x1).1 = a_heirs V x1 := by
  have h1 := h.thr 0
  clear h
  simp only [s_X13_heirs, f_X13_heirs, bnd, bndP]
  generalize wrI M 67 0 0 0 0 = M1 at *
  obtain ⟨c, rfl, w⟩ := h1
  have h10 := w.P.2
  simp only [s_isP, f_isP w, true_and, bz_0, a_heirs]
  rcases isP_cases (x := x1) (n := vP (mV M1)) (by omega) with e | ⟨j, hj, rfl, e⟩
  · simp [e]
  · obtain ⟨a1, a2⟩ := X13_heirs w hj
    simp only [e, Bool.true_eq_false, if_false, if_true, nn_nI (show j < 2 ^ 31 by omega), f_dies (show j < 65 by omega), s_dies (show j < 65 by omega), a1, a2, true_and]
    by_cases m : (mV M1).2.1 j = -2
    · simp [m]
    · simp [m]
-- taker, takerBy
def a_tak (V : vV) (lf : Nat → Nat) (w : Int32 × Int32 → Int32) (x1 x2 : Int32) : Int32 := if isB x1 (vP V) = true then (if isB x2 (vT V) = true then (if V.2.1 (nn x1) = -2 then -3 else w (vtk V lf (nn x1) (nn x2))) else -1) else -1
theorem qC_tak {M : gM} {V : vV} {lf : Nat → Nat} (h : At M V lf) (x1 x2 : Int32) : (s_X12_taker M x1 x2 ∧ (f_X12_taker M x1 x2).1 = a_tak V lf Prod.fst x1 x2) ∧ (s_X12_takerBy M x1 x2 ∧ (f_X12_takerBy M x1 x2).1 = a_tak V lf Prod.snd x1 x2) := by
  have h10 := h.2.2.P.2
  have h8 := h.2.2.T.2
  have h12 := h.2.2.A.2
  simp only [s_X12_taker, f_X12_taker, s_X12_takerBy, f_X12_takerBy, bnd, bndP, sX7_isP, fX7_isP h.c h.2.2, sX7_isT, fX7_isT h.c h.2.2, true_and, bz_0, a_tak]
  rcases isP_cases (x := x1) (n := vP V) (by omega) with e | ⟨j, hj, rfl, e⟩
  · simp [e]
  · rcases isP_cases (x := x2) (n := vT V) (by omega) with e2 | ⟨t, ht, rfl, e2⟩
    · simp [e, e2]
    · have i10 : vp_in (nI j) 10 := vpi (by omega)
      obtain ⟨a1, a2⟩ := X4_weigh h.c h.2.2 ht
      have o := o_X4_weigh M (nI t)
      obtain ⟨b1, b2, b3⟩ := X4_choose (m := j) (h.c.off o (by decide)) h.2.2 (by omega) ht (fun q hq => (a2 q hq).1)
      have ok := vtk_ok h.2.2 (wf_lf h.F) j t
      simp only [e, e2, Bool.true_eq_false, if_false, if_true, nn_nI (show j < 2 ^ 31 by omega), nn_nI (show t < 2 ^ 31 by omega), sX6_mortal, fX6_mortal h.c h.2.2 hj, i10, a1, b1, b2, b3, sO2, fO2_n ok.1 (show vP V < 2 ^ 31 by omega), fO2_n ok.2.1 (show vA V < 2 ^ 31 by omega), true_and, bz_0, decide_eq_false_iff_not]
      by_cases m : V.2.1 j = -2 <;> simp [m]
theorem qM_tak {M : gM} {V : vV} {lf : Nat → Nat} (h : At M V lf) (x1 x2 : Int32) : (s_X13_taker M x1 x2 ∧ (f_X13_taker M x1 x2).1 = a_tak V lf Prod.fst x1 x2) ∧ (s_X13_takerBy_ M x1 x2 ∧ (f_X13_takerBy_ M x1 x2).1 = a_tak V lf Prod.snd x1 x2) := by
  have h1 := h.thr 0
  clear h
  simp only [s_X13_taker, f_X13_taker, s_X13_takerBy_, f_X13_takerBy_, bnd, bndP]
  generalize wrI M 67 0 0 0 0 = M1 at *
  have F := h1.F
  obtain ⟨c, rfl, w⟩ := h1
  have h10 := w.P.2
  have h8 := w.T.2
  simp only [s_isP, f_isP w, s_isT, f_isT w, true_and, bz_0, a_tak]
  rcases isP_cases (x := x1) (n := vP (mV M1)) (by omega) with e | ⟨j, hj, rfl, e⟩
  · simp [e]
  · rcases isP_cases (x := x2) (n := vT (mV M1)) (by omega) with e2 | ⟨t, ht, rfl, e2⟩
    · simp [e, e2]
    · obtain ⟨b1, b2, b3⟩ := X13_lays (M := M1) w hj ht F rfl
      simp only [e, e2, Bool.true_eq_false, if_false, if_true, nn_nI (show j < 2 ^ 31 by omega), nn_nI (show t < 2 ^ 31 by omega), f_dies (show j < 65 by omega), s_dies (show j < 65 by omega), b1, b2, b3, true_and]
      by_cases m : (mV M1).2.1 j = -2 <;> simp [m]
-- counting
def a_cnt (V : vV) (x1 x2 x3 : Int32) : Int32 := if isB x1 (vP V) = true then (if isB x2 (vT V) = true then (if x3 < 0 then -1 else vat V (nn x1) (nn x2) (nn x3) (vA V) 0) else -1) else -1
theorem qC_cnt {M : gM} {V : vV} {lf : Nat → Nat} (h : At M V lf) (x1 x2 x3 : Int32) : s_X12_counting M x1 x2 x3 ∧ (f_X12_counting M x1 x2 x3).1 = a_cnt V x1 x2 x3 := by
  have h10 := h.2.2.P.2
  have h8 := h.2.2.T.2
  have h12 := h.2.2.A.2
  simp only [s_X12_counting, f_X12_counting, bnd, bndP, sX7_isP, fX7_isP h.c h.2.2, sX7_isT, fX7_isT h.c h.2.2, true_and, bz_0, a_cnt]
  rcases isP_cases (x := x1) (n := vP V) (by omega) with e | ⟨j, hj, rfl, e⟩
  · simp [e]
  · rcases isP_cases (x := x2) (n := vT V) (by omega) with e2 | ⟨t, ht, rfl, e2⟩
    · simp [e, e2]
    · simp only [e, e2, Bool.true_eq_false, if_false, if_true]
      by_cases z : x3 < 0
      · have z2 : ¬ 0 ≤ x3 := i_nle.mpr z
        simp only [z, z2, if_true, if_false, and_self]
      · have z2 : 0 ≤ x3 := i_nlt.mp z
        obtain ⟨k, hk, rfl⟩ := nI_of z
        obtain ⟨a1, a2⟩ := X4_weigh h.c h.2.2 ht
        have o := o_X4_weigh M (nI t)
        have hA := h.off o (by decide) (by decide)
        simp only [z, z2, if_true, if_false, a1, true_and, nn_nI (show j < 2 ^ 31 by omega), nn_nI (show t < 2 ^ 31 by omega), nn_nI hk]
        generalize f_X4_weigh M (nI t) = N at *
        have hw := fun q hq => (a2 q hq).1
        have hN := hA.c.A h.2.2
        have F := hA.F
        refine lp (fun n i (s : Int32) => f_X12_counting_42 N (nI j) (nI k) n s (nI i)) (fun n i s => s_X12_counting_42 N (nI j) (nI k) n s (nI i)) (fun i s => s = nI (fb_ct (fun i => vcnt V j t (lf i)) i) ∧ ∀ i', i' < i → vcnt V j t (lf i') = true → fb_ct (fun i => vcnt V j t (lf i)) i' ≠ k) (fun z => z.1 = vat V j t k (vA V) 0) (vA V) ?_ ?_ FU 0 0 (Nat.zero_le _) (by rw [FU_eq]; omega) ⟨rfl, fun i hi => absurd hi (Nat.not_lt_zero _)⟩
        · rintro n i s hi ⟨hs, hI⟩ ih
          obtain ⟨q12, eq⟩ := F.1 i hi
          have i6 : vp_in (nI i) 12 := vpi (by omega)
          obtain ⟨b1, b2⟩ := X4_counts (m := j) hA.c h.2.2 q12 hw
          have st := fb_ct_succ (fun i => vcnt V j t (lf i)) i
          have cl := fb_ct_le (fun i => vcnt V j t (lf i)) i
          simp only [s_X12_counting_42, f_X12_counting_42, hN, if_neg (nI_ge hi (by omega)), nn_nI (show i < 2 ^ 31 by omega), eq, b1, b2, i6, p1, true_and, bz_0]
          cases hc : vcnt V j t (lf i)
          · simp only [if_true]
            exact ih s ⟨by rw [hs, st]; simp [hc], fun i' hi' hc' => by
              by_cases e3 : i' = i
              · subst e3; rw [hc] at hc'; cases hc'
              · exact hI i' (by omega) hc'⟩
          · simp only [Bool.true_eq_false, if_false, hs]
            by_cases y : fb_ct (fun i => vcnt V j t (lf i)) i = k
            · rw [y]
              simp only [if_true]
              refine ⟨trivial, ?_⟩
              rw [← y]
              exact (vat_lf F hi hc).symm
            · have y2 : ¬ nI (fb_ct (fun i => vcnt V j t (lf i)) i) = nI k := fun z => y ((nI_eq (by omega) hk).mp z)
              simp only [y2, if_false]
              rw [p1]
              exact ih (nI (fb_ct (fun i => vcnt V j t (lf i)) i + 1)) ⟨by rw [st]; simp [hc], fun i' hi' hc' => by
                by_cases e3 : i' = i
                · subst e3; exact y
                · exact hI i' (by omega) hc'⟩
        · rintro n s ⟨hs, hI⟩
          simp only [s_X12_counting_42, f_X12_counting_42, hN, if_pos (nI_le (Nat.le_refl (vA V)) (by omega))]
          refine ⟨trivial, ?_⟩
          refine (vat_no _ _ fun q _ hq hc hr => ?_).symm
          obtain ⟨i, hi, rfl⟩ := lf_onto F (q := q) (by omega)
          rw [vrank_lf F hi] at hr
          exact hI i hi hc hr
theorem qM_cnt {M : gM} {V : vV} {lf : Nat → Nat} (h : At M V lf) (x1 x2 x3 : Int32) : s_X13_counting M x1 x2 x3 ∧ (f_X13_counting M x1 x2 x3).1 = a_cnt V x1 x2 x3 := by
  have h1 := h.thr 0
  clear h
  simp only [s_X13_counting, f_X13_counting, s_X13_counting_35, f_X13_counting_35, bnd, bndP]
  generalize wrI M 67 0 0 0 0 = M1 at *
  obtain ⟨c, rfl, w⟩ := h1
  have h10 := w.P.2
  have h8 := w.T.2
  simp only [s_isP, f_isP w, s_isT, f_isT w, true_and, bz_0, a_cnt]
  rcases isP_cases (x := x1) (n := vP (mV M1)) (by omega) with e | ⟨j, hj, rfl, e⟩
  · simp [e]
  · rcases isP_cases (x := x2) (n := vT (mV M1)) (by omega) with e2 | ⟨t, ht, rfl, e2⟩
    · simp [e, e2]
    · simp only [e, e2, Bool.true_eq_false, if_false, if_true]
      by_cases z : x3 < 0
      · simp only [z, if_true, and_self]
      · obtain ⟨k, hk, rfl⟩ := nI_of z
        obtain ⟨a1, a2⟩ := X13_at w (m := j) (k := k) (by omega) ht hk
        simp only [z, if_false, a1, a2, true_and, nn_nI (show j < 2 ^ 31 by omega), nn_nI (show t < 2 ^ 31 by omega), nn_nI hk]
end
