set_option linter.all false
noncomputable section
theorem isB_ite2 {α : Type} {x : Int32} {a : Nat} (ha : a + 1 < 2 ^ 31) {u v : α} : (if x < 0 then u else if nI a < x then u else v) = if isB x (a + 1) = true then v else u := by
  have le := le_lt (x := x) ha
  unfold isB
  by_cases p : x < 0
  · rw [if_pos p, if_neg (by simp [p])]
  · by_cases q : x < nI (a + 1)
    · rw [if_neg p, if_neg (i_nlt.mpr (le.mpr q)), if_pos (by simp [p, q])]
    · rw [if_neg p, if_pos (i_nle.mp (fun z => q (le.mp z))), if_neg (by simp [q])]
-- thing
def a_thi (V : vV) (x1 x2 : Int32) : Int32 := if isB x1 (vT V) = true then (if isB x2 3 = true then V.1 (34 + 3 * nn x1 + nn x2) else -1) else -1
theorem qC_thi {M : gM} {V : vV} {lf : Nat → Nat} (h : At M V lf) (x1 x2 : Int32) : s_X12_thing M x1 x2 ∧ f_X12_thing M x1 x2 = a_thi V x1 x2 := by
  have h8 := h.2.2.T.2
  simp only [s_X12_thing, f_X12_thing, sX7_isT, fX7_isT h.c h.2.2, true_and, bz_0, a_thi]
  rcases isP_cases (x := x1) (n := vT V) (by omega) with e | ⟨t, ht, rfl, e⟩
  · simp [e]
  · have i8 : vp_in (nI t) 8 := vpi (by omega)
    obtain ⟨r1, r2, r3⟩ := h.c.2.2.1 t ht
    simp only [e, Bool.true_eq_false, if_false, if_true, nn_nI (show t < 2 ^ 31 by omega), i8, r1, r2, r3, true_and]
    rcases isP_cases (x := x2) (n := 3) (by omega) with e2 | ⟨k, hk, rfl, e2⟩
    · have n0 : ¬ x2 = 0 := fun z => by rw [z] at e2; exact absurd e2 (by decide)
      have n1 : ¬ x2 = 1 := fun z => by rw [z] at e2; exact absurd e2 (by decide)
      have n2 : ¬ x2 = 2 := fun z => by rw [z] at e2; exact absurd e2 (by decide)
      simp [e2, n0, n1, n2]
    · simp only [e2, if_true, nn_nI (show k < 2 ^ 31 by omega)]
      rcases k with _ | _ | _ | k
      · exact ⟨trivial, rfl⟩
      · exact ⟨trivial, rfl⟩
      · exact ⟨trivial, rfl⟩
      · omega
theorem qM_thi {M : gM} {V : vV} {lf : Nat → Nat} (h : At M V lf) (x1 x2 : Int32) : s_X13_thing M x1 x2 ∧ (f_X13_thing M x1 x2).1 = a_thi V x1 x2 := by
  have h1 := h.thr 0
  clear h
  simp only [s_X13_thing, f_X13_thing, s_X13_thing_38, f_X13_thing_38, bnd, bndP]
  generalize wrI M 67 0 0 0 0 = M1 at *
  obtain ⟨c, rfl, w⟩ := h1
  have h8 := w.T.2
  simp only [s_isT, f_isT w, true_and, bz_0, a_thi]
  rcases isP_cases (x := x1) (n := vT (mV M1)) (by omega) with e | ⟨t, ht, rfl, e⟩
  · simp [e]
  · have k : ∀ (u v : Int32 × gM), (if x2 < 0 then u else if 2 < x2 then u else v) = if isB x2 3 = true then v else u := fun u v => isB_ite2 (a := 2) (by omega)
    have k2 : ∀ (u v : Prop), (if x2 < 0 then u else if 2 < x2 then u else v) = if isB x2 3 = true then v else u := fun u v => isB_ite2 (a := 2) (by omega)
    simp only [e, Bool.true_eq_false, if_false, if_true, k, k2]
    rcases isP_cases (x := x2) (n := 3) (by omega) with e2 | ⟨j, hj, rfl, e2⟩
    · simp [e2]
    · have i1 : vp_in (nI (34 + 3 * t + j)) 502 := vpi (by omega)
      simp only [e2, if_true, e34, nI_add, nn_nI (show 34 + 3 * t + j < 2 ^ 31 by omega), nn_nI (show t < 2 ^ 31 by omega), nn_nI (show j < 2 ^ 31 by omega), i1, x88, and_self]
-- land
def a_lan (V : vV) (x1 x2 : Int32) : Int32 := if isB x1 2 = true then (if isB x2 5 = true then V.1 (4 + 5 * nn x1 + nn x2) else -1) else -1
theorem qC_lan {M : gM} {V : vV} {lf : Nat → Nat} (h : At M V lf) (x1 x2 : Int32) : s_X12_land M x1 x2 ∧ f_X12_land M x1 x2 = a_lan V x1 x2 := by
  simp only [s_X12_land, f_X12_land, sLand, fLand, true_and, bz_0, a_lan]
  rcases isP_cases (x := x1) (n := 2) (by omega) with e | ⟨l, hl, rfl, e⟩
  · simp [e]
  · have i8 : vp_in (nI l) 2 := vpi (by omega)
    obtain ⟨r1, r2, r3, r4, r5⟩ := h.c.2.2.2.2.2.1 l hl
    obtain ⟨w1, w2, w3, w4, w5⟩ := h.2.2.2.2.2.2.2 l hl
    simp only [e, Bool.true_eq_false, if_false, if_true, nn_nI (show l < 2 ^ 31 by omega), i8, r1, r2, r3, r4, r5, sBit, fBit01 w2, fBit01 w3, fBit01 w4, fBit01 w5, true_and, and_true]
    rcases isP_cases (x := x2) (n := 5) (by omega) with e2 | ⟨k, hk, rfl, e2⟩
    · have n0 : ¬ x2 = 0 := fun z => by rw [z] at e2; exact absurd e2 (by decide)
      have n1 : ¬ x2 = 1 := fun z => by rw [z] at e2; exact absurd e2 (by decide)
      have n2 : ¬ x2 = 2 := fun z => by rw [z] at e2; exact absurd e2 (by decide)
      have n3 : ¬ x2 = 3 := fun z => by rw [z] at e2; exact absurd e2 (by decide)
      have n4 : ¬ x2 = 4 := fun z => by rw [z] at e2; exact absurd e2 (by decide)
      simp [e2, n0, n1, n2, n3, n4]
    · simp only [e2, if_true, nn_nI (show k < 2 ^ 31 by omega)]
      rcases k with _ | _ | _ | _ | _ | k
      · exact ⟨trivial, rfl⟩
      · exact ⟨trivial, rfl⟩
      · exact ⟨trivial, rfl⟩
      · exact ⟨trivial, rfl⟩
      · exact ⟨trivial, rfl⟩
      · omega
theorem qM_lan {M : gM} {V : vV} {lf : Nat → Nat} (h : At M V lf) (x1 x2 : Int32) : s_X13_land M x1 x2 ∧ (f_X13_land M x1 x2).1 = a_lan V x1 x2 := by
  have h1 := h.thr 0
  clear h
  simp only [s_X13_land, f_X13_land, s_X13_land_14, f_X13_land_14, s_X13_land_38, f_X13_land_38, bnd, bndP]
  generalize wrI M 67 0 0 0 0 = M1 at *
  obtain ⟨c, rfl, w⟩ := h1
  have k : ∀ (u v : Int32 × gM), (if x2 < 0 then u else if 4 < x2 then u else v) = if isB x2 5 = true then v else u := fun u v => isB_ite2 (a := 4) (by omega)
  have k2 : ∀ (u v : Prop), (if x2 < 0 then u else if 4 < x2 then u else v) = if isB x2 5 = true then v else u := fun u v => isB_ite2 (a := 4) (by omega)
  simp only [k, k2, a_lan]
  rcases isP_cases (x := x1) (n := 2) (by omega) with e | ⟨l, hl, rfl, e⟩
  · have n0 : ¬ x1 = 0 := fun z => by rw [z] at e; exact absurd e (by decide)
    have n1 : ¬ x1 = 1 := fun z => by rw [z] at e; exact absurd e (by decide)
    simp [e, n0, n1]
  · have main : (if isB x2 5 = true then vp_in (4 + 5 * nI l + x2) 502 ∧ True else True) ∧ (if isB x2 5 = true then (rdI M1 88 0 0 (nn (4 + 5 * nI l + x2)), M1) else (-1, M1)).1 = (if isB x2 5 = true then (mV M1).1 (4 + 5 * nn (nI l) + nn x2) else -1) := by
      rcases isP_cases (x := x2) (n := 5) (by omega) with e2 | ⟨j, hj, rfl, e2⟩
      · simp [e2]
      · have i1 : vp_in (nI (4 + 5 * l + j)) 502 := vpi (by omega)
        simp only [e2, if_true, e4, nI_add, nn_nI (show 4 + 5 * l + j < 2 ^ 31 by omega), nn_nI (show l < 2 ^ 31 by omega), nn_nI (show j < 2 ^ 31 by omega), i1, x88, and_self]
    rw [if_pos e]
    rcases l with _ | _ | l
    · exact main
    · exact main
    · omega
-- give
def a_giv (V : vV) (x1 x2 x3 : Int32) : Int32 := if isB x1 (vA V) = true then (if x2 < 0 then -1 else if isB x3 5 = true then (if isB x2 (vG V (nn x1)) = true then V.1 (gi (nn x1) (nn x2) (nn x3)) else -2) else -1) else -1
theorem qC_giv {M : gM} {V : vV} {lf : Nat → Nat} (h : At M V lf) (x1 x2 x3 : Int32) : s_X12_give M x1 x2 x3 ∧ f_X12_give M x1 x2 x3 = a_giv V x1 x2 x3 := by
  have h12 := h.2.2.A.2
  have h10 := h.2.2.P.2
  simp only [s_X12_give, f_X12_give, sX7_isA, fX7_isA h.c h.2.2, true_and, bz_0, a_giv]
  rcases isP_cases (x := x1) (n := vA V) (by omega) with e | ⟨q, hq, rfl, e⟩
  · simp [e]
  · have i12 : vp_in (nI q) 12 := vpi (by omega)
    have e35 := (h.c.2.2.2.1 q hq).1.2.2.2.2.2.1
    have hG := wG h.2.2 hq
    have k : ∀ (u v : Int32), (if x3 < 0 then u else if x3 ≤ 4 then v else u) = if isB x3 5 = true then v else u := fun u v => isB_ite (a := 4) (by omega)
    have k2 : ∀ (u v : Prop), (if x3 < 0 then u else if x3 ≤ 4 then v else u) = if isB x3 5 = true then v else u := fun u v => isB_ite (a := 4) (by omega)
    simp only [e, Bool.true_eq_false, if_false, if_true, k, k2, i12, true_and, nn_nI (show q < 2 ^ 31 by omega), e35, hG.1]
    by_cases z : x2 < 0
    · simp [z]
    · obtain ⟨n, hn, rfl⟩ := nI_of z
      simp only [z, if_false]
      rcases isP_cases (x := x3) (n := 5) (by omega) with e3 | ⟨j, hj, rfl, e3⟩
      · simp [e3]
      · simp only [e3, if_true, isB_nI hn (show vG V q < 2 ^ 31 by omega), nn_nI hn, nn_nI (show j < 2 ^ 31 by omega)]
        by_cases y : n < vG V q
        · have l6 : nI n < 6 := nI_lt (b := 6) (by omega) (by decide)
          have i6 : vp_in (nI n) 6 := vpi (by omega)
          obtain ⟨g1, g2, g3, g4, g5⟩ := (h.c.2.2.2.1 q hq).2 n y
          have w := (h.2.2.2.2.2.1 q hq).2 n y
          have ok3 : V.1 (gi q n 3) = -2 ∨ vp_in (V.1 (gi q n 3)) (vP V) := w.2.2.2.1.elim (fun z => Or.inl z.2) (fun z => Or.inr z.2)
          simp only [y, decide_true, if_true, if_neg (nI_ge y (by omega)), l6, i6, g1, g2, g3, g4, g5, sO2, fO2_n ok3 (show vP V < 2 ^ 31 by omega), fO2_n w.2.2.2.2 (show vP V < 2 ^ 31 by omega), true_and, and_true]
          rcases j with _ | _ | _ | _ | _ | j
          · exact ⟨trivial, rfl⟩
          · exact ⟨trivial, rfl⟩
          · exact ⟨trivial, rfl⟩
          · exact ⟨trivial, rfl⟩
          · exact ⟨trivial, rfl⟩
          · omega
        · have l2 : nI (vG V q) ≤ nI n := nI_le (by omega) hn
          simp [y, l2]
theorem qM_giv {M : gM} {V : vV} {lf : Nat → Nat} (h : At M V lf) (x1 x2 x3 : Int32) : s_X13_give M x1 x2 x3 ∧ (f_X13_give M x1 x2 x3).1 = a_giv V x1 x2 x3 := by
  have h1 := h.thr 0
  clear h
  simp only [s_X13_give, f_X13_give, bnd, bndP]
  generalize wrI M 67 0 0 0 0 = M1 at *
  obtain ⟨c, rfl, w⟩ := h1
  have h12 := w.A.2
  simp only [s_isA, f_isA w, true_and, bz_0, a_giv]
  rcases isP_cases (x := x1) (n := vA (mV M1)) (by omega) with e | ⟨q, hq, rfl, e⟩
  · simp [e]
  · have hG := wG w hq
    have k : ∀ (u v : Int32 × gM), (if x3 < 0 then u else if x3 ≤ 4 then v else u) = if isB x3 5 = true then v else u := fun u v => isB_ite (a := 4) (by omega)
    have k2 : ∀ (u v : Prop), (if x3 < 0 then u else if x3 ≤ 4 then v else u) = if isB x3 5 = true then v else u := fun u v => isB_ite (a := 4) (by omega)
    simp only [e, Bool.true_eq_false, if_false, if_true, k, k2, fof5 (show q < 12 by omega), sof5 (show q < 12 by omega), hG.1, nn_nI (show q < 2 ^ 31 by omega), true_and]
    by_cases z : x2 < 0
    · simp [z]
    · obtain ⟨n, hn, rfl⟩ := nI_of z
      simp only [z, if_false]
      rcases isP_cases (x := x3) (n := 5) (by omega) with e3 | ⟨j, hj, rfl, e3⟩
      · simp [e3]
      · simp only [e3, if_true, isB_nI hn (show vG (mV M1) q < 2 ^ 31 by omega), nn_nI hn, nn_nI (show j < 2 ^ 31 by omega)]
        by_cases y : n < vG (mV M1) q
        · have gb : gi q n 0 + 4 < 502 := by unfold gi; omega
          have ej : gi q n 0 + j = gi q n j := gip rfl
          have i1 : vp_in (nI (gi q n j)) 502 := vpi (by rw [← ej]; omega)
          simp only [y, decide_true, if_true, if_neg (nI_ge y (by omega)), e142, nI_add, ej, nn_nI (show gi q n j < 2 ^ 31 by rw [← ej]; omega), i1, x88, and_self]
        · have l2 : nI (vG (mV M1) q) ≤ nI n := nI_le (by omega) hn
          simp [y, l2]
-- person, paper
def a_per (V : vV) (x1 x2 : Int32) : Int32 × Int32 := if isB x1 (vP V) = true then (if x2 = 0 then (0, V.1 (14 + nn x1)) else if x2 = 1 then (0, V.2.1 (nn x1)) else if x2 = 2 then (0, vkids V (nn x1)) else if x2 = 3 then (0, V.1 (24 + nn x1)) else if x2 = 4 then (0, vwed V (nn x1) 9999) else (2, 0)) else (1, 0)
theorem qC_per {M : gM} {V : vV} {lf : Nat → Nat} (h : At M V lf) (x1 x2 : Int32) : s_X12_person M x1 x2 ∧ f_X12_person M x1 x2 = a_per V x1 x2 := by
  have h10 := h.2.2.P.2
  simp only [s_X12_person, f_X12_person, sX7_isP, fX7_isP h.c h.2.2, true_and, bz_0, a_per]
  rcases isP_cases (x := x1) (n := vP V) (by omega) with e | ⟨p, hp, rfl, e⟩
  · simp [e]
  · have i10 : vp_in (nI p) 10 := vpi (by omega)
    obtain ⟨r1, r2, r3⟩ := h.c.2.1 p hp
    obtain ⟨a1, a2⟩ := X7_children h.c h.2.2 (show p < 32 by omega)
    obtain ⟨b1, b2⟩ := X7_wed h.c h.2.2 p 9999
    have ok := vwed_ok h.2.2 p 9999
    simp only [e, Bool.true_eq_false, if_false, if_true, nn_nI (show p < 2 ^ 31 by omega), i10, r1, r2, r3, a1, a2, b1, b2, sO2, fO2_d (h.2.2.2.1 p hp).2.1, fO2_n ok (show vP V < 2 ^ 31 by omega), true_and, and_true]
    (repeat' split) <;> first | exact ⟨trivial, rfl⟩ | simp_all
theorem qM_per {M : gM} {V : vV} {lf : Nat → Nat} (h : At M V lf) (x1 x2 : Int32) : s_X13_person M x1 x2 ∧ (rdI (f_X13_person M x1 x2).2 67 0 0 0, (f_X13_person M x1 x2).1) = a_per V x1 x2 := by
  have h1 := h.thr 0
  have t0 : rdI (wrI M 67 0 0 0 0) 67 0 0 0 = 0 := by rw [rwI, if_pos (by simp)]
  clear h
  simp only [s_X13_person, f_X13_person, bnd, bndP]
  generalize wrI M 67 0 0 0 0 = M1 at *
  obtain ⟨c, rfl, w⟩ := h1
  have h10 := w.P.2
  have t1 : ∀ v, rdI (wrI M1 67 0 0 0 v) 67 0 0 0 = v := fun v => by rw [rwI, if_pos (by simp)]
  simp only [s_isP, f_isP w, true_and, bz_0, a_per]
  rcases isP_cases (x := x1) (n := vP (mV M1)) (by omega) with e | ⟨p, hp, rfl, e⟩
  · simp [e, t1]
  · have i14 : vp_in ((14 : Int32) + nI p) 502 := inN 14 rfl (by omega) (by decide)
    have i24 : vp_in ((24 : Int32) + nI p) 502 := inN 24 rfl (by omega) (by decide)
    obtain ⟨a1, a2⟩ := X13_children w (show p < 32 by omega)
    obtain ⟨b1, b2⟩ := X13_wed w p 9999
    simp only [e, Bool.true_eq_false, if_false, if_true, nn_nI (show p < 2 ^ 31 by omega), i14, i24, ix14 (show p < 1000 by omega), ix24 (show p < 1000 by omega), x88, f_dies (show p < 65 by omega), s_dies (show p < 65 by omega), a1, a2, b1, b2, true_and, and_true]
    (repeat' split) <;> first | exact ⟨trivial, by rw [t0]⟩ | exact ⟨trivial, by rw [t1]⟩ | simp_all
def a_pap (V : vV) (x1 x2 : Int32) : Int32 × Int32 := if isB x1 (vA V) = true then (if isB x2 5 = true then (0, V.1 (58 + 7 * nn x1 + nn x2)) else if x2 = 5 then (0, V.2.1 (22 + nn x1)) else if x2 = 6 then (0, V.1 (58 + 7 * nn x1 + 5)) else if x2 = 7 then (0, V.1 (58 + 7 * nn x1 + 6)) else if x2 = 8 then (0, V.2.1 (10 + nn x1)) else if x2 = 9 then (0, V.2.1 (34 + nn x1)) else (2, 0)) else (1, 0)
theorem qC_pap {M : gM} {V : vV} {lf : Nat → Nat} (h : At M V lf) (x1 x2 : Int32) : s_X12_paper M x1 x2 ∧ f_X12_paper M x1 x2 = a_pap V x1 x2 := by
  have h12 := h.2.2.A.2
  have h10 := h.2.2.P.2
  simp only [s_X12_paper, f_X12_paper, sX7_isA, fX7_isA h.c h.2.2, true_and, bz_0, a_pap]
  rcases isP_cases (x := x1) (n := vA V) (by omega) with e | ⟨q, hq, rfl, e⟩
  · simp [e]
  · have i12 : vp_in (nI q) 12 := vpi (by omega)
    obtain ⟨e25, e26, e27, e28, e29, e35, e32, e30, e31, e33, e34'⟩ := (h.c.2.2.2.1 q hq).1
    obtain ⟨w1, w2, w3, w4, w5, w6, w7, w8, w9, w10, w11⟩ := (h.2.2.2.2.2.1 q hq).1
    simp only [e, Bool.true_eq_false, if_false, if_true, nn_nI (show q < 2 ^ 31 by omega), i12, e25, e26, e27, e28, e29, e30, e32, e33, e34', e35, sO2, sBit, fBit01 w5, fBit01 w9, fO2_n w7 (show vP V < 2 ^ 31 by omega), fO2_n w8 (show 4 < 2 ^ 31 by omega), true_and, and_true]
    rcases isP_cases (x := x2) (n := 5) (by omega) with e2 | ⟨j, hj, rfl, e2⟩
    · have n0 : ¬ x2 = 0 := fun z => by rw [z] at e2; exact absurd e2 (by decide)
      have n1 : ¬ x2 = 1 := fun z => by rw [z] at e2; exact absurd e2 (by decide)
      have n2 : ¬ x2 = 2 := fun z => by rw [z] at e2; exact absurd e2 (by decide)
      have n3 : ¬ x2 = 3 := fun z => by rw [z] at e2; exact absurd e2 (by decide)
      have n4 : ¬ x2 = 4 := fun z => by rw [z] at e2; exact absurd e2 (by decide)
      simp only [e2, Bool.false_eq_true, n0, n1, n2, n3, n4, if_false]
      (repeat' split) <;> first | exact ⟨trivial, rfl⟩ | simp_all
    · simp only [e2, if_true, nn_nI (show j < 2 ^ 31 by omega)]
      rcases j with _ | _ | _ | _ | _ | j
      · exact ⟨trivial, rfl⟩
      · exact ⟨trivial, rfl⟩
      · exact ⟨trivial, rfl⟩
      · exact ⟨trivial, rfl⟩
      · exact ⟨trivial, rfl⟩
      · omega
theorem qM_pap {M : gM} {V : vV} {lf : Nat → Nat} (h : At M V lf) (x1 x2 : Int32) : s_X13_paper M x1 x2 ∧ (rdI (f_X13_paper M x1 x2).2 67 0 0 0, (f_X13_paper M x1 x2).1) = a_pap V x1 x2 := by
  have h1 := h.thr 0
  have t0 : rdI (wrI M 67 0 0 0 0) 67 0 0 0 = 0 := by rw [rwI, if_pos (by simp)]
  clear h
  simp only [s_X13_paper, f_X13_paper, s_X13_paper_76, f_X13_paper_76, bnd, bndP]
  generalize wrI M 67 0 0 0 0 = M1 at *
  obtain ⟨c, rfl, w⟩ := h1
  have h12 := w.A.2
  have t1 : ∀ v, rdI (wrI M1 67 0 0 0 v) 67 0 0 0 = v := fun v => by rw [rwI, if_pos (by simp)]
  simp only [s_isA, f_isA w, true_and, bz_0, a_pap]
  rcases isP_cases (x := x1) (n := vA (mV M1)) (by omega) with e | ⟨q, hq, rfl, e⟩
  · simp [e, t1]
  · have i10 : vp_in ((10 : Int32) + nI q) 65 := inN 10 rfl (by omega) (by decide)
    have i22 : vp_in ((22 : Int32) + nI q) 65 := inN 22 rfl (by omega) (by decide)
    have i34 : vp_in ((34 : Int32) + nI q) 65 := inN 34 rfl (by omega) (by decide)
    rcases isP_cases (x := x2) (n := 5) (by omega) with e2 | ⟨j, hj, rfl, e2⟩
    · have n0 : ¬ x2 = 0 := fun z => by rw [z] at e2; exact absurd e2 (by decide)
      have n1 : ¬ x2 = 1 := fun z => by rw [z] at e2; exact absurd e2 (by decide)
      have n2 : ¬ x2 = 2 := fun z => by rw [z] at e2; exact absurd e2 (by decide)
      have n3 : ¬ x2 = 3 := fun z => by rw [z] at e2; exact absurd e2 (by decide)
      have n4 : ¬ x2 = 4 := fun z => by rw [z] at e2; exact absurd e2 (by decide)
      simp only [e, e2, Bool.true_eq_false, Bool.false_eq_true, n0, n1, n2, n3, n4, if_false, if_true, nn_nI (show q < 2 ^ 31 by omega), i10, i22, i34, ix10 (show q < 1000 by omega), ix22 (show q < 1000 by omega), ix34 (show q < 1000 by omega), x92, fof5 (show q < 12 by omega), sof5 (show q < 12 by omega), fof6 (show q < 12 by omega), sof6 (show q < 12 by omega), true_and, and_true]
      (repeat' split) <;> first | exact ⟨trivial, by rw [t0]⟩ | exact ⟨trivial, by rw [t1]⟩ | simp_all
    · have v := fof (M := M1) (q := q) (x := nI j) j rfl (by omega) (by omega)
      have s := sof (M := M1) (q := q) (x := nI j) j rfl (by omega) (by omega)
      simp only [e, e2, Bool.true_eq_false, if_false, if_true, v, s, nn_nI (show q < 2 ^ 31 by omega), nn_nI (show j < 2 ^ 31 by omega)]
      have fin : (rdI M1 67 0 0 0, (mV M1).1 (58 + 7 * q + j)) = (0, (mV M1).1 (58 + 7 * q + j)) := by rw [t0]
      rcases j with _ | _ | _ | _ | _ | j
      · exact ⟨⟨trivial, trivial⟩, fin⟩
      · exact ⟨⟨trivial, trivial⟩, fin⟩
      · exact ⟨⟨trivial, trivial⟩, fin⟩
      · exact ⟨⟨trivial, trivial⟩, fin⟩
      · exact ⟨⟨trivial, trivial⟩, fin⟩
      · omega
-- count
def a_cou (V : vV) (u v x1 : Int32) : Int32 := if x1 = 0 then V.1 3 else if x1 = 1 then V.1 0 else if x1 = 2 then V.1 1 else if x1 = 3 then V.1 2 else if x1 = 4 then V.2.1 64 else if x1 = 5 then nI (fb_ct (fun q => decide (V.2.1 (10 + q) ≠ -2)) (vA V)) else if x1 = 6 then nI (fb_ct (fun p => decide (V.2.1 p ≠ -2)) (vP V)) else if x1 = 7 then u else if x1 = 8 then v else -1
theorem X7_lost {M : gM} {V : vV} {lf : Nat → Nat} (c : CV M V lf) (h : WF V) : s_X7_lostPapers M 0 ∧ f_X7_lostPapers M 0 = nI (fb_ct (fun q => decide (V.2.1 (10 + q) ≠ -2)) (vA V)) := by
  have hN := c.A h
  have h12 := h.A.2
  unfold s_X7_lostPapers f_X7_lostPapers
  refine lp (fun n k (s : Int32) => f_X7_lostPapers_4 M 0 n s (nI k)) (fun n k s => s_X7_lostPapers_4 M 0 n s (nI k)) (fun k s => s = nI (fb_ct (fun q => decide (V.2.1 (10 + q) ≠ -2)) k)) (fun z => z = nI (fb_ct (fun q => decide (V.2.1 (10 + q) ≠ -2)) (vA V))) (vA V) ?_ ?_ FU 0 0 (Nat.zero_le _) (by rw [FU_eq]; omega) rfl
  · intro n k s hk hI ih
    have i1 : vp_in (nI k) 12 := vpi (by omega)
    have st := fb_ct_succ (fun q => decide (V.2.1 (10 + q) ≠ -2)) k
    simp only [s_X7_lostPapers_4, f_X7_lostPapers_4, hN, if_neg (nI_ge hk (by omega)), nn_nI (show k < 2 ^ 31 by omega), i1, sX5_lost, fX5_lost c h hk, p1, true_and, bz_0, decide_eq_false_iff_not]
    by_cases z : V.2.1 (10 + k) = -2
    · simp only [z, ne_eq, not_true, not_false_eq_true, if_true]
      exact ih _ (by rw [hI, st, p0]; simp [z])
    · simp only [z, ne_eq, not_false_eq_true, not_true, if_false]
      exact ih _ (by rw [hI, st, p1]; simp [z])
  · intro n s hI
    simp only [s_X7_lostPapers_4, f_X7_lostPapers_4, hN, if_pos (nI_le (Nat.le_refl (vA V)) (by omega))]
    exact ⟨trivial, hI⟩
theorem X7_dead {M : gM} {V : vV} {lf : Nat → Nat} (c : CV M V lf) (h : WF V) : s_X7_deaths M 0 ∧ f_X7_deaths M 0 = nI (fb_ct (fun p => decide (V.2.1 p ≠ -2)) (vP V)) := by
  have hN := c.P h
  have h10 := h.P.2
  unfold s_X7_deaths f_X7_deaths
  refine lp (fun n k (s : Int32) => f_X7_deaths_4 M 0 n s (nI k)) (fun n k s => s_X7_deaths_4 M 0 n s (nI k)) (fun k s => s = nI (fb_ct (fun p => decide (V.2.1 p ≠ -2)) k)) (fun z => z = nI (fb_ct (fun p => decide (V.2.1 p ≠ -2)) (vP V))) (vP V) ?_ ?_ FU 0 0 (Nat.zero_le _) (by rw [FU_eq]; omega) rfl
  · intro n k s hk hI ih
    have i1 : vp_in (nI k) 10 := vpi (by omega)
    have st := fb_ct_succ (fun p => decide (V.2.1 p ≠ -2)) k
    simp only [s_X7_deaths_4, f_X7_deaths_4, hN, if_neg (nI_ge hk (by omega)), nn_nI (show k < 2 ^ 31 by omega), i1, sX6_mortal, fX6_mortal c h hk, p1, true_and, bz_0, decide_eq_false_iff_not]
    by_cases z : V.2.1 k = -2
    · simp only [z, ne_eq, not_true, not_false_eq_true, if_true]
      exact ih _ (by rw [hI, st, p0]; simp [z])
    · simp only [z, ne_eq, not_false_eq_true, not_true, if_false]
      exact ih _ (by rw [hI, st, p1]; simp [z])
  · intro n s hI
    simp only [s_X7_deaths_4, f_X7_deaths_4, hN, if_pos (nI_le (Nat.le_refl (vP V)) (by omega))]
    exact ⟨trivial, hI⟩
theorem qC_cou {M : gM} {V : vV} {lf : Nat → Nat} (h : At M V lf) (x1 : Int32) : s_X12_count M x1 ∧ f_X12_count M x1 = a_cou V (rdI M 63 0 0 0) (rdI M 0 0 0 0) x1 := by
  obtain ⟨a1, a2⟩ := X7_lost h.c h.2.2
  obtain ⟨b1, b2⟩ := X7_dead h.c h.2.2
  simp only [s_X12_count, f_X12_count, a1, a2, b1, b2, h.c.1.1, h.c.1.2.1, h.c.1.2.2.1, h.c.1.2.2.2.1, h.c.1.2.2.2.2, a_cou, and_true, ite_self, and_self]
theorem X13_lost {M : gM} (h : WF (mV M)) : s_X13_manyLost M ∧ f_X13_manyLost M = nI (fb_ct (fun q => decide ((mV M).2.1 (10 + q) ≠ -2)) (vA (mV M))) := by
  have hN := mA h
  have h12 := h.A.2
  have i0 : vp_in (2 : Int32) 502 := vpi (k := 2) (by omega)
  unfold s_X13_manyLost f_X13_manyLost
  refine lp (fun n k (s : Int32) => f_X13_manyLost_4 M n s (nI k)) (fun n k s => s_X13_manyLost_4 M n s (nI k)) (fun k s => s = nI (fb_ct (fun q => decide ((mV M).2.1 (10 + q) ≠ -2)) k)) (fun z => z = nI (fb_ct (fun q => decide ((mV M).2.1 (10 + q) ≠ -2)) (vA (mV M)))) (vA (mV M)) ?_ ?_ FU 0 0 (Nat.zero_le _) (by rw [FU_eq]; omega) rfl
  · intro n k s hk hI ih
    have i1 : vp_in ((10 : Int32) + nI k) 65 := inN 10 rfl (by omega) (by decide)
    have st := fb_ct_succ (fun q => decide ((mV M).2.1 (10 + q) ≠ -2)) k
    simp only [s_X13_manyLost_4, f_X13_manyLost_4, hN, if_neg (nI_ge hk (by omega)), i0, i1, ix10 (show k < 1000 by omega), x92, p1, true_and]
    by_cases z : (mV M).2.1 (10 + k) = -2
    · simp only [z, if_true]
      exact ih _ (by rw [hI, st, p0]; simp [z])
    · simp only [z, if_false]
      exact ih _ (by rw [hI, st, p1]; simp [z])
  · intro n s hI
    simp only [s_X13_manyLost_4, f_X13_manyLost_4, hN, if_pos (nI_le (Nat.le_refl (vA (mV M))) (by omega))]
    exact ⟨⟨i0, trivial⟩, hI⟩
theorem X13_dead {M : gM} (h : WF (mV M)) : s_X13_manyDie M ∧ f_X13_manyDie M = nI (fb_ct (fun p => decide ((mV M).2.1 p ≠ -2)) (vP (mV M))) := by
  have hN := mP h
  have h10 := h.P.2
  have i0 : vp_in (0 : Int32) 502 := vpi (k := 0) (by omega)
  unfold s_X13_manyDie f_X13_manyDie
  refine lp (fun n k (s : Int32) => f_X13_manyDie_4 M n s (nI k)) (fun n k s => s_X13_manyDie_4 M n s (nI k)) (fun k s => s = nI (fb_ct (fun p => decide ((mV M).2.1 p ≠ -2)) k)) (fun z => z = nI (fb_ct (fun p => decide ((mV M).2.1 p ≠ -2)) (vP (mV M)))) (vP (mV M)) ?_ ?_ FU 0 0 (Nat.zero_le _) (by rw [FU_eq]; omega) rfl
  · intro n k s hk hI ih
    have st := fb_ct_succ (fun p => decide ((mV M).2.1 p ≠ -2)) k
    simp only [s_X13_manyDie_4, f_X13_manyDie_4, hN, if_neg (nI_ge hk (by omega)), i0, f_dies (show k < 65 by omega), s_dies (show k < 65 by omega), p1, true_and]
    by_cases z : (mV M).2.1 k = -2
    · simp only [z, if_true]
      exact ih _ (by rw [hI, st, p0]; simp [z])
    · simp only [z, if_false]
      exact ih _ (by rw [hI, st, p1]; simp [z])
  · intro n s hI
    simp only [s_X13_manyDie_4, f_X13_manyDie_4, hN, if_pos (nI_le (Nat.le_refl (vP (mV M))) (by omega))]
    exact ⟨⟨i0, trivial⟩, hI⟩
theorem qM_cou {M : gM} {V : vV} {lf : Nat → Nat} (h : At M V lf) (x1 : Int32) : s_X13_count M x1 ∧ (f_X13_count M x1).1 = a_cou V (rdI M 69 0 0 0) (rdI M 68 0 0 0) x1 := by
  have h1 := h.thr 0
  have e69 : rdI (wrI M 67 0 0 0 0) 69 0 0 0 = rdI M 69 0 0 0 := by rw [rwI, if_neg (by omega)]
  have e68 : rdI (wrI M 67 0 0 0 0) 68 0 0 0 = rdI M 68 0 0 0 := by rw [rwI, if_neg (by omega)]
  clear h
  simp only [s_X13_count, f_X13_count, bnd, bndP]
  rw [← e69, ← e68]
  generalize wrI M 67 0 0 0 0 = M1 at *
  obtain ⟨c, rfl, w⟩ := h1
  obtain ⟨a1, a2⟩ := X13_lost w
  obtain ⟨b1, b2⟩ := X13_dead w
  have i0 : vp_in (0 : Int32) 502 := vpi (k := 0) (by omega)
  have i1 : vp_in (1 : Int32) 502 := vpi (k := 1) (by omega)
  have i2 : vp_in (2 : Int32) 502 := vpi (k := 2) (by omega)
  have i3 : vp_in (3 : Int32) 502 := vpi (k := 3) (by omega)
  have i64 : vp_in (64 : Int32) 65 := vpi (k := 64) (by omega)
  have n0 : nn (0 : Int32) = 0 := rfl
  have n1 : nn (1 : Int32) = 1 := rfl
  have n2 : nn (2 : Int32) = 2 := rfl
  have n3 : nn (3 : Int32) = 3 := rfl
  have n64 : nn (64 : Int32) = 64 := rfl
  simp only [a1, a2, b1, b2, i0, i1, i2, i3, i64, n0, n1, n2, n3, n64, x88, x92, a_cou, and_true, ite_self, true_and]
  repeat' split
  all_goals first | rfl | simp_all
end
