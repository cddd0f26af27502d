-- dayFor, each side alone
set_option linter.all false
noncomputable section
theorem qC_dayo {M : gM} {V : vV} {lf : Nat → Nat} (h : Ac M V lf) (x1 x2 x3 : Int32) : s_X12_dayFor M x1 x2 x3 ∧ CV (f_X12_dayFor M x1 x2 x3).2 V lf := by
  have w := h.2.2
  have h10 := w.P.2
  have h8 := w.T.2
  simp only [s_X12_dayFor, f_X12_dayFor, bnd, bndP, sX7_isP, fX7_isP h.c w, sX7_isT, fX7_isT h.c w]
  have c := h.c
  simp only [true_and, bz_0]
  rcases isP_cases (x := x1) (n := vP V) (by omega) with e | ⟨p, hp, rfl, e⟩
  · simp only [e, if_true, true_and, and_true]; exact c
  · rcases isP_cases (x := x2) (n := vP V) (by omega) with e2 | ⟨o, ho, rfl, e2⟩
    · simp only [e, e2, Bool.true_eq_false, if_false, if_true, true_and, and_true]; exact c
    · by_cases z : nI p = nI o
      · simp only [e, e2, z, Bool.true_eq_false, if_false, if_true, true_and, and_true]; exact c
      · rcases isP_cases (x := x3) (n := vT V) (by omega) with e3 | ⟨t, ht, rfl, e3⟩
        · simp only [e, e2, e3, z, Bool.true_eq_false, if_false, if_true, true_and, and_true]; exact c
        · obtain ⟨a1, a2, a3⟩ := C_dayFor c w hp ho ht
          simp only [e, e2, e3, z, Bool.true_eq_false, if_false, a1, true_and]
          exact a3
theorem qM_dayo {M0 N : gM} {V : vV} {lf : Nat → Nat} (hN : Am M0 N V lf) (x1 x2 x3 : Int32) : s_X13_dayFor N x1 x2 x3 ∧ mV (f_X13_dayFor N x1 x2 x3).2 = V := by
  have h1 := hN.thr 0
  clear hN
  have w := h1.2.2
  have h10 := w.P.2
  have h8 := w.T.2
  simp only [s_X13_dayFor, f_X13_dayFor, bnd, bndP]
  generalize wrI N 67 0 0 0 0 = M1 at *
  have fP := fun x => f_isP (M := M1) (by rw [h1.2.1]; exact w) x
  have fT := fun x => f_isT (M := M1) (by rw [h1.2.1]; exact w) x
  rw [h1.2.1] at fP fT
  have cM := h1.2.1
  simp only [s_isP, fP, s_isT, fT, true_and, bz_0]
  rcases isP_cases (x := x1) (n := vP V) (by omega) with e | ⟨p, hp, rfl, e⟩
  · simp only [e, if_true, true_and, and_true]; exact cM
  · rcases isP_cases (x := x2) (n := vP V) (by omega) with e2 | ⟨o, ho, rfl, e2⟩
    · simp only [e, e2, Bool.true_eq_false, if_false, if_true, true_and, and_true]; exact cM
    · by_cases z : nI p = nI o
      · simp only [e, e2, z, Bool.true_eq_false, if_false, if_true, true_and, and_true]; exact cM
      · rcases isP_cases (x := x3) (n := vT V) (by omega) with e3 | ⟨t, ht, rfl, e3⟩
        · simp only [e, e2, e3, z, Bool.true_eq_false, if_false, if_true, true_and, and_true]; exact cM
        · obtain ⟨b1, m, b2, b3⟩ := X13_days w cM
          obtain ⟨d1, d2, d3⟩ := M_dayFor (M := f_X13_laysDays M1) w h1.F (by rw [mV_off (o_X13_laysDays M1) (by decide), cM]) hp ho ht b2 b3
          simp only [e, e2, e3, z, Bool.true_eq_false, if_false, b1, d1, true_and]
          exact d3
end
