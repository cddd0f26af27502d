set_option linter.all false
noncomputable section
theorem nZ1 : nZ (1 : Int32) = 1 := by decide
theorem nZ0 : nZ (0 : Int32) = 0 := by decide
theorem FU_b : 1205 < FU := by rw [FU_eq]; omega
theorem FU_s : ∃ z, FU = z + 1 := ⟨4095, by rw [FU_eq]⟩
theorem lnd_F {r : Nat} {T : Nat → Nat} {l cn : Nat} {C M : gM} {xC xM : Nat} (f : FM C M r T l cn) (hx : xM < 2) : s_X8_readLand_30 C r xC ∧ s_X13_readLand_32 M (nI xM) ∧ FM (f_X8_readLand_30 C r xC) (f_X13_readLand_32 M (nI xM)) r T l cn := by
  obtain ⟨F, hF⟩ := FU_s
  have j2 : vp_in (nI xM) 2 := vpi hx
  have j4 : vp_in (nI (4 + 5 * xM)) 502 := i502 (by omega)
  have f1 := f.wc (g := 13) (a := r) (b := xC) (d := 0) (v := 1) (by omega)
  have f2 := f1.wc (g := 14) (a := r) (b := xC) (d := 0) (v := 0) (by omega)
  have g1 := f.wm (g := 96) (a := 0) (b := 0) (d := xM) (v := 1) (by omega)
  have g2 := g1.wm (g := 89) (a := 0) (b := 0) (d := 4 + 5 * xM) (v := 0) (by omega)
  simp only [s_X8_readLand_30, f_X8_readLand_30, s_X13_readLand_32, f_X13_readLand_32, bnd, bndP, (c_numF f1.1 _ _).1, (c_numF f1.1 _ _).2, (m_goF f.m).1, (m_goF f.m).2, j2, nn_nI (show xM < 2 ^ 31 by omega), nZ1, (m_nmF g1.m _ _).1, (m_nmF g1.m _ _).2, e4, j4, nn_nI (show 4 + 5 * xM < 2 ^ 31 by omega), hF, s_X8_readLand_47, f_X8_readLand_47, if_neg f2.1.2.1, s_X13_readLand_61, f_X13_readLand_61, s_isW, f_isWF g2.m, if_true, true_and, ite_self]
  exact (f2.wm (by omega)).wm (by omega)
theorem L_lnd {c m : gM} {r : Nat} {T : Nat → Nat} {l cn i : Nat} {lf : Nat → Nat} (h : cOK c r T l cn i) (k : mOK m T l i) (hi : i < cn) (d : DR r c m T lf) : s_X8_readLand c r ∧ s_X13_readLand m ∧ RX r (f_X8_readLand c r) (f_X13_readLand m) T l cn (i + 1) := by
  have hc := h.1.2.1
  obtain ⟨t1, t2, t3⟩ := cx_tk h hi
  have z2 : vp_in (0 : Int32) 2 := vpi (k := 0) (by omega)
  rw [t2] at t3
  have d1' := d.off (Wm := []) (m' := m) (o47 (r := r) (v := nI (i + 1))) (by decide) offR (by decide)
  simp only [s_X8_readLand, f_X8_readLand, s_X13_readLand, f_X13_readLand, bnd, bndP, t1, t2, true_and]
  generalize wrI c 47 r 0 0 (nI (i + 1)) = c1 at *
  obtain ⟨g1, g2, g3, d1, eV⟩ := D_go (cn := cn) k (h.1.2.2.2.1 i hi) d1'
  simp only [g1, true_and]
  generalize f_X13_goOn m = m1 at *
  obtain ⟨u1, u2, u3⟩ := S_num t3 g2 (lo := 0) (hi := 1) x0 x1' (by omega) (by omega)
  simp only [u1, u2, true_and]
  rcases u3 with ⟨x, -, hx, y3, y4, hi1⟩ | ⟨y1, y2, y3⟩
  · obtain ⟨b1, b2, c2⟩ := cx_tk t3 hi1
    rw [b2] at c2
    have d2 := d1.off (Wm := []) (m' := m1) (o47 (r := r) (v := nI (i + 1 + 1))) (by decide) offR (by decide)
    rw [y3, y4]
    generalize wrI c1 47 r 0 0 (nI (i + 1 + 1)) = C2 at *
    have hx2 : x < 2 := by omega
    have j2 : vp_in (nI x) 2 := vpi hx2
    obtain ⟨r13, b13⟩ := d2.2.2.2.1 x hx2
    simp only [j2, nn_nI (show x < 2 ^ 31 by omega), g2.1, if_true, r13, true_and]
    rcases b13 with z | z
    · simp only [z, if_true, s_X8_readLand_30, f_X8_readLand_30, s_X13_readLand_32, f_X13_readLand_32, bnd, bndP]
      obtain ⟨G1, G2, G3, d3, eV3⟩ := D_go (cn := cn) g2 (h.1.2.2.2.1 _ hi1) d2
      have j4 : vp_in (nI (4 + 5 * x)) 502 := i502 (by omega)
      simp only [G1, j2, nn_nI (show x < 2 ^ 31 by omega), nZ1, e4, j4, nn_nI (show 4 + 5 * x < 2 ^ 31 by omega), true_and]
      generalize f_X13_goOn m1 = m2 at *
      obtain ⟨d4, eV4⟩ := d3.w13 (x := x)
      have c4 : cOK (wrI C2 13 r x 0 1) r T l cn (i + 1 + 1) := c2.wr (by omega)
      have k4 : mOK (wrI m2 96 0 0 x 1) T l (i + 1 + 1) := G2.wr (by omega)
      generalize wrI C2 13 r x 0 1 = C4 at *
      generalize wrI m2 96 0 0 x 1 = m4 at *
      obtain ⟨u1, u2, u3⟩ := D_num c4 k4 d4 (lo := 0) (hi := 4) (b := 4) x0 rfl (by omega) (by omega)
      simp only [u1, u2, true_and]
      rcases u3 with ⟨v, -, hv, y5, y6, -, c5, k5, o5, d5, eV5⟩ | ⟨y1, y2, y3⟩
      · rw [y5]
        simp only [y6]
        generalize wrI C4 47 r 0 0 (nI (i + 1 + 1 + 1)) = C5 at *
        generalize (f_X13_number m4 0 4).2 = m5 at *
        have d6 : DR r (wrI C5 14 r x 0 (nI v)) (wrI m5 89 0 0 (4 + 5 * x) (nI v)) T lf := d5.lnd (y := 0) hx2 (by omega) (u := nI v) (by rw [if_pos rfl]; exact vpi (by omega))
        obtain ⟨r1, r2, r3⟩ := S_rights hx2 (cn - (i + 1 + 1 + 1)) (i + 1 + 1 + 1) (wrI C5 14 r x 0 (nI v)) (wrI m5 89 0 0 (4 + 5 * x) (nI v)) 0 FU FU (Nat.le_refl _) (c5.wr (by omega)) (k5.wr (by omega)) d6 (by have := FU_b; omega) (by have := FU_b; omega) (Nat.zero_le _)
        refine ⟨r1, r2, ?_⟩
        rcases r3 with (⟨j, x1, x2⟩ | x1) | x1
        · exact Or.inl (Or.inl ⟨j, by omega, x2⟩)
        · exact Or.inl (Or.inr x1)
        · exact Or.inr x1
      · rw [y2]
        simp only [y3]
        generalize (f_X8_takeNumber C4 r 0 4).2 = C5 at *
        generalize (f_X13_number m4 0 4).2 = m5 at *
        obtain ⟨F, hF⟩ := FU_s
        have f2 := y1.wc (g := 14) (a := r) (b := x) (d := 0) (v := 0) (by omega)
        have g3 := f2.wm (g := 89) (a := 0) (b := 0) (d := 4 + 5 * x) (v := 0) (by omega)
        simp only [hF, s_X8_readLand_47, f_X8_readLand_47, if_neg f2.1.2.1, s_X13_readLand_61, f_X13_readLand_61, s_isW, f_isWF g3.m, if_true, true_and, ite_self]
        exact Or.inl (Or.inr g3)
    · obtain ⟨f1, f2, f3⟩ := S_faT c2 g2
      obtain ⟨q1, q2, q3⟩ := lnd_F (xC := x) (xM := x) f3 hx2
      simp only [z, show ((1 : Int32) = 0) = False by decide, if_false, f1, f2, q1, q2, true_and]
      exact Or.inl (Or.inr q3)
  · rw [y2, y3]
    generalize (f_X8_takeNumber c1 r 0 1).2 = C2 at *
    generalize (f_X13_numberHere m1 0 1).2 = m2 at *
    obtain ⟨q1, q2, q3⟩ := lnd_F (xC := 0) (xM := 0) y1 (by omega)
    rw [show nI 0 = (0 : Int32) from rfl] at q2 q3
    simp only [z2, n0, if_neg y1.m, (c_faTF y1.1.2.1).1, (c_faTF y1.1.2.1).2, q1, q2, true_and, ite_self]
    exact Or.inl (Or.inr q3)
end
