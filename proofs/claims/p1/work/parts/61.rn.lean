set_option linter.all false
noncomputable section
theorem pj_wr {r : Nat} {c : gM} {V : vV} {lf : Nat → Nat} {g b d : Nat} {v : Int32} (h : CV (wrI (prj r c) g 0 b d v) V lf) : CV (prj r (wrI c g r b d v)) V lf := h.same fun g' b' d' _ _ => by
  rw [prw, rwI]
  by_cases z : g' = g ∧ b' = b ∧ d' = d
  · rw [if_pos z, if_pos ⟨z.1, rfl, z.2⟩]
  · rw [if_neg z, if_neg (fun w => z ⟨w.1, w.2.2⟩)]
theorem dd {v : Nat} (h : v ≤ 9999) : dOK (nI v) := ⟨nI_le (a := 0) (by omega) (by omega), nI_le (b := 9999) h (by omega)⟩
theorem nm2 {v : Nat} (h : v < 2 ^ 31) : nI v ≠ -2 := (nI_ne h).1
-- ===== the death line =====
theorem sMor {M : gM} {r p : Nat} : s_X6_isMortal M r p := by unfold s_X6_isMortal; split <;> trivial
theorem L_die {c m : gM} {r : Nat} {T : Nat → Nat} {l cn i : Nat} {lf : Nat → Nat} (h : cOK c r T l cn i) (k : mOK m T l i) (hi : i < cn) (d : DR r c m T lf) : s_X8_readDeath c r ∧ s_X13_readDies m ∧ RS r (f_X8_readDeath c r) (f_X13_readDies m) T l cn (i + 1) := by
  obtain ⟨t1, t2, t3⟩ := cx_tk h hi
  have z10 : vp_in (0 : Int32) 10 := vpi (k := 0) (by omega)
  rw [t2] at t3
  have d1' := d.off (Wm := []) (m' := m) (o47 (r := r) (v := nI (i + 1))) (by decide) offR (by decide)
  simp only [s_X8_readDeath, f_X8_readDeath, s_X13_readDies, f_X13_readDies, bnd, bndP, t1, t2, true_and]
  generalize wrI c 47 r 0 0 (nI (i + 1)) = c1 at *
  obtain ⟨g1, g2, g3, d1, eV⟩ := D_go (cn := cn) k (h.1.2.2.2.1 i hi) d1'
  simp only [g1, true_and]
  generalize f_X13_goOn m = m1 at *
  obtain ⟨u1, u2, u3⟩ := D_kh (kd := 0) t3 g2 d1 (by omega) (x1 := 0) (x2 := rdI c1 5 r 0 0) rfl d1.P.1
  simp only [c_tp.1, c_tp.2, u1, u2, true_and]
  rcases u3 with ⟨p, hp, y3, y4, hi1, c2, d2⟩ | ⟨y1, y2, y3⟩
  · have hp : p < vP (nV m1) := hp
    have le10 := d1.P.2.2
    rw [y3, y4]
    generalize wrI c1 47 r 0 0 (nI (i + 1 + 1)) = C2 at *
    have i10 : vp_in (nI p) 10 := vpi (by omega)
    have i65 : vp_in (nI p) 65 := vpi (by omega)
    have r20 : rdI C2 20 r p 0 = mo ((nV m1).2.1 p) := d2.1.e20 p hp
    have w20 := wf_rp d2.2.1 p hp
    have em : (f_X6_isMortal C2 r p = 0) = ((nV m1).2.1 p = -2) := by
      unfold f_X6_isMortal
      rw [r20]
      by_cases z : (nV m1).2.1 p = -2
      · rw [if_pos ((mo_m1 w20).mpr z), z]; simp
      · rw [if_neg (fun q => z ((mo_m1 w20).mp q))]; simp [z]
    simp only [i10, nn_nI (show p < 2 ^ 31 by omega), sMor, em, g2.1, if_true, e0n, i65, y93, true_and]
    by_cases z : (nV m1).2.1 p = -2
    · simp only [if_pos z, s_X8_readDeath_28, f_X8_readDeath_28, s_X13_readDies_35, f_X13_readDies_35, bnd, bndP]
      obtain ⟨g1', g2', g3', d3, eV3⟩ := D_go (cn := cn) g2 (h.1.2.2.2.1 _ hi1) d2
      simp only [g1', true_and]
      generalize f_X13_goOn m1 = m2 at *
      obtain ⟨u1, u2, u3⟩ := D_num c2 g2' d3 (lo := 0) (hi := 9999) (b := 9999) x0 rfl (by omega) (by omega)
      simp only [u1, u2, true_and]
      rcases u3 with ⟨v, -, hv, y5, y6, -, c4, k4, o4, d4, eV4⟩ | ⟨y1, y2, y3⟩
      · rw [y5]
        simp only [y6]
        generalize wrI C2 47 r 0 0 (nI (i + 1 + 1 + 1)) = C4 at *
        generalize (f_X13_number m2 0 9999).2 = m4 at *
        simp only [c4.2.1, k4.1, if_true, nn_nI (show p < 2 ^ 31 by omega), e0n, i65, true_and]
        have hp4 : p < vP (nV m4) := by rw [eV4, eV3]; exact hp
        obtain ⟨D1, D2, ⟨D3, D4, D5⟩, D6, D7, D8⟩ := d4
        have A1 := D1.die D2 hp4 (nI v)
        rw [mo_ne (nm2 (by omega))] at A1
        refine Or.inl ⟨i + 1 + 1 + 1, by omega, c4.wr (by omega), k4.wr (by omega), lf, ?_⟩
        unfold DR
        rw [nV_w93]
        refine ⟨pj_wr A1, wf_die D2 hp4 (Or.inr (dd hv)), ⟨D3.wr (by decide) (by decide), D4.wr (by decide) (by decide), D5.wr (by decide) (by decide)⟩, fun x hx => ?_, fun q a b => ?_, D8⟩
        · rw [rwN (by decide), rwN (by decide)]; exact D6 x hx
        · have a : vP (nV m4) ≤ q := a
          rw [vset_ne (by omega)]
          exact D7 q a b
      · generalize (f_X8_takeNumber C2 r 0 9999).2 = C4 at *
        generalize (f_X13_number m2 0 9999).2 = m4 at *
        simp only [if_neg y1.1.2.1, if_neg y1.m, true_and]
        exact Or.inr y1
    · obtain ⟨q1, q2, q3⟩ := S_faT c2 g2
      simp only [if_neg z, q1, q2, s_X8_readDeath_28, f_X8_readDeath_28, s_X13_readDies_35, f_X13_readDies_35, bnd, bndP, true_and]
      generalize f_X8_failAtTaken C2 r = C3 at *
      generalize f_X13_wrong m1 3 = m3 at *
      simp only [(c_numF q3.1 _ _).1, (c_numF q3.1 _ _).2, (m_goF q3.m).1, (m_goF q3.m).2, (m_nmF q3.m _ _).1, (m_nmF q3.m _ _).2, if_neg q3.1.2.1, if_neg q3.m, true_and]
      exact Or.inr q3
  · rw [y2, y3]
    generalize (f_X8_takeKnownName c1 r 0 (rdI c1 5 r 0 0)).2 = C2 at *
    generalize (f_X13_toldHere m1 0).2 = m2 at *
    simp only [z10, n0, sMor, if_neg y1.m, s_X8_readDeath_28, f_X8_readDeath_28, s_X13_readDies_35, f_X13_readDies_35, bnd, bndP, (c_faTF y1.1.2.1).1, (c_faTF y1.1.2.1).2, (c_numF y1.1 _ _).1, (c_numF y1.1 _ _).2, (m_goF y1.m).1, (m_goF y1.m).2, (m_nmF y1.m _ _).1, (m_nmF y1.m _ _).2, if_neg y1.1.2.1, true_and, ite_self]
    exact Or.inr y1
-- ===== the lost line =====
theorem sLos {M : gM} {r q : Nat} : s_X5_isLost M r q := by unfold s_X5_isLost; split <;> trivial
theorem L_los {c m : gM} {r : Nat} {T : Nat → Nat} {l cn i : Nat} {lf : Nat → Nat} (h : cOK c r T l cn i) (k : mOK m T l i) (hi : i < cn) (d : DR r c m T lf) : s_X8_readLost c r ∧ s_X13_readLost m ∧ RS r (f_X8_readLost c r) (f_X13_readLost m) T l cn (i + 1) := by
  obtain ⟨t1, t2, t3⟩ := cx_tk h hi
  have z12 : vp_in (0 : Int32) 12 := vpi (k := 0) (by omega)
  rw [t2] at t3
  have d1' := d.off (Wm := []) (m' := m) (o47 (r := r) (v := nI (i + 1))) (by decide) offR (by decide)
  simp only [s_X8_readLost, f_X8_readLost, s_X13_readLost, f_X13_readLost, bnd, bndP, t1, t2, true_and]
  generalize wrI c 47 r 0 0 (nI (i + 1)) = c1 at *
  obtain ⟨g1, g2, g3, d1, eV⟩ := D_go (cn := cn) k (h.1.2.2.2.1 i hi) d1'
  simp only [g1, true_and]
  generalize f_X13_goOn m = m1 at *
  obtain ⟨u1, u2, u3⟩ := D_kh (kd := 2) t3 g2 d1 (by omega) (x1 := 2) (x2 := rdI c1 7 r 0 0) rfl d1.A.1
  simp only [c_ta.1, c_ta.2, u1, u2, true_and]
  rcases u3 with ⟨p, hp, y3, y4, hi1, c2, d2⟩ | ⟨y1, y2, y3⟩
  · have hp : p < vA (nV m1) := hp
    have le12 := d1.A.2.2
    rw [y3, y4]
    generalize wrI c1 47 r 0 0 (nI (i + 1 + 1)) = C2 at *
    have i12 : vp_in (nI p) 12 := vpi (by omega)
    have i65 : vp_in (nI (10 + p)) 65 := vpi (by omega)
    have r33 : rdI C2 33 r p 0 = mo ((nV m1).2.1 (10 + p)) := d2.1.e33 p hp
    have em : (f_X5_isLost C2 r p = 0) = ((nV m1).2.1 (10 + p) = -2) := by
      unfold f_X5_isLost
      rw [r33]
      by_cases z : (nV m1).2.1 (10 + p) = -2
      · rw [z, if_pos (by decide)]; simp
      · rw [mo_ne z, if_neg (e10m d2.2.1 hp)]; simp [z]
    simp only [i12, nn_nI (show p < 2 ^ 31 by omega), sLos, em, g2.1, if_true, e10n, i65, nn_nI (show 10 + p < 2 ^ 31 by omega), y93, true_and]
    by_cases z : (nV m1).2.1 (10 + p) = -2
    · simp only [if_pos z, s_X8_readLost_28, f_X8_readLost_28, s_X13_readLost_36, f_X13_readLost_36, bnd, bndP]
      obtain ⟨g1', g2', g3', d3, eV3⟩ := D_go (cn := cn) g2 (h.1.2.2.2.1 _ hi1) d2
      simp only [g1', true_and]
      generalize f_X13_goOn m1 = m2 at *
      obtain ⟨u1, u2, u3⟩ := D_num c2 g2' d3 (lo := 0) (hi := 3) (b := 3) x0 rfl (by omega) (by omega)
      simp only [u1, u2, true_and]
      rcases u3 with ⟨v, -, hv, y5, y6, -, c4, k4, o4, d4, eV4⟩ | ⟨y1, y2, y3⟩
      · rw [y5]
        simp only [y6]
        generalize wrI C2 47 r 0 0 (nI (i + 1 + 1 + 1)) = C4 at *
        generalize (f_X13_number m2 0 3).2 = m4 at *
        simp only [c4.2.1, k4.1, if_true, nn_nI (show 10 + p < 2 ^ 31 by omega), e10n, i65, true_and]
        have hp4 : p < vA (nV m4) := by rw [eV4, eV3]; exact hp
        obtain ⟨D1, D2, ⟨D3, D4, D5⟩, D6, D7, D8⟩ := d4
        have A1 := D1.cop D2 hp4 (nI v)
        rw [mo_ne (nm2 (by omega))] at A1
        refine Or.inl ⟨i + 1 + 1 + 1, by omega, c4.wr (by omega), k4.wr (by omega), lf, ?_⟩
        unfold DR
        rw [nV_w93]
        refine ⟨pj_wr A1, wf_cop D2 hp4 (Or.inr (vpi (by omega))), ⟨D3.wr (by decide) (by decide), D4.wr (by decide) (by decide), D5.wr (by decide) (by decide)⟩, fun x hx => ?_, fun q a b => ?_, D8⟩
        · rw [rwN (by decide), rwN (by decide)]; exact D6 x hx
        · have a : vP (nV m4) ≤ q := a
          rw [vset_ne (by omega)]
          exact D7 q a b
      · generalize (f_X8_takeNumber C2 r 0 3).2 = C4 at *
        generalize (f_X13_number m2 0 3).2 = m4 at *
        simp only [if_neg y1.1.2.1, if_neg y1.m, true_and]
        exact Or.inr y1
    · obtain ⟨q1, q2, q3⟩ := S_faT c2 g2
      simp only [if_neg z, q1, q2, s_X8_readLost_28, f_X8_readLost_28, s_X13_readLost_36, f_X13_readLost_36, bnd, bndP, true_and]
      generalize f_X8_failAtTaken C2 r = C3 at *
      generalize f_X13_wrong m1 3 = m3 at *
      simp only [(c_numF q3.1 _ _).1, (c_numF q3.1 _ _).2, (m_goF q3.m).1, (m_goF q3.m).2, (m_nmF q3.m _ _).1, (m_nmF q3.m _ _).2, if_neg q3.1.2.1, if_neg q3.m, true_and]
      exact Or.inr q3
  · rw [y2, y3]
    generalize (f_X8_takeKnownName c1 r 2 (rdI c1 7 r 0 0)).2 = C2 at *
    generalize (f_X13_toldHere m1 2).2 = m2 at *
    simp only [z12, n0, sLos, if_neg y1.m, s_X8_readLost_28, f_X8_readLost_28, s_X13_readLost_36, f_X13_readLost_36, bnd, bndP, (c_faTF y1.1.2.1).1, (c_faTF y1.1.2.1).2, (c_numF y1.1 _ _).1, (c_numF y1.1 _ _).2, (m_goF y1.m).1, (m_goF y1.m).2, (m_nmF y1.m _ _).1, (m_nmF y1.m _ _).2, if_neg y1.1.2.1, true_and, ite_self]
    exact Or.inr y1
end
