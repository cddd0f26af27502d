set_option linter.all false
noncomputable section
-- ===== the wedding line =====
theorem wf_wed {V : vV} (w : WF V) {p j : Nat} {x3 : Int32} (hp : p < vP V) (hj : j < vP V) (h3 : isD x3 = true) (h6 : vN V < 6) (ne : ¬ nI p = nI j) : WF (rw2 V (wrow V (nI p) (nI j) x3)) := by
  have h10 := w.P.2
  have e1 : isB (nI p) (vP V) = true := by rw [isB_nI (by omega) (by omega)]; exact decide_eq_true hp
  have e2 : isB (nI j) (vP V) = true := by rw [isB_nI (by omega) (by omega)]; exact decide_eq_true hj
  have := G_wed w (nI p) (nI j) x3
  unfold o_wed at this
  rw [if_pos e1, if_pos e2, if_neg ne, if_pos h3, if_pos h6] at this
  exact this.1
theorem L_wed {c m : gM} {r : Nat} {T : Nat → Nat} {l cn i : Nat} {lf : Nat → Nat} (h : cOK c r T l cn i) (k : mOK m T l i) (hi : i < cn) (d : DR r c m T lf) : s_X8_readWedding c r ∧ s_X13_readWed m ∧ RS r (f_X8_readWedding c r) (f_X13_readWed m) T l cn (i + 1) := by
  obtain ⟨P5, M0, le⟩ := d.N
  have i65 : vp_in (64 : Int32) 65 := vpi (k := 64) (by omega)
  have n64 : nn (64 : Int32) = 64 := by decide
  obtain ⟨sm1, sm2⟩ := S_more (N := 6) (N' := 6) rfl (by omega) h k hi le
  -- once a fault stands
  have FF : ∀ (C M : gM) (x y x' y' : Int32), FM C M r T l cn → (s_X8_readWedding_32 C r x y ∧ f_X8_readWedding_32 C r x y = C) ∧ s_X13_readWed_50 M x' y' ∧ f_X13_readWed_50 M x' y' = M := by
    intro C M x y x' y' f
    simp only [s_X8_readWedding_32, f_X8_readWedding_32, s_X13_readWed_50, f_X13_readWed_50, bnd, bndP, (c_numF f.1 _ _).1, (c_numF f.1 _ _).2, if_neg f.1.2.1, (m_goF f.m).1, (m_goF f.m).2, (m_nmF f.m _ _).1, (m_nmF f.m _ _).2, if_neg f.m, true_and]
  simp only [s_X8_readWedding, f_X8_readWedding, s_X13_readWed, f_X13_readWed, bnd, bndP, P5, n64, M0, i65, true_and]
  by_cases hn : vN (nV m) = 6
  · obtain ⟨a1, a2, a3, a4⟩ := sm2 hn
    generalize f_X8_takeOneMore c r (nI (vN (nV m))) 6 = c1 at *
    generalize f_X13_wrong m 2 = m1 at *
    obtain ⟨⟨z1, z2⟩, z3, z4⟩ := FF c1 m1 0 0 0 0 a3
    simp only [if_pos a4, s_X13_readWed_17, f_X13_readWed_17, bnd, bndP, a1, a2, (c_tpF a3.1).1, (c_tpF a3.1).2, (c_faTF a3.1.2.1).1, (c_faTF a3.1.2.1).2, (m_goF a3.m).1, (m_goF a3.m).2, (m_tdF a3.m _).1, (m_tdF a3.m _).2, (m_toF a3.m _).1, (m_toF a3.m _).2, if_neg a3.m, z1, z2, z3, z4, if_true, true_and]
    exact Or.inr a3
  · obtain ⟨a1, a2, a3, a4⟩ := sm1 (by omega)
    have d1' := d.off (Wm := []) (m' := m) (o47 (r := r) (v := nI (i + 1))) (by decide) offR (by decide)
    simp only [if_neg a4, s_X13_readWed_17, f_X13_readWed_17, bnd, bndP, a1, a2, true_and]
    generalize wrI c 47 r 0 0 (nI (i + 1)) = c1 at *
    obtain ⟨g1, g2, g3, d1, eV⟩ := D_go (cn := cn) k (h.1.2.2.2.1 i hi) d1'
    simp only [g1, true_and]
    generalize f_X13_goOn m = m1 at *
    obtain ⟨u1, u2, u3⟩ := D_kn (kd := 0) a3 g2 d1 (by omega) (x1 := 0) (x2 := rdI c1 5 r 0 0) rfl d1.P.1
    simp only [c_tp.1, c_tp.2, u1, u2, true_and]
    rcases u3 with ⟨x, hx, y3, y4, hi1, c2, k2, o2, d2, eV2⟩ | ⟨y1, y2, y3⟩
    · have hx : x < vP (nV m1) := hx
      rw [y3]
      simp only [y4]
      generalize wrI c1 47 r 0 0 (nI (i + 1 + 1)) = C2 at *
      generalize (f_X13_told m1 0).2 = m2 at *
      obtain ⟨u1, u2, u3⟩ := D_kh (kd := 0) c2 k2 d2 (by omega) (x1 := 0) (x2 := rdI C2 5 r 0 0) rfl d2.P.1
      simp only [u1, u2, true_and]
      rcases u3 with ⟨y, hy, y3, y4, hi2, c3, d3⟩ | ⟨y1, y2, y3⟩
      · have hy : y < vP (nV m2) := hy
        have le10 := d2.P.2.2
        rw [← eV2] at hx
        rw [y3, y4]
        generalize wrI C2 47 r 0 0 (nI (i + 1 + 1 + 1)) = C3 at *
        simp only [k2.1, if_true]
        by_cases e : nI x = nI y
        · obtain ⟨f1, f2, f3⟩ := S_faT c3 k2
          obtain ⟨⟨z1, z2⟩, z3, z4⟩ := FF _ _ (nI x) (nI y) (nI x) (nI y) f3
          simp only [if_pos e, f1, f2, z1, z2, z3, z4, true_and]
          exact Or.inr f3
        · simp only [if_neg e, s_X8_readWedding_32, f_X8_readWedding_32, s_X13_readWed_50, f_X13_readWed_50, bnd, bndP]
          obtain ⟨G1, G2, G3, d4, G5⟩ := D_go (cn := cn) k2 (h.1.2.2.2.1 _ hi2) d3
          simp only [G1, true_and]
          generalize f_X13_goOn m2 = m3 at *
          obtain ⟨u1, u2, u3⟩ := D_num c3 G2 d4 (lo := 0) (hi := 9999) (b := 9999) x0 rfl (by omega) (by omega)
          simp only [u1, u2, true_and]
          rcases u3 with ⟨v, -, hv, y5, y6, -, c5, k5, o5, d5, eV5⟩ | ⟨y1, y2, y3⟩
          · rw [y5]
            simp only [y6]
            generalize wrI C3 47 r 0 0 (nI (i + 1 + 1 + 1 + 1)) = C5 at *
            generalize (f_X13_number m3 0 9999).2 = m5 at *
            obtain ⟨T8, N64, -⟩ := d5.N
            have lt6 : vN (nV m5) < 6 := by rw [eV5, G5, eV2, eV]; omega
            have hx5 : x < vP (nV m5) := by rw [eV5, G5]; exact hx
            have hy5 : y < vP (nV m5) := by rw [eV5, G5]; exact hy
            have l6 : nI (vN (nV m5)) < 6 := nI_lt (b := 6) lt6 (by omega)
            have j6 : vp_in (nI (vN (nV m5))) 6 := vpi lt6
            have j1 : vp_in (nI (46 + 3 * vN (nV m5))) 65 := vpi (by omega)
            have j2 : vp_in (nI (46 + 3 * vN (nV m5) + 1)) 65 := vpi (by omega)
            have j3 : vp_in (nI (46 + 3 * vN (nV m5) + 2)) 65 := vpi (by omega)
            have r64 : rdI (wrI (wrI (wrI m5 93 0 0 (46 + 3 * vN (nV m5)) (nI x)) 93 0 0 (46 + 3 * vN (nV m5) + 1) (nI y)) 93 0 0 (46 + 3 * vN (nV m5) + 2) (nI v)) 93 0 0 64 = nI (vN (nV m5)) := by
              rw [rwI, if_neg (by omega), rwI, if_neg (by omega), rwI, if_neg (by omega)]; exact N64
            simp only [c5.2.1, k5.1, if_true, s_X7_addWedding, f_X7_addWedding, s_X13_weds_newNow, f_X13_weds_newNow, bnd, bndP, T8, l6, j6, nn_nI (show vN (nV m5) < 2 ^ 31 by omega), rwN (show (8 : Nat) ≠ 10 by decide), rwN (show (8 : Nat) ≠ 11 by decide), rwN (show (8 : Nat) ≠ 12 by decide), n64, i65, N64, e46, p1, p2, nn_nI (show 46 + 3 * vN (nV m5) < 2 ^ 31 by omega), nn_nI (show 46 + 3 * vN (nV m5) + 1 < 2 ^ 31 by omega), nn_nI (show 46 + 3 * vN (nV m5) + 2 < 2 ^ 31 by omega), j1, j2, j3, r64, true_and]
            refine Or.inl ⟨i + 1 + 1 + 1 + 1, by omega, (((c5.wr (by omega)).wr (by omega)).wr (by omega)).wr (by omega), (((k5.wr (by omega)).wr (by omega)).wr (by omega)).wr (by omega), lf, ?_⟩
            obtain ⟨D1, D2, ⟨D3, D4, D5⟩, D6, D7, D8⟩ := d5
            have q : nV (wrI (wrI (wrI (wrI m5 93 0 0 (46 + 3 * vN (nV m5)) (nI x)) 93 0 0 (46 + 3 * vN (nV m5) + 1) (nI y)) 93 0 0 (46 + 3 * vN (nV m5) + 2) (nI v)) 93 0 0 64 (nI (vN (nV m5) + 1))) = rw2 (nV m5) (wrow (nV m5) (nI x) (nI y) (nI v)) := by rw [nV_w93, nV_w93, nV_w93, nV_w93]; rfl
            unfold DR
            rw [q]
            have isd : isD (nI v) = true := decide_eq_true (dd hv)
            refine ⟨?_, wf_wed D2 hx5 hy5 isd lt6 e, ⟨?_, ?_, ?_⟩, fun x' hx' => ?_, fun p a b => ?_, D8⟩
            · have h6 : vN (nV m5) ≤ 6 := by omega
              have le10' := D2.P.2
              have le12' := D2.A.2
              refine D1.genR (fun g b c' k1 k2 k3 => by rw [prw, if_neg (by omega), prw, if_neg (by omega), prw, if_neg (by omega), prw, if_neg (by omega)]) ?_ ?_ ?_ ?_ ?_ ?_
              · rw [prw, if_pos ⟨rfl, rfl, rfl⟩]; exact (wrow_64 (a := nI x) (b := nI y) (d := nI v)).symm
              · intro k' hk'
                have hk' : k' < nn (wrow (nV m5) (nI x) (nI y) (nI v) 64) := hk'
                rw [wrow_64, nn_nI (by omega)] at hk'
                unfold cvW
                show _ = wrow (nV m5) (nI x) (nI y) (nI v) (46 + 3 * k') ∧ _ = wrow (nV m5) (nI x) (nI y) (nI v) (46 + 3 * k' + 1) ∧ _ = wrow (nV m5) (nI x) (nI y) (nI v) (46 + 3 * k' + 2)
                by_cases z : k' = vN (nV m5)
                · subst z
                  rw [wrow_0 lt6, wrow_1 lt6, wrow_2 lt6]
                  refine ⟨?_, ?_, ?_⟩
                  · rw [prw, if_neg (by omega), prw, if_neg (by omega), prw, if_neg (by omega), prw, if_pos ⟨rfl, rfl, rfl⟩]
                  · rw [prw, if_neg (by omega), prw, if_neg (by omega), prw, if_pos ⟨rfl, rfl, rfl⟩]
                  · rw [prw, if_neg (by omega), prw, if_pos ⟨rfl, rfl, rfl⟩]
                · rw [wrow_lo (by omega) h6, wrow_lo (by omega) h6, wrow_lo (by omega) h6]
                  have := D1.2.2.2.2.1 k' (by omega)
                  unfold cvW at this
                  refine ⟨?_, ?_, ?_⟩
                  · rw [prw, if_neg (by omega), prw, if_neg (by omega), prw, if_neg (by omega), prw, if_neg (by omega)]; exact this.1
                  · rw [prw, if_neg (by omega), prw, if_neg (by omega), prw, if_neg (by omega), prw, if_neg (by omega)]; exact this.2.1
                  · rw [prw, if_neg (by omega), prw, if_neg (by omega), prw, if_neg (by omega), prw, if_neg (by omega)]; exact this.2.2
              · intro p' hp'; rw [wrow_lo (by omega) h6, prw, if_neg (by omega), prw, if_neg (by omega), prw, if_neg (by omega), prw, if_neg (by omega)]; exact D1.e20 p' hp'
              · intro q' hq'; rw [wrow_lo (by omega) h6, prw, if_neg (by omega), prw, if_neg (by omega), prw, if_neg (by omega), prw, if_neg (by omega)]; exact D1.e30 q' hq'
              · intro q' hq'; rw [wrow_lo (by omega) h6, prw, if_neg (by omega), prw, if_neg (by omega), prw, if_neg (by omega), prw, if_neg (by omega)]; exact D1.e33 q' hq'
              · intro q' hq'; rw [wrow_lo (by omega) h6, prw, if_neg (by omega), prw, if_neg (by omega), prw, if_neg (by omega), prw, if_neg (by omega)]; exact D1.e34 q' hq'
            · exact (((((((D3.c (by decide)).c (by decide)).c (by decide)).c (by decide)).m (by decide)).m (by decide)).m (by decide)).m (by decide)
            · exact (((((((D4.c (by decide)).c (by decide)).c (by decide)).c (by decide)).m (by decide)).m (by decide)).m (by decide)).m (by decide)
            · exact (((((((D5.c (by decide)).c (by decide)).c (by decide)).c (by decide)).m (by decide)).m (by decide)).m (by decide)).m (by decide)
            · rw [rwN (by decide), rwN (by decide), rwN (by decide), rwN (by decide), rwN (by decide), rwN (by decide), rwN (by decide), rwN (by decide)]; exact D6 x' hx'
            · have a : vP (nV m5) ≤ p := a
              show wrow (nV m5) (nI x) (nI y) (nI v) p = -2 ∧ _
              rw [wrow_lo (by omega) (by omega)]
              exact D7 p a b
          · generalize (f_X8_takeNumber C3 r 0 9999).2 = C5 at *
            generalize (f_X13_number m3 0 9999).2 = m5 at *
            simp only [if_neg y1.1.2.1, if_neg y1.m, true_and]
            exact Or.inr y1
      · rw [y2, y3]
        generalize (f_X8_takeKnownName C2 r 0 (rdI C2 5 r 0 0)).2 = C3 at *
        generalize (f_X13_toldHere m2 0).2 = m3 at *
        obtain ⟨⟨z1, z2⟩, z3, z4⟩ := FF _ _ (nI x) 0 (nI x) 0 y1
        simp only [if_neg y1.m, (c_faTF y1.1.2.1).1, (c_faTF y1.1.2.1).2, z1, z2, z3, z4, ite_self, true_and]
        exact Or.inr y1
    · rw [y2]
      simp only [y3]
      generalize (f_X8_takeKnownName c1 r 0 (rdI c1 5 r 0 0)).2 = C2 at *
      generalize (f_X13_told m1 0).2 = m2 at *
      obtain ⟨⟨z1, z2⟩, z3, z4⟩ := FF _ _ 0 0 0 0 y1
      simp only [(c_knF y1.1 0 _).1, (c_knF y1.1 0 _).2, (c_faTF y1.1.2.1).1, (c_faTF y1.1.2.1).2, (m_toF y1.m _).1, (m_toF y1.m _).2, if_neg y1.m, z1, z2, z3, z4, if_true, ite_self, true_and]
      exact Or.inr y1
end
