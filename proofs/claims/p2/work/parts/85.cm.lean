-- THE CLASS'S LINES ALONE, ON (draft)
set_option linter.all false
noncomputable section
theorem oW {c : gM} {g a b k : Nat} {v : Int32} : offW [g] c (wrI c g a b k v) := offR.wI (by simp)
theorem vp0 {n : Nat} (h : 0 < n) (hn : n < 2 ^ 31) : vp_in (0 : Int32) n := vpi (k := 0) h hn
theorem n_dOK {x : Int32} (h : 0 ≤ x) (k : x ≤ 9999) : dOK x := ⟨h, k⟩
-- ===== thing =====
theorem add_T {r T : Nat} {d : gM} {x y z : Int32} (h : CI r d) (eT : vT (cV r d) = T) (hT : T < 8) (hx : vp_in x (vP (cV r d))) (hy : vp_in y 2) (hz : 1 ≤ z ∧ z ≤ 9999) : s_X7_addThing d r x y z ∧ CI r (f_X7_addThing d r x y z) ∧ ∀ lo, TS d r lo → TS (f_X7_addThing d r x y z) r lo := by
  obtain ⟨w, lf, f⟩ := h
  have e6 : rdI d 6 r 0 0 = nI T := by rw [← v_6, w.T.1, eT]
  have o := o_X7_addThing d r x y z
  have lt : nI T < 8 := nI_lt (b := 8) hT (by omega)
  have ev : f_X7_addThing d r x y z = wrI (wrI (wrI (wrI d 22 r T 0 x) 23 r T 0 y) 24 r T 0 z) 6 r 0 0 (nI (T + 1)) := by
    simp only [f_X7_addThing, bnd, e6, if_pos lt, nn_nI (show T < 2 ^ 31 by omega), rwN (show (6 : Nat) ≠ 22 by decide), rwN (show (6 : Nat) ≠ 23 by decide), rwN (show (6 : Nat) ≠ 24 by decide), p1]
  refine ⟨?_, ?_, fun lo t => ?_⟩
  · simp only [s_X7_addThing, bndP, e6, if_pos lt, and_true]
    exact vpi hT
  · have c6 : rdI (f_X7_addThing d r x y z) 6 r 0 0 = nI (T + 1) := by rw [ev, rwS]
    have cT : vT (cV r (f_X7_addThing d r x y z)) = T + 1 := by unfold vT; rw [v_6, c6, nn_nI (by omega)]
    obtain ⟨p1, p2, p3⟩ := x_P w o (by decide)
    obtain ⟨a1, a2, a3, a4⟩ := x_A w o (by decide)
    obtain ⟨w1, w2⟩ := x_W w o (by decide)
    refine ⟨WF_ext w ⟨p2, by rw [v_6, c6]; exact vpi (by omega), a2, w1⟩ (by omega) (by omega) p3 (fun t ht => ?_) a3 a4 w2 (x_L o (by decide)), lf, x_F w f o (by decide)⟩
    rw [cT] at ht
    by_cases q : t = T
    · subst q
      refine Or.inl ⟨?_, ?_, ?_⟩
      · rw [p1, v_22' (by omega), ev, rwI, if_neg (by omega), rwI, if_neg (by omega), rwI, if_neg (by omega), rwS]; exact hx
      · rw [v_22 (by omega) (by omega), ev, rwI, if_neg (by omega), rwI, if_neg (by omega), rwI, if_pos ⟨rfl, rfl, rfl, rfl⟩]; exact hy
      · rw [v_22 (by omega) (by omega), ev, rwI, if_neg (by omega), rwI, if_pos ⟨rfl, rfl, rfl, rfl⟩]; exact hz
    · refine Or.inr ⟨by omega, fun j hj => ?_⟩
      rw [v_22 (by omega) hj, v_22 (by omega) hj, ev, rwI, if_neg (by omega), rwI, if_neg (by omega), rwI, if_neg (by omega), rwI, if_neg (by omega)]
  · exact t.off o (by decide)
theorem K_thg {r lo : Nat} {c : gM} (h : CT r lo c) : s_X8_readThing c r ∧ CT r lo (f_X8_readThing c r) := by
  obtain ⟨e0, h10, -⟩ := h.vP KE.rfl
  have eT : rdI c 6 r 0 0 = nI (vT (cV r c)) := h.2.1.T.1
  have h8 := h.2.1.T.2
  obtain ⟨a1, a2, a3, a4⟩ := P_more h (rdI c 6 r 0 0) 8
  simp only [s_X8_readThing, f_X8_readThing, bnd, bndP]
  rw [eT] at a1 a2 a3 a4 ⊢
  generalize f_X8_takeOneMore c r (nI (vT (cV r c))) 8 = c1 at *
  have e1 : rdI c1 6 r 0 0 = nI (vT (cV r c)) := (a3 6 0 0 (by omega) (by omega)).trans eT
  obtain ⟨b1, b2, b3, b4⟩ := P_nw (kd := 1) a2 (by omega) (show vT (cV r c) ≤ nmL 1 from h8)
  rw [e1]
  generalize f_X8_takeNewName c1 r 1 (nI (vT (cV r c))) = c2 at *
  obtain ⟨e2, -, -⟩ := h.vP (a3.tr b3)
  obtain ⟨g1, g2, g3, g4, g5⟩ := P_per b2 e2 h10
  generalize f_X8_takePerson c2 r = z1 at *
  obtain ⟨d1, d2, d3, d4, d5⟩ := P_num g2 0 1
  generalize f_X8_takeNumber z1.2 r 0 1 = z2 at *
  obtain ⟨k1, k2, k3, k4, k5⟩ := P_num d2 1 9999
  generalize f_X8_takeNumber z2.2 r 1 9999 = z3 at *
  by_cases q : rdI z3.2 48 r 0 0 = 0
  · simp only [if_pos q]
    obtain ⟨q2, v1, v2⟩ := k5 q
    obtain ⟨q3, v3, v4⟩ := d5 q2
    obtain ⟨q4, j, hj, ej⟩ := g5 q3
    have lt := n_lt (by omega) (by omega) (show nI (vT (cV r c)) < nI 8 from (a4 (b4 q4)).2)
    have eV := (h.vP (a3.tr (b3.tr (g3.tr (d3.tr k3))))).2.2
    obtain ⟨m1, m2, m3⟩ := add_T (T := vT (cV r c)) (x := z1.1) (y := z2.1) (z := z3.1) k2.2 (by rw [eV]) lt (by rw [eV, ej]; exact vpi hj) (n_01 v3 v4) ⟨v1, v2⟩
    exact ⟨⟨a1, b1, g1, d1, k1, m1, trivial⟩, m3 lo k2.1, m2⟩
  · simp only [if_neg q]
    exact ⟨⟨a1, b1, g1, d1, k1, trivial⟩, k2⟩
-- ===== wedding =====
theorem add_W {r N : Nat} {d : gM} {x y z : Int32} (h : CI r d) (eN : vN (cV r d) = N) (hN : N < 6) (hx : vp_in x (vP (cV r d))) (hy : vp_in y (vP (cV r d))) (hz : dOK z) : s_X7_addWedding d r x y z ∧ CI r (f_X7_addWedding d r x y z) ∧ ∀ lo, TS d r lo → TS (f_X7_addWedding d r x y z) r lo := by
  obtain ⟨w, lf, f⟩ := h
  have e8 : rdI d 8 r 0 0 = nI N := by rw [← v_8, w.N.1, eN]
  have o := o_X7_addWedding d r x y z
  have lt : nI N < 6 := nI_lt (b := 6) hN (by omega)
  have ev : f_X7_addWedding d r x y z = wrI (wrI (wrI (wrI d 10 r 0 N x) 11 r 0 N y) 12 r 0 N z) 8 r 0 0 (nI (N + 1)) := by
    simp only [f_X7_addWedding, bnd, e8, if_pos lt, nn_nI (show N < 2 ^ 31 by omega), rwN (show (8 : Nat) ≠ 10 by decide), rwN (show (8 : Nat) ≠ 11 by decide), rwN (show (8 : Nat) ≠ 12 by decide), p1]
  refine ⟨?_, ?_, fun lo t => ?_⟩
  · simp only [s_X7_addWedding, bndP, e8, if_pos lt, and_true, nn_nI (show N < 2 ^ 31 by omega), rwN (show (8 : Nat) ≠ 10 by decide), rwN (show (8 : Nat) ≠ 11 by decide), rwN (show (8 : Nat) ≠ 12 by decide), vpi hN]
  · have c8 : rdI (f_X7_addWedding d r x y z) 8 r 0 0 = nI (N + 1) := by rw [ev, rwS]
    have cN : vN (cV r (f_X7_addWedding d r x y z)) = N + 1 := by unfold vN; rw [v_8, c8, nn_nI (by omega)]
    obtain ⟨p1, p2, p3⟩ := x_P w o (by decide)
    obtain ⟨t1, t2, t3⟩ := x_T w o (by decide)
    obtain ⟨a1, a2, a3, a4⟩ := x_A w o (by decide)
    refine ⟨WF_ext w ⟨p2, t2, a2, by rw [v_8, c8]; exact vpi (by omega)⟩ (by omega) (by omega) p3 t3 a3 a4 (fun k hk => ?_) (x_L o (by decide)), lf, x_F w f o (by decide)⟩
    rw [cN] at hk
    by_cases q : k = N
    · subst q
      refine Or.inl ⟨?_, ?_, ?_⟩
      · rw [p1, v_10' (by omega), ev, rwI, if_neg (by omega), rwI, if_neg (by omega), rwI, if_neg (by omega), rwS]; exact hx
      · rw [p1, v_10 (by omega) (by omega), ev, rwI, if_neg (by omega), rwI, if_neg (by omega), rwI, if_pos ⟨rfl, rfl, rfl, rfl⟩]; exact hy
      · rw [v_10 (by omega) (by omega), ev, rwI, if_neg (by omega), rwI, if_pos ⟨rfl, rfl, rfl, rfl⟩]; exact hz
    · refine Or.inr ⟨by omega, fun j hj => ?_⟩
      rw [v_10 (by omega) hj, v_10 (by omega) hj, ev, rwI, if_neg (by omega), rwI, if_neg (by omega), rwI, if_neg (by omega), rwI, if_neg (by omega)]
  · exact t.off o (by decide)
theorem K_wed {r lo : Nat} {c : gM} (h : CT r lo c) : s_X8_readWedding c r ∧ CT r lo (f_X8_readWedding c r) := by
  obtain ⟨e0, h10, -⟩ := h.vP KE.rfl
  have eN : rdI c 8 r 0 0 = nI (vN (cV r c)) := h.2.1.N.1
  have h6 := h.2.1.N.2
  obtain ⟨a1, a2, a3, a4⟩ := P_more h (rdI c 8 r 0 0) 6
  simp only [s_X8_readWedding, f_X8_readWedding, bnd, bndP]
  rw [eN] at a1 a2 a3 a4 ⊢
  generalize f_X8_takeOneMore c r (nI (vN (cV r c))) 6 = c1 at *
  obtain ⟨e2, -, -⟩ := h.vP a3
  obtain ⟨g1, g2, g3, g4, g5⟩ := P_per a2 e2 h10
  generalize f_X8_takePerson c1 r = z1 at *
  obtain ⟨e3, -, -⟩ := h.vP (a3.tr g3)
  obtain ⟨i1, i2, i3, i4, i5⟩ := P_per g2 e3 h10
  generalize f_X8_takePerson z1.2 r = z2 at *
  have go : ∀ d, CT r lo d → KE r c d → (rdI d 48 r 0 0 = 0 → rdI z2.2 48 r 0 0 = 0) → s_X8_readWedding_32 d r z1.1 z2.1 ∧ CT r lo (f_X8_readWedding_32 d r z1.1 z2.1) := by
    intro d hd kd fd
    simp only [s_X8_readWedding_32, f_X8_readWedding_32, bnd, bndP]
    obtain ⟨k1, k2, k3, k4, k5⟩ := P_num hd 0 9999
    generalize f_X8_takeNumber d r 0 9999 = z3 at *
    by_cases q : rdI z3.2 48 r 0 0 = 0
    · simp only [if_pos q]
      obtain ⟨q2, v1, v2⟩ := k5 q
      obtain ⟨q3, j2, hj2, ej2⟩ := i5 (fd q2)
      obtain ⟨q4, j, hj, ej⟩ := g5 q3
      have lt := n_lt (by omega) (by omega) (show nI (vN (cV r c)) < nI 6 from (a4 q4).2)
      have eV := (h.vP (kd.tr k3)).2.2
      obtain ⟨m1, m2, m3⟩ := add_W (N := vN (cV r c)) (x := z1.1) (y := z2.1) (z := z3.1) k2.2 (by rw [eV]) lt (by rw [eV, ej]; exact vpi hj) (by rw [eV, ej2]; exact vpi hj2) ⟨v1, v2⟩
      exact ⟨⟨k1, m1, trivial⟩, m3 lo k2.1, m2⟩
    · simp only [if_neg q]
      exact ⟨⟨k1, trivial⟩, k2⟩
  by_cases y : z1.1 = z2.1
  · simp only [if_pos y]
    obtain ⟨f1, f2, f3, f4⟩ := P_faT i2
    obtain ⟨n1, n2⟩ := go _ f2 (a3.tr (g3.tr (i3.tr f3))) (P_faK i2)
    exact ⟨⟨a1, g1, i1, f1, n1⟩, n2⟩
  · simp only [if_neg y]
    obtain ⟨n1, n2⟩ := go _ i2 (a3.tr (g3.tr i3)) id
    exact ⟨⟨a1, g1, i1, n1⟩, n2⟩
-- ===== one cell of a person, of a paper =====
theorem set_20 {r p : Nat} {d : gM} {v : Int32} (h : CI r d) (hv : dOK v) : CI r (wrI d 20 r p 0 v) := by
  obtain ⟨w, lf, f⟩ := h
  have o : offW [20] d (wrI d 20 r p 0 v) := oW
  have eP : vP (cV r (wrI d 20 r p 0 v)) = vP (cV r d) := by unfold vP; rw [v_5, v_5, rwN (by decide)]
  have h10 := w.P.2
  obtain ⟨t1, t2, t3⟩ := x_T w o (by decide)
  obtain ⟨a1, a2, a3, a4⟩ := x_A w o (by decide)
  obtain ⟨w1, w2⟩ := x_W w o (by decide)
  refine ⟨WF_ext w ⟨w.1.1, t2, a2, w1⟩ (by omega) (by omega) (fun p' hp => ?_) t3 a3 a4 w2 (x_L o (by decide)), lf, x_F w f o (by decide)⟩
  rw [eP] at hp
  have b := w.2.1 p' hp
  unfold wfP at b ⊢
  rw [v_19 (by omega), v_20 (by omega), v_21 (by omega)] at b ⊢
  rw [rwN (show (19 : Nat) ≠ 20 by decide), rwN (show (21 : Nat) ≠ 20 by decide)]
  by_cases z : p' = p
  · subst z
    rw [rwS]
    exact Or.inl ⟨b.1, Or.inr (by rw [om_ok hv.1]; exact hv), b.2.2⟩
  · rw [rwI, if_neg (by omega)]
    exact Or.inl b
theorem set_21 {r p : Nat} {d : gM} {v : Int32} (h : CI r d) (hv : ∀ i, bt v i = true → i < p) : CI r (wrI d 21 r p 0 v) := by
  obtain ⟨w, lf, f⟩ := h
  have o : offW [21] d (wrI d 21 r p 0 v) := oW
  have eP : vP (cV r (wrI d 21 r p 0 v)) = vP (cV r d) := by unfold vP; rw [v_5, v_5, rwN (by decide)]
  have h10 := w.P.2
  obtain ⟨t1, t2, t3⟩ := x_T w o (by decide)
  obtain ⟨a1, a2, a3, a4⟩ := x_A w o (by decide)
  obtain ⟨w1, w2⟩ := x_W w o (by decide)
  refine ⟨WF_ext w ⟨w.1.1, t2, a2, w1⟩ (by omega) (by omega) (fun p' hp => ?_) t3 a3 a4 w2 (x_L o (by decide)), lf, x_F w f o (by decide)⟩
  rw [eP] at hp
  have b := w.2.1 p' hp
  unfold wfP at b ⊢
  rw [v_19 (by omega), v_20 (by omega), v_21 (by omega)] at b ⊢
  rw [rwN (by decide), rwN (by decide)]
  by_cases z : p' = p
  · subst z
    rw [rwS]
    exact Or.inl ⟨b.1, b.2.1, hv⟩
  · rw [rwI, if_neg (by omega)]
    exact Or.inl b
theorem set_33 {r q : Nat} {d : gM} {v : Int32} (h : CI r d) (hv : vp_in v 4) : CI r (wrI d 33 r q 0 v) := by
  obtain ⟨w, lf, f⟩ := h
  have o : offW [33] d (wrI d 33 r q 0 v) := oW
  have eA : vA (cV r (wrI d 33 r q 0 v)) = vA (cV r d) := by unfold vA; rw [v_7, v_7, rwN (by decide)]
  have h12 := w.A.2
  obtain ⟨p1, p2, p3⟩ := x_P w o (by decide)
  obtain ⟨t1, t2, t3⟩ := x_T w o (by decide)
  obtain ⟨w1, w2⟩ := x_W w o (by decide)
  have e25 : ∀ q', q' < 12 → ∀ j, j < 7 → (cV r (wrI d 33 r q 0 v)).1 (58 + 7 * q' + j) = (cV r d).1 (58 + 7 * q' + j) := fun q' h' j hj => by
    rw [v_25 h' hj, v_25 h' hj, rwN (by decide), rwN (by split <;> omega)]
  refine ⟨WF_ext w ⟨p2, t2, w.1.2.2.1, w1⟩ (by omega) (by omega) p3 t3 (fun q' hq => ?_) (fun q' hq => ?_) w2 (x_L o (by decide)), lf, x_F w f o (by decide)⟩
  · rw [eA] at hq
    by_cases z : q' = q
    · subst z
      left
      have b := (w.2.2.2.1 q' hq).1
      have e0 := e25 q' (by omega) 0 (by omega)
      rw [Nat.add_zero] at e0
      unfold wfA at b ⊢
      rw [e0, e25 q' (by omega) 1 (by omega), e25 q' (by omega) 2 (by omega), e25 q' (by omega) 3 (by omega), e25 q' (by omega) 4 (by omega), e25 q' (by omega) 5 (by omega), e25 q' (by omega) 6 (by omega), p1, v_33 (by omega), v_30 (by omega), v_34 (by omega), rwS, rwN (by decide), rwN (by decide)]
      rw [v_33 (by omega), v_30 (by omega), v_34 (by omega)] at b
      obtain ⟨b1, b2, b3, b4, b5, b6, b7, b8, b9⟩ := b
      refine ⟨b1, b2, b3, b4, b5, b6, b7, Or.inr ?_, b9⟩
      obtain ⟨j, hj, rfl⟩ := vp_in_of hv (by omega)
      rw [om_ok (nI_le (a := 0) (Nat.zero_le j) (by omega))]
      exact hv
    · right
      refine ⟨hq, e25 q' (by omega), ?_, ?_, ?_⟩
      · rw [v_33 (by omega), v_33 (by omega), rwI, if_neg (by omega)]
      · rw [v_30 (by omega), v_30 (by omega), rwN (by decide)]
      · rw [v_34 (by omega), v_34 (by omega), rwN (by decide)]
  · rw [eA] at hq
    right
    refine ⟨hq, e25 q' (by omega) 5 (by omega), fun k j hk hj => ?_⟩
    rw [v_36 (by omega) hk hj, v_36 (by omega) hk hj, rwN (by omega)]
-- ===== death, lost =====
theorem K_dth {r lo : Nat} {c : gM} (h : CT r lo c) : s_X8_readDeath c r ∧ CT r lo (f_X8_readDeath c r) := by
  obtain ⟨e0, h10, -⟩ := h.vP KE.rfl
  obtain ⟨a1, a2, a3, a4⟩ := P_take h
  simp only [s_X8_readDeath, f_X8_readDeath, bnd, bndP]
  generalize f_X8_takeToken c r = c1 at *
  obtain ⟨e2, -, -⟩ := h.vP a3
  obtain ⟨g1, g2, g3, g4, g5⟩ := P_per a2 e2 h10
  generalize f_X8_takePerson c1 r = z1 at *
  have v10 := g4.in (N := 10) (by omega) h10 (by omega)
  have go : ∀ d, CT r lo d → s_X8_readDeath_28 d r (nn z1.1) ∧ CT r lo (f_X8_readDeath_28 d r (nn z1.1)) := by
    intro d hd
    simp only [s_X8_readDeath_28, f_X8_readDeath_28, bnd, bndP]
    obtain ⟨k1, k2, k3, k4, k5⟩ := P_num hd 0 9999
    generalize f_X8_takeNumber d r 0 9999 = z3 at *
    by_cases q : rdI z3.2 48 r 0 0 = 0
    · simp only [if_pos q]
      obtain ⟨q2, v1, v2⟩ := k5 q
      exact ⟨⟨k1, trivial⟩, k2.1.wr (by decide), set_20 k2.2 ⟨v1, v2⟩⟩
    · simp only [if_neg q]
      exact ⟨⟨k1, trivial⟩, k2⟩
  by_cases y : f_X6_isMortal z1.2 r (nn z1.1) = 0
  · simp only [if_pos y]
    obtain ⟨n1, n2⟩ := go _ g2
    exact ⟨⟨a1, g1, v10, sX6_mortal, n1⟩, n2⟩
  · simp only [if_neg y]
    obtain ⟨f1, f2, f3, f4⟩ := P_faT g2
    obtain ⟨n1, n2⟩ := go _ f2
    exact ⟨⟨a1, g1, v10, sX6_mortal, f1, n1⟩, n2⟩
theorem K_los {r lo : Nat} {c : gM} (h : CT r lo c) : s_X8_readLost c r ∧ CT r lo (f_X8_readLost c r) := by
  have eA : rdI c 7 r 0 0 = nI (vA (cV r c)) := h.2.1.A.1
  have h12 := h.2.1.A.2
  obtain ⟨a1, a2, a3, a4⟩ := P_take h
  simp only [s_X8_readLost, f_X8_readLost, bnd, bndP]
  generalize f_X8_takeToken c r = c1 at *
  obtain ⟨g1, g2, g3, g4, g5⟩ := P_pap (n := vA (cV r c)) a2 ((a3 7 0 0 (by omega) (by omega)).trans eA) h12
  generalize f_X8_takePaper c1 r = z1 at *
  have v12 := g4.in (N := 12) (by omega) h12 (by omega)
  have sl : s_X5_isLost z1.2 r (nn z1.1) := by unfold s_X5_isLost; split <;> trivial
  have go : ∀ d, CT r lo d → s_X8_readLost_28 d r (nn z1.1) ∧ CT r lo (f_X8_readLost_28 d r (nn z1.1)) := by
    intro d hd
    simp only [s_X8_readLost_28, f_X8_readLost_28, bnd, bndP]
    obtain ⟨k1, k2, k3, k4, k5⟩ := P_num hd 0 3
    generalize f_X8_takeNumber d r 0 3 = z3 at *
    by_cases q : rdI z3.2 48 r 0 0 = 0
    · simp only [if_pos q]
      obtain ⟨q2, v1, v2⟩ := k5 q
      exact ⟨⟨k1, trivial⟩, k2.1.wr (by decide), set_33 k2.2 (n_vp (n := 3) v1 v2 (by omega))⟩
    · simp only [if_neg q]
      exact ⟨⟨k1, trivial⟩, k2⟩
  by_cases y : f_X5_isLost z1.2 r (nn z1.1) = 0
  · simp only [if_pos y]
    obtain ⟨n1, n2⟩ := go _ g2
    exact ⟨⟨a1, g1, v12, sl, n1⟩, n2⟩
  · simp only [if_neg y]
    obtain ⟨f1, f2, f3, f4⟩ := P_faT g2
    obtain ⟨n1, n2⟩ := go _ f2
    exact ⟨⟨a1, g1, v12, sl, f1, n1⟩, n2⟩
-- ===== child =====
theorem or_in {x : Int32} {j n : Nat} (hj : j < n) (hn : n ≤ 32) (h : ∀ i, bt x i = true → i < n) : ∀ i, bt (x ||| (1 <<< (nI j &&& 31))) i = true → i < n := by
  intro i hi
  rcases Nat.lt_or_ge i 32 with q | q
  · rw [b_or, bt_bit (by omega) q, Bool.or_eq_true] at hi
    rcases hi with hi | hi
    · exact h i hi
    · have := of_decide_eq_true hi; omega
  · rw [b_big q] at hi; cases hi
theorem or_ct {x : Int32} {j : Nat} (hj : j < 10) : fb_ct (bt (x ||| (1 <<< (nI j &&& 31)))) 10 ≤ fb_ct (bt x) 10 + 1 := by
  have := fb_ct_upd (bt x) true (i := j) (n := 10) hj
  have e : fb_ct (bt (x ||| (1 <<< (nI j &&& 31)))) 10 = fb_ct (fun k => if k = j then true else bt x k) 10 := fb_ct_cong fun k hk => by
    rw [b_or, bt_bit (by omega) (by omega)]
    by_cases z : k = j <;> simp [z]
  rw [e]
  simp only [if_true] at this
  omega
theorem K_chd {r : Nat} {c : gM} (h : CT r 0 c) (h0 : rdI c 48 r 0 0 = 0) (hk : f_X8_comes c r ≠ 25) : s_X8_readChild c r ∧ CT r 0 (f_X8_readChild c r) := by
  obtain ⟨e0, h10, -⟩ := h.vP KE.rfl
  obtain ⟨a1, a2', a3, a4⟩ := P_take h
  have a2 : CT r 1 (f_X8_takeToken c r) := ⟨T_take1 h.1 h0 hk, a2'.2⟩
  simp only [s_X8_readChild, f_X8_readChild, bnd, bndP]
  generalize f_X8_takeToken c r = c1 at *
  obtain ⟨e2, -, -⟩ := h.vP a3
  obtain ⟨g1, g2, g3, g4, g5⟩ := P_per a2 e2 h10
  generalize f_X8_takePerson c1 r = z1 at *
  obtain ⟨e3, -, -⟩ := h.vP (a3.tr g3)
  obtain ⟨i1, i2, i3, i4, i5⟩ := P_per g2 e3 h10
  generalize f_X8_takePerson z1.2 r = z2 at *
  have v10 := g4.in (N := 10) (by omega) h10 (by omega)
  have dn : ∀ d : gM, CT r 1 d → CT r 0 d := fun d hd => ⟨hd.1.mono (by omega), hd.2⟩
  obtain ⟨f1, f2, f3, f4⟩ := P_faT i2
  have bad : s_X8_readChild_63 z2.2 r z2.1 (nn z1.1) ∧ CT r 0 (f_X8_readChild_63 z2.2 r z2.1 (nn z1.1)) := by
    simp only [s_X8_readChild_63, f_X8_readChild_63, s_X8_readChild_67, f_X8_readChild_67, bnd, bndP, if_neg (f4 (Or.inr (by omega))), and_true]
    exact ⟨f1, dn _ f2⟩
  have ok : ¬ z1.1 ≤ z2.1 → s_X8_readChild_67 z2.2 r z2.1 (nn z1.1) ∧ CT r 0 (f_X8_readChild_67 z2.2 r z2.1 (nn z1.1)) := by
    intro lt
    simp only [s_X8_readChild_67, f_X8_readChild_67, bnd, bndP]
    by_cases q : rdI z2.2 48 r 0 0 = 0
    · simp only [if_pos q]
      obtain ⟨q3, j2, hj2, ej2⟩ := i5 q
      obtain ⟨q4, j, hj, ej⟩ := g5 q3
      rw [ej, ej2] at lt ⊢
      have jl : j2 < j := n_lt (by omega) (by omega) (i_nle.mp lt)
      rw [nn_nI (show j < 2 ^ 31 by omega)]
      refine ⟨trivial, (i2.1.mono (by omega)).wr (by decide), set_21 i2.2 (or_in jl (by omega) ?_)⟩
      have := (i2.2.1.2.1 j (by rw [(h.vP (a3.tr (g3.tr i3))).2.2]; exact hj)).2.2
      rw [v_21 (by omega)] at this
      exact this
    · simp only [if_neg q]
      exact ⟨trivial, dn _ i2⟩
  have go : ∀ y, s_X8_readChild_40 z2.2 r z1.1 z2.1 (nn z1.1) y ∧ CT r 0 (f_X8_readChild_40 z2.2 r z1.1 z2.1 (nn z1.1) y) := by
    intro y
    simp only [s_X8_readChild_40, f_X8_readChild_40]
    by_cases lt : z1.1 ≤ z2.1
    · simp only [if_pos lt]; exact bad
    · simp only [if_neg lt]
      by_cases y0 : y = 0
      · simp only [if_pos y0]
        split
        · exact ⟨⟨s_bit, (ok lt).1⟩, (ok lt).2⟩
        · exact ⟨⟨s_bit, bad.1⟩, bad.2⟩
      · simp only [if_neg y0]; exact bad
  split
  · exact ⟨⟨a1, g1, i1, v10, (go 0).1⟩, (go 0).2⟩
  · exact ⟨⟨a1, g1, i1, v10, (go 1).1⟩, (go 1).2⟩
-- ===== land =====
theorem set_L {r l j : Nat} {d : gM} {v : Int32} (h : CI r d) (hj : j < 5) (hv : vp_in v (if j = 0 then 5 else 2)) : CI r (wrI d (14 + j) r l 0 v) := by
  obtain ⟨w, lf, f⟩ := h
  have o : offW [14 + j] d (wrI d (14 + j) r l 0 v) := oW
  have kk : ∀ f : Nat → Bool, f (14 + j) = true → [14 + j].all f = true := fun f hf => by simp [hf]
  obtain ⟨p1, p2, p3⟩ := x_P w o (kk _ (by simp; omega))
  obtain ⟨t1, t2, t3⟩ := x_T w o (kk _ (by simp; omega))
  obtain ⟨a1, a2, a3, a4⟩ := x_A w o (kk _ (by simp [Nat.blt_eq]; omega))
  obtain ⟨w1, w2⟩ := x_W w o (kk _ (by simp; omega))
  refine ⟨WF_ext w ⟨p2, t2, a2, w1⟩ (by omega) (by omega) p3 t3 a3 a4 w2 (fun l' hl => Or.inl ?_), lf, x_F w f o (kk _ (by simp; omega))⟩
  have b := w.2.2.2.2.2 l' hl
  have one : ∀ i, i < 5 → vp_in (rdI d (14 + i) r l' 0) (if i = 0 then 5 else 2) → vp_in (rdI (wrI d (14 + j) r l 0 v) (14 + i) r l' 0) (if i = 0 then 5 else 2) := fun i hi hb => by
    rw [rwI]
    split
    · rename_i q
      obtain rfl : i = j := by omega
      exact hv
    · exact hb
  unfold wfL at b ⊢
  rw [v_14' hl, v_14 hl (by omega), v_14 hl (by omega), v_14 hl (by omega), v_14 hl (by omega)] at b ⊢
  exact ⟨one 0 (by omega) b.1, one 1 (by omega) b.2.1, one 2 (by omega) b.2.2.1, one 3 (by omega) b.2.2.2.1, one 4 (by omega) b.2.2.2.2⟩
theorem vp12 : vp_in (1 : Int32) 2 := vpi (k := 1) (by omega)
theorem K_rgt {r lo l : Nat} {c : gM} (h : CT r lo c) : s_X8_readRight c r l ∧ CT r lo (f_X8_readRight c r l) := by
  have hc := h.1.comes
  have ho := h.1.ord
  have one : ∀ j, 0 < j → j < 5 → s_X8_takeOnce c r (rdI c (14 + j) r l 0) ∧ CT r lo (wrI (f_X8_takeOnce c r (rdI c (14 + j) r l 0)) (14 + j) r l 0 1) := fun j h0 h5 => by
    obtain ⟨a1, a2, a3, a4⟩ := P_once h (rdI c (14 + j) r l 0)
    exact ⟨a1, a2.1.wr (by omega), set_L a2.2 h5 (by rw [if_neg (by omega)]; exact vp12)⟩
  have bad : s_X8_readRight_120 c r l ∧ CT r lo (f_X8_readRight_120 c r l) := by
    obtain ⟨b1, b2, b3⟩ := T_fail h.1 (v := 1) (by decide)
    simp only [s_X8_readRight_120, f_X8_readRight_120, bnd, bndP, and_true]
    exact ⟨b1, h.ke b2 (KE.of (o_X8_fail c r 1) (by decide))⟩
  simp only [s_X8_readRight, f_X8_readRight, bnd, bndP, and_true]
  refine ⟨⟨hc.1, hc.2, ho.1, ho.2, ?_⟩, ?_⟩
  · split
    · exact (one 2 (by omega) (by omega)).1
    · split
      · exact (one 1 (by omega) (by omega)).1
      · split
        · exact (one 3 (by omega) (by omega)).1
        · split
          · exact (one 4 (by omega) (by omega)).1
          · exact bad.1
  · split
    · exact (one 2 (by omega) (by omega)).2
    · split
      · exact (one 1 (by omega) (by omega)).2
      · split
        · exact (one 3 (by omega) (by omega)).2
        · split
          · exact (one 4 (by omega) (by omega)).2
          · exact bad.2
theorem K_rts {r lo l : Nat} : ∀ m z k : Nat, k + m = 1201 → m < z → ∀ c : gM, CT r lo c → s_X8_readLand_47 r l z c (nI k) ∧ CT r lo (f_X8_readLand_47 r l z c (nI k)) := by
  intro m
  induction m with
  | zero =>
    intro z k hk hz c h
    obtain ⟨z, rfl⟩ : ∃ y, z = y + 1 := ⟨z - 1, by omega⟩
    have e : (1200 : Int32) < nI k := nI_lt (a := 1200) (b := k) (by omega) (by omega)
    simp only [s_X8_readLand_47, f_X8_readLand_47, if_pos e]
    exact ⟨trivial, h⟩
  | succ m ih =>
    intro z k hk hz c h
    obtain ⟨z, rfl⟩ : ∃ y, z = y + 1 := ⟨z - 1, by omega⟩
    have hc := h.1.comes
    have e : ¬ (1200 : Int32) < nI k := i_nlt.mpr (nI_le (a := k) (b := 1200) (by omega) (by omega))
    simp only [s_X8_readLand_47, f_X8_readLand_47, if_neg e, bnd, bndP, p1]
    split
    · split
      · exact ⟨⟨hc.1, hc.2, trivial⟩, h⟩
      · obtain ⟨a1, a2⟩ := K_rgt (l := l) h
        obtain ⟨b1, b2⟩ := ih z (k + 1) (by omega) (by omega) _ a2
        exact ⟨⟨hc.1, hc.2, a1, b1⟩, b2⟩
    · exact ⟨trivial, h⟩
theorem K_l30 {r lo x : Nat} {d : gM} (hd : CT r lo d) : s_X8_readLand_30 d r x ∧ CT r lo (f_X8_readLand_30 d r x) := by
  simp only [s_X8_readLand_30, f_X8_readLand_30, bnd, bndP]
  have h1 : CT r lo (wrI d 13 r x 0 1) := ⟨hd.1.wr (by decide), CI_x hd.2 oW (by decide)⟩
  generalize wrI d 13 r x 0 1 = d1 at *
  obtain ⟨m1, m2, m3, m4, m5⟩ := P_num h1 0 4
  generalize f_X8_takeNumber d1 r 0 4 = z2 at *
  have v5 : vp_in z2.1 5 := by
    rcases m4 with q | q
    · rw [q]; exact vp0 (by omega) (by omega)
    · exact n_vp (n := 4) q.1 q.2 (by omega)
  have h2 : CT r lo (wrI z2.2 14 r x 0 z2.1) := ⟨m2.1.wr (by decide), set_L (j := 0) m2.2 (by omega) v5⟩
  generalize wrI z2.2 14 r x 0 z2.1 = d2 at *
  have n0 := K_rts (r := r) (lo := lo) (l := x) 1201 FU 0 (by omega) (by rw [FU_eq]; omega) d2 h2
  rw [show nI 0 = (0 : Int32) from rfl] at n0
  exact ⟨⟨m1, n0.1⟩, n0.2⟩
-- not by rfl: the kernel would unfold the wrong side
theorem bnd_e {α β : Type} {x : α} {k : α → β} : bnd x k = k x := Eq.trans (Eq.refl _) rfl
theorem bndP_e {α : Type} {x : α} {k : α → Prop} : bndP x k = k x := Eq.trans (Eq.refl _) rfl
theorem K_lnd {r lo : Nat} {c : gM} (h : CT r lo c) : s_X8_readLand c r ∧ CT r lo (f_X8_readLand c r) := by
  obtain ⟨a1, a2, a3, a4⟩ := P_take h
  rw [s_X8_readLand, f_X8_readLand]
  simp only [bnd_e, bndP_e]
  generalize f_X8_takeToken c r = c1 at *
  obtain ⟨k1, k2, k3, k4, k5⟩ := P_num a2 0 1
  generalize f_X8_takeNumber c1 r 0 1 = z1 at *
  have v2 : vp_in z1.1 2 := by
    rcases k4 with q | q
    · rw [q]; exact vp0 (by omega) (by omega)
    · exact n_01 q.1 q.2
  by_cases y : rdI z1.2 13 r (nn z1.1) 0 = 0
  · rw [if_pos y, if_pos y]
    obtain ⟨n1, n2⟩ := K_l30 (x := nn z1.1) k2
    exact ⟨⟨a1, k1, v2, n1⟩, n2⟩
  · rw [if_neg y, if_neg y]
    obtain ⟨f1, f2, f3, f4⟩ := P_faT k2
    obtain ⟨n1, n2⟩ := K_l30 (x := nn z1.1) f2
    exact ⟨⟨a1, k1, v2, f1, n1⟩, n2⟩
end
