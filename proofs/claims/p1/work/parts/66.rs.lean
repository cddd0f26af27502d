set_option linter.all false
noncomputable section
-- ===== group 13 is not in what is told =====
theorem CV_13 {C C' : gM} {V : vV} {lf : Nat → Nat} (c : CV C V lf) (fs : ∀ g b d, 4 ≤ g → g ≤ 40 → ¬ g = 13 → rdI C' g 0 b d = rdI C g 0 b d) : CV C' V lf := by
  obtain ⟨⟨c1, c2, c3, c4, c5⟩, cp, ct, ca, cw, cl, cf1, cf2⟩ := c
  · refine ⟨⟨?_, ?_, ?_, ?_, ?_⟩, fun p hp => ?_, fun t ht => ?_, fun q hq => ⟨?_, fun k hk => ?_⟩, fun k hk => ?_, fun x hx => ?_, fun i hi => ?_, fun i j hi hj => ?_⟩
    · rw [fs 5 _ _ (by omega) (by omega) (by omega)]; exact c1
    · rw [fs 6 _ _ (by omega) (by omega) (by omega)]; exact c2
    · rw [fs 7 _ _ (by omega) (by omega) (by omega)]; exact c3
    · rw [fs 4 _ _ (by omega) (by omega) (by omega)]; exact c4
    · rw [fs 8 _ _ (by omega) (by omega) (by omega)]; exact c5
    · skip
      unfold cvP
      rw [fs 19 _ _ (by omega) (by omega) (by omega), fs 20 _ _ (by omega) (by omega) (by omega), fs 21 _ _ (by omega) (by omega) (by omega)]
      exact cp p hp
    · skip
      unfold cvT
      rw [fs 22 _ _ (by omega) (by omega) (by omega), fs 23 _ _ (by omega) (by omega) (by omega), fs 24 _ _ (by omega) (by omega) (by omega)]
      exact ct t ht
    · skip
      unfold cvA
      rw [fs 25 _ _ (by omega) (by omega) (by omega), fs 26 _ _ (by omega) (by omega) (by omega), fs 27 _ _ (by omega) (by omega) (by omega), fs 28 _ _ (by omega) (by omega) (by omega), fs 29 _ _ (by omega) (by omega) (by omega), fs 30 _ _ (by omega) (by omega) (by omega), fs 31 _ _ (by omega) (by omega) (by omega), fs 32 _ _ (by omega) (by omega) (by omega), fs 33 _ _ (by omega) (by omega) (by omega), fs 34 _ _ (by omega) (by omega) (by omega), fs 35 _ _ (by omega) (by omega) (by omega)]
      exact (ca q hq).1
    · skip
      unfold cvG gi
      rw [fs 36 _ _ (by omega) (by omega) (by omega), fs 37 _ _ (by omega) (by omega) (by omega), fs 38 _ _ (by omega) (by omega) (by omega), fs 39 _ _ (by omega) (by omega) (by omega), fs 40 _ _ (by omega) (by omega) (by omega)]
      exact (ca q hq).2 k hk
    · skip
      unfold cvW
      rw [fs 10 _ _ (by omega) (by omega) (by omega), fs 11 _ _ (by omega) (by omega) (by omega), fs 12 _ _ (by omega) (by omega) (by omega)]
      exact cw k hk
    · unfold cvL
      rw [fs 14 _ _ (by omega) (by omega) (by omega), fs 15 _ _ (by omega) (by omega) (by omega), fs 16 _ _ (by omega) (by omega) (by omega), fs 17 _ _ (by omega) (by omega) (by omega), fs 18 _ _ (by omega) (by omega) (by omega)]
      exact cl x hx
    · rw [fs 9 _ _ (by omega) (by omega) (by omega)]
      exact cf1 i hi
    · exact cf2 i j hi hj
theorem swm_a : ∀ k, k < 26 → (swm k = 1 ↔ k = 0) ∧ (swm k = 2 ↔ k = 1) ∧ (swm k = 3 ↔ k = 2) ∧ (swm k = 4 ↔ k = 3) := by decide
theorem swm_b : ∀ k, k < 26 → (swm k = 5 ↔ k = 4) ∧ (swm k = 6 ↔ k = 5) ∧ (swm k = 7 ↔ k = 6) ∧ (swm k = 8 ↔ k = 7) := by decide
theorem swm_c : ∀ k, k < 26 → (swm k = 9 ↔ k = 8) ∧ (swm k = 10 ↔ k = 9) ∧ (swm k = 11 ↔ k = 10) ∧ (swm k = 12 ↔ k = 11) := by decide
theorem swm_d : ∀ k, k < 26 → (swm k = 13 ↔ k = 12) ∧ (swm k = 14 ↔ k = 13) ∧ (swm k = 15 ↔ k = 14) ∧ (swm k = 16 ↔ k = 15) := by decide
theorem swm_e : ∀ k, k < 26 → (swm k = 17 ↔ k = 19) ∧ (swm k = 18 ↔ k = 20) := by decide
theorem c_ord {M : gM} {k : Nat} (h : k < 26) : nn (f_Jx29ce0_ordinal_8abf5 M k) = k ∧ s_Jx29ce0_ordinal_8abf5 M k ∧ vp_in (f_Jx29ce0_ordinal_8abf5 M k) 26 := ⟨nn_nI (by omega), trivial, vpi h⟩
theorem s_isW {m : gM} {x : Int32} : s_X13_isWord m x := by
  unfold s_X13_isWord s_X13_isWord_26
  repeat' split
  all_goals trivial
theorem f_isW {m : gM} {T : Nat → Nat} {l i j : Nat} {x : Int32} (h : mOK m T l i) (ex : x = nI j) (hj : j < 21) : f_X13_isWord m x = bz (decide (tK T l (st T l i) = j)) := by
  subst ex
  obtain ⟨h1, h2, h3, h4, h5, h6⟩ := kd_m h.2.2.2.2.2
  have := tK_lt (T := T) (l := l) (p := st T l i)
  simp only [f_X13_isWord, f_X13_isWord_26, h.1, if_true]
  generalize tK T l (st T l i) = q at *
  rcases (show q < 21 ∨ q = 21 ∨ q = 22 ∨ q = 23 ∨ q = 24 ∨ q = 25 by omega) with z | z | z | z | z | z
  · obtain ⟨a, b⟩ := h1 z
    rw [a, if_pos rfl, b]
    by_cases y : q = j
    · rw [if_pos (by rw [y]), decide_eq_true y]; rfl
    · rw [if_neg (fun w => y ((nIeq (by omega) (by omega)).mp w)), decide_eq_false y]; rfl
  · obtain ⟨a, b, -⟩ := h2 z
    rw [a, if_pos rfl, b, if_neg (fun w => (nI_ne (show j < 2 ^ 31 by omega)).2 w.symm), decide_eq_false (by omega)]; rfl
  · rw [(h3 z).1, if_neg (by decide), decide_eq_false (by omega)]; rfl
  · rw [h4 z, if_neg (by decide), decide_eq_false (by omega)]; rfl
  · rw [h5 z, if_neg (by decide), decide_eq_false (by omega)]; rfl
  · rw [h6 z, if_neg (by decide), decide_eq_false (by omega)]; rfl
theorem f_isWF {m : gM} {x : Int32} (h : rdI m 76 0 0 0 ≠ 0) : f_X13_isWord m x = 0 := by
  simp only [f_X13_isWord, f_X13_isWord_26, if_neg h]
-- ===== the land line =====
theorem DR.w13 {c m : gM} {r x : Nat} {T : Nat → Nat} {lf : Nat → Nat} (d : DR r c m T lf) : DR r (wrI c 13 r x 0 1) (wrI m 96 0 0 x 1) T lf ∧ nV (wrI m 96 0 0 x 1) = nV m := by
  obtain ⟨D1, D2, ⟨D3, D4, D5⟩, D6, D7, D8⟩ := d
  have e : nV (wrI m 96 0 0 x 1) = nV m := nV_off (offR.wI (W := [96]) (by decide)) (by decide)
  unfold DR
  rw [e]
  refine ⟨⟨CV_13 D1 (fun g b dd a1 a2 a3 => by rw [prw, if_neg (by omega)]), D2, ⟨D3.wr (by decide) (by decide), D4.wr (by decide) (by decide), D5.wr (by decide) (by decide)⟩, fun x' hx' => ?_, D7, D8⟩, rfl⟩
  rw [rwI, rwI]
  by_cases z : x' = x
  · rw [if_pos ⟨rfl, rfl, z, rfl⟩, if_pos ⟨rfl, rfl, rfl, z⟩]
    exact ⟨rfl, Or.inr rfl⟩
  · rw [if_neg (fun w => z w.2.2.1), if_neg (fun w => z w.2.2.2)]
    exact D6 x' hx'
theorem DR.lnd {c m : gM} {r x y : Nat} {T : Nat → Nat} {lf : Nat → Nat} (d : DR r c m T lf) (hx : x < 2) (hy : y < 5) {u : Int32} (hu : vp_in u (if y = 0 then 5 else 2)) : DR r (wrI c (14 + y) r x 0 u) (wrI m 89 0 0 (4 + 5 * x + y) u) T lf := by
  obtain ⟨D1, D2, ⟨D3, D4, D5⟩, D6, D7, D8⟩ := d
  have q : nV (wrI m 89 0 0 (4 + 5 * x + y) u) = ((fun kk => if kk = 4 + 5 * x + y then u else (nV m).1 kk), (nV m).2) := by rw [nV_w89]
  unfold DR
  generalize hV : nV (wrI m 89 0 0 (4 + 5 * x + y) u) = V' at *
  have q1 : ∀ kk, V'.1 kk = if kk = 4 + 5 * x + y then u else (nV m).1 kk := fun kk => by rw [q]
  have q2 : V'.2 = (nV m).2 := by rw [q]
  have es : ∀ kk, kk ≠ 4 + 5 * x + y → V'.1 kk = (nV m).1 kk := fun kk e1 => by rw [q1, if_neg e1]
  have q4 : vP V' = vP (nV m) := by
    show nn (V'.1 0) = _
    rw [es _ (by omega)]; rfl
  have q3 : vT V' = vT (nV m) := by
    show nn (V'.1 1) = _
    rw [es _ (by omega)]; rfl
  have q5 : vA V' = vA (nV m) := by
    show nn (V'.1 2) = _
    rw [es _ (by omega)]; rfl
  obtain ⟨A1, A2⟩ := add_lnd (C' := prj r (wrI c (14 + y) r x 0 u)) (V' := V') D1 D2 hx hy (u := u) hu (by rw [q1, if_pos rfl]) es q2 (by rw [prw, if_pos ⟨rfl, rfl, rfl⟩]) (fun g b dd a1 a2 a3 => by rw [prw, if_neg (by omega)])
  refine ⟨A1, A2, ⟨?_, ?_, ?_⟩, fun x' hx' => ?_, fun p a b => ?_, fun p a => ?_⟩
  · rw [q4]; exact D3.wr (by omega) (by decide)
  · rw [q3]; exact D4.wr (by omega) (by decide)
  · rw [q5]; exact D5.wr (by omega) (by decide)
  · rw [rwN (by omega), rwN (by decide)]; exact D6 x' hx'
  · rw [q4] at a
    rw [q2, es _ (by omega)]
    exact D7 p a b
  · rw [q4] at a
    rw [es _ (by omega)]
    exact D8 p a
theorem c_onF {c : gM} {r : Nat} {x : Int32} (h : rdI c 48 r 0 0 ≠ 0) : s_X8_takeOnce c r x ∧ f_X8_takeOnce c r x = c := by
  simp only [s_X8_takeOnce, f_X8_takeOnce, bnd, bndP, (c_takeF h).1, (c_takeF h).2, (c_failF (k := 3) h).1, (c_failF (k := 3) h).2, true_and, ite_self]
/-- taken once, or twice -/
theorem S_once {c m : gM} {r : Nat} {T : Nat → Nat} {l cn i : Nat} (h : cOK c r T l cn i) (k : mOK m T l i) (hi : i < cn) {u : Int32} (hu : gB u) :
    s_X8_takeOnce c r u ∧ ((u = 0 ∧ f_X8_takeOnce c r u = wrI c 47 r 0 0 (nI (i + 1)) ∧ cOK (wrI c 47 r 0 0 (nI (i + 1))) r T l cn (i + 1)) ∨ (u = 1 ∧ s_X13_wrong m 3 ∧ FM (f_X8_takeOnce c r u) (f_X13_wrong m 3) r T l cn)) := by
  rcases hu with rfl | rfl
  · obtain ⟨t1, t2, t3⟩ := cx_tk h hi
    simp only [s_X8_takeOnce, f_X8_takeOnce, bnd, bndP, if_true, t1, t2, true_and]
    rw [t2] at t3
    exact Or.inl t3
  · obtain ⟨b1, b2, b3⟩ := S_fail h k (v := 3) (by decide)
    obtain ⟨u1, u2⟩ := c_takeF b3.1.2.1
    simp only [s_X8_takeOnce, f_X8_takeOnce, bnd, bndP, show ((1 : Int32) = 0) = False by decide, if_false, b1, b2, u1, u2, true_and]
    exact Or.inr b3
theorem S_flag {c m : gM} {r : Nat} {T : Nat → Nat} {l cn i x y : Nat} {lf : Nat → Nat} (h : cOK c r T l cn i) (k : mOK m T l i) (d : DR r c m T lf) (hi : i < cn) (hx : x < 2) (hy : 1 ≤ y) (hy5 : y < 5) (q61 : gM → Prop) (k61 : gM → gM) :
    s_X8_takeOnce c r (rdI c (14 + y) r x 0) ∧ ∃ m', (s_X13_readLand_135 m (nI (4 + 5 * x)) (nI y) q61 ↔ q61 m') ∧ f_X13_readLand_135 m (nI (4 + 5 * x)) (nI y) k61 = k61 m' ∧ ((cOK (wrI (f_X8_takeOnce c r (rdI c (14 + y) r x 0)) (14 + y) r x 0 1) r T l cn (i + 1) ∧ mOK m' T l (i + 1) ∧ DR r (wrI (f_X8_takeOnce c r (rdI c (14 + y) r x 0)) (14 + y) r x 0 1) m' T lf) ∨ FM (wrI (f_X8_takeOnce c r (rdI c (14 + y) r x 0)) (14 + y) r x 0 1) m' r T l cn) := by
  have jx : vp_in (nI (4 + 5 * x + y)) 502 := i502 (by omega)
  have rv : rdI c (14 + y) r x 0 = (nV m).1 (4 + 5 * x + y) ∧ vp_in ((nV m).1 (4 + 5 * x + y)) 2 := by
    obtain ⟨a1, a2, a3, a4, a5⟩ := d.1.2.2.2.2.2.1 x hx
    obtain ⟨b1, b2, b3, b4, b5⟩ := d.2.1.2.2.2.2.2 x hx
    rcases (show y = 1 ∨ y = 2 ∨ y = 3 ∨ y = 4 by omega) with rfl | rfl | rfl | rfl
    · exact ⟨a2, b2⟩
    · exact ⟨a3, b3⟩
    · exact ⟨a4, b4⟩
    · exact ⟨a5, b5⟩
  obtain ⟨s1, s2⟩ := S_once h k hi (u := rdI c (14 + y) r x 0) (by rw [rv.1]; exact gb01 rv.2)
  refine ⟨s1, ?_⟩
  simp only [s_X13_readLand_135, f_X13_readLand_135, s_X13_readLand_153, f_X13_readLand_153, bnd, bndP, nI_add, jx, nn_nI (show 4 + 5 * x + y < 2 ^ 31 by omega), y89, ← rv.1, true_and]
  rcases s2 with ⟨u0, e1, e2⟩ | ⟨u1, e1, e2⟩
  · rw [u0] at e1 ⊢
    have dd := (d.off (Wm := []) (m' := m) (o47 (r := r) (v := nI (i + 1))) (by decide) offR (by decide)).lnd (u := 1) hx hy5 (by rw [if_neg (by omega)]; exact b01)
    have k3 : mOK (wrI m 89 0 0 (4 + 5 * x + y) 1) T l i := k.wr (by omega)
    obtain ⟨G1, G2, G3, G4, G5⟩ := D_go (cn := cn) k3 (h.1.2.2.2.1 _ hi) dd
    simp only [show ((0 : Int32) = 1) = False by decide, if_false, G1, true_and]
    rw [e1]
    exact ⟨_, Iff.rfl, rfl, Or.inl ⟨e2.wr (by omega), G2, G4⟩⟩
  · rw [u1] at e2 ⊢
    have f2 : FM (f_X8_takeOnce c r 1) (wrI (f_X13_wrong m 3) 89 0 0 (4 + 5 * x + y) 1) r T l cn := e2.wm (by omega)
    simp only [if_true, e1, (m_goF f2.m).1, (m_goF f2.m).2, true_and]
    exact ⟨_, Iff.rfl, rfl, Or.inr (f2.wc (by omega))⟩
theorem S_rights {r : Nat} {T : Nat → Nat} {l cn x : Nat} {lf : Nat → Nat} (hx : x < 2) : ∀ t i c m kk n n', cn - i ≤ t → cOK c r T l cn i → mOK m T l i → DR r c m T lf → t + 1 < n → t + 1 < n' → kk ≤ i →
    s_X8_readLand_47 r x n c (nI kk) ∧ s_X13_readLand_61 (nI (4 + 5 * x)) n' m ∧ RX r (f_X8_readLand_47 r x n c (nI kk)) (f_X13_readLand_61 (nI (4 + 5 * x)) n' m) T l cn i := by
  intro t
  induction t with
  | zero =>
    intro i c m kk n n' ht h k d hn hn' hkk
    obtain ⟨n, rfl⟩ : ∃ z, n = z + 1 := ⟨n - 1, by omega⟩
    obtain ⟨n', rfl⟩ : ∃ z, n' = z + 1 := ⟨n' - 1, by omega⟩
    obtain ⟨t1, t2, t3, t4⟩ := id h
    have hc := t1.2.1
    obtain rfl : i = cn := by omega
    obtain ⟨a1, a2⟩ := c_comes t1 t3 t4
    have e25 : tK T l (st T l i) = 25 := by rw [t1.2.2.1, tK, if_neg (by omega)]
    obtain ⟨n, rfl⟩ : ∃ z, n = z + 1 := ⟨n - 1, by omega⟩
    have z12 : ¬ (1200 : Int32) < nI kk := i_nlt.mpr (nI_le (b := 1200) (by omega) (by omega))
    obtain ⟨b1, b2, b3⟩ := S_fail h k (v := 1) (by decide)
    obtain ⟨o1, o2, o3⟩ := c_ord (M := c) (show 25 < 26 by omega)
    have lg : LG (f_X8_fail c r 1) m r T l i := by
      refine ⟨b3.1, ?_, i, ?_, k, by omega⟩
      · rw [← b3.2.1]
        simp only [f_X13_wrong, bnd, k.1, if_true, rwN (show (76 : Nat) ≠ 77 by decide), rwS]
      · rw [← b3.2.2]
        simp only [f_X13_wrong, bnd, k.1, if_true, rwN (show (72 : Nat) ≠ 76 by decide), k.2.2.2.1, rwS]
    simp only [s_X8_readLand_47, f_X8_readLand_47, s_X8_readRight, f_X8_readRight, s_X8_readRight_120, f_X8_readRight_120, bnd, bndP, if_neg z12, t2, if_true, a1, a2, e25, o1, o2, o3, show (25 : Nat) < 26 by omega, show ((25 : Nat) = 23) = False by decide, if_false, show swm 25 = 0 from rfl, show ((0 : Int32) = 4) = False by decide, show ((0 : Int32) = 9) = False by decide, show ((0 : Int32) = 10) = False by decide, show ((0 : Int32) = 11) = False by decide, b1, if_neg b3.1.2.1, s_X13_readLand_61, f_X13_readLand_61, s_isW, f_isW k (x := 8) (j := 8) rfl (by omega), f_isW k (x := 3) (j := 3) rfl (by omega), f_isW k (x := 9) (j := 9) rfl (by omega), f_isW k (x := 10) (j := 10) rfl (by omega), show ((25 : Nat) = 8) = False by decide, show ((25 : Nat) = 3) = False by decide, show ((25 : Nat) = 9) = False by decide, show ((25 : Nat) = 10) = False by decide, decide_false, bz_f, true_and, ite_self]
    exact Or.inr lg
  | succ t ih =>
    intro i c m kk n n' ht h k d hn hn' hkk
    obtain ⟨n, rfl⟩ : ∃ z, n = z + 1 := ⟨n - 1, by omega⟩
    obtain ⟨n', rfl⟩ : ∃ z, n' = z + 1 := ⟨n' - 1, by omega⟩
    obtain ⟨t1, t2, t3, t4⟩ := id h
    have hc := t1.2.1
    obtain ⟨a1, a2⟩ := c_comes t1 t3 t4
    have z12 : ¬ (1200 : Int32) < nI kk := i_nlt.mpr (nI_le (b := 1200) (by omega) (by omega))
    have k26 := tK_lt (T := T) (l := l) (p := st T l i)
    obtain ⟨o1, o2, o3⟩ := c_ord (M := c) k26
    obtain ⟨-, -, -, w4⟩ := swm_a _ k26
    obtain ⟨w9, w10, w11, -⟩ := swm_c _ k26
    simp only [s_X8_readLand_47, f_X8_readLand_47, s_X8_readRight, f_X8_readRight, s_X8_readRight_120, f_X8_readRight_120, bnd, bndP, if_neg z12, t2, if_true, a1, a2, o1, o2, o3, k26, w4, w9, w10, w11, s_X13_readLand_61, f_X13_readLand_61, s_isW, f_isW k (x := 8) (j := 8) rfl (by omega), f_isW k (x := 3) (j := 3) rfl (by omega), f_isW k (x := 9) (j := 9) rfl (by omega), f_isW k (x := 10) (j := 10) rfl (by omega), bz_0, decide_eq_false_iff_not, p1, true_and]
    have fin : ∀ C M, FM C M r T l cn → (s_X8_readLand_47 r x n C (nI (kk + 1)) ∧ f_X8_readLand_47 r x n C (nI (kk + 1)) = C) ∧ (s_X13_readLand_61 (nI (4 + 5 * x)) n' M ∧ f_X13_readLand_61 (nI (4 + 5 * x)) n' M = M) := by
      intro C M f
      obtain ⟨n, rfl⟩ : ∃ z, n = z + 1 := ⟨n - 1, by omega⟩
      obtain ⟨n', rfl⟩ : ∃ z, n' = z + 1 := ⟨n' - 1, by omega⟩
      simp only [s_X8_readLand_47, f_X8_readLand_47, if_neg f.1.2.1, s_X13_readLand_61, f_X13_readLand_61, s_isW, f_isWF f.m, if_true, true_and, ite_self]
    have flag : ∀ y, 1 ≤ y → y < 5 → i < cn → s_X8_takeOnce c r (rdI c (14 + y) r x 0) ∧ s_X8_readLand_47 r x n (wrI (f_X8_takeOnce c r (rdI c (14 + y) r x 0)) (14 + y) r x 0 1) (nI (kk + 1)) ∧ s_X13_readLand_135 m (nI (4 + 5 * x)) (nI y) (s_X13_readLand_61 (nI (4 + 5 * x)) n') ∧ RX r (f_X8_readLand_47 r x n (wrI (f_X8_takeOnce c r (rdI c (14 + y) r x 0)) (14 + y) r x 0 1) (nI (kk + 1))) (f_X13_readLand_135 m (nI (4 + 5 * x)) (nI y) (f_X13_readLand_61 (nI (4 + 5 * x)) n')) T l cn i := by
      intro y hy hy5 hi
      obtain ⟨s1, m', s2, s3, s4⟩ := S_flag h k d hi hx hy hy5 (s_X13_readLand_61 (nI (4 + 5 * x)) n') (f_X13_readLand_61 (nI (4 + 5 * x)) n')
      rw [s2, s3]
      rcases s4 with ⟨e1, e2, e3⟩ | f
      · obtain ⟨r1, r2, r3⟩ := ih (i + 1) _ m' (kk + 1) n n' (by omega) e1 e2 e3 (by omega) (by omega) (by omega)
        refine ⟨s1, r1, r2, ?_⟩
        rcases r3 with (⟨j, x1, x2⟩ | x1) | x1
        · exact Or.inl (Or.inl ⟨j, by omega, x2⟩)
        · exact Or.inl (Or.inr x1)
        · exact Or.inr x1
      · obtain ⟨⟨q1, q2⟩, q3, q4⟩ := fin _ _ f
        refine ⟨s1, q1, q3, ?_⟩
        rw [q2, q4]
        exact Or.inl (Or.inr f)
    have e74 : tK T l (st T l i) < 21 → rdI m 74 0 0 0 = nI (tK T l (st T l i)) := fun z => ((kd_m k.2.2.2.2.2).1 z).2
    have lti : tK T l (st T l i) ≠ 25 → i < cn := fun z => tK_end t1.2.2.1 t4 z
    generalize hK : tK T l (st T l i) = K at *
    by_cases k8 : K = 8
    · obtain ⟨f1, f2, f3, f4⟩ := flag 1 (by omega) (by omega) (lti (by omega))
      have x74 : rdI m 74 0 0 0 = 8 := by rw [e74 (by omega), k8]; rfl
      simp only [k8, show ((8 : Nat) = 23) = False by decide, show ((8 : Nat) = 3) = False by decide, if_false, if_true, not_true_eq_false, s_X13_readLand_96, f_X13_readLand_96, x74, f1, true_and]
      exact ⟨f2, f3, f4⟩
    · by_cases k3 : K = 3
      · obtain ⟨f1, f2, f3, f4⟩ := flag 2 (by omega) (by omega) (lti (by omega))
        have x74 : rdI m 74 0 0 0 = 3 := by rw [e74 (by omega), k3]; rfl
        simp only [k3, show ((3 : Nat) = 23) = False by decide, show ((3 : Nat) = 8) = False by decide, if_false, if_true, not_true_eq_false, not_false_eq_true, s_X13_readLand_96, f_X13_readLand_96, x74, show ((3 : Int32) = 8) = False by decide, f1, true_and]
        exact ⟨f2, f3, f4⟩
      · by_cases k9 : K = 9
        · obtain ⟨f1, f2, f3, f4⟩ := flag 3 (by omega) (by omega) (lti (by omega))
          have x74 : rdI m 74 0 0 0 = 9 := by rw [e74 (by omega), k9]; rfl
          simp only [k9, show ((9 : Nat) = 23) = False by decide, show ((9 : Nat) = 8) = False by decide, show ((9 : Nat) = 3) = False by decide, if_false, if_true, not_true_eq_false, not_false_eq_true, s_X13_readLand_96, f_X13_readLand_96, x74, show ((9 : Int32) = 8) = False by decide, show ((9 : Int32) = 3) = False by decide, f1, true_and]
          exact ⟨f2, f3, f4⟩
        · by_cases k10 : K = 10
          · obtain ⟨f1, f2, f3, f4⟩ := flag 4 (by omega) (by omega) (lti (by omega))
            have x74 : rdI m 74 0 0 0 = 10 := by rw [e74 (by omega), k10]; rfl
            simp only [k10, show ((10 : Nat) = 23) = False by decide, show ((10 : Nat) = 8) = False by decide, show ((10 : Nat) = 3) = False by decide, show ((10 : Nat) = 9) = False by decide, if_false, if_true, not_true_eq_false, not_false_eq_true, s_X13_readLand_96, f_X13_readLand_96, x74, show ((10 : Int32) = 8) = False by decide, show ((10 : Int32) = 3) = False by decide, show ((10 : Int32) = 9) = False by decide, f1, true_and]
            exact ⟨f2, f3, f4⟩
          · simp only [k8, k3, k9, k10, not_false_eq_true, if_true, if_false, true_and]
            by_cases k23 : K = 23
            · simp only [k23, if_true, true_and]
              exact (show RX r c m T l cn i from Or.inl (Or.inl ⟨i, Nat.le_refl _, h, k, lf, d⟩))
            · obtain ⟨b1, b2, b3⟩ := S_fail h k (v := 1) (by decide)
              have lg : LG (f_X8_fail c r 1) m r T l cn := by
                refine ⟨b3.1, ?_, i, ?_, k, by rw [hK]; exact k23⟩
                · rw [← b3.2.1]
                  simp only [f_X13_wrong, bnd, k.1, if_true, rwN (show (76 : Nat) ≠ 77 by decide), rwS]
                · rw [← b3.2.2]
                  simp only [f_X13_wrong, bnd, k.1, if_true, rwN (show (72 : Nat) ≠ 76 by decide), k.2.2.2.1, rwS]
              obtain ⟨n, rfl⟩ : ∃ z, n = z + 1 := ⟨n - 1, by omega⟩
              simp only [k23, if_false, b1, s_X8_readLand_47, f_X8_readLand_47, if_neg b3.1.2.1, ite_self, true_and]
              exact Or.inr lg
end
