-- THE REFERENCE'S LINES: thing, wedding, child, lost, dies
set_option linter.all false
noncomputable section
theorem nVw {m : gM} {g a b c : Nat} {v : Int32} (h : g ≠ 89 ∧ g ≠ 91 ∧ g ≠ 93) : nV (wrI m g a b c v) = nV m := by
  unfold nV
  simp only [rwN (show (89 : Nat) ≠ g by omega), rwN (show (91 : Nat) ≠ g by omega), rwN (show (93 : Nat) ≠ g by omega)]
theorem w89 {m : gM} {c i : Nat} {v : Int32} : (nV (wrI m 89 0 0 c v)).1 i = if i = c then v else (nV m).1 i := by
  show rdI (wrI m 89 0 0 c v) 89 0 0 i = _
  rw [rwI]
  by_cases h : i = c
  · rw [if_pos h, if_pos ⟨rfl, rfl, rfl, h⟩]
  · rw [if_neg h, if_neg (fun z => h z.2.2.2)]; rfl
theorem w89' {m : gM} {c : Nat} {v : Int32} : (nV (wrI m 89 0 0 c v)).2 = (nV m).2 := rfl
theorem w93 {m : gM} {c i : Nat} {v : Int32} : (nV (wrI m 93 0 0 c v)).2.1 i = if i = c then v else (nV m).2.1 i := by
  show rdI (wrI m 93 0 0 c v) 93 0 0 i = _
  rw [rwI]
  by_cases h : i = c
  · rw [if_pos h, if_pos ⟨rfl, rfl, rfl, h⟩]
  · rw [if_neg h, if_neg (fun z => h z.2.2.2)]; rfl
theorem w93' {m : gM} {c : Nat} {v : Int32} : (nV (wrI m 93 0 0 c v)).1 = (nV m).1 := rfl
-- ===== thing =====
theorem F_thg {m : gM} (h : MF m) : s_X13_readThing_16 m ∧ f_X13_readThing_16 m = m := by
  simp only [s_X13_readThing_16, f_X13_readThing_16, bnd, bndP, m_goF h.i, m_nwF h.i, m_tdF h.i, m_nmF h.i, if_neg h.i, true_and, and_self]
def uThg (m : gM) (T : Nat) (x y z : Int32) : gM := wrI (wrI (wrI (wrI m 89 0 0 (34 + 3 * T) x) 89 0 0 (34 + 3 * T + 1) y) 89 0 0 (34 + 3 * T + 2) z) 89 0 0 1 (nI (T + 1))
theorem W_thg {m : gM} {T : Nat → Nat} {l b : Nat} (h : MW m T l b) (lt : vT (nV m) < 8) {x y z : Int32} (hx : vp_in x (vP (nV m))) (hy : vp_in y 2) (hz : 1 ≤ z ∧ z ≤ 9999) : MW (uThg m (vT (nV m)) x y z) T l b := by
  obtain ⟨h1, w, f⟩ := h
  have ev : ∀ i, (nV (uThg m (vT (nV m)) x y z)).1 i = if i = 1 then nI (vT (nV m) + 1) else if i = 34 + 3 * vT (nV m) + 2 then z else if i = 34 + 3 * vT (nV m) + 1 then y else if i = 34 + 3 * vT (nV m) then x else (nV m).1 i := fun i => by
    unfold uThg
    rw [w89, w89, w89, w89]
  have e2 : (nV (uThg m (vT (nV m)) x y z)).2 = (nV m).2 := rfl
  have hMS : MS (uThg m (vT (nV m)) x y z) T l b := (((h1.wr (by omega)).wr (by omega)).wr (by omega)).wr (by omega)
  generalize uThg m (vT (nV m)) x y z = m' at *
  have es : ∀ i, i ≠ 1 → ¬ (34 + 3 * vT (nV m) ≤ i ∧ i ≤ 34 + 3 * vT (nV m) + 2) → (nV m').1 i = (nV m).1 i := fun i a c => by
    rw [ev, if_neg a, if_neg (by omega), if_neg (by omega), if_neg (by omega)]
  have e22 : ∀ i, (nV m').2.1 i = (nV m).2.1 i := fun i => by rw [e2]
  have e1 : (nV m').1 1 = nI (vT (nV m) + 1) := by rw [ev, if_pos rfl]
  have eT : vT (nV m') = vT (nV m) + 1 := by
    show nn ((nV m').1 1) = _
    rw [e1, nn_nI (by omega)]
  obtain ⟨p1, p2, p3⟩ := y_P (V' := nV m') w (fun i hi => es i (by omega) (by omega)) (fun i _ => e22 i)
  obtain ⟨a1, a2, a3, a4⟩ := y_A (V' := nV m') w (fun i hi => es i (by omega) (by omega)) (fun i _ _ => e22 i)
  obtain ⟨n1, n2, n3⟩ := y_W (V' := nV m') w (fun i _ _ => e22 i)
  refine ⟨hMS, WF_ext w ⟨p2, by rw [e1]; exact vpi (by omega), a2, n2⟩ (by omega) (by omega) p3 (fun t ht => ?_) a3 a4 n3 (y_L (fun i _ _ => es i (by omega) (by omega))), fun p h1 h2 => ?_⟩
  · by_cases q : t = vT (nV m)
    · subst q
      refine Or.inl ⟨?_, ?_, ?_⟩
      · rw [p1, ev, if_neg (by omega), if_neg (by omega), if_neg (by omega), if_pos rfl]; exact hx
      · rw [ev, if_neg (by omega), if_neg (by omega), if_pos rfl]; exact hy
      · rw [ev, if_neg (by omega), if_pos rfl]; exact hz
    · exact Or.inr ⟨by omega, fun j hj => es _ (by omega) (by omega)⟩
  · rw [e22, es _ (by omega) (by omega)]
    exact f p (by omega) h2
theorem R_thg {m : gM} {T : Nat → Nat} {l b : Nat} (h : MW m T l b) (h3 : rdI m 73 0 0 0 ≠ 3) : s_X13_readThing m ∧ (MF (f_X13_readThing m) ∨ MW (f_X13_readThing m) T l (b + 1)) := by
  obtain ⟨c1, c2, c3, c4, c5, c6, c7, c8⟩ := h.cnt
  have i0 : vp_in 1 502 := vpD (by decide)
  simp only [s_X13_readThing, f_X13_readThing, bnd, bndP, show nn 1 = 1 from rfl, c2, i0, true_and]
  by_cases z : nI (vT (nV m)) = 8
  · obtain ⟨w1, w2⟩ := h.wr (k := 2) (by decide)
    obtain ⟨f1, f2⟩ := F_thg w2
    simp only [if_pos z, f2, f1, w1, true_and]
    exact Or.inl w2
  · have lt : vT (nV m) < 8 := by
      rcases Nat.lt_or_ge (vT (nV m)) 8 with q | q
      · exact q
      · exact absurd (show nI (vT (nV m)) = 8 by rw [show vT (nV m) = 8 by omega]; rfl) z
    simp only [if_neg z, s_X13_readThing_16, f_X13_readThing_16, bnd, bndP]
    obtain ⟨a1, -, a3, a4⟩ := h.go
    have h1 := a3 h3
    rw [← a4] at lt
    clear c1 c2 c3 c4 c5 c6 c7 c8 z a3
    generalize f_X13_goOn m = m1 at *
    obtain ⟨b1, b2⟩ := h1.nw 1 1 (by omega) rfl lt
    rcases b2 with b2 | ⟨b2, b3⟩
    · simp only [a1, b1, m_tdF b2.i, m_nmF b2.i, if_neg b2.i, true_and]
      exact Or.inl b2
    · rw [← b3] at lt
      generalize f_X13_newName m1 1 = m2 at *
      obtain ⟨d1, d2⟩ := b2.td 0 0 (by omega) rfl
      rcases d2 with ⟨d2, -⟩ | ⟨d2, d3, j, hj, ej⟩
      · simp only [a1, b1, d1, m_nmF d2.i, if_neg d2.i, true_and]
        exact Or.inl d2
      · rw [← d3] at lt hj
        generalize f_X13_told m2 0 = z1 at *
        obtain ⟨k1, k2⟩ := d2.num 0 1
        rcases k2 with ⟨k2, -⟩ | ⟨k2, k3, k4, k5⟩
        · simp only [a1, b1, d1, k1, m_nmF k2.i, if_neg k2.i, true_and]
          exact Or.inl k2
        · rw [← k3] at lt hj
          generalize f_X13_number z1.2 0 1 = z2 at *
          obtain ⟨r1, r2⟩ := k2.num 1 9999
          rcases r2 with ⟨r2, -⟩ | ⟨r2, r3, r4, r5⟩
          · simp only [a1, b1, d1, k1, r1, if_neg r2.i, true_and]
            exact Or.inl r2
          · rw [← r3] at lt hj
            generalize f_X13_number z2.2 1 9999 = z3 at *
            obtain ⟨-, e1, -⟩ := r2.cnt
            have q := (W_thg r2 lt (x := z1.1) (by rw [ej]; exact vpi hj (by have := r2.2.1.P.2; omega)) (n_01 k4 k5) ⟨r4, r5⟩).mono (show b + 1 ≤ b + 1 + 1 + 1 + 1 + 1 by omega)
            unfold uThg at q
            have i1 : vp_in (nI (34 + 3 * vT (nV z3.2))) 502 := vpi (by omega)
            have i2 : vp_in (nI (34 + 3 * vT (nV z3.2) + 1)) 502 := vpi (by omega)
            have i3 : vp_in (nI (34 + 3 * vT (nV z3.2) + 2)) 502 := vpi (by omega)
            have er : rdI (wrI (wrI (wrI z3.2 89 0 0 (34 + 3 * vT (nV z3.2)) z1.1) 89 0 0 (34 + 3 * vT (nV z3.2) + 1) z2.1) 89 0 0 (34 + 3 * vT (nV z3.2) + 2) z3.1) 89 0 0 1 = nI (vT (nV z3.2)) := by
              rw [rwI, if_neg (by omega), rwI, if_neg (by omega), rwI, if_neg (by omega)]; exact e1
            simp only [a1, b1, d1, k1, r1, r2.z, if_true, show nn 1 = 1 from rfl, i0, e1, e34, p1, p2, i1, i2, i3, nn_nI (show 34 + 3 * vT (nV z3.2) < 2 ^ 31 by omega), nn_nI (show 34 + 3 * vT (nV z3.2) + 1 < 2 ^ 31 by omega), nn_nI (show 34 + 3 * vT (nV z3.2) + 2 < 2 ^ 31 by omega), er, true_and]
            exact Or.inr q
-- ===== wedding =====
def uWed (m : gM) (N : Nat) (x y z : Int32) : gM := wrI (wrI (wrI (wrI m 93 0 0 (46 + 3 * N) x) 93 0 0 (46 + 3 * N + 1) y) 93 0 0 (46 + 3 * N + 2) z) 93 0 0 64 (nI (N + 1))
theorem W_wed {m : gM} {T : Nat → Nat} {l b : Nat} (h : MW m T l b) (lt : vN (nV m) < 6) {x y z : Int32} (hx : vp_in x (vP (nV m))) (hy : vp_in y (vP (nV m))) (hz : dOK z) : MW (uWed m (vN (nV m)) x y z) T l b := by
  obtain ⟨h1, w, f⟩ := h
  have ev : ∀ i, (nV (uWed m (vN (nV m)) x y z)).2.1 i = if i = 64 then nI (vN (nV m) + 1) else if i = 46 + 3 * vN (nV m) + 2 then z else if i = 46 + 3 * vN (nV m) + 1 then y else if i = 46 + 3 * vN (nV m) then x else (nV m).2.1 i := fun i => by
    unfold uWed
    rw [w93, w93, w93, w93]
  have e1 : (nV (uWed m (vN (nV m)) x y z)).1 = (nV m).1 := rfl
  have hMS : MS (uWed m (vN (nV m)) x y z) T l b := (((h1.wr (by omega)).wr (by omega)).wr (by omega)).wr (by omega)
  generalize uWed m (vN (nV m)) x y z = m' at *
  have es : ∀ i, i ≠ 64 → ¬ (46 + 3 * vN (nV m) ≤ i ∧ i ≤ 46 + 3 * vN (nV m) + 2) → (nV m').2.1 i = (nV m).2.1 i := fun i a c => by
    rw [ev, if_neg a, if_neg (by omega), if_neg (by omega), if_neg (by omega)]
  have e11 : ∀ i, (nV m').1 i = (nV m).1 i := fun i => by rw [e1]
  have e64 : (nV m').2.1 64 = nI (vN (nV m) + 1) := by rw [ev, if_pos rfl]
  have eN : vN (nV m') = vN (nV m) + 1 := by
    show nn ((nV m').2.1 64) = _
    rw [e64, nn_nI (by omega)]
  obtain ⟨p1, p2, p3⟩ := y_P (V' := nV m') w (fun i hi => e11 i) (fun i hi => es i (by omega) (by omega))
  obtain ⟨t1, t2, t3⟩ := y_T (V' := nV m') w (fun i hi => e11 i)
  obtain ⟨a1, a2, a3, a4⟩ := y_A (V' := nV m') w (fun i hi => e11 i) (fun i c d => es i (by omega) (by omega))
  refine ⟨hMS, WF_ext w ⟨p2, t2, a2, by rw [e64]; exact vpi (by omega)⟩ (by omega) (by omega) p3 t3 a3 a4 (fun k hk => ?_) (y_L (fun i _ _ => e11 i)), fun p h1 h2 => ?_⟩
  · by_cases q : k = vN (nV m)
    · subst q
      refine Or.inl ⟨?_, ?_, ?_⟩
      · rw [p1, ev, if_neg (by omega), if_neg (by omega), if_neg (by omega), if_pos rfl]; exact hx
      · rw [p1, ev, if_neg (by omega), if_neg (by omega), if_pos rfl]; exact hy
      · rw [ev, if_neg (by omega), if_pos rfl]; exact hz
    · exact Or.inr ⟨by omega, fun j hj => es _ (by omega) (by omega)⟩
  · rw [e11, es _ (by omega) (by omega)]
    exact f p (by omega) h2
theorem F_w50 {m : gM} (h : MF m) (x y : Int32) : s_X13_readWed_50 m x y ∧ f_X13_readWed_50 m x y = m := by
  simp only [s_X13_readWed_50, f_X13_readWed_50, bnd, bndP, m_goF h.i, m_nmF h.i, if_neg h.i, true_and, and_self]
theorem F_wed {m : gM} (h : MF m) : s_X13_readWed_17 m ∧ f_X13_readWed_17 m = m := by
  simp only [s_X13_readWed_17, f_X13_readWed_17, bnd, bndP, m_goF h.i, m_tdF h.i, m_toF h.i, F_w50 h, if_neg h.i, true_and, and_self]
theorem R_w50 {m : gM} {T : Nat → Nat} {l b i j : Nat} (h : MW m T l b) (h3 : rdI m 73 0 0 0 = 0) (hi : i < vP (nV m)) (hj : j < vP (nV m)) (lt : vN (nV m) < 6) : s_X13_readWed_50 m (nI i) (nI j) ∧ (MF (f_X13_readWed_50 m (nI i) (nI j)) ∨ MW (f_X13_readWed_50 m (nI i) (nI j)) T l (b + 1)) := by
  have i0 : vp_in 64 65 := vpD (by decide)
  simp only [s_X13_readWed_50, f_X13_readWed_50, bnd, bndP]
  obtain ⟨a1, -, a3, a4⟩ := h.go
  have h1 := a3 (by rw [h3]; decide)
  rw [← a4] at lt hi hj
  clear a3
  generalize f_X13_goOn m = m1 at *
  obtain ⟨k1, k2⟩ := h1.num 0 9999
  rcases k2 with ⟨k2, -⟩ | ⟨k2, k3, k4, k5⟩
  · simp only [a1, k1, if_neg k2.i, true_and]
    exact Or.inl k2
  · rw [← k3] at lt hi hj
    generalize f_X13_number m1 0 9999 = z3 at *
    obtain ⟨-, -, -, e1, e10, -⟩ := k2.cnt
    have q := (W_wed k2 lt (x := nI i) (y := nI j) (vpi hi (by omega)) (vpi hj (by omega)) ⟨k4, k5⟩).mono (show b + 1 ≤ b + 1 + 1 by omega)
    unfold uWed at q
    have i1 : vp_in (nI (46 + 3 * vN (nV z3.2))) 65 := vpi (by omega)
    have i2 : vp_in (nI (46 + 3 * vN (nV z3.2) + 1)) 65 := vpi (by omega)
    have i3 : vp_in (nI (46 + 3 * vN (nV z3.2) + 2)) 65 := vpi (by omega)
    have er : rdI (wrI (wrI (wrI z3.2 93 0 0 (46 + 3 * vN (nV z3.2)) (nI i)) 93 0 0 (46 + 3 * vN (nV z3.2) + 1) (nI j)) 93 0 0 (46 + 3 * vN (nV z3.2) + 2) z3.1) 93 0 0 64 = nI (vN (nV z3.2)) := by
      rw [rwI, if_neg (by omega), rwI, if_neg (by omega), rwI, if_neg (by omega)]; exact e1
    simp only [a1, k1, k2.z, if_true, s_X13_weds_newNow, f_X13_weds_newNow, bnd, bndP, show nn 64 = 64 from rfl, i0, e1, e46, p1, p2, i1, i2, i3, nn_nI (show 46 + 3 * vN (nV z3.2) < 2 ^ 31 by omega), nn_nI (show 46 + 3 * vN (nV z3.2) + 1 < 2 ^ 31 by omega), nn_nI (show 46 + 3 * vN (nV z3.2) + 2 < 2 ^ 31 by omega), er, true_and]
    exact Or.inr q
theorem R_wed {m : gM} {T : Nat → Nat} {l b : Nat} (h : MW m T l b) (h3 : rdI m 73 0 0 0 ≠ 3) : s_X13_readWed m ∧ (MF (f_X13_readWed m) ∨ MW (f_X13_readWed m) T l (b + 1)) := by
  obtain ⟨c1, c2, c3, c4, c5, c6, c7, c8⟩ := h.cnt
  have i0 : vp_in 64 65 := vpD (by decide)
  simp only [s_X13_readWed, f_X13_readWed, bnd, bndP, show nn 64 = 64 from rfl, c4, i0, true_and]
  by_cases z : nI (vN (nV m)) = 6
  · obtain ⟨w1, w2⟩ := h.wr (k := 2) (by decide)
    obtain ⟨f1, f2⟩ := F_wed w2
    simp only [if_pos z, f2, f1, w1, true_and]
    exact Or.inl w2
  · have lt : vN (nV m) < 6 := by
      rcases Nat.lt_or_ge (vN (nV m)) 6 with q | q
      · exact q
      · exact absurd (show nI (vN (nV m)) = 6 by rw [show vN (nV m) = 6 by omega]; rfl) z
    simp only [if_neg z, s_X13_readWed_17, f_X13_readWed_17, bnd, bndP]
    obtain ⟨a1, -, a3, a4⟩ := h.go
    have h1 := a3 h3
    rw [← a4] at lt
    clear c1 c2 c3 c4 c5 c6 c7 c8 z a3
    generalize f_X13_goOn m = m1 at *
    obtain ⟨d1, d2⟩ := h1.td 0 0 (by omega) rfl
    rcases d2 with ⟨d2, -⟩ | ⟨d2, d3, i, hi, ei⟩
    · simp only [a1, d1, m_toF d2.i, F_w50 d2, if_neg d2.i, true_and]
      exact Or.inl d2
    · rw [← d3] at lt hi
      generalize f_X13_told m1 0 = z1 at *
      obtain ⟨k1, k2⟩ := d2.th 0 0 (by omega) rfl
      rcases k2 with ⟨k2, -⟩ | ⟨k2, k3, j, hj, ej⟩
      · simp only [a1, d1, k1, F_w50 k2, if_neg k2.i, true_and]
        exact Or.inl k2
      · simp only [a1, d1, k1, k2, ei, ej, d2.z, if_true, true_and]
        by_cases y : nI i = nI j
        · obtain ⟨w1, w2⟩ := d2.wr (k := 3) (by decide)
          simp only [if_pos y, w1, F_w50 w2, true_and]
          exact Or.inl w2
        · simp only [if_neg y]
          obtain ⟨r1, r2⟩ := R_w50 d2 k3 hi hj lt
          exact ⟨r1, r2.imp id (fun q => q.mono (by omega))⟩
-- ===== child =====
theorem W_chi {m : gM} {T : Nat → Nat} {l b x y : Nat} (h : MW m T l b) (hx : x < vP (nV m)) (hy : y < x) : MW (wrI m 89 0 0 (24 + x) (rdI m 89 0 0 (24 + x) ||| (1 <<< (nI y &&& 31)))) T l b := by
  obtain ⟨h1, w, f⟩ := h
  have h10 := w.P.2
  have ev : ∀ i, (nV (wrI m 89 0 0 (24 + x) (rdI m 89 0 0 (24 + x) ||| (1 <<< (nI y &&& 31))))).1 i = if i = 24 + x then (nV m).1 (24 + x) ||| (1 <<< (nI y &&& 31)) else (nV m).1 i := fun i => w89
  have e2 : (nV (wrI m 89 0 0 (24 + x) (rdI m 89 0 0 (24 + x) ||| (1 <<< (nI y &&& 31))))).2 = (nV m).2 := rfl
  have hMS : MS (wrI m 89 0 0 (24 + x) (rdI m 89 0 0 (24 + x) ||| (1 <<< (nI y &&& 31)))) T l b := h1.wr (by omega)
  generalize wrI m 89 0 0 (24 + x) (rdI m 89 0 0 (24 + x) ||| (1 <<< (nI y &&& 31))) = m' at *
  have es : ∀ i, i ≠ 24 + x → (nV m').1 i = (nV m).1 i := fun i a => by rw [ev, if_neg a]
  have e22 : ∀ i, (nV m').2.1 i = (nV m).2.1 i := fun i => by rw [e2]
  have eP : vP (nV m') = vP (nV m) := by
    show nn ((nV m').1 0) = nn ((nV m).1 0)
    rw [es 0 (by omega)]
  obtain ⟨t1, t2, t3⟩ := y_T (V' := nV m') w (fun i hi => es i (by omega))
  obtain ⟨a1, a2, a3, a4⟩ := y_A (V' := nV m') w (fun i hi => es i (by omega)) (fun i _ _ => e22 i)
  obtain ⟨n1, n2, n3⟩ := y_W (V' := nV m') w (fun i _ _ => e22 i)
  refine ⟨hMS, WF_ext w ⟨by rw [es 0 (by omega)]; exact w.1.1, t2, a2, n2⟩ (by omega) (by omega) (fun p hp => ?_) t3 a3 a4 n3 (y_L (fun i _ _ => es i (by omega))), fun p h1 h2 => ?_⟩
  · rw [eP] at hp
    by_cases z : p = x
    · subst z
      obtain ⟨b1, b2, b3⟩ := w.2.1 p hp
      refine Or.inl ⟨by rw [es _ (by omega)]; exact b1, by rw [e22]; exact b2, ?_⟩
      rw [ev, if_pos rfl]
      exact or_in hy (by omega) b3
    · exact Or.inr ⟨hp, es _ (by omega), e22 _, es _ (by omega)⟩
  · rw [e22, es _ (by omega)]
    exact f p (by omega) h2
theorem F_c66 {m : gM} (h : MF m) (x y : Int32) : s_X13_readChild_66 m x y ∧ f_X13_readChild_66 m x y = m := by
  simp only [s_X13_readChild_66, f_X13_readChild_66, bnd, bndP, m_goF h.i, if_neg h.i, true_and, and_self]
theorem F_c61 {m : gM} {T : Nat → Nat} {l b : Nat} (h : MW m T l b) (x y : Int32) : s_X13_readChild_61 m x y ∧ MF (f_X13_readChild_61 m x y) := by
  obtain ⟨w1, w2⟩ := h.wr (k := 3) (by decide)
  simp only [s_X13_readChild_61, f_X13_readChild_61, bnd, bndP, w1, F_c66 w2, true_and]
  exact w2
theorem R_chi {m : gM} {T : Nat → Nat} {l b : Nat} (h : MW m T l b) (h3 : rdI m 73 0 0 0 ≠ 3) : s_X13_readChild m ∧ (MF (f_X13_readChild m) ∨ MW (f_X13_readChild m) T l (b + 1)) := by
  simp only [s_X13_readChild, f_X13_readChild, bnd, bndP]
  obtain ⟨a1, -, a3, a4⟩ := h.go
  have h1 := a3 h3
  clear a3
  generalize f_X13_goOn m = m1 at *
  obtain ⟨d1, d2⟩ := h1.td 0 0 (by omega) rfl
  rcases d2 with ⟨d2, -⟩ | ⟨d2, d3, x, hx, ex⟩
  · simp only [a1, d1, m_toF d2.i, F_c66 d2, if_neg d2.i, true_and]
    exact Or.inl d2
  · rw [← d3] at hx
    generalize f_X13_told m1 0 = z1 at *
    obtain ⟨k1, k2⟩ := d2.th 0 0 (by omega) rfl
    rcases k2 with ⟨k2, -⟩ | ⟨k2, k3, y, hy, ey⟩
    · simp only [a1, d1, k1, F_c66 k2, if_neg k2.i, true_and]
      exact Or.inl k2
    · obtain ⟨w1, w2⟩ := F_c61 d2 (nI x) (nI y)
      have h10 := d2.2.1.P.2
      have hx' : x < vP (nV z1.2) := hx
      have hy' : y < vP (nV z1.2) := hy
      have i1 : vp_in (nI (24 + x)) 502 := vpi (by omega)
      simp only [a1, d1, k1, k2, ex, ey, d2.z, if_true, show (24 : Int32) + nI x = nI (24 + x) from nI_add 24 _, nn_nI (show 24 + x < 2 ^ 31 by omega), i1, s_bit, true_and]
      have fl : s_X13_readChild_61 z1.2 (nI x) (nI y) ∧ (MF (f_X13_readChild_61 z1.2 (nI x) (nI y)) ∨ MW (f_X13_readChild_61 z1.2 (nI x) (nI y)) T l (b + 1)) := ⟨w1, Or.inl w2⟩
      by_cases q : nI x ≤ nI y
      · simp only [if_pos q]
        exact fl
      · have lt : y < x := by
          rcases Nat.lt_or_ge y x with u | u
          · exact u
          · exact absurd (nI_le u (by omega)) q
        simp only [if_neg q]
        split
        · exact fl
        · split
          · exact fl
          · have g := W_chi d2 hx' lt
            have g3 : rdI (wrI z1.2 89 0 0 (24 + x) (rdI z1.2 89 0 0 (24 + x) ||| (1 <<< (nI y &&& 31)))) 73 0 0 0 ≠ 3 := by rw [rwN (by decide), k3]; decide
            obtain ⟨o1, -, o3, -⟩ := g.go
            simp only [s_X13_readChild_66, f_X13_readChild_66, bnd, bndP, d2.z, if_true, show (24 : Int32) + nI x = nI (24 + x) from nI_add 24 _, nn_nI (show 24 + x < 2 ^ 31 by omega), i1, o1, true_and]
            exact Or.inr ((o3 g3).mono (by omega))
-- ===== lost, dies =====
theorem W_93 {m : gM} {T : Nat → Nat} {l b c : Nat} {v : Int32} (h : MW m T l b) (hc : (c < vP (nV m) ∧ dOK v) ∨ (10 ≤ c ∧ c < 10 + vA (nV m) ∧ vp_in v 4)) : MW (wrI m 93 0 0 c v) T l b := by
  obtain ⟨h1, w, f⟩ := h
  have h10 := w.P.2
  have h12 := w.A.2
  have ev : ∀ i, (nV (wrI m 93 0 0 c v)).2.1 i = if i = c then v else (nV m).2.1 i := fun i => w93
  have e1 : (nV (wrI m 93 0 0 c v)).1 = (nV m).1 := rfl
  have hMS : MS (wrI m 93 0 0 c v) T l b := h1.wr (by omega)
  generalize wrI m 93 0 0 c v = m' at *
  have es : ∀ i, i ≠ c → (nV m').2.1 i = (nV m).2.1 i := fun i a => by rw [ev, if_neg a]
  have e11 : ∀ i, (nV m').1 i = (nV m).1 i := fun i => by rw [e1]
  have eP : vP (nV m') = vP (nV m) := by unfold vP; rw [e1]
  have eA : vA (nV m') = vA (nV m) := by unfold vA; rw [e1]
  have eG : ∀ q, vG (nV m') q = vG (nV m) q := fun q => by unfold vG; rw [e1]
  obtain ⟨t1, t2, t3⟩ := y_T (V' := nV m') w (fun i hi => e11 i)
  obtain ⟨n1, n2, n3⟩ := y_W (V' := nV m') w (fun i _ _ => es i (by omega))
  refine ⟨hMS, WF_ext w ⟨by rw [e1]; exact w.1.1, t2, by rw [e1]; exact w.1.2.2.1, n2⟩ (by omega) (by omega) (fun p hp => ?_) t3 (fun q hq => ?_) (fun q hq => Or.inr ⟨by omega, e11 _, fun k j _ _ => e11 _⟩) n3 (y_L (fun i _ _ => e11 i)), fun p h1 h2 => ?_⟩
  · rw [eP] at hp
    by_cases z : p = c
    · subst z
      obtain ⟨b1, b2, b3⟩ := w.2.1 p hp
      refine Or.inl ⟨by rw [e11]; exact b1, ?_, by rw [e11]; exact b3⟩
      rw [ev, if_pos rfl]
      rcases hc with hc | hc
      · exact Or.inr hc.2
      · omega
    · exact Or.inr ⟨hp, e11 _, es _ z, e11 _⟩
  · rw [eA] at hq
    by_cases z : 10 + q = c
    · obtain ⟨b1, b2, b3, b4, b5, b6, b7, b8, b9⟩ := (w.2.2.2.1 q hq).1
      refine Or.inl ?_
      unfold wfA
      rw [eP, e1, es (34 + q) (by omega), es (22 + q) (by omega)]
      refine ⟨b1, b2, b3, b4, b5, b6, b7, ?_, b9⟩
      rw [ev, if_pos z]
      rcases hc with hc | hc
      · omega
      · exact Or.inr hc.2.2
    · exact Or.inr ⟨hq, fun j _ => e11 _, es _ z, es _ (by omega), es _ (by omega)⟩
  · rw [e11, es _ (by omega)]
    exact f p (by omega) h2
theorem F_l36 {m : gM} (h : MF m) (x : Int32) : s_X13_readLost_36 m x ∧ f_X13_readLost_36 m x = m := by
  simp only [s_X13_readLost_36, f_X13_readLost_36, bnd, bndP, m_goF h.i, m_nmF h.i, if_neg h.i, true_and, and_self]
theorem F_d35 {m : gM} (h : MF m) (x : Int32) : s_X13_readDies_35 m x ∧ f_X13_readDies_35 m x = m := by
  simp only [s_X13_readDies_35, f_X13_readDies_35, bnd, bndP, m_goF h.i, m_nmF h.i, if_neg h.i, true_and, and_self]
theorem R_los {m : gM} {T : Nat → Nat} {l b : Nat} (h : MW m T l b) (h3 : rdI m 73 0 0 0 ≠ 3) : s_X13_readLost m ∧ (MF (f_X13_readLost m) ∨ MW (f_X13_readLost m) T l (b + 1)) := by
  simp only [s_X13_readLost, f_X13_readLost, bnd, bndP]
  obtain ⟨a1, -, a3, a4⟩ := h.go
  have h1 := a3 h3
  clear a3
  generalize f_X13_goOn m = m1 at *
  obtain ⟨k1, k2⟩ := h1.th 2 2 (by omega) rfl
  rcases k2 with ⟨k2, -⟩ | ⟨k2, k3, y, hy, ey⟩
  · simp only [a1, k1, F_l36 k2, if_neg k2.i, true_and]
    exact Or.inl k2
  · have h12 := h1.2.1.A.2
    have hy' : y < vA (nV m1) := hy
    have y12 : y < 12 := by omega
    have i1 : vp_in (nI (10 + y)) 65 := vpi (by omega)
    simp only [a1, k1, k2, ey, h1.z, if_true, show (10 : Int32) + nI y = nI (10 + y) from nI_add 10 _, nn_nI (show 10 + y < 2 ^ 31 by omega), i1, true_and]
    split
    · simp only [s_X13_readLost_36, f_X13_readLost_36, bnd, bndP]
      obtain ⟨g1, -, g3, g4⟩ := h1.go
      have h2 := g3 (by rw [k3]; decide)
      rw [← g4] at hy'
      clear g3
      generalize f_X13_goOn m1 = m2 at *
      obtain ⟨n1, n2⟩ := h2.num 0 3
      rcases n2 with ⟨n2, -⟩ | ⟨n2, n3, n4, n5⟩
      · simp only [g1, n1, if_neg n2.i, true_and]
        exact Or.inl n2
      · rw [← n3] at hy'
        generalize f_X13_number m2 0 3 = z3 at *
        have q := (W_93 n2 (c := 10 + y) (v := z3.1) (Or.inr ⟨by omega, by omega, n_vp (n := 3) n4 n5 (by omega)⟩)).mono (show b + 1 ≤ b + 1 + 1 + 1 by omega)
        simp only [g1, n1, n2.z, if_true, show (10 : Int32) + nI y = nI (10 + y) from nI_add 10 _, nn_nI (show 10 + y < 2 ^ 31 by omega), i1, true_and]
        exact Or.inr q
    · obtain ⟨w1, w2⟩ := h1.wr (k := 3) (by decide)
      simp only [w1, F_l36 w2, true_and]
      exact Or.inl w2
theorem R_die {m : gM} {T : Nat → Nat} {l b : Nat} (h : MW m T l b) (h3 : rdI m 73 0 0 0 ≠ 3) : s_X13_readDies m ∧ (MF (f_X13_readDies m) ∨ MW (f_X13_readDies m) T l (b + 1)) := by
  simp only [s_X13_readDies, f_X13_readDies, bnd, bndP]
  obtain ⟨a1, -, a3, a4⟩ := h.go
  have h1 := a3 h3
  clear a3
  generalize f_X13_goOn m = m1 at *
  obtain ⟨k1, k2⟩ := h1.th 0 0 (by omega) rfl
  rcases k2 with ⟨k2, -⟩ | ⟨k2, k3, y, hy, ey⟩
  · simp only [a1, k1, F_d35 k2, if_neg k2.i, true_and]
    exact Or.inl k2
  · have h10 := h1.2.1.P.2
    have hy' : y < vP (nV m1) := hy
    have y10 : y < 10 := by omega
    have i1 : vp_in (nI y) 65 := vpi (by omega)
    have e0 : (0 : Int32) + nI y = nI y := by rw [show (0 : Int32) + nI y = nI (0 + y) from nI_add 0 _, Nat.zero_add]
    simp only [a1, k1, k2, ey, h1.z, if_true, e0, nn_nI (show y < 2 ^ 31 by omega), i1, true_and]
    split
    · simp only [s_X13_readDies_35, f_X13_readDies_35, bnd, bndP]
      obtain ⟨g1, -, g3, g4⟩ := h1.go
      have h2 := g3 (by rw [k3]; decide)
      rw [← g4] at hy'
      clear g3
      generalize f_X13_goOn m1 = m2 at *
      obtain ⟨n1, n2⟩ := h2.num 0 9999
      rcases n2 with ⟨n2, -⟩ | ⟨n2, n3, n4, n5⟩
      · simp only [g1, n1, if_neg n2.i, true_and]
        exact Or.inl n2
      · rw [← n3] at hy'
        generalize f_X13_number m2 0 9999 = z3 at *
        have q := (W_93 n2 (c := y) (v := z3.1) (Or.inl ⟨hy', n4, n5⟩)).mono (show b + 1 ≤ b + 1 + 1 + 1 by omega)
        simp only [g1, n1, n2.z, if_true, e0, nn_nI (show y < 2 ^ 31 by omega), i1, true_and]
        exact Or.inr q
    · obtain ⟨w1, w2⟩ := h1.wr (k := 3) (by decide)
      simp only [w1, F_d35 w2, true_and]
      exact Or.inl w2
end
