-- THE REFERENCE'S READER ALONE
set_option linter.all false
noncomputable section
def MF (m : gM) : Prop := rdI m 76 0 0 0 ≠ 0
def MS (m : gM) (T : Nat → Nat) (l b : Nat) : Prop := rdI m 76 0 0 0 = 0 ∧ ∃ q, b ≤ q ∧ mTok m T l q
theorem MS.mono {m : gM} {T : Nat → Nat} {l b b' : Nat} (h : MS m T l b) (k : b' ≤ b) : MS m T l b' := by
  obtain ⟨h0, q, h1, h2⟩ := h
  exact ⟨h0, q, by omega, h2⟩
theorem MS.le {m : gM} {T : Nat → Nat} {l b : Nat} (h : MS m T l b) : b ≤ l := by
  obtain ⟨h0, q, h1, h2⟩ := h
  have := h2.2.2.2.1
  omega
theorem MS.wr {m : gM} {T : Nat → Nat} {l b : Nat} (h : MS m T l b) {g x y z : Nat} {v : Int32} (k : 87 < g) : MS (wrI m g x y z v) T l b := by
  obtain ⟨h0, q, h1, h2, h3, h4, h5, h6⟩ := h
  refine ⟨by rw [rwN (by omega)]; exact h0, q, h1, h2.wr (by omega), by rw [rwN (by omega)]; exact h3, by rw [rwN (by omega)]; exact h4, h5, ?_⟩
  unfold mKd at h6 ⊢
  rw [rwN (by omega), rwN (by omega), rwN (by omega)]
  exact h6
theorem MF.wr {m : gM} (h : MF m) {g x y z : Nat} {v : Int32} (k : 87 < g) : MF (wrI m g x y z v) := by
  unfold MF
  rw [rwN (by omega)]
  exact h
theorem MF.i {m : gM} (h : MF m) : ¬ rdI m 76 0 0 0 = 0 := h
theorem g_go {m : gM} {T : Nat → Nat} {l b : Nat} (h : MS m T l b) : s_X13_goOn m ∧ MS (f_X13_goOn m) T l b ∧ (rdI m 73 0 0 0 ≠ 3 → MS (f_X13_goOn m) T l (b + 1)) := by
  obtain ⟨h0, q, hb, tp, h71, h72, hq, kd⟩ := h
  have e : f_X13_goOn m = f_X13_token m := by simp only [f_X13_goOn, bnd, h0, if_true]
  have o := o_X13_token m
  have f0 : rdI (f_X13_token m) 76 0 0 0 = 0 := by rw [(o 76 0 0 0 (by decide)).1]; exact h0
  by_cases hl : q < l
  · rw [if_pos hl] at h71
    have a := en_in (T := T) hl
    obtain ⟨b1, b2⟩ := M_tok tp h71 a.2
    have b3 := (ru_in (P := bl) (T := T) a.2).1
    refine ⟨?_, ?_, fun _ => ?_⟩
    · simp only [s_X13_goOn, bndP, h0, if_true, b1, true_and]
    · rw [e]; exact ⟨f0, _, by omega, b2⟩
    · rw [e]; exact ⟨f0, _, by omega, b2⟩
  · rw [if_neg hl] at h71
    obtain ⟨b1, b2⟩ := M_tok tp h71 hq
    have b3 := (ru_in (P := bl) (T := T) hq).1
    refine ⟨?_, ?_, fun z => ?_⟩
    · simp only [s_X13_goOn, bndP, h0, if_true, b1, true_and]
    · rw [e]; exact ⟨f0, _, by omega, b2⟩
    · unfold mKd at kd
      rw [if_neg hl] at kd
      exact absurd kd z
theorem g_wr {m : gM} {k : Int32} (h : rdI m 76 0 0 0 = 0) (hk : k ≠ 0) : s_X13_wrong m k ∧ MF (f_X13_wrong m k) := by
  simp only [s_X13_wrong, f_X13_wrong, bnd, bndP, if_pos h]
  exact ⟨trivial, by unfold MF; rw [rwN (by decide), rwS]; exact hk⟩
theorem g_num {m : gM} (h : rdI m 76 0 0 0 = 0) (lo hi : Int32) : s_X13_numberHere m lo hi ∧ ((MF (f_X13_numberHere m lo hi).2 ∧ (f_X13_numberHere m lo hi).1 = lo) ∨ ((f_X13_numberHere m lo hi).2 = m ∧ lo ≤ (f_X13_numberHere m lo hi).1 ∧ (f_X13_numberHere m lo hi).1 ≤ hi ∧ rdI m 73 0 0 0 = 1)) := by
  obtain ⟨a1, a2⟩ := g_wr h (k := 1) (by decide)
  obtain ⟨b1, b2⟩ := g_wr h (k := 2) (by decide)
  have c43 : s_X13_numberHere_43 m lo ∧ f_X13_numberHere_43 m lo = (lo, f_X13_wrong m 2) := by
    simp only [s_X13_numberHere_43, f_X13_numberHere_43, s_X13_numberHere_48, f_X13_numberHere_48, bnd, bndP, if_neg b2]
    exact ⟨⟨b1, trivial⟩, trivial⟩
  simp only [s_X13_numberHere, f_X13_numberHere, bnd, bndP, if_pos h]
  by_cases z : rdI m 73 0 0 0 = 1
  · simp only [if_pos z, s_X13_numberHere_20, f_X13_numberHere_20, if_pos h]
    by_cases y : rdI m 74 0 0 0 < lo
    · simp only [if_pos y]
      rw [c43.2]
      exact ⟨c43.1, Or.inl ⟨b2, rfl⟩⟩
    · simp only [if_neg y]
      by_cases x : rdI m 74 0 0 0 ≤ hi
      · simp only [if_pos x, s_X13_numberHere_48, f_X13_numberHere_48, if_pos h]
        exact ⟨trivial, Or.inr ⟨trivial, i_nlt.mp y, x, z⟩⟩
      · simp only [if_neg x]
        rw [c43.2]
        exact ⟨c43.1, Or.inl ⟨b2, rfl⟩⟩
  · simp only [if_neg z, s_X13_numberHere_20, f_X13_numberHere_20, if_neg a2, s_X13_numberHere_48, f_X13_numberHere_48]
    exact ⟨⟨a1, trivial⟩, Or.inl ⟨a2, trivial⟩⟩
theorem g_nGo {m : gM} {T : Nat → Nat} {l b : Nat} (h : MS m T l b) (lo hi : Int32) : s_X13_number m lo hi ∧ ((MF (f_X13_number m lo hi).2 ∧ (f_X13_number m lo hi).1 = lo) ∨ (MS (f_X13_number m lo hi).2 T l (b + 1) ∧ offW [71, 72, 73, 74, 75] m (f_X13_number m lo hi).2 ∧ lo ≤ (f_X13_number m lo hi).1 ∧ (f_X13_number m lo hi).1 ≤ hi)) := by
  obtain ⟨a1, a2⟩ := g_num h.1 lo hi
  obtain ⟨n1, n2⟩ := m_num (m := m) (x1 := lo) (x2 := hi)
  rw [n1, n2]
  rcases a2 with ⟨b1, b2⟩ | ⟨b1, b2, b3, b4⟩
  · obtain ⟨g1, g2⟩ := m_goF b1
    exact ⟨⟨a1, g1⟩, Or.inl ⟨by rw [g2]; exact b1, b2⟩⟩
  · rw [b1]
    obtain ⟨g1, g2, g3⟩ := g_go h
    exact ⟨⟨a1, g1⟩, Or.inr ⟨g3 (by rw [b4]; decide), o_X13_goOn m, b2, b3⟩⟩
theorem oth_73 {m : gM} (h : f_X13_isOther m ≠ 0) : rdI m 73 0 0 0 = 0 := by
  unfold f_X13_isOther f_X13_isOther_19 at h
  by_cases z : rdI m 73 0 0 0 = 0
  · exact z
  · rw [if_neg z] at h; exact absurd rfl h
theorem g_td {m : gM} {kd n : Nat} (h : rdI m 76 0 0 0 = 0) (hkd : kd < 3) (hn : n ≤ 12) (h89 : rdI m 89 0 0 kd = nI n) : s_X13_toldHere m (nI kd) ∧ ((MF (f_X13_toldHere m (nI kd)).2 ∧ (f_X13_toldHere m (nI kd)).1 = 0) ∨ ((f_X13_toldHere m (nI kd)).2 = m ∧ rdI m 73 0 0 0 = 0 ∧ ∃ j, j < n ∧ (f_X13_toldHere m (nI kd)).1 = nI j)) := by
  obtain ⟨a1, a2⟩ := g_wr h (k := 1) (by decide)
  obtain ⟨i1, i2⟩ := m_ix hkd hn h89
  have c23 : s_X13_toldHere_23 m (nI kd) ∧ f_X13_toldHere_23 m (nI kd) = (0, f_X13_wrong m 1) := by
    simp only [s_X13_toldHere_23, f_X13_toldHere_23, s_X13_toldHere_28, f_X13_toldHere_28, bnd, bndP, if_neg a2]
    exact ⟨⟨a1, trivial⟩, trivial⟩
  simp only [s_X13_toldHere, f_X13_toldHere, bnd, bndP, if_pos h]
  by_cases z : f_X13_isOther m = 0
  · simp only [if_pos z]
    rw [c23.2]
    exact ⟨⟨s_oth, c23.1⟩, Or.inl ⟨a2, rfl⟩⟩
  · simp only [if_neg z]
    by_cases y : f_X13_namedHere m (nI kd) = -1
    · simp only [if_pos y]
      rw [c23.2]
      exact ⟨⟨s_oth, i1, c23.1⟩, Or.inl ⟨a2, rfl⟩⟩
    · simp only [if_neg y, s_X13_toldHere_28, f_X13_toldHere_28, if_pos h]
      refine ⟨⟨s_oth, i1, i1, trivial⟩, Or.inr ⟨trivial, oth_73 z, ?_⟩⟩
      rw [i2] at y ⊢
      rcases ixf_cs (P := fun j => decide (rdI m 95 0 0 (12 * kd + j) = rdI m 75 0 0 0)) n 0 with ⟨e, -⟩ | ⟨k, -, hk, e⟩
      · exact absurd e y
      · exact ⟨k, by omega, e⟩
theorem g_tGo {m : gM} {T : Nat → Nat} {l b kd n : Nat} (h : MS m T l b) (hkd : kd < 3) (hn : n ≤ 12) (h89 : rdI m 89 0 0 kd = nI n) : s_X13_told m (nI kd) ∧ ((MF (f_X13_told m (nI kd)).2 ∧ (f_X13_told m (nI kd)).1 = 0) ∨ (MS (f_X13_told m (nI kd)).2 T l (b + 1) ∧ offW [71, 72, 73, 74, 75] m (f_X13_told m (nI kd)).2 ∧ ∃ j, j < n ∧ (f_X13_told m (nI kd)).1 = nI j)) := by
  obtain ⟨a1, a2⟩ := g_td h.1 hkd hn h89
  obtain ⟨n1, n2⟩ := m_told (m := m) (x1 := nI kd)
  rw [n1, n2]
  rcases a2 with ⟨b1, b2⟩ | ⟨b1, b2, b3⟩
  · obtain ⟨g1, g2⟩ := m_goF b1
    exact ⟨⟨a1, g1⟩, Or.inl ⟨by rw [g2]; exact b1, b2⟩⟩
  · rw [b1]
    obtain ⟨g1, g2, g3⟩ := g_go h
    exact ⟨⟨a1, g1⟩, Or.inr ⟨g3 (by rw [b2]; decide), o_X13_goOn m, b3⟩⟩
theorem g_nw {m : gM} {T : Nat → Nat} {l b kd n : Nat} (h : MS m T l b) (hkd : kd < 3) (hn : n < nmL kd) (h89 : rdI m 89 0 0 kd = nI n) : s_X13_newName m (nI kd) ∧ (MF (f_X13_newName m (nI kd)) ∨ (MS (f_X13_newName m (nI kd)) T l (b + 1) ∧ offW [71, 72, 73, 74, 75, 95] m (f_X13_newName m (nI kd)))) := by
  have l12 := nmL_le kd
  obtain ⟨i1, i2⟩ := m_ix hkd (by omega) h89
  have fl : ∀ v : Int32, v ≠ 0 → s_X13_wrong m v ∧ MF (f_X13_wrong m v) ∧ (s_X13_newName_40 (f_X13_wrong m v) (nI kd) ∧ f_X13_newName_40 (f_X13_wrong m v) (nI kd) = f_X13_wrong m v) ∧ (s_X13_newName_19 (f_X13_wrong m v) (nI kd) ∧ f_X13_newName_19 (f_X13_wrong m v) (nI kd) = f_X13_wrong m v) := fun v hv => by
    obtain ⟨b1, b2⟩ := g_wr h.1 hv
    obtain ⟨g1, g2⟩ := m_goF b2
    refine ⟨b1, b2, ?_, ?_⟩
    · simp only [s_X13_newName_40, f_X13_newName_40, bnd, bndP, g1, g2, if_neg b2, true_and]
    · simp only [s_X13_newName_19, f_X13_newName_19, s_X13_newName_40, f_X13_newName_40, bnd, bndP, g1, g2, if_neg b2, true_and]
  simp only [s_X13_newName, f_X13_newName, bnd, bndP, h.1, if_true]
  by_cases z : f_X13_isOther m = 0
  · obtain ⟨b1, b2, -, b4, b5⟩ := fl 1 (by decide)
    simp only [if_pos z]
    rw [b5]
    exact ⟨⟨s_oth, b1, b4⟩, Or.inl b2⟩
  · simp only [if_neg z, s_X13_newName_19, f_X13_newName_19, bnd, bndP, h.1, if_true]
    by_cases y : f_X13_namedHere m (nI kd) = -1
    · have ik : vp_in (nI kd) 502 := vpi (by omega)
      have i36 : vp_in (nI (12 * kd + n)) 36 := vpi (by omega)
      have e12 : (12 : Int32) * nI kd + nI n = nI (12 * kd + n) := by rw [show (12 : Int32) * nI kd = nI (12 * kd) from pk_mul 12 kd, nI_add]
      simp only [if_pos y, s_X13_newName_40, f_X13_newName_40, bnd, bndP, h.1, if_true, nn_nI (show kd < 2 ^ 31 by omega), h89, e12, nn_nI (show 12 * kd + n < 2 ^ 31 by omega), ik, i36, true_and, and_true]
      have h' : MS (wrI m 95 0 0 (12 * kd + n) (rdI m 75 0 0 0)) T l b := h.wr (by omega)
      obtain ⟨g1, g2, g3⟩ := g_go h'
      have h3 : rdI (wrI m 95 0 0 (12 * kd + n) (rdI m 75 0 0 0)) 73 0 0 0 ≠ 3 := by rw [rwN (by decide), oth_73 z]; decide
      refine ⟨⟨s_oth, i1, g1⟩, Or.inr ⟨g3 h3, ?_⟩⟩
      exact ((offR.wI (by decide) : offW [71, 72, 73, 74, 75, 95] m (wrI m 95 0 0 (12 * kd + n) (rdI m 75 0 0 0)))).tr ((o_X13_goOn _).mono (by decide))
    · obtain ⟨b1, b2, ⟨b3, b3'⟩, b4, b5⟩ := fl 3 (by decide)
      simp only [if_neg y]
      rw [b3']
      exact ⟨⟨s_oth, i1, b1, b3⟩, Or.inl b2⟩
-- ===== one view out of another: what isn't touched =====
section
variable {V V' : vV}
theorem y_P (w : WF V) (e1 : ∀ i, (i = 0 ∨ 14 ≤ i ∧ i < 34) → V'.1 i = V.1 i) (e2 : ∀ i, i < 10 → V'.2.1 i = V.2.1 i) : vP V' = vP V ∧ vp_in (V'.1 0) 11 ∧ ∀ p, p < vP V' → wfP V' p ∨ (p < vP V ∧ V'.1 (14 + p) = V.1 (14 + p) ∧ V'.2.1 p = V.2.1 p ∧ V'.1 (24 + p) = V.1 (24 + p)) := by
  have e0 := e1 0 (Or.inl rfl)
  have e : vP V' = vP V := by unfold vP; rw [e0]
  have h10 := w.P.2
  exact ⟨e, by rw [e0]; exact w.1.1, fun p hp => Or.inr ⟨by omega, e1 _ (by omega), e2 _ (by omega), e1 _ (by omega)⟩⟩
theorem y_T (w : WF V) (e1 : ∀ i, (i = 1 ∨ 34 ≤ i ∧ i < 58) → V'.1 i = V.1 i) : vT V' = vT V ∧ vp_in (V'.1 1) 9 ∧ ∀ t, t < vT V' → wfT V' t ∨ (t < vT V ∧ ∀ j, j < 3 → V'.1 (34 + 3 * t + j) = V.1 (34 + 3 * t + j)) := by
  have e0 := e1 1 (Or.inl rfl)
  have e : vT V' = vT V := by unfold vT; rw [e0]
  have h8 := w.T.2
  exact ⟨e, by rw [e0]; exact w.1.2.1, fun t ht => Or.inr ⟨by omega, fun j hj => e1 _ (by omega)⟩⟩
theorem y_A (w : WF V) (e1 : ∀ i, (i = 2 ∨ 58 ≤ i ∧ i < 502) → V'.1 i = V.1 i) (e2 : ∀ i, 10 ≤ i → i < 46 → V'.2.1 i = V.2.1 i) : vA V' = vA V ∧ vp_in (V'.1 2) 13 ∧ (∀ q, q < vA V' → wfA V' q ∨ (q < vA V ∧ (∀ j, j < 7 → V'.1 (58 + 7 * q + j) = V.1 (58 + 7 * q + j)) ∧ V'.2.1 (10 + q) = V.2.1 (10 + q) ∧ V'.2.1 (22 + q) = V.2.1 (22 + q) ∧ V'.2.1 (34 + q) = V.2.1 (34 + q))) ∧
    ∀ q, q < vA V' → (∀ k, k < vG V' q → wfG V' q k) ∨ (q < vA V ∧ V'.1 (58 + 7 * q + 5) = V.1 (58 + 7 * q + 5) ∧ ∀ k j, k < 6 → j < 5 → V'.1 (gi q k j) = V.1 (gi q k j)) := by
  have e0 := e1 2 (Or.inl rfl)
  have e : vA V' = vA V := by unfold vA; rw [e0]
  have h12 := w.A.2
  exact ⟨e, by rw [e0]; exact w.1.2.2.1, fun q hq => Or.inr ⟨by omega, fun j hj => e1 _ (by omega), e2 _ (by omega) (by omega), e2 _ (by omega) (by omega), e2 _ (by omega) (by omega)⟩,
    fun q hq => Or.inr ⟨by omega, e1 _ (by omega), fun k j _ _ => e1 _ (by unfold gi; omega)⟩⟩
theorem y_W (w : WF V) (e2 : ∀ i, 46 ≤ i → i ≤ 64 → V'.2.1 i = V.2.1 i) : vN V' = vN V ∧ vp_in (V'.2.1 64) 7 ∧ ∀ k, k < vN V' → wfW V' k ∨ (k < vN V ∧ ∀ j, j < 3 → V'.2.1 (46 + 3 * k + j) = V.2.1 (46 + 3 * k + j)) := by
  have e0 := e2 64 (by omega) (by omega)
  have e : vN V' = vN V := by unfold vN; rw [e0]
  have h6 := w.N.2
  exact ⟨e, by rw [e0]; exact w.1.2.2.2, fun k hk => Or.inr ⟨by omega, fun j hj => e2 _ (by omega) (by omega)⟩⟩
theorem y_L (e1 : ∀ i, 4 ≤ i → i < 14 → V'.1 i = V.1 i) : ∀ l, l < 2 → wfL V' l ∨ ∀ j, j < 5 → V'.1 (4 + 5 * l + j) = V.1 (4 + 5 * l + j) :=
  fun l hl => Or.inr fun j hj => e1 _ (by omega) (by omega)
end
theorem n_vp' {x : Int32} {n : Nat} (h : 0 ≤ x) (k : x ≤ nI n) (hn : n < 2 ^ 30) : vp_in x (n + 1) := by
  have a : (0 : Int) ≤ x.toInt := Int32.le_iff_toInt_le.mp h
  have b := Int32.le_iff_toInt_le.mp k
  rw [nI_toInt (by omega)] at b
  exact vp_in_iff.mpr ⟨a, by omega⟩
/-- a person not told yet: nobody's child, it lives -/
def FR (V : vV) : Prop := ∀ p, vP V ≤ p → p < 10 → V.2.1 p = -2 ∧ V.1 (24 + p) = 0
/-- no fault, and all told so far holds together -/
def MW (m : gM) (T : Nat → Nat) (l b : Nat) : Prop := MS m T l b ∧ WF (nV m) ∧ FR (nV m)
theorem MW.mono {m : gM} {T : Nat → Nat} {l b b' : Nat} (h : MW m T l b) (k : b' ≤ b) : MW m T l b' := ⟨h.1.mono k, h.2⟩
theorem MW.z {m : gM} {T : Nat → Nat} {l b : Nat} (h : MW m T l b) : rdI m 76 0 0 0 = 0 := h.1.1
theorem MW.go {m : gM} {T : Nat → Nat} {l b : Nat} (h : MW m T l b) : s_X13_goOn m ∧ MW (f_X13_goOn m) T l b ∧ (rdI m 73 0 0 0 ≠ 3 → MW (f_X13_goOn m) T l (b + 1)) ∧ nV (f_X13_goOn m) = nV m := by
  obtain ⟨a1, a2, a3⟩ := g_go h.1
  have e := nV_off (o_X13_goOn m) (by decide)
  exact ⟨a1, ⟨a2, by rw [e]; exact h.2⟩, fun z => ⟨a3 z, by rw [e]; exact h.2⟩, e⟩
theorem MW.num {m : gM} {T : Nat → Nat} {l b : Nat} (h : MW m T l b) (lo hi : Int32) : s_X13_number m lo hi ∧ (MF (f_X13_number m lo hi).2 ∧ (f_X13_number m lo hi).1 = lo ∨ (MW (f_X13_number m lo hi).2 T l (b + 1) ∧ nV (f_X13_number m lo hi).2 = nV m ∧ lo ≤ (f_X13_number m lo hi).1 ∧ (f_X13_number m lo hi).1 ≤ hi)) := by
  obtain ⟨a1, a2⟩ := g_nGo h.1 lo hi
  refine ⟨a1, a2.imp id fun z => ?_⟩
  have e := nV_off z.2.1 (by decide)
  exact ⟨⟨z.1, by rw [e]; exact h.2⟩, e, z.2.2⟩
theorem MW.cnt {m : gM} {T : Nat → Nat} {l b : Nat} (h : MW m T l b) : rdI m 89 0 0 0 = nI (vP (nV m)) ∧ rdI m 89 0 0 1 = nI (vT (nV m)) ∧ rdI m 89 0 0 2 = nI (vA (nV m)) ∧ rdI m 93 0 0 64 = nI (vN (nV m)) ∧ vP (nV m) ≤ 10 ∧ vT (nV m) ≤ 8 ∧ vA (nV m) ≤ 12 ∧ vN (nV m) ≤ 6 :=
  ⟨h.2.1.P.1, h.2.1.T.1, h.2.1.A.1, h.2.1.N.1, h.2.1.P.2, h.2.1.T.2, h.2.1.A.2, h.2.1.N.2⟩
def vX (V : vV) (kd : Nat) : Nat := if kd = 0 then vP V else if kd = 1 then vT V else vA V
theorem vX_le {V : vV} (w : WF V) {kd : Nat} (h : kd < 3) : vX V kd ≤ nmL kd := by
  rcases (show kd = 0 ∨ kd = 1 ∨ kd = 2 by omega) with rfl | rfl | rfl
  · exact w.P.2
  · exact w.T.2
  · exact w.A.2
theorem MW.x {m : gM} {T : Nat → Nat} {l b kd : Nat} (h : MW m T l b) (hkd : kd < 3) : rdI m 89 0 0 kd = nI (vX (nV m) kd) ∧ vX (nV m) kd ≤ nmL kd := by
  obtain ⟨a1, a2, a3, a4, a5, a6, a7, a8⟩ := h.cnt
  refine ⟨?_, vX_le h.2.1 hkd⟩
  rcases (show kd = 0 ∨ kd = 1 ∨ kd = 2 by omega) with rfl | rfl | rfl
  · exact a1
  · exact a2
  · exact a3
theorem MW.td {m : gM} {T : Nat → Nat} {l b : Nat} (h : MW m T l b) (kd : Nat) (x : Int32) (hkd : kd < 3) (hx : nI kd = x) : s_X13_told m x ∧ (MF (f_X13_told m x).2 ∧ (f_X13_told m x).1 = 0 ∨ (MW (f_X13_told m x).2 T l (b + 1) ∧ nV (f_X13_told m x).2 = nV m ∧ ∃ j, j < vX (nV m) kd ∧ (f_X13_told m x).1 = nI j)) := by
  subst hx
  obtain ⟨x1, x2⟩ := h.x hkd
  have := nmL_le kd
  obtain ⟨a1, a2⟩ := g_tGo h.1 hkd (by omega) x1
  refine ⟨a1, a2.imp id fun z => ?_⟩
  have e := nV_off z.2.1 (by decide)
  exact ⟨⟨z.1, by rw [e]; exact h.2⟩, e, z.2.2⟩
theorem MW.th {m : gM} {T : Nat → Nat} {l b : Nat} (h : MW m T l b) (kd : Nat) (x : Int32) (hkd : kd < 3) (hx : nI kd = x) : s_X13_toldHere m x ∧ (MF (f_X13_toldHere m x).2 ∧ (f_X13_toldHere m x).1 = 0 ∨ ((f_X13_toldHere m x).2 = m ∧ rdI m 73 0 0 0 = 0 ∧ ∃ j, j < vX (nV m) kd ∧ (f_X13_toldHere m x).1 = nI j)) := by
  subst hx
  obtain ⟨x1, x2⟩ := h.x hkd
  have := nmL_le kd
  exact g_td h.1.1 hkd (by omega) x1
theorem MW.nw {m : gM} {T : Nat → Nat} {l b : Nat} (h : MW m T l b) (kd : Nat) (x : Int32) (hkd : kd < 3) (hx : nI kd = x) (hn : vX (nV m) kd < nmL kd) : s_X13_newName m x ∧ (MF (f_X13_newName m x) ∨ (MW (f_X13_newName m x) T l (b + 1) ∧ nV (f_X13_newName m x) = nV m)) := by
  subst hx
  obtain ⟨a1, a2⟩ := g_nw h.1 hkd hn (h.x hkd).1
  refine ⟨a1, a2.imp id fun z => ?_⟩
  have e := nV_off z.2 (by decide)
  exact ⟨⟨z.1, by rw [e]; exact h.2⟩, e⟩
theorem MW.wr {m : gM} {k : Int32} {T : Nat → Nat} {l b : Nat} (h : MW m T l b) (hk : k ≠ 0) : s_X13_wrong m k ∧ MF (f_X13_wrong m k) := g_wr h.z hk
-- ===== person =====
theorem F_per {m : gM} (h : MF m) : s_X13_readPerson_16 m ∧ f_X13_readPerson_16 m = m := by
  simp only [s_X13_readPerson_16, f_X13_readPerson_16, bnd, bndP, m_goF h.i, m_nwF h.i, m_nmF h.i, if_neg h.i, true_and, and_self]
theorem W_per {m : gM} {T : Nat → Nat} {l b : Nat} (h : MW m T l b) (lt : vP (nV m) < 10) {x : Int32} (hx : vp_in x 2) : MW (wrI (wrI m 89 0 0 (14 + vP (nV m)) x) 89 0 0 0 (nI (vP (nV m) + 1))) T l b := by
  obtain ⟨h1, w, f⟩ := h
  have es : ∀ i, i ≠ 0 → i ≠ 14 + vP (nV m) → (nV (wrI (wrI m 89 0 0 (14 + vP (nV m)) x) 89 0 0 0 (nI (vP (nV m) + 1)))).1 i = (nV m).1 i := fun i a b => by
    show rdI (wrI (wrI m 89 0 0 (14 + vP (nV m)) x) 89 0 0 0 (nI (vP (nV m) + 1))) 89 0 0 i = rdI m 89 0 0 i
    rw [rwI, if_neg (by omega), rwI, if_neg (by omega)]
  have e0 : (nV (wrI (wrI m 89 0 0 (14 + vP (nV m)) x) 89 0 0 0 (nI (vP (nV m) + 1)))).1 0 = nI (vP (nV m) + 1) := by
    show rdI (wrI (wrI m 89 0 0 (14 + vP (nV m)) x) 89 0 0 0 (nI (vP (nV m) + 1))) 89 0 0 0 = _
    exact rwS
  have e14 : (nV (wrI (wrI m 89 0 0 (14 + vP (nV m)) x) 89 0 0 0 (nI (vP (nV m) + 1)))).1 (14 + vP (nV m)) = x := by
    show rdI (wrI (wrI m 89 0 0 (14 + vP (nV m)) x) 89 0 0 0 (nI (vP (nV m) + 1))) 89 0 0 (14 + vP (nV m)) = x
    rw [rwI, if_neg (by omega), rwS]
  have e2 : (nV (wrI (wrI m 89 0 0 (14 + vP (nV m)) x) 89 0 0 0 (nI (vP (nV m) + 1)))).2 = (nV m).2 := rfl
  have hMS : MS (wrI (wrI m 89 0 0 (14 + vP (nV m)) x) 89 0 0 0 (nI (vP (nV m) + 1))) T l b := (h1.wr (by omega)).wr (by omega)
  generalize wrI (wrI m 89 0 0 (14 + vP (nV m)) x) 89 0 0 0 (nI (vP (nV m) + 1)) = m' at *
  have eP : vP (nV m') = vP (nV m) + 1 := by
    show nn ((nV m').1 0) = _
    rw [e0, nn_nI (by omega)]
  have e22 : ∀ i, (nV m').2.1 i = (nV m).2.1 i := fun i => by rw [e2]
  obtain ⟨t1, t2, t3⟩ := y_T (V' := nV m') w (fun i hi => es i (by omega) (by omega))
  obtain ⟨a1, a2, a3, a4⟩ := y_A (V' := nV m') w (fun i hi => es i (by omega) (by omega)) (fun i _ _ => e22 i)
  obtain ⟨n1, n2, n3⟩ := y_W (V' := nV m') w (fun i _ _ => e22 i)
  refine ⟨hMS, WF_ext w ⟨by rw [e0]; exact vpi (by omega), t2, a2, n2⟩ (by omega) (by omega) (fun p hp => ?_) t3 a3 a4 n3 (y_L (fun i _ _ => es i (by omega) (by omega))), fun p h1 h2 => ?_⟩
  · by_cases z : p = vP (nV m)
    · subst z
      obtain ⟨f1, f2⟩ := f _ (Nat.le_refl _) lt
      refine Or.inl ⟨by rw [e14]; exact hx, by rw [e22, f1]; exact Or.inl rfl, fun i hi => ?_⟩
      rw [es _ (by omega) (by omega), f2, b_0] at hi
      cases hi
    · exact Or.inr ⟨by omega, es _ (by omega) (by omega), e22 _, es _ (by omega) (by omega)⟩
  · rw [e22, es _ (by omega) (by omega)]
    exact f p (by omega) h2
theorem R_per {m : gM} {T : Nat → Nat} {l b : Nat} (h : MW m T l b) (h3 : rdI m 73 0 0 0 ≠ 3) : s_X13_readPerson m ∧ (MF (f_X13_readPerson m) ∨ MW (f_X13_readPerson m) T l (b + 1)) := by
  obtain ⟨c1, c2, c3, c4, c5, c6, c7, c8⟩ := h.cnt
  have i0 : vp_in 0 502 := vpD (by decide)
  simp only [s_X13_readPerson, f_X13_readPerson, bnd, bndP, show nn 0 = 0 from rfl, c1, i0, true_and]
  by_cases z : nI (vP (nV m)) = 10
  · obtain ⟨w1, w2⟩ := h.wr (k := 2) (by decide)
    obtain ⟨f1, f2⟩ := F_per w2
    simp only [if_pos z, f2, f1, w1, true_and]
    exact Or.inl w2
  · have lt : vP (nV m) < 10 := by
      rcases Nat.lt_or_ge (vP (nV m)) 10 with q | q
      · exact q
      · exact absurd (show nI (vP (nV m)) = 10 by rw [show vP (nV m) = 10 by omega]; rfl) z
    simp only [if_neg z, s_X13_readPerson_16, f_X13_readPerson_16, bnd, bndP]
    obtain ⟨a1, -, a3, a4⟩ := h.go
    have h1 := a3 h3
    rw [← a4] at lt
    clear c1 c2 c3 c4 c5 c6 c7 c8 z a3
    generalize f_X13_goOn m = m1 at *
    obtain ⟨b1, b2⟩ := h1.nw 0 0 (by omega) rfl lt
    rcases b2 with b2 | ⟨b2, b3⟩
    · simp only [a1, b1, m_nmF b2.i, if_neg b2.i, true_and]
      exact Or.inl b2
    · rw [← b3] at lt
      generalize f_X13_newName m1 0 = m2 at *
      obtain ⟨d1, d2⟩ := b2.num 0 1
      rcases d2 with ⟨d2, -⟩ | ⟨d2, d3, d4, d5⟩
      · simp only [a1, b1, d1, if_neg d2.i, true_and]
        exact Or.inl d2
      · rw [← d3] at lt
        generalize f_X13_number m2 0 1 = z at *
        obtain ⟨e1, -⟩ := d2.cnt
        have i1 : vp_in (nI (14 + vP (nV z.2))) 502 := vpi (by omega)
        have er : rdI (wrI z.2 89 0 0 (14 + vP (nV z.2)) z.1) 89 0 0 0 = nI (vP (nV z.2)) := by rw [rwI, if_neg (by omega)]; exact e1
        have q := (W_per d2 lt (n_01 d4 d5)).mono (show b + 1 ≤ b + 1 + 1 + 1 by omega)
        simp only [a1, b1, d1, d2.z, if_true, show nn 0 = 0 from rfl, i0, e1, show (14 : Int32) + nI (vP (nV z.2)) = nI (14 + vP (nV z.2)) from nI_add 14 _, i1, nn_nI (show 14 + vP (nV z.2) < 2 ^ 31 by omega), er, p1, true_and]
        exact Or.inr q
end
