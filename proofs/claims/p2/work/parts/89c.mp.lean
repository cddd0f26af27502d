-- THE REFERENCE'S PAPER
set_option linter.all false
noncomputable section
/-- the paper that is being read in the slot behind the count -/
def PV (V : vV) (q : Nat) : Prop := vA V = q ∧ q < 12 ∧ wfA V q ∧ ∀ k, k < vG V q → wfG V q k
def MP (m : gM) (T : Nat → Nat) (l b q : Nat) : Prop := MW m T l b ∧ PV (nV m) q
theorem MP.mono {m : gM} {T : Nat → Nat} {l b b' q : Nat} (h : MP m T l b q) (k : b' ≤ b) : MP m T l b' q := ⟨h.1.mono k, h.2⟩
/-- only the slot behind the count is other -/
theorem MW.slot {m m' : gM} {T : Nat → Nat} {l b q : Nat} (h : MW m T l b) (eq : vA (nV m) = q) (h12 : q < 12) (hMS : MS m' T l b)
    (e1 : ∀ i, i < 502 → ¬ (58 + 7 * q ≤ i ∧ i < 58 + 7 * q + 7) → ¬ (142 + 30 * q ≤ i ∧ i < 172 + 30 * q) → (nV m').1 i = (nV m).1 i) (e2 : ∀ i, i ≠ 10 + q → i ≠ 22 + q → i ≠ 34 + q → (nV m').2.1 i = (nV m).2.1 i) : MW m' T l b ∧ vA (nV m') = q ∧ vP (nV m') = vP (nV m) ∧ vT (nV m') = vT (nV m) := by
  obtain ⟨h1, w, f⟩ := h
  have h10 := w.P.2
  have e22 := e1 2 (by omega) (by omega) (by omega)
  have eA : vA (nV m') = q := by
    rw [← eq]
    unfold vA
    rw [e22]
  obtain ⟨p1, p2, p3⟩ := y_P (V' := nV m') w (fun i hi => e1 i (by omega) (by omega) (by omega)) (fun i _ => e2 i (by omega) (by omega) (by omega))
  obtain ⟨t1, t2, t3⟩ := y_T (V' := nV m') w (fun i hi => e1 i (by omega) (by omega) (by omega))
  obtain ⟨n1, n2, n3⟩ := y_W (V' := nV m') w (fun i _ _ => e2 i (by omega) (by omega) (by omega))
  refine ⟨⟨hMS, WF_ext w ⟨p2, t2, by rw [e22]; exact w.1.2.2.1, n2⟩ (by omega) (by omega) p3 t3 (fun k hk => Or.inr ⟨by omega, fun j hj => e1 _ (by omega) (by omega) (by omega), e2 _ (by omega) (by omega) (by omega), e2 _ (by omega) (by omega) (by omega), e2 _ (by omega) (by omega) (by omega)⟩) (fun k hk => Or.inr ⟨by omega, e1 _ (by omega) (by omega) (by omega), fun i j hi hj => e1 _ (by unfold gi; omega) (by unfold gi; omega) (by unfold gi; omega)⟩) n3 (y_L (fun i _ _ => e1 i (by omega) (by omega) (by omega))), fun p h1 h2 => ?_⟩, eA, p1, t1⟩
  rw [e2 _ (by omega) (by omega) (by omega), e1 _ (by omega) (by omega) (by omega)]
  exact f p (by omega) h2
-- its cells
theorem U_own {m : gM} {T : Nat → Nat} {l b q : Nat} (h : MP m T l b q) : MP (wrI m 89 0 0 (58 + 7 * q + 4) 1) T l b q := by
  obtain ⟨h, eq, h12, hA, hG⟩ := h
  obtain ⟨s1, s2, s3, s4⟩ := h.slot (m' := wrI m 89 0 0 (58 + 7 * q + 4) 1) eq h12 (h.1.wr (by omega)) (fun i _ a _ => by rw [w89, if_neg (by omega)]) (fun i _ _ _ => by rw [w89'])
  have ev : ∀ i, (nV (wrI m 89 0 0 (58 + 7 * q + 4) 1)).1 i = if i = 58 + 7 * q + 4 then 1 else (nV m).1 i := fun i => w89
  have e2 : (nV (wrI m 89 0 0 (58 + 7 * q + 4) 1)).2 = (nV m).2 := rfl
  generalize wrI m 89 0 0 (58 + 7 * q + 4) 1 = m' at *
  refine ⟨s1, s2, h12, ?_, fun k hk => ?_⟩
  · unfold wfA at hA ⊢
    rw [s3, e2, ev, if_neg (by omega), ev, if_neg (by omega), ev, if_neg (by omega), ev, if_neg (by omega), ev, if_pos rfl, ev, if_neg (by omega), ev, if_neg (by omega)]
    obtain ⟨a1, a2, a3, a4, a5, a6⟩ := hA
    exact ⟨a1, a2, a3, a4, vpD (by decide), a6⟩
  · have hk' : k < vG (nV m) q := by
      unfold vG at hk ⊢
      rwa [ev, if_neg (by omega)] at hk
    have := hG k hk'
    unfold wfG gi at this ⊢
    rw [s3, s4, ev, if_neg (by omega), ev, if_neg (by omega), ev, if_neg (by omega), ev, if_neg (by omega), ev, if_neg (by omega)]
    exact this
theorem U_rst {m : gM} {T : Nat → Nat} {l b q : Nat} {v : Int32} (h : MP m T l b q) (hv : vp_in v (vP (nV m))) : MP (wrI m 89 0 0 (58 + 7 * q + 6) v) T l b q := by
  obtain ⟨h, eq, h12, hA, hG⟩ := h
  obtain ⟨s1, s2, s3, s4⟩ := h.slot (m' := wrI m 89 0 0 (58 + 7 * q + 6) v) eq h12 (h.1.wr (by omega)) (fun i _ a _ => by rw [w89, if_neg (by omega)]) (fun i _ _ _ => by rw [w89'])
  have ev : ∀ i, (nV (wrI m 89 0 0 (58 + 7 * q + 6) v)).1 i = if i = 58 + 7 * q + 6 then v else (nV m).1 i := fun i => w89
  have e2 : (nV (wrI m 89 0 0 (58 + 7 * q + 6) v)).2 = (nV m).2 := rfl
  generalize wrI m 89 0 0 (58 + 7 * q + 6) v = m' at *
  refine ⟨s1, s2, h12, ?_, fun k hk => ?_⟩
  · unfold wfA at hA ⊢
    rw [s3, e2, ev, if_neg (by omega), ev, if_neg (by omega), ev, if_neg (by omega), ev, if_neg (by omega), ev, if_neg (by omega), ev, if_neg (by omega), ev, if_pos rfl]
    obtain ⟨a1, a2, a3, a4, a5, a6, a7, a8⟩ := hA
    exact ⟨a1, a2, a3, a4, a5, a6, Or.inr hv, a8⟩
  · have hk' : k < vG (nV m) q := by
      unfold vG at hk ⊢
      rwa [ev, if_neg (by omega)] at hk
    have := hG k hk'
    unfold wfG gi at this ⊢
    rw [s3, s4, ev, if_neg (by omega), ev, if_neg (by omega), ev, if_neg (by omega), ev, if_neg (by omega), ev, if_neg (by omega)]
    exact this
theorem U_wit {m : gM} {T : Nat → Nat} {l b q j : Nat} (h : MP m T l b q) (hj : j < vP (nV m)) (h4 : fb_ct (bt ((nV m).2.1 (22 + q))) 10 < 4) : MP (wrI m 93 0 0 (22 + q) (rdI m 93 0 0 (22 + q) ||| (1 <<< (nI j &&& 31)))) T l b q := by
  obtain ⟨h, eq, h12, hA, hG⟩ := h
  have h10 := h.2.1.P.2
  obtain ⟨s1, s2, s3, s4⟩ := h.slot (m' := wrI m 93 0 0 (22 + q) (rdI m 93 0 0 (22 + q) ||| (1 <<< (nI j &&& 31)))) eq h12 (h.1.wr (by omega)) (fun i _ a _ => by rw [w93']) (fun i _ a _ => by rw [w93, if_neg a])
  have ev : ∀ i, (nV (wrI m 93 0 0 (22 + q) (rdI m 93 0 0 (22 + q) ||| (1 <<< (nI j &&& 31))))).2.1 i = if i = 22 + q then (nV m).2.1 (22 + q) ||| (1 <<< (nI j &&& 31)) else (nV m).2.1 i := fun i => w93
  have e1 : (nV (wrI m 93 0 0 (22 + q) (rdI m 93 0 0 (22 + q) ||| (1 <<< (nI j &&& 31))))).1 = (nV m).1 := rfl
  generalize wrI m 93 0 0 (22 + q) (rdI m 93 0 0 (22 + q) ||| (1 <<< (nI j &&& 31))) = m' at *
  refine ⟨s1, s2, h12, ?_, fun k hk => ?_⟩
  · unfold wfA at hA ⊢
    rw [s3, e1, ev, if_neg (by omega), ev, if_neg (by omega), ev, if_pos rfl]
    obtain ⟨a1, a2, a3, a4, a5, a6, a7, a8, a9, a10, a11⟩ := hA
    exact ⟨a1, a2, a3, a4, a5, a6, a7, a8, a9, or_in hj (by omega) a10, by have := or_ct (x := (nV m).2.1 (22 + q)) (j := j) (by omega); omega⟩
  · have hk' : k < vG (nV m) q := by
      unfold vG at hk ⊢
      rwa [e1] at hk
    have := hG k hk'
    unfold wfG at this ⊢
    rw [s3, s4, e1]
    exact this
theorem U_str {m : gM} {T : Nat → Nat} {l b q : Nat} {v : Int32} (h : MP m T l b q) : MP (wrI m 91 0 0 q v) T l b q := by
  obtain ⟨h, eq, h12, hA, hG⟩ := h
  obtain ⟨s1, s2, s3, s4⟩ := h.slot (m' := wrI m 91 0 0 q v) eq h12 (h.1.wr (by omega)) (fun i _ a _ => rfl) (fun i _ a _ => rfl)
  exact ⟨s1, eq, h12, hA, hG⟩
def uGiv (m : gM) (q g : Nat) (x3 x4 x5 x6 x7 : Int32) : gM := wrI (wrI (wrI (wrI (wrI (wrI m 89 0 0 (gi q g 0) x3) 89 0 0 (gi q g 0 + 1) x4) 89 0 0 (gi q g 0 + 2) x5) 89 0 0 (gi q g 0 + 3) x6) 89 0 0 (gi q g 0 + 4) x7) 89 0 0 (58 + 7 * q + 5) (nI (g + 1))
theorem U_giv {m : gM} {T : Nat → Nat} {l b q g : Nat} {x3 x4 x5 x6 x7 : Int32} (h : MP m T l b q) (eg : vG (nV m) q = g) (hg : g < 6) (h3 : vp_in x3 (vT (nV m))) (h4 : vp_in x4 (vP (nV m))) (h5 : vp_in x5 3) (h6 : x5 = 0 ∧ x6 = -2 ∨ x5 ≠ 0 ∧ vp_in x6 (vP (nV m))) (h7 : x7 = -2 ∨ vp_in x7 (vP (nV m))) :
    MP (uGiv m q g x3 x4 x5 x6 x7) T l b q ∧ vG (nV (uGiv m q g x3 x4 x5 x6 x7)) q = g + 1 := by
  obtain ⟨h, eq, h12, hA, hG⟩ := h
  have egi : ∀ k j, gi q k j = 142 + 30 * q + 5 * k + j := fun k j => by unfold gi; omega
  have ev : ∀ i, (nV (uGiv m q g x3 x4 x5 x6 x7)).1 i = if i = 58 + 7 * q + 5 then nI (g + 1) else if i = gi q g 0 + 4 then x7 else if i = gi q g 0 + 3 then x6 else if i = gi q g 0 + 2 then x5 else if i = gi q g 0 + 1 then x4 else if i = gi q g 0 then x3 else (nV m).1 i := fun i => by
    unfold uGiv
    rw [w89, w89, w89, w89, w89, w89]
  have e2 : (nV (uGiv m q g x3 x4 x5 x6 x7)).2 = (nV m).2 := rfl
  have hMS : MS (uGiv m q g x3 x4 x5 x6 x7) T l b := (((((h.1.wr (by omega)).wr (by omega)).wr (by omega)).wr (by omega)).wr (by omega)).wr (by omega)
  generalize uGiv m q g x3 x4 x5 x6 x7 = m' at *
  have es : ∀ i, i ≠ 58 + 7 * q + 5 → ¬ (gi q g 0 ≤ i ∧ i < gi q g 0 + 5) → (nV m').1 i = (nV m).1 i := fun i a c => by
    rw [ev, if_neg a, if_neg (by omega), if_neg (by omega), if_neg (by omega), if_neg (by omega), if_neg (by omega)]
  have e0 := egi g 0
  obtain ⟨s1, s2, s3, s4⟩ := h.slot (m' := m') eq h12 hMS (fun i _ a c => es i (by omega) (by omega)) (fun i _ _ _ => by rw [e2])
  have eG : vG (nV m') q = g + 1 := by
    unfold vG
    rw [ev, if_pos rfl, nn_nI (by omega)]
  refine ⟨⟨s1, s2, h12, ?_, fun k hk => ?_⟩, eG⟩
  · unfold wfA at hA ⊢
    rw [s3, e2, es (58 + 7 * q) (by omega) (by omega), es (58 + 7 * q + 1) (by omega) (by omega), es (58 + 7 * q + 2) (by omega) (by omega), es (58 + 7 * q + 3) (by omega) (by omega), es (58 + 7 * q + 4) (by omega) (by omega), es (58 + 7 * q + 6) (by omega) (by omega), ev, if_pos rfl]
    obtain ⟨a1, a2, a3, a4, a5, a6, a7⟩ := hA
    exact ⟨a1, a2, a3, a4, a5, vpi (by omega), a7⟩
  · rw [eG] at hk
    unfold wfG
    rw [s3, s4]
    have q0 := egi k 0
    have q1 := egi k 1
    have q2 := egi k 2
    have q3 := egi k 3
    have q4 := egi k 4
    by_cases z : k = g
    · subst z
      have c0 : (nV m').1 (gi q k 0) = x3 := by rw [ev, if_neg (by omega), if_neg (by omega), if_neg (by omega), if_neg (by omega), if_neg (by omega), if_pos rfl]
      have c1 : (nV m').1 (gi q k 1) = x4 := by rw [ev, if_neg (by omega), if_neg (by omega), if_neg (by omega), if_neg (by omega), if_pos (by omega)]
      have c2 : (nV m').1 (gi q k 2) = x5 := by rw [ev, if_neg (by omega), if_neg (by omega), if_neg (by omega), if_pos (by omega)]
      have c3 : (nV m').1 (gi q k 3) = x6 := by rw [ev, if_neg (by omega), if_neg (by omega), if_pos (by omega)]
      have c4 : (nV m').1 (gi q k 4) = x7 := by rw [ev, if_neg (by omega), if_pos (by omega)]
      rw [c0, c1, c2, c3, c4]
      exact ⟨h3, h4, h5, h6, h7⟩
    · rw [es _ (by omega) (by omega), es _ (by omega) (by omega), es _ (by omega) (by omega), es _ (by omega) (by omega), es _ (by omega) (by omega)]
      exact hG k (by omega)
-- ===== behind a fault =====
def PR (T : Nat → Nat) (l b q : Nat) (z : Int32 × gM) : Prop := gB z.1 ∧ (MF z.2 ∨ MP z.2 T l b q ∧ (z.1 ≠ 0 → rdI z.2 73 0 0 0 ≠ 3))
theorem PR.mono {T : Nat → Nat} {l b b' q : Nat} {z : Int32 × gM} (h : PR T l b q z) (k : b' ≤ b) : PR T l b' q z := ⟨h.1, h.2.imp id (fun x => ⟨x.1.mono k, x.2⟩)⟩
theorem gB_0 : gB 0 := Or.inl rfl
theorem gB_1 : gB 1 := Or.inr rfl
section
variable {gv : gM → Int32 → Int32 → Int32 × gM} {gs : gM → Int32 → Int32 → Prop} {m : gM} {T : Nat → Nat} {l b q : Nat}
theorem F_26 (h : MF m) (h12 : q < 12) : s_X13_readPart_26 gv gs m (nI (58 + 7 * q)) ∧ PR T l b q (f_X13_readPart_26 gv m (nI (58 + 7 * q))) := by
  have i1 : vp_in (nI (58 + 7 * q + 4)) 502 := vpi (by omega)
  simp only [s_X13_readPart_26, f_X13_readPart_26, bnd, bndP, p4, nn_nI (show 58 + 7 * q + 4 < 2 ^ 31 by omega), i1, true_and]
  exact ⟨gB_1, Or.inl (h.wr (by omega))⟩
theorem F_119 (h : MF m) (h12 : q < 12) (x : Int32) : s_X13_readPart_119 gv gs m (nI q) x ∧ PR T l b q (f_X13_readPart_119 gv m (nI q) x) := by
  have i1 : vp_in (nI (22 + q)) 65 := vpi (by omega)
  simp only [s_X13_readPart_119, f_X13_readPart_119, s_X13_readPart_143, f_X13_readPart_143, bnd, bndP, if_neg h.i, show (22 : Int32) + nI q = nI (22 + q) from nI_add 22 _, nn_nI (show 22 + q < 2 ^ 31 by omega), i1, true_and]
  exact ⟨gB_1, Or.inl (h.wr (by omega))⟩
theorem F_68 (h : MF m) (h12 : q < 12) (x2 : Int32) : s_X13_readPart_68 gv gs m (nI q) x2 ∧ PR T l b q (f_X13_readPart_68 gv m (nI q) x2) := by
  simp only [s_X13_readPart_68, f_X13_readPart_68, bnd, bndP, m_goF h.i, m_toF h.i, if_neg h.i, true_and]
  exact F_119 h h12 0
theorem F_192 (h : MF m) (h12 : q < 12) : s_X13_readPart_192 gv gs m (nI (58 + 7 * q)) ∧ PR T l b q (f_X13_readPart_192 gv m (nI (58 + 7 * q))) := by
  have i1 : vp_in (nI (58 + 7 * q + 6)) 502 := vpi (by omega)
  simp only [s_X13_readPart_192, f_X13_readPart_192, bnd, bndP, m_goF h.i, m_toF h.i, p6, nn_nI (show 58 + 7 * q + 6 < 2 ^ 31 by omega), i1, true_and]
  exact ⟨gB_1, Or.inl (h.wr (by omega))⟩
theorem F_301 (h : MF m) (h12 : q < 12) (x : Int32) : s_X13_readPart_301 gv gs m (nI q) x ∧ PR T l b q (f_X13_readPart_301 gv m (nI q) x) := by
  have i1 : vp_in (nI q) 12 := vpi (by omega)
  simp only [s_X13_readPart_301, f_X13_readPart_301, s_X13_readPart_322, f_X13_readPart_322, bnd, bndP, if_neg h.i, nn_nI (show q < 2 ^ 31 by omega), i1, true_and]
  exact ⟨gB_1, Or.inl (h.wr (by omega))⟩
theorem F_240 (h : MF m) (h12 : q < 12) (x2 : Int32) : s_X13_readPart_240 gv gs m (nI q) x2 ∧ PR T l b q (f_X13_readPart_240 gv m (nI q) x2) := by
  simp only [s_X13_readPart_240, f_X13_readPart_240, bnd, bndP, m_goF h.i, m_toF h.i, if_neg h.i, true_and]
  exact F_301 h h12 0
theorem F_108 (h : MF m) (x1 x2 x3 x4 x5 x6 x7 : Int32) : s_X13_readGive_b_108 gv gs m x1 x2 x3 x4 x5 x6 x7 ∧ PR T l b q (f_X13_readGive_b_108 gv m x1 x2 x3 x4 x5 x6 x7) := by
  simp only [s_X13_readGive_b_108, f_X13_readGive_b_108, if_neg h.i, true_and]
  exact ⟨gB_0, Or.inl h⟩
theorem F_88 (h : MF m) (x1 x2 x3 x4 x5 x6 x7 : Int32) : s_X13_readGive_b_88 gv gs m x1 x2 x3 x4 x5 x6 x7 ∧ PR T l b q (f_X13_readGive_b_88 gv m x1 x2 x3 x4 x5 x6 x7) := by
  simp only [s_X13_readGive_b_88, f_X13_readGive_b_88, f_isWF h, s_isW, if_true, true_and]
  exact F_108 h x1 x2 x3 x4 x5 x6 x7
theorem F_62 (h : MF m) (x1 x2 x3 x4 x5 : Int32) : s_X13_readGive_b_62 gv gs m x1 x2 x3 x4 x5 ∧ PR T l b q (f_X13_readGive_b_62 gv m x1 x2 x3 x4 x5) := by
  simp only [s_X13_readGive_b_62, f_X13_readGive_b_62, bnd, bndP, m_goF h.i, m_tdF h.i, true_and]
  split
  · exact F_88 h _ _ _ _ _ _ _
  · exact F_88 h _ _ _ _ _ _ _
theorem F_18 (h : MF m) (x1 x2 : Int32) : s_X13_readGive_b_18 gv gs m x1 x2 ∧ PR T l b q (f_X13_readGive_b_18 gv m x1 x2) := by
  simp only [s_X13_readGive_b_18, f_X13_readGive_b_18, bnd, bndP, m_goF h.i, m_tdF h.i, f_isWF h, s_isW, if_true, true_and]
  exact F_62 h _ _ _ _ _
-- ===== its parts, without a fault =====
theorem R_own (h : MP m T l b q) (h3 : rdI m 73 0 0 0 = 0) : s_X13_readPart_26 gv gs m (nI (58 + 7 * q)) ∧ PR T l b q (f_X13_readPart_26 gv m (nI (58 + 7 * q))) := by
  have h12 := h.2.2.1
  have i1 : vp_in (nI (58 + 7 * q + 4)) 502 := vpi (by omega)
  simp only [s_X13_readPart_26, f_X13_readPart_26, bnd, bndP, p4, nn_nI (show 58 + 7 * q + 4 < 2 ^ 31 by omega), i1, true_and]
  exact ⟨gB_1, Or.inr ⟨U_own h, fun _ => by rw [rwN (by decide), h3]; decide⟩⟩
theorem MP.go (h : MP m T l b q) : s_X13_goOn m ∧ MP (f_X13_goOn m) T l b q ∧ nV (f_X13_goOn m) = nV m := by
  obtain ⟨a1, a2, a3, a4⟩ := h.1.go
  exact ⟨a1, ⟨a2, by rw [a4]; exact h.2⟩, a4⟩
theorem R_wit (h : MP m T l b q) (h4 : fb_ct (bt ((nV m).2.1 (22 + q))) 10 < 4) : s_X13_readPart_68 gv gs m (nI q) (nI (58 + 7 * q)) ∧ PR T l b q (f_X13_readPart_68 gv m (nI q) (nI (58 + 7 * q))) := by
  have h12 := h.2.2.1
  simp only [s_X13_readPart_68, f_X13_readPart_68, bnd, bndP]
  obtain ⟨a1, h1, a4⟩ := h.go
  rw [← a4] at h4
  generalize f_X13_goOn m = m1 at *
  obtain ⟨k1, k2⟩ := h1.1.th 0 0 (by omega) rfl
  rcases k2 with ⟨k2, -⟩ | ⟨k2, k3, y, hy, ey⟩
  · simp only [a1, k1, if_neg k2.i, true_and]
    exact F_119 k2 h12 _
  · have i1 : vp_in (nI (58 + 7 * q)) 502 := vpi (by omega)
    have i2 : vp_in (nI (22 + q)) 65 := vpi (by omega)
    obtain ⟨w1, w2⟩ := h1.1.wr (k := 3) (by decide)
    obtain ⟨f1, f2⟩ := F_119 (gv := gv) (gs := gs) (T := T) (l := l) (b := b) w2 h12 (nI y)
    have bad : s_X13_readPart_114 gv gs m1 (nI q) (nI y) ∧ PR T l b q (f_X13_readPart_114 gv m1 (nI q) (nI y)) := by
      simp only [s_X13_readPart_114, f_X13_readPart_114, bnd, bndP, w1, true_and]
      exact ⟨f1, f2⟩
    simp only [a1, k1, k2, ey, h1.1.z, if_true, show (22 : Int32) + nI q = nI (22 + q) from nI_add 22 _, p0, i1, i2, true_and]
    split
    · exact bad
    · split
      · exact bad
      · simp only [s_X13_readPart_119, f_X13_readPart_119, s_X13_readPart_143, f_X13_readPart_143, bnd, bndP, h1.1.z, if_true, show (22 : Int32) + nI q = nI (22 + q) from nI_add 22 _, nn_nI (show 22 + q < 2 ^ 31 by omega), i2, true_and]
        exact ⟨gB_1, Or.inr ⟨U_wit h1 hy h4, fun _ => by rw [rwN (by decide), k3]; decide⟩⟩
theorem R_rst (h : MP m T l b q) : s_X13_readPart_192 gv gs m (nI (58 + 7 * q)) ∧ PR T l b q (f_X13_readPart_192 gv m (nI (58 + 7 * q))) := by
  have h12 := h.2.2.1
  have i1 : vp_in (nI (58 + 7 * q + 6)) 502 := vpi (by omega)
  simp only [s_X13_readPart_192, f_X13_readPart_192, bnd, bndP, p6, nn_nI (show 58 + 7 * q + 6 < 2 ^ 31 by omega), i1, true_and]
  obtain ⟨a1, h1, a4⟩ := h.go
  generalize f_X13_goOn m = m1 at *
  obtain ⟨k1, k2⟩ := h1.1.th 0 0 (by omega) rfl
  rcases k2 with ⟨k2, -⟩ | ⟨k2, k3, y, hy, ey⟩
  · simp only [a1, k1, true_and]
    exact ⟨gB_1, Or.inl (k2.wr (by omega))⟩
  · have h10 := h1.1.2.1.P.2
    simp only [a1, k1, k2, ey, true_and]
    exact ⟨gB_1, Or.inr ⟨U_rst h1 (vpi hy (by have : vX (nV m1) 0 = vP (nV m1) := rfl; omega)), fun _ => by rw [rwN (by decide), k3]; decide⟩⟩
theorem R_str (h : MP m T l b q) : s_X13_readPart_240 gv gs m (nI q) (nI (58 + 7 * q)) ∧ PR T l b q (f_X13_readPart_240 gv m (nI q) (nI (58 + 7 * q))) := by
  have h12 := h.2.2.1
  simp only [s_X13_readPart_240, f_X13_readPart_240, bnd, bndP]
  obtain ⟨a1, h1, a4⟩ := h.go
  generalize f_X13_goOn m = m1 at *
  obtain ⟨k1, k2⟩ := h1.1.th 2 2 (by omega) rfl
  rcases k2 with ⟨k2, -⟩ | ⟨k2, k3, y, hy, ey⟩
  · simp only [a1, k1, if_neg k2.i, true_and]
    exact F_301 k2 h12 _
  · have hy' : y < vA (nV m1) := hy
    have := h1.2.1
    have i0 : vp_in (nI (58 + 7 * y)) 502 := vpi (by omega)
    have i1 : vp_in (nI (58 + 7 * q)) 502 := vpi (by omega)
    have i2 : vp_in (nI q) 12 := vpi (by omega)
    obtain ⟨w1, w2⟩ := h1.1.wr (k := 3) (by decide)
    obtain ⟨f1, f2⟩ := F_301 (gv := gv) (gs := gs) (T := T) (l := l) (b := b) w2 h12 (nI y)
    have bad : s_X13_readPart_296 gv gs m1 (nI q) (nI y) ∧ PR T l b q (f_X13_readPart_296 gv m1 (nI q) (nI y)) := by
      simp only [s_X13_readPart_296, f_X13_readPart_296, bnd, bndP, w1, true_and]
      exact ⟨f1, f2⟩
    have good : s_X13_readPart_301 gv gs m1 (nI q) (nI y) ∧ PR T l b q (f_X13_readPart_301 gv m1 (nI q) (nI y)) := by
      simp only [s_X13_readPart_301, f_X13_readPart_301, s_X13_readPart_322, f_X13_readPart_322, bnd, bndP, h1.1.z, if_true, nn_nI (show q < 2 ^ 31 by omega), i2, true_and]
      exact ⟨gB_1, Or.inr ⟨U_str h1, fun _ => by rw [rwN (by decide), k3]; decide⟩⟩
    simp only [a1, k1, k2, ey, h1.1.z, if_true, e58, p0, i0, i1, i2, true_and]
    split
    · split
      · exact bad
      · exact good
    · exact bad
theorem R_part (h : MP m T l b q) (hg : rdI m 73 0 0 0 = 0 → gs m (nI q) (nI (58 + 7 * q)) ∧ PR T l b q (gv m (nI q) (nI (58 + 7 * q)))) : s_X13_readPart gv gs m (nI q) (nI (58 + 7 * q)) ∧ PR T l b q (f_X13_readPart gv m (nI q) (nI (58 + 7 * q))) := by
  have h12 := h.2.2.1
  have h10 := h.1.2.1.P.2
  have i1 : vp_in (nI (58 + 7 * q + 4)) 502 := vpi (by omega)
  have i2 : vp_in (nI (22 + q)) 65 := vpi (by omega)
  have i3 : vp_in (nI (58 + 7 * q + 6)) 502 := vpi (by omega)
  have i4 : vp_in (nI q) 12 := vpi (by omega)
  simp only [s_X13_readPart, f_X13_readPart, bnd, bndP, s_isW, s_bit, p4, p6, show (22 : Int32) + nI q = nI (22 + q) from nI_add 22 _, nn_nI (show 58 + 7 * q + 4 < 2 ^ 31 by omega), nn_nI (show 58 + 7 * q + 6 < 2 ^ 31 by omega), nn_nI (show 22 + q < 2 ^ 31 by omega), nn_nI (show q < 2 ^ 31 by omega), i1, i2, i3, i4, true_and]
  obtain ⟨w1, w2⟩ := h.1.wr (k := 2) (by decide)
  obtain ⟨v1, v2⟩ := h.1.wr (k := 3) (by decide)
  by_cases z1 : f_X13_isWord m 8 = 0
  · simp only [if_pos z1]
    by_cases z2 : f_X13_isWord m 14 = 0
    · simp only [if_pos z2]
      by_cases z3 : f_X13_isWord m 15 = 0
      · simp only [if_pos z3]
        by_cases z4 : f_X13_isWord m 19 = 0
        · simp only [if_pos z4]
          by_cases z5 : f_X13_isWord m 20 = 0
          · simp only [if_pos z5, true_and]
            exact ⟨gB_0, Or.inr ⟨h, fun z => absurd rfl z⟩⟩
          · simp only [if_neg z5]
            split
            · simp only [w1, true_and]
              exact F_240 w2 h12 _
            · exact R_str h
        · simp only [if_neg z4]
          split
          · exact R_rst h
          · simp only [v1, true_and]
            exact F_192 v2 h12
      · obtain ⟨g1, g2⟩ := hg (f_isW1 z3)
        have g3 := g2.1
        simp only [if_neg z3, g1, g3, true_and]
        exact g2
    · simp only [if_neg z2]
      by_cases y : f_J6_bitCount_0f7a4 m (rdI m 93 0 0 (22 + q)) = 4
      · simp only [if_pos y, w1, true_and]
        exact F_68 w2 h12 _
      · simp only [if_neg y]
        have a10 := h.2.2.2.1.2.2.2.2.2.2.2.2.2.1
        have a11 := h.2.2.2.1.2.2.2.2.2.2.2.2.2.2
        have e : f_J6_bitCount_0f7a4 m (rdI m 93 0 0 (22 + q)) = nI (fb_ct (bt ((nV m).2.1 (22 + q))) 10) := bc10 h10 a10
        refine R_wit h ?_
        rcases Nat.lt_or_ge (fb_ct (bt ((nV m).2.1 (22 + q))) 10) 4 with u | u
        · exact u
        · exact absurd (by rw [e, show fb_ct (bt ((nV m).2.1 (22 + q))) 10 = 4 by omega]; rfl) y
  · simp only [if_neg z1]
    split
    · simp only [v1, true_and]
      exact F_26 v2 h12
    · exact R_own h (f_isW1 z1)
end
end
