-- THE REFERENCE'S LINES, ITS TEXT
set_option linter.all false
noncomputable section
theorem W_lin {m : gM} {T : Nat → Nat} {l b : Nat} {v : Int32} (h : MW m T l b) : MW (wrI m 89 0 0 3 v) T l b := by
  obtain ⟨h1, w, f⟩ := h
  have ev : ∀ i, (nV (wrI m 89 0 0 3 v)).1 i = if i = 3 then v else (nV m).1 i := fun i => w89
  have e2 : (nV (wrI m 89 0 0 3 v)).2 = (nV m).2 := rfl
  have hMS : MS (wrI m 89 0 0 3 v) T l b := h1.wr (by omega)
  generalize wrI m 89 0 0 3 v = m' at *
  have es : ∀ i, i ≠ 3 → (nV m').1 i = (nV m).1 i := fun i a => by rw [ev, if_neg a]
  have e22 : ∀ i, (nV m').2.1 i = (nV m).2.1 i := fun i => by rw [e2]
  obtain ⟨p1, p2, p3⟩ := y_P (V' := nV m') w (fun i hi => es i (by omega)) (fun i _ => e22 i)
  obtain ⟨t1, t2, t3⟩ := y_T (V' := nV m') w (fun i hi => es i (by omega))
  obtain ⟨a1, a2, a3, a4⟩ := y_A (V' := nV m') w (fun i hi => es i (by omega)) (fun i _ _ => e22 i)
  obtain ⟨n1, n2, n3⟩ := y_W (V' := nV m') w (fun i _ _ => e22 i)
  refine ⟨hMS, WF_ext w ⟨p2, t2, a2, n2⟩ (by omega) (by omega) p3 t3 a3 a4 n3 (y_L (fun i _ _ => es i (by omega))), fun p h1 h2 => ?_⟩
  rw [e22, es _ (by omega)]
  exact f p (by omega) h2
theorem F_138 {m : gM} (h : MF m) : s_X13_readLine_138 m ∧ MF (f_X13_readLine_138 m) := by
  have i3 : vp_in 3 502 := vpD (by decide)
  simp only [s_X13_readLine_138, f_X13_readLine_138, bnd, bndP, m_goF h.i, i3, true_and]
  exact h.wr (by omega)
theorem R_118 {m : gM} {T : Nat → Nat} {l b : Nat} (h : MF m ∨ MW m T l b) : s_X13_readLine_118 m ∧ (MF (f_X13_readLine_118 m) ∨ MW (f_X13_readLine_118 m) T l b) := by
  simp only [s_X13_readLine_118, f_X13_readLine_118, bnd, bndP]
  rcases h with h | h
  · obtain ⟨f1, f2⟩ := F_138 h
    simp only [if_neg h.i]
    exact ⟨f1, Or.inl f2⟩
  · simp only [h.z, if_true]
    by_cases z : rdI m 73 0 0 0 = 2
    · have i3 : vp_in 3 502 := vpD (by decide)
      obtain ⟨a1, a2, -⟩ := h.go
      simp only [if_pos z, s_X13_readLine_138, f_X13_readLine_138, bnd, bndP, a1, i3, true_and]
      exact Or.inr (W_lin a2)
    · obtain ⟨w1, w2⟩ := h.wr (k := 1) (by decide)
      obtain ⟨f1, f2⟩ := F_138 w2
      simp only [if_neg z, w1, f1, true_and]
      exact Or.inl f2
theorem R_15 {m : gM} {T : Nat → Nat} {l b : Nat} (h : MW m T l b) (h3 : rdI m 73 0 0 0 ≠ 3) (y : Int32) : s_X13_readLine_15 m y ∧ (MF (f_X13_readLine_15 m y) ∨ MW (f_X13_readLine_15 m y) T l (b + 1)) := by
  have go : ∀ {s : Prop} {m' : gM}, s ∧ (MF m' ∨ MW m' T l (b + 1)) → (s ∧ s_X13_readLine_118 m') ∧ (MF (f_X13_readLine_118 m') ∨ MW (f_X13_readLine_118 m') T l (b + 1)) := fun {s m'} z => by
    obtain ⟨a, c⟩ := z
    obtain ⟨d, e⟩ := R_118 c
    exact ⟨⟨a, d⟩, e⟩
  unfold s_X13_readLine_15 f_X13_readLine_15
  simp only [bnd, bndP]
  by_cases y0 : y = 0
  · simp only [if_pos y0]; exact go (R_lnd h h3)
  simp only [if_neg y0]
  by_cases y1 : y = 1
  · simp only [if_pos y1]; exact go (R_per h h3)
  simp only [if_neg y1]
  by_cases y2 : y = 2
  · simp only [if_pos y2]; exact go (R_chi h h3)
  simp only [if_neg y2]
  by_cases y3 : y = 3
  · simp only [if_pos y3]; exact go (R_wed h h3)
  simp only [if_neg y3]
  by_cases y4 : y = 4
  · simp only [if_pos y4]; exact go (R_thg h h3)
  simp only [if_neg y4]
  by_cases y5 : y = 5
  · simp only [if_pos y5]; exact go (R_pap h h3)
  simp only [if_neg y5]
  by_cases y6 : y = 6
  · simp only [if_pos y6]; exact go (R_los h h3)
  simp only [if_neg y6]
  by_cases y7 : y = 7
  · simp only [if_pos y7]; exact go (R_die h h3)
  simp only [if_neg y7]
  obtain ⟨w1, w2⟩ := h.wr (k := 1) (by decide)
  exact go ⟨w1, Or.inl w2⟩
theorem R_line {m : gM} {T : Nat → Nat} {l b : Nat} (h : MW m T l b) (h3 : rdI m 73 0 0 0 ≠ 3) : s_X13_readLine m ∧ (MF (f_X13_readLine m) ∨ MW (f_X13_readLine m) T l (b + 1)) := by
  simp only [s_X13_readLine, f_X13_readLine]
  by_cases z : rdI m 73 0 0 0 = 0
  · simp only [if_pos z]
    exact R_15 h h3 _
  · simp only [if_neg z]
    exact R_15 h h3 _
-- ===== the text =====
theorem WF_cp {V V' : vV} (w : WF V) (e1 : ∀ i, i < 502 → V'.1 i = V.1 i) (e2 : ∀ i, i < 65 → V'.2.1 i = V.2.1 i) : WF V' := by
  obtain ⟨p1, p2, p3⟩ := y_P (V' := V') w (fun i hi => e1 i (by omega)) (fun i _ => e2 i (by omega))
  obtain ⟨t1, t2, t3⟩ := y_T (V' := V') w (fun i hi => e1 i (by omega))
  obtain ⟨a1, a2, a3, a4⟩ := y_A (V' := V') w (fun i hi => e1 i (by omega)) (fun i _ _ => e2 i (by omega))
  obtain ⟨n1, n2, n3⟩ := y_W (V' := V') w (fun i _ _ => e2 i (by omega))
  exact WF_ext w ⟨p2, t2, a2, n2⟩ (by omega) (by omega) p3 t3 a3 a4 n3 (y_L (fun i _ _ => e1 i (by omega)))
/-- nothing told -/
theorem WF_new {V : vV} (e1 : ∀ i, i < 502 → V.1 i = if i = 9 then 2 else if i = 4 then 2 else 0) (e2 : ∀ i, i < 65 → V.2.1 i = if i < 10 then (-2) else 0) : WF V ∧ FR V := by
  have z : ∀ i, i < 502 → i ≠ 9 → i ≠ 4 → V.1 i = 0 := fun i a b c => by rw [e1 i a, if_neg b, if_neg c]
  have cP : vP V = 0 := by unfold vP; rw [z 0 (by omega) (by omega) (by omega)]; rfl
  have cT : vT V = 0 := by unfold vT; rw [z 1 (by omega) (by omega) (by omega)]; rfl
  have cA : vA V = 0 := by unfold vA; rw [z 2 (by omega) (by omega) (by omega)]; rfl
  have z64 : V.2.1 64 = 0 := by rw [e2 64 (by omega), if_neg (by omega)]
  have cN : vN V = 0 := by unfold vN; rw [z64]; rfl
  refine ⟨⟨⟨?_, ?_, ?_, ?_⟩, fun p hp => by omega, fun p hp => by omega, fun p hp => by omega, fun p hp => by omega, fun l hl => ?_⟩, fun p h1 h2 => ?_⟩
  · rw [z 0 (by omega) (by omega) (by omega)]; exact vpD (by decide)
  · rw [z 1 (by omega) (by omega) (by omega)]; exact vpD (by decide)
  · rw [z 2 (by omega) (by omega) (by omega)]; exact vpD (by decide)
  · rw [z64]; exact vpD (by decide)
  · have e0 : V.1 (4 + 5 * l) = 2 := by
      rw [e1 _ (by omega)]
      rcases (show l = 0 ∨ l = 1 by omega) with rfl | rfl <;> rfl
    unfold wfL
    rw [e0, z _ (by omega) (by omega) (by omega), z _ (by omega) (by omega) (by omega), z _ (by omega) (by omega) (by omega), z _ (by omega) (by omega) (by omega)]
    exact ⟨vpD (by decide), vpD (by decide), vpD (by decide), vpD (by decide), vpD (by decide)⟩
  · rw [e2 p (by omega), if_pos h2, z _ (by omega) (by omega) (by omega)]
    exact ⟨rfl, rfl⟩
def TW : List Nat := [67, 68, 70, 71, 72, 73, 74, 75, 76, 77, 78, 79, 89, 91, 93, 95, 96]
theorem R_94F {m : gM} (h : MF m) (y : Int32) : s_X13_text_94 m y ∧ (f_X13_text_94 m y).2 = wrI m 79 0 0 0 y := by
  have h' : rdI (wrI m 79 0 0 0 y) 76 0 0 0 ≠ 0 := by rw [rwN (by decide)]; exact h
  simp only [s_X13_text_94, f_X13_text_94, bnd, bndP, if_neg h', and_self]
theorem R_94W {m : gM} (h : rdI m 76 0 0 0 = 0) (w : WF (nV m)) (y : Int32) : s_X13_text_94 m y ∧ WF (mV (f_X13_text_94 m y).2) ∧ rdI (f_X13_text_94 m y).2 69 0 0 0 = 0 ∧ rdI (f_X13_text_94 m y).2 68 0 0 0 = rdI m 68 0 0 0 := by
  have h' : rdI (wrI m 79 0 0 0 y) 76 0 0 0 = 0 := by rw [rwN (by decide)]; exact h
  have i3 : vp_in 3 502 := vpD (by decide)
  obtain ⟨b1, b2, b3, b4, b5⟩ := M_becomes (wrI m 79 0 0 0 y)
  simp only [s_X13_text_94, f_X13_text_94, bnd, bndP, if_pos h', b1, i3, b2, true_and]
  refine ⟨WF_cp w (fun i hi => ?_) (fun i hi => ?_), ?_⟩
  · show rdI (f_X13_becomes (wrI m 79 0 0 0 y)) 88 0 0 i = rdI m 89 0 0 i
    rw [b5 i hi, rwN (by decide)]
  · show rdI (f_X13_becomes (wrI m 79 0 0 0 y)) 92 0 0 i = rdI m 93 0 0 i
    rw [b4 i hi, rwN (by decide)]
  · rw [(o_X13_becomes _ 68 0 0 0 (by decide)).1, rwN (by decide)]
/-- what stands behind a text -/
def TE (m M : gM) : Prop := rdI M 68 0 0 0 = 0 ∧ (offW TW m M ∨ WF (mV M) ∧ rdI M 69 0 0 0 = 0)
theorem R_65 {m0 m : gM} {T : Nat → Nat} {l b : Nat} (o : offW TW m0 m) (h : MF m ∨ MW m T l b) : s_X13_text_65 m ∧ TE m0 (f_X13_text_65 m).2 := by
  have o2 : offW TW m0 (wrI (wrI m 68 0 0 0 0) 78 0 0 0 (rdI (wrI m 68 0 0 0 0) 76 0 0 0)) := (o.wI (by decide)).wI (by decide)
  have e76 : rdI (wrI (wrI m 68 0 0 0 0) 78 0 0 0 (rdI (wrI m 68 0 0 0 0) 76 0 0 0)) 76 0 0 0 = rdI m 76 0 0 0 := by rw [rwN (by decide), rwN (by decide)]
  have e68 : rdI (wrI (wrI m 68 0 0 0 0) 78 0 0 0 (rdI (wrI m 68 0 0 0 0) 76 0 0 0)) 68 0 0 0 = 0 := by rw [rwN (by decide), rwS]
  have eV : nV (wrI (wrI m 68 0 0 0 0) 78 0 0 0 (rdI (wrI m 68 0 0 0 0) 76 0 0 0)) = nV m := by rw [nVw (by decide), nVw (by decide)]
  simp only [s_X13_text_65, f_X13_text_65, bnd, bndP]
  generalize wrI (wrI m 68 0 0 0 0) 78 0 0 0 (rdI (wrI m 68 0 0 0 0) 76 0 0 0) = M at *
  rcases h with h | h
  · have hM : MF M := by unfold MF; rw [e76]; exact h
    obtain ⟨f1, f2⟩ := R_94F hM (rdI M 77 0 0 0)
    simp only [if_neg hM.i]
    refine ⟨f1, ?_⟩
    rw [f2]
    exact ⟨by rw [rwN (by decide)]; exact e68, Or.inl (o2.wI (by decide))⟩
  · have hM : rdI M 76 0 0 0 = 0 := by rw [e76]; exact h.z
    obtain ⟨f1, f2, f3, f4⟩ := R_94W hM (by rw [eV]; exact h.2.1) (-1)
    simp only [if_pos hM]
    exact ⟨f1, by rw [f4]; exact e68, Or.inr ⟨f2, f3⟩⟩
theorem R_43 {m0 : gM} {T : Nat → Nat} {l : Nat} : ∀ k n b : Nat, b + k = l + 1 → k < n → ∀ m : gM, offW TW m0 m → MW m T l b → s_X13_text_43 n m ∧ TE m0 (f_X13_text_43 n m).2 := by
  intro k
  induction k with
  | zero =>
    intro n b hb hk m o h
    have := h.1.le
    omega
  | succ k ih =>
    intro n b hb hk m o h
    obtain ⟨n, rfl⟩ : ∃ y, n = y + 2 := ⟨n - 2, by omega⟩
    rw [s_X13_text_43, f_X13_text_43]
    simp only [h.z, if_true, bnd, bndP]
    by_cases z : rdI m 73 0 0 0 = 3
    · simp only [if_pos z]
      exact R_65 o (Or.inr h)
    · simp only [if_neg z]
      obtain ⟨a1, a2⟩ := R_line h z
      have o2 : offW TW m0 (f_X13_readLine m) := o.tr ((o_X13_readLine m).mono (by decide))
      simp only [a1, true_and]
      rcases a2 with a2 | a2
      · rw [s_X13_text_43, f_X13_text_43]
        simp only [if_neg a2.i]
        exact R_65 (T := T) (l := l) (b := b) o2 (Or.inl a2)
      · exact ih (n + 1) (b + 1) (by omega) (by omega) _ o2 a2
def Mi (m : gM) : Prop := WF (mV m) ∧ ∃ n R, MH m n R ∧ ∀ j, j < n → WF (rw2 (mV m) (R j))
theorem Mi.off {m m' : gM} {W : List Nat} (h : Mi m) (o : offW W m m') (k1 : W.all (fun g => g != 88 && g != 90 && g != 92) = true) (k2 : W.all (fun g => g != 69 && g != 92 && g != 94) = true) : Mi m' := by
  obtain ⟨w, N, R, mh, hr⟩ := h
  have e := mV_off (M := m) (N := m') o k1
  exact ⟨by rw [e]; exact w, N, R, mh.off o k2, by rw [e]; exact hr⟩
theorem TBm.off {m m' : gM} {W : List Nat} {l k : Nat} (h : TBm m l k) (o : offW W m m') (k1 : W.all (fun g => g != 68 && g != 87) = true) : TBm m' l k := by
  have n : ∀ g, (g = 68 ∨ g = 87) → g ∉ W := fun g hg q => by
    have := List.all_eq_true.mp k1 g q
    rcases hg with rfl | rfl <;> simp at this
  exact ⟨by rw [(o 68 0 0 0 (n 68 (by omega))).1]; exact h.1, fun i hi => by rw [(o 87 0 0 i (n 87 (by omega))).1]; exact h.2 i hi⟩
theorem R_text {m : gM} {L : Nat} (h : Mi m) (hL : L ≤ 1200) (t : TBm m L 0) (x : Int32) : s_X13_text m x ∧ Mi (f_X13_text m x).2 ∧ TBm (f_X13_text m x).2 (if x < 0 then L else if x ≤ nI L then 0 else L) 0 := by
  have o1 : offW [67] m (wrI m 67 0 0 0 0) := offR.wI (by decide)
  have hM1 : Mi (wrI m 67 0 0 0 0) := h.off o1 (by decide) (by decide)
  have tM1 : TBm (wrI m 67 0 0 0 0) L 0 := t.off o1 (by decide)
  simp only [s_X13_text, f_X13_text, bnd, bndP, tM1.1]
  by_cases z : x < 0
  · simp only [if_pos z, true_and]
    exact ⟨hM1, tM1⟩
  · simp only [if_neg z]
    by_cases y : x ≤ nI L
    · simp only [if_pos y]
      obtain ⟨l, hl, rfl⟩ := vp_in_of (n_vp' (i_nlt.mp z) y (by omega)) (by omega)
      obtain ⟨T, hT⟩ := pick t.2
      obtain ⟨b1, b2, b3⟩ := M_begins (wrI m 67 0 0 0 0)
      obtain ⟨w0, f0⟩ := WF_new (V := nV (f_X13_begins (wrI m 67 0 0 0 0))) b3 b2
      have ob : offW TW m (f_X13_begins (wrI m 67 0 0 0 0)) := (o1.mono (by decide)).tr ((o_X13_begins _).mono (by decide))
      have e87 : ∀ i, rdI (f_X13_begins (wrI m 67 0 0 0 0)) 87 0 0 i = rdI m 87 0 0 i := fun i => (ob 87 0 0 i (by decide)).1
      generalize f_X13_begins (wrI m 67 0 0 0 0) = m1 at *
      have o8 : offW TW m (wrI (wrI (wrI m1 70 0 0 0 (nI l)) 71 0 0 0 0) 76 0 0 0 0) := ((ob.wI (by decide)).wI (by decide)).wI (by decide)
      have tp : TPm (wrI (wrI (wrI m1 70 0 0 0 (nI l)) 71 0 0 0 0) 76 0 0 0 0) T l := ⟨by rw [rwN (by decide), rwN (by decide), rwS], by omega, fun i hi => ⟨(hT i (by omega)).1, by rw [rwN (by decide), rwN (by decide), rwN (by decide), e87]; exact (hT i (by omega)).2⟩⟩
      have e71 : rdI (wrI (wrI (wrI m1 70 0 0 0 (nI l)) 71 0 0 0 0) 76 0 0 0 0) 71 0 0 0 = nI 0 := by rw [rwN (by decide), rwS]; rfl
      have e76 : rdI (wrI (wrI (wrI m1 70 0 0 0 (nI l)) 71 0 0 0 0) 76 0 0 0 0) 76 0 0 0 = 0 := rwS
      have eV : nV (wrI (wrI (wrI m1 70 0 0 0 (nI l)) 71 0 0 0 0) 76 0 0 0 0) = nV m1 := by rw [nVw (by decide), nVw (by decide), nVw (by decide)]
      generalize wrI (wrI (wrI m1 70 0 0 0 (nI l)) 71 0 0 0 0) 76 0 0 0 0 = m8 at *
      obtain ⟨k1, k2⟩ := M_tok tp e71 (Nat.zero_le l)
      have o10 : offW TW m (f_X13_token m8) := o8.tr ((o_X13_token m8).mono (by decide))
      have hW : MW (f_X13_token m8) T l 0 := by
        refine ⟨⟨?_, _, Nat.zero_le _, k2⟩, ?_⟩
        · rw [(o_X13_token m8 76 0 0 0 (by decide)).1]; exact e76
        · rw [nV_off (o_X13_token m8) (by decide), eV]; exact ⟨w0, f0⟩
      obtain ⟨r1, r2, r3⟩ := R_43 (l + 1) FU 0 (by omega) (by rw [FU_eq]; omega) _ o10 hW
      simp only [b1, k1, r1, true_and]
      refine ⟨?_, by rw [r2]; rfl, fun i hi => by omega⟩
      rcases r3 with r3 | ⟨r3, r4⟩
      · exact h.off r3 (by decide) (by decide)
      · exact ⟨r3, 0, fun _ _ => 0, ⟨by rw [r4]; rfl, by omega, fun j hj => by omega⟩, fun j hj => by omega⟩
    · simp only [if_neg y, true_and]
      exact ⟨hM1, tM1⟩
end
