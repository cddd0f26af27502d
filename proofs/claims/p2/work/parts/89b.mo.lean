-- THE REFERENCE'S LINES: land
set_option linter.all false
noncomputable section
theorem s_isW {m : gM} {w : Int32} : s_X13_isWord m w := by
  unfold s_X13_isWord s_X13_isWord_26
  (repeat' split) <;> trivial
theorem f_isWF {m : gM} (h : MF m) (w : Int32) : f_X13_isWord m w = 0 := by
  unfold f_X13_isWord f_X13_isWord_26
  rw [if_neg h.i]
theorem f_isW1 {m : gM} {w : Int32} (h : ¬ f_X13_isWord m w = 0) : rdI m 73 0 0 0 = 0 := by
  unfold f_X13_isWord f_X13_isWord_26 at h
  by_cases z : rdI m 73 0 0 0 = 0
  · exact z
  · rw [if_neg z] at h
    exact (h (by split <;> rfl)).elim
theorem MP_vp2 {x : Int32} (h : vp_in x 2) : ∃ j, j < 2 ∧ x = nI j := vp_in_of h (by decide)
theorem W_lnd {m : gM} {T : Nat → Nat} {l b x j : Nat} {v : Int32} (h : MW m T l b) (hx : x < 2) (hv : j = 0 ∧ vp_in v 5 ∨ (0 < j ∧ j < 5) ∧ vp_in v 2) : MW (wrI m 89 0 0 (4 + 5 * x + j) v) T l b := by
  obtain ⟨h1, w, f⟩ := h
  have hj : j < 5 := by omega
  have ev : ∀ i, (nV (wrI m 89 0 0 (4 + 5 * x + j) v)).1 i = if i = 4 + 5 * x + j then v else (nV m).1 i := fun i => w89
  have e2 : (nV (wrI m 89 0 0 (4 + 5 * x + j) v)).2 = (nV m).2 := rfl
  have hMS : MS (wrI m 89 0 0 (4 + 5 * x + j) v) T l b := h1.wr (by omega)
  generalize wrI m 89 0 0 (4 + 5 * x + j) v = m' at *
  have es : ∀ i, i ≠ 4 + 5 * x + j → (nV m').1 i = (nV m).1 i := fun i a => by rw [ev, if_neg a]
  have e22 : ∀ i, (nV m').2.1 i = (nV m).2.1 i := fun i => by rw [e2]
  obtain ⟨p1, p2, p3⟩ := y_P (V' := nV m') w (fun i hi => es i (by omega)) (fun i _ => e22 i)
  obtain ⟨t1, t2, t3⟩ := y_T (V' := nV m') w (fun i hi => es i (by omega))
  obtain ⟨a1, a2, a3, a4⟩ := y_A (V' := nV m') w (fun i hi => es i (by omega)) (fun i _ _ => e22 i)
  obtain ⟨n1, n2, n3⟩ := y_W (V' := nV m') w (fun i _ _ => e22 i)
  refine ⟨hMS, WF_ext w ⟨p2, t2, a2, n2⟩ (by omega) (by omega) p3 t3 a3 a4 n3 (fun k hk => ?_), fun p h1 h2 => ?_⟩
  · by_cases z : k = x
    · subst z
      obtain ⟨b1, b2, b3, b4, b5⟩ := w.2.2.2.2.2 k hk
      refine Or.inl ⟨?_, ?_, ?_, ?_, ?_⟩
      · rw [ev]; split
        · rcases hv with hv | hv
          · exact hv.2
          · omega
        · exact b1
      · rw [ev]; split
        · rcases hv with hv | hv
          · omega
          · exact hv.2
        · exact b2
      · rw [ev]; split
        · rcases hv with hv | hv
          · omega
          · exact hv.2
        · exact b3
      · rw [ev]; split
        · rcases hv with hv | hv
          · omega
          · exact hv.2
        · exact b4
      · rw [ev]; split
        · rcases hv with hv | hv
          · omega
          · exact hv.2
        · exact b5
    · exact Or.inr fun i hi => es _ (by omega)
  · rw [e22, es _ (by omega)]
    exact f p (by omega) h2
theorem F_61 {m : gM} (h : MF m) (x : Int32) (n : Nat) : s_X13_readLand_61 x (n + 1) m ∧ f_X13_readLand_61 x (n + 1) m = m := by
  simp only [s_X13_readLand_61, f_X13_readLand_61, f_isWF h, s_isW, if_true, true_and, and_self]
theorem R_153 {m : gM} {T : Nat → Nat} {l b x y : Nat} {Y : Int32} (h : MW m T l b) (h3 : rdI m 73 0 0 0 = 0) (hx : x < 2) (hy : 0 < y ∧ y < 5) (hY : Y = nI y) {k61 : gM → gM} {q61 : gM → Prop} (hF : ∀ m', MF m' → q61 m' ∧ MF (k61 m')) (hW : ∀ m', MW m' T l (b + 1) → q61 m' ∧ (MF (k61 m') ∨ MW (k61 m') T l b)) : s_X13_readLand_135 m (nI (4 + 5 * x)) Y q61 ∧ (MF (f_X13_readLand_135 m (nI (4 + 5 * x)) Y k61) ∨ MW (f_X13_readLand_135 m (nI (4 + 5 * x)) Y k61) T l b) := by
  subst hY
  have i1 : vp_in (nI (4 + 5 * x + y)) 502 := vpi (by omega)
  simp only [s_X13_readLand_135, f_X13_readLand_135, s_X13_readLand_153, f_X13_readLand_153, bnd, bndP, nI_add, nn_nI (show 4 + 5 * x + y < 2 ^ 31 by omega), i1, true_and]
  by_cases z : rdI m 89 0 0 (4 + 5 * x + y) = 1
  · obtain ⟨w1, w2⟩ := h.wr (k := 3) (by decide)
    have w3 : MF (wrI (f_X13_wrong m 3) 89 0 0 (4 + 5 * x + y) 1) := w2.wr (by omega)
    obtain ⟨q1, q2⟩ := hF _ w3
    simp only [if_pos z, w1, m_goF w3.i, true_and]
    exact ⟨q1, Or.inl q2⟩
  · have g := W_lnd (j := y) (v := 1) h hx (Or.inr ⟨hy, vpD (by decide)⟩)
    obtain ⟨g1, -, g3, -⟩ := g.go
    obtain ⟨q1, q2⟩ := hW _ (g3 (by rw [rwN (by decide), h3]; decide))
    simp only [if_neg z, g1, true_and]
    exact ⟨q1, q2⟩
theorem R_96 {m : gM} {T : Nat → Nat} {l b x : Nat} (h : MW m T l b) (h3 : rdI m 73 0 0 0 = 0) (hx : x < 2) {k61 : gM → gM} {q61 : gM → Prop} (hF : ∀ m', MF m' → q61 m' ∧ MF (k61 m')) (hW : ∀ m', MW m' T l (b + 1) → q61 m' ∧ (MF (k61 m') ∨ MW (k61 m') T l b)) : s_X13_readLand_96 m (nI (4 + 5 * x)) q61 ∧ (MF (f_X13_readLand_96 m (nI (4 + 5 * x)) k61) ∨ MW (f_X13_readLand_96 m (nI (4 + 5 * x)) k61) T l b) := by
  simp only [s_X13_readLand_96, f_X13_readLand_96]
  split
  · exact R_153 (y := 1) h h3 hx (by omega) rfl hF hW
  · split
    · exact R_153 (y := 2) h h3 hx (by omega) rfl hF hW
    · split
      · exact R_153 (y := 3) h h3 hx (by omega) rfl hF hW
      · exact R_153 (y := 4) h h3 hx (by omega) rfl hF hW
theorem R_61 {T : Nat → Nat} {l x : Nat} (hx : x < 2) : ∀ k n b : Nat, b + k = l + 1 → k < n → ∀ m : gM, MW m T l b → s_X13_readLand_61 (nI (4 + 5 * x)) n m ∧ (MF (f_X13_readLand_61 (nI (4 + 5 * x)) n m) ∨ MW (f_X13_readLand_61 (nI (4 + 5 * x)) n m) T l b) := by
  intro k
  induction k with
  | zero =>
    intro n b hb hk m h
    have := h.1.le
    omega
  | succ k ih =>
    intro n b hb hk m h
    obtain ⟨n, rfl⟩ : ∃ y, n = y + 2 := ⟨n - 2, by omega⟩
    have go : rdI m 73 0 0 0 = 0 → s_X13_readLand_96 m (nI (4 + 5 * x)) (s_X13_readLand_61 (nI (4 + 5 * x)) (n + 1)) ∧ (MF (f_X13_readLand_96 m (nI (4 + 5 * x)) (f_X13_readLand_61 (nI (4 + 5 * x)) (n + 1))) ∨ MW (f_X13_readLand_96 m (nI (4 + 5 * x)) (f_X13_readLand_61 (nI (4 + 5 * x)) (n + 1))) T l b) := fun h3 =>
      R_96 h h3 hx (fun m' hm => by
        obtain ⟨f1, f2⟩ := F_61 hm (nI (4 + 5 * x)) n
        exact ⟨f1, by rw [f2]; exact hm⟩) (fun m' hm => by
        obtain ⟨f1, f2⟩ := ih (n + 1) (b + 1) (by omega) (by omega) m' hm
        exact ⟨f1, f2.imp id (fun q => q.mono (by omega))⟩)
    rw [s_X13_readLand_61, f_X13_readLand_61]
    simp only [s_isW, true_and]
    by_cases z1 : f_X13_isWord m 8 = 0
    · simp only [if_pos z1]
      by_cases z2 : f_X13_isWord m 3 = 0
      · simp only [if_pos z2]
        by_cases z3 : f_X13_isWord m 9 = 0
        · simp only [if_pos z3]
          by_cases z4 : f_X13_isWord m 10 = 0
          · simp only [if_pos z4, true_and]
            exact Or.inr h
          · simp only [if_neg z4]
            exact go (f_isW1 z4)
        · simp only [if_neg z3]
          exact go (f_isW1 z3)
      · simp only [if_neg z2]
        exact go (f_isW1 z2)
    · simp only [if_neg z1]
      exact go (f_isW1 z1)
theorem MW.l {m : gM} {T : Nat → Nat} {l b : Nat} (h : MW m T l b) : l ≤ 1200 := by
  obtain ⟨⟨-, q, -, tp, -⟩, -⟩ := h
  exact tp.2.1
theorem F_32 {m : gM} {x : Nat} (h : MF m) (hx : x < 2) : s_X13_readLand_32 m (nI x) ∧ MF (f_X13_readLand_32 m (nI x)) := by
  have i1 : vp_in (nI x) 2 := vpi hx
  have i2 : vp_in (nI (4 + 5 * x)) 502 := vpi (by omega)
  have h1 : MF (wrI m 96 0 0 x (nZ 1)) := h.wr (by omega)
  have h2 : MF (wrI (wrI m 96 0 0 x (nZ 1)) 89 0 0 (4 + 5 * x) 0) := h1.wr (by omega)
  obtain ⟨f1, f2⟩ := F_61 h2 (nI (4 + 5 * x)) 4095
  rw [show 4095 + 1 = FU by rw [FU_eq]] at f1 f2
  simp only [s_X13_readLand_32, f_X13_readLand_32, bnd, bndP, m_goF h.i, nn_nI (show x < 2 ^ 31 by omega), m_nmF h1.i, e4, nn_nI (show 4 + 5 * x < 2 ^ 31 by omega), i1, i2, f1, f2, true_and]
  exact h2
theorem R_32 {m : gM} {T : Nat → Nat} {l b x : Nat} (h : MW m T l b) (h3 : rdI m 73 0 0 0 ≠ 3) (hx : x < 2) : s_X13_readLand_32 m (nI x) ∧ (MF (f_X13_readLand_32 m (nI x)) ∨ MW (f_X13_readLand_32 m (nI x)) T l (b + 1)) := by
  have i1 : vp_in (nI x) 2 := vpi hx
  have i2 : vp_in (nI (4 + 5 * x)) 502 := vpi (by omega)
  simp only [s_X13_readLand_32, f_X13_readLand_32, bnd, bndP, nn_nI (show x < 2 ^ 31 by omega), e4, nn_nI (show 4 + 5 * x < 2 ^ 31 by omega), i1, i2, true_and]
  obtain ⟨a1, -, a3, a4⟩ := h.go
  have h1 := a3 h3
  clear a3
  generalize f_X13_goOn m = m1 at *
  have h2 : MW (wrI m1 96 0 0 x (nZ 1)) T l (b + 1) := ⟨h1.1.wr (by omega), by rw [nVw (by decide)]; exact h1.2⟩
  generalize wrI m1 96 0 0 x (nZ 1) = m2 at *
  obtain ⟨k1, k2⟩ := h2.num 0 4
  rcases k2 with ⟨k2, k3⟩ | ⟨k2, k3, k4, k5⟩
  · have w : MF (wrI (f_X13_number m2 0 4).2 89 0 0 (4 + 5 * x) (f_X13_number m2 0 4).1) := k2.wr (by omega)
    obtain ⟨f1, f2⟩ := F_61 w (nI (4 + 5 * x)) 4095
    rw [show 4095 + 1 = FU by rw [FU_eq]] at f1 f2
    simp only [a1, k1, f1, f2, true_and]
    exact Or.inl w
  · generalize f_X13_number m2 0 4 = z at *
    have g := W_lnd (x := x) (j := 0) (v := z.1) k2 hx (Or.inl ⟨rfl, n_vp (n := 4) k4 k5 (by omega)⟩)
    rw [Nat.add_zero] at g
    have hl := k2.l
    have hb := g.1.le
    obtain ⟨f1, f2⟩ := R_61 hx (l + 1 - (b + 1 + 1)) FU (b + 1 + 1) (by omega) (by rw [FU_eq]; omega) _ g
    simp only [a1, k1, f1, true_and]
    exact f2.imp id (fun q => q.mono (by omega))
theorem R_lnd {m : gM} {T : Nat → Nat} {l b : Nat} (h : MW m T l b) (h3 : rdI m 73 0 0 0 ≠ 3) : s_X13_readLand m ∧ (MF (f_X13_readLand m) ∨ MW (f_X13_readLand m) T l (b + 1)) := by
  simp only [s_X13_readLand, f_X13_readLand, bnd, bndP]
  obtain ⟨a1, -, a3, a4⟩ := h.go
  have h1 := a3 h3
  clear a3
  generalize f_X13_goOn m = m1 at *
  obtain ⟨k1, k2⟩ := g_num h1.z 0 1
  rcases k2 with ⟨k2, k3⟩ | ⟨k2, k4, k5, k6⟩
  · obtain ⟨f1, f2⟩ := F_32 (x := 0) k2 (by omega)
    rw [show (nI 0 : Int32) = 0 from rfl] at f1 f2
    simp only [a1, k1, k3, if_neg k2.i, f1, true_and]
    exact Or.inl f2
  · obtain ⟨x, hx, ex⟩ := vp_in_of (n_01 k4 k5) (by decide)
    have i1 : vp_in (nI x) 2 := vpi hx
    simp only [a1, k1, k2, ex, h1.z, if_true, nn_nI (show x < 2 ^ 31 by omega), i1, true_and]
    split
    · obtain ⟨r1, r2⟩ := R_32 h1 (by rw [k6]; decide) hx
      exact ⟨r1, r2.imp id (fun q => q.mono (by omega))⟩
    · obtain ⟨w1, w2⟩ := h1.wr (k := 3) (by decide)
      obtain ⟨f1, f2⟩ := F_32 w2 hx
      simp only [w1, f1, true_and]
      exact Or.inl f2
end
