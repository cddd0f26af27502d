-- THE REFERENCE'S PAPER: gives, the loop over its parts, its head
set_option linter.all false
noncomputable section
section
variable {gv : gM → Int32 → Int32 → Int32 × gM} {gs : gM → Int32 → Int32 → Prop} {m : gM} {T : Nat → Nat} {l b q g : Nat}
theorem MP.td (h : MP m T l b q) (kd : Nat) (x : Int32) (hkd : kd < 3) (hx : nI kd = x) : s_X13_told m x ∧ (MF (f_X13_told m x).2 ∧ (f_X13_told m x).1 = 0 ∨ (MP (f_X13_told m x).2 T l b q ∧ nV (f_X13_told m x).2 = nV m ∧ ∃ j, j < vX (nV m) kd ∧ (f_X13_told m x).1 = nI j)) := by
  obtain ⟨a1, a2⟩ := h.1.td kd x hkd hx
  exact ⟨a1, a2.imp id (fun z => ⟨⟨z.1.mono (by omega), by rw [z.2.1]; exact h.2⟩, z.2.1, z.2.2⟩)⟩
/-- what stands in the next part, once one more is given -/
def NX (gv : gM → Int32 → Int32 → Int32 × gM) (gs : gM → Int32 → Int32 → Prop) (T : Nat → Nat) (l b q g : Nat) : Prop := ∀ m', MP m' T l b q → vG (nV m') q = g + 1 → s_X13_readPart gv gs m' (nI q) (nI (58 + 7 * q)) ∧ PR T l b q (f_X13_readPart gv m' (nI q) (nI (58 + 7 * q)))
theorem R_108 {x3 x4 x5 x6 x7 : Int32} (h : MP m T l b q) (eg : vG (nV m) q = g) (hg : g < 6) (h3 : vp_in x3 (vT (nV m))) (h4 : vp_in x4 (vP (nV m))) (h5 : vp_in x5 3) (h6 : x5 = 0 ∧ x6 = -2 ∨ x5 ≠ 0 ∧ vp_in x6 (vP (nV m))) (h7 : x7 = -2 ∨ vp_in x7 (vP (nV m))) (nx : NX gv gs T l b q g) :
    s_X13_readGive_b_108 gv gs m (nI q) (nI (58 + 7 * q)) x3 x4 x5 x6 x7 ∧ PR T l b q (f_X13_readGive_b_108 gv m (nI q) (nI (58 + 7 * q)) x3 x4 x5 x6 x7) := by
  have h12 := h.2.2.1
  have e5 : rdI m 89 0 0 (58 + 7 * q + 5) = nI g := by
    have := (vpe h.2.2.2.1.2.2.2.2.2.1 (by decide)).1
    rw [← eg]
    exact this
  obtain ⟨u1, u2⟩ := U_giv h eg hg h3 h4 h5 h6 h7
  obtain ⟨n1, n2⟩ := nx _ u1 u2
  have n3 := n2.1
  unfold uGiv at n1 n2 n3
  have egi : gi q g 0 = 142 + 30 * q + 5 * g := by unfold gi; omega
  have i5 : vp_in (nI (58 + 7 * q + 5)) 502 := vpi (by omega)
  have j0 : vp_in (nI (gi q g 0)) 502 := vpi (by omega)
  have j1 : vp_in (nI (gi q g 0 + 1)) 502 := vpi (by omega)
  have j2 : vp_in (nI (gi q g 0 + 2)) 502 := vpi (by omega)
  have j3 : vp_in (nI (gi q g 0 + 3)) 502 := vpi (by omega)
  have j4 : vp_in (nI (gi q g 0 + 4)) 502 := vpi (by omega)
  have er : rdI (wrI (wrI (wrI (wrI (wrI m 89 0 0 (gi q g 0) x3) 89 0 0 (gi q g 0 + 1) x4) 89 0 0 (gi q g 0 + 2) x5) 89 0 0 (gi q g 0 + 3) x6) 89 0 0 (gi q g 0 + 4) x7) 89 0 0 (58 + 7 * q + 5) = nI g := by
    rw [rwI, if_neg (by omega), rwI, if_neg (by omega), rwI, if_neg (by omega), rwI, if_neg (by omega), rwI, if_neg (by omega)]
    exact e5
  simp only [s_X13_readGive_b_108, f_X13_readGive_b_108, bnd, bndP, h.1.z, if_true, p5, nn_nI (show 58 + 7 * q + 5 < 2 ^ 31 by omega), i5, e5, e142, p1, p2, p3, p4, nn_nI (show gi q g 0 < 2 ^ 31 by omega), nn_nI (show gi q g 0 + 1 < 2 ^ 31 by omega), nn_nI (show gi q g 0 + 2 < 2 ^ 31 by omega), nn_nI (show gi q g 0 + 3 < 2 ^ 31 by omega), nn_nI (show gi q g 0 + 4 < 2 ^ 31 by omega), j0, j1, j2, j3, j4, er, n1, n3, true_and]
  exact n2
theorem R_88 {x3 x4 x5 x6 : Int32} (h : MP m T l b q) (eg : vG (nV m) q = g) (hg : g < 6) (h3 : vp_in x3 (vT (nV m))) (h4 : vp_in x4 (vP (nV m))) (h5 : vp_in x5 3) (h6 : x5 = 0 ∧ x6 = -2 ∨ x5 ≠ 0 ∧ vp_in x6 (vP (nV m))) (nx : NX gv gs T l b q g) :
    s_X13_readGive_b_88 gv gs m (nI q) (nI (58 + 7 * q)) x3 x4 x5 x6 (-2) ∧ PR T l b q (f_X13_readGive_b_88 gv m (nI q) (nI (58 + 7 * q)) x3 x4 x5 x6 (-2)) := by
  simp only [s_X13_readGive_b_88, f_X13_readGive_b_88, bnd, bndP, s_isW, true_and]
  split
  · exact R_108 h eg hg h3 h4 h5 h6 (Or.inl rfl) nx
  · obtain ⟨a1, h1, a4⟩ := h.go
    rw [← a4] at eg h3 h4 h6
    generalize f_X13_goOn m = m1 at *
    obtain ⟨d1, d2⟩ := h1.td 0 0 (by omega) rfl
    rcases d2 with ⟨d2, -⟩ | ⟨d2, d3, j, hj, ej⟩
    · simp only [a1, d1, true_and]
      exact F_108 d2 _ _ _ _ _ _ _
    · rw [← d3] at eg h3 h4 h6 hj
      generalize f_X13_told m1 0 = z at *
      have hj' : j < vP (nV z.2) := hj
      have h10 := d2.1.2.1.P.2
      simp only [a1, d1, true_and]
      exact R_108 d2 eg hg h3 h4 h5 h6 (Or.inr (by rw [ej]; exact vpi hj')) nx
theorem R_62 {x3 x4 x5 : Int32} (h : MP m T l b q) (eg : vG (nV m) q = g) (hg : g < 6) (h3 : vp_in x3 (vT (nV m))) (h4 : vp_in x4 (vP (nV m))) (h5 : x5 = 0 ∨ (vp_in x5 3 ∧ ¬ x5 ≤ 0 ∧ x5 ≠ 0)) (nx : NX gv gs T l b q g) :
    s_X13_readGive_b_62 gv gs m (nI q) (nI (58 + 7 * q)) x3 x4 x5 ∧ PR T l b q (f_X13_readGive_b_62 gv m (nI q) (nI (58 + 7 * q)) x3 x4 x5) := by
  rcases h5 with rfl | ⟨h5, h5', h5''⟩
  · simp only [s_X13_readGive_b_62, f_X13_readGive_b_62, if_pos (Int32.le_refl 0)]
    exact R_88 h eg hg h3 h4 (vpD (by decide)) (Or.inl ⟨rfl, rfl⟩) nx
  · simp only [s_X13_readGive_b_62, f_X13_readGive_b_62, bnd, bndP, if_neg h5']
    obtain ⟨a1, h1, a4⟩ := h.go
    rw [← a4] at eg h3 h4
    generalize f_X13_goOn m = m1 at *
    obtain ⟨d1, d2⟩ := h1.td 0 0 (by omega) rfl
    rcases d2 with ⟨d2, -⟩ | ⟨d2, d3, j, hj, ej⟩
    · simp only [a1, d1, true_and]
      exact F_88 d2 _ _ _ _ _ _ _
    · rw [← d3] at eg h3 h4 hj
      generalize f_X13_told m1 0 = z at *
      have hj' : j < vP (nV z.2) := hj
      have h10 := d2.1.2.1.P.2
      simp only [a1, d1, true_and]
      exact R_88 d2 eg hg h3 h4 h5 (Or.inr ⟨h5'', by rw [ej]; exact vpi hj'⟩) nx
theorem R_18 (h : MP m T l b q) (eg : vG (nV m) q = g) (hg : g < 6) (nx : NX gv gs T l b q g) :
    s_X13_readGive_b_18 gv gs m (nI q) (nI (58 + 7 * q)) ∧ PR T l b q (f_X13_readGive_b_18 gv m (nI q) (nI (58 + 7 * q))) := by
  simp only [s_X13_readGive_b_18, f_X13_readGive_b_18, bnd, bndP, s_isW, true_and]
  obtain ⟨a1, h1, a4⟩ := h.go
  rw [← a4] at eg
  generalize f_X13_goOn m = m1 at *
  obtain ⟨c1, c2⟩ := h1.td 1 1 (by omega) rfl
  rcases c2 with ⟨c2, -⟩ | ⟨c2, c3, t, ht, et⟩
  · simp only [a1, c1, m_tdF c2.i, f_isWF c2, if_true, true_and]
    exact F_62 c2 _ _ _ _ _
  · rw [← c3] at eg ht
    generalize f_X13_told m1 1 = y at *
    obtain ⟨d1, d2⟩ := c2.td 0 0 (by omega) rfl
    rcases d2 with ⟨d2, -⟩ | ⟨d2, d3, j, hj, ej⟩
    · simp only [a1, c1, d1, f_isWF d2, if_true, true_and]
      exact F_62 d2 _ _ _ _ _
    · rw [← d3] at eg ht hj
      generalize f_X13_told y.2 0 = z at *
      have hj' : j < vP (nV z.2) := hj
      have ht' : t < vT (nV z.2) := ht
      have h10 := d2.1.2.1.P.2
      have h8 := d2.1.2.1.T.2
      have w3 : vp_in y.1 (vT (nV z.2)) := by rw [et]; exact vpi ht'
      have w4 : vp_in z.1 (vP (nV z.2)) := by rw [ej]; exact vpi hj'
      simp only [a1, c1, d1, true_and]
      by_cases k1 : f_X13_isWord z.2 16 = 0
      · simp only [if_pos k1]
        by_cases k2 : f_X13_isWord z.2 17 = 0
        · simp only [if_pos k2]
          exact R_62 d2 eg hg w3 w4 (Or.inl rfl) nx
        · simp only [if_neg k2]
          exact R_62 d2 eg hg w3 w4 (Or.inr ⟨vpD (by decide), by decide, by decide⟩) nx
      · simp only [if_neg k1]
        exact R_62 d2 eg hg w3 w4 (Or.inr ⟨vpD (by decide), by decide, by decide⟩) nx
end
theorem R_give {T : Nat → Nat} {l b q : Nat} : ∀ D : Nat, ∀ m : gM, MP m T l b q → 7 ≤ D + vG (nV m) q → s_X13_readGive D m (nI q) (nI (58 + 7 * q)) ∧ PR T l b q (f_X13_readGive D m (nI q) (nI (58 + 7 * q))) := by
  intro D
  induction D with
  | zero =>
    intro m h hd
    have := (vpe h.2.2.2.1.2.2.2.2.2.1 (by decide)).2
    unfold vG at hd
    omega
  | succ D ih =>
    intro m h hd
    have h12 := h.2.2.1
    have g6 : vG (nV m) q ≤ 6 := Nat.le_of_lt_succ (vpe h.2.2.2.1.2.2.2.2.2.1 (by decide)).2
    have e5 : rdI m 89 0 0 (58 + 7 * q + 5) = nI (vG (nV m) q) := (vpe h.2.2.2.1.2.2.2.2.2.1 (by decide)).1
    have i5 : vp_in (nI (58 + 7 * q + 5)) 502 := vpi (by omega)
    rw [s_X13_readGive, f_X13_readGive]
    simp only [s_X13_readGive_b, f_X13_readGive_b, bnd, bndP, p5, nn_nI (show 58 + 7 * q + 5 < 2 ^ 31 by omega), i5, e5, true_and]
    by_cases z : nI (vG (nV m) q) = 6
    · obtain ⟨w1, w2⟩ := h.1.wr (k := 2) (by decide)
      simp only [if_pos z, w1, true_and]
      exact F_18 w2 _ _
    · have lt : vG (nV m) q < 6 := by
        rcases Nat.lt_or_ge (vG (nV m) q) 6 with u | u
        · exact u
        · exact absurd (show nI (vG (nV m) q) = 6 by rw [show vG (nV m) q = 6 by omega]; rfl) z
      simp only [if_neg z]
      refine R_18 h rfl lt fun m' h' eg' => R_part h' fun _ => ih m' h' (by omega)
-- ===== the loop over the parts =====
theorem F_249 {m : gM} (h : MF m) : s_X13_readPaper_249 m ∧ f_X13_readPaper_249 m = m := by
  simp only [s_X13_readPaper_249, f_X13_readPaper_249, if_neg h.i, and_self]
theorem U_end {m : gM} {T : Nat → Nat} {l b q : Nat} (h : MP m T l b q) : MW (wrI m 89 0 0 2 (nI (q + 1))) T l b := by
  obtain ⟨⟨h1, w, f⟩, eq, h12, hA, hG⟩ := h
  have ev : ∀ i, (nV (wrI m 89 0 0 2 (nI (q + 1)))).1 i = if i = 2 then nI (q + 1) else (nV m).1 i := fun i => w89
  have e2 : (nV (wrI m 89 0 0 2 (nI (q + 1)))).2 = (nV m).2 := rfl
  have hMS : MS (wrI m 89 0 0 2 (nI (q + 1))) T l b := h1.wr (by omega)
  generalize wrI m 89 0 0 2 (nI (q + 1)) = m' at *
  have es : ∀ i, i ≠ 2 → (nV m').1 i = (nV m).1 i := fun i a => by rw [ev, if_neg a]
  have e22 : ∀ i, (nV m').2.1 i = (nV m).2.1 i := fun i => by rw [e2]
  have eA : vA (nV m') = q + 1 := by
    unfold vA
    rw [ev, if_pos rfl, nn_nI (by omega)]
  have eG : ∀ k, vG (nV m') k = vG (nV m) k := fun k => by unfold vG; rw [es _ (by omega)]
  obtain ⟨p1, p2, p3⟩ := y_P (V' := nV m') w (fun i hi => es i (by omega)) (fun i _ => e22 i)
  obtain ⟨t1, t2, t3⟩ := y_T (V' := nV m') w (fun i hi => es i (by omega))
  obtain ⟨n1, n2, n3⟩ := y_W (V' := nV m') w (fun i _ _ => e22 i)
  have e0 : (nV m').1 2 = nI (q + 1) := by rw [ev, if_pos rfl]
  refine ⟨hMS, WF_ext w ⟨p2, t2, by rw [e0]; exact vpi (by omega), n2⟩ (by omega) (by omega) p3 t3 (fun k hk => ?_) (fun k hk => ?_) n3 (y_L (fun i _ _ => es i (by omega))), fun p h1 h2 => ?_⟩
  · rw [eA] at hk
    by_cases z : k = q
    · subst z
      refine Or.inl ?_
      unfold wfA at hA ⊢
      rw [p1, e2, es _ (by omega), es _ (by omega), es _ (by omega), es _ (by omega), es _ (by omega), es _ (by omega), es _ (by omega)]
      exact hA
    · exact Or.inr ⟨by omega, fun j hj => es _ (by omega), e22 _, e22 _, e22 _⟩
  · rw [eA] at hk
    by_cases z : k = q
    · subst z
      refine Or.inl fun i hi => ?_
      rw [eG] at hi
      have := hG i hi
      unfold wfG gi at this ⊢
      rw [p1, t1, es _ (by omega), es _ (by omega), es _ (by omega), es _ (by omega), es _ (by omega)]
      exact this
    · exact Or.inr ⟨by omega, es _ (by omega), fun i j _ _ => es _ (by unfold gi; omega)⟩
  · rw [e22, es _ (by omega)]
    exact f p (by omega) h2
theorem R_249 {m : gM} {T : Nat → Nat} {l b q : Nat} (h : MP m T l b q) : s_X13_readPaper_249 m ∧ MW (f_X13_readPaper_249 m) T l b := by
  have i2 : vp_in 2 502 := vpD (by decide)
  have e : rdI m 89 0 0 2 = nI q := by rw [← h.2.1]; exact h.1.cnt.2.2.1
  simp only [s_X13_readPaper_249, f_X13_readPaper_249, bnd, bndP, h.1.z, if_true, show nn 2 = 2 from rfl, e, i2, p1, true_and]
  exact U_end h
theorem F_225 {m : gM} (h : MF m) (x y : Int32) (n : Nat) : s_X13_readPaper_225 x y (n + 1) m ∧ f_X13_readPaper_225 x y (n + 1) m = m := by
  simp only [s_X13_readPaper_225, f_X13_readPaper_225, if_neg h.i, F_249 h, and_self]
theorem R_225 {T : Nat → Nat} {l q : Nat} : ∀ k n b : Nat, b + k = l + 1 → k < n → ∀ m : gM, MP m T l b q → s_X13_readPaper_225 (nI q) (nI (58 + 7 * q)) n m ∧ (MF (f_X13_readPaper_225 (nI q) (nI (58 + 7 * q)) n m) ∨ MW (f_X13_readPaper_225 (nI q) (nI (58 + 7 * q)) n m) T l b) := by
  intro k
  induction k with
  | zero =>
    intro n b hb hk m h
    have := h.1.1.le
    omega
  | succ k ih =>
    intro n b hb hk m h
    obtain ⟨n, rfl⟩ : ∃ y, n = y + 2 := ⟨n - 2, by omega⟩
    rw [s_X13_readPaper_225, f_X13_readPaper_225]
    obtain ⟨r1, r2, r3⟩ := R_part (gv := f_X13_readGive DG) (gs := s_X13_readGive DG) h fun _ => R_give DG m h (by rw [DG_eq]; omega)
    simp only [h.1.z, if_true, bnd, bndP, r1, true_and]
    generalize f_X13_readPart (f_X13_readGive DG) m (nI q) (nI (58 + 7 * q)) = z at *
    by_cases y : z.1 = 0
    · simp only [if_pos y]
      rcases r3 with r3 | ⟨r3, -⟩
      · obtain ⟨f1, f2⟩ := F_249 r3
        exact ⟨f1, Or.inl (by rw [f2]; exact r3)⟩
      · obtain ⟨f1, f2⟩ := R_249 r3
        exact ⟨f1, Or.inr f2⟩
    · simp only [if_neg y]
      rcases r3 with r3 | ⟨r3, r4⟩
      · obtain ⟨f1, f2⟩ := F_225 r3 (nI q) (nI (58 + 7 * q)) n
        simp only [m_goF r3.i, f1, f2, true_and]
        exact Or.inl r3
      · obtain ⟨a1, a2, a3, a4⟩ := r3.1.go
        have a5 : MP (f_X13_goOn z.2) T l (b + 1) q := ⟨a3 (r4 y), by rw [a4]; exact r3.2⟩
        obtain ⟨f1, f2⟩ := ih (n + 1) (b + 1) (by omega) (by omega) _ a5
        simp only [a1, f1, true_and]
        exact f2.imp id (fun x => x.mono (by omega))
-- ===== its head =====
theorem F_87 {m : gM} (h : MF m) (x1 x2 x3 x4 : Int32) : s_X13_readPaper_87 m x1 x2 x3 x4 ∧ f_X13_readPaper_87 m x1 x2 x3 x4 = m := by
  simp only [s_X13_readPaper_87, f_X13_readPaper_87, if_neg h.i, and_self]
theorem F_p18 {m : gM} (h : MF m) (x : Int32) : s_X13_readPaper_18 m x ∧ f_X13_readPaper_18 m x = m := by
  simp only [s_X13_readPaper_18, f_X13_readPaper_18, bnd, bndP, m_goF h.i, m_nwF h.i, m_tdF h.i, m_nmF h.i, if_neg h.i, F_87 h, true_and, and_self]
def uPap (m : gM) (q : Nat) (x2 x3 x4 x5 : Int32) : gM := wrI (wrI (wrI (wrI (wrI (wrI (wrI (wrI (wrI (wrI (wrI m 89 0 0 (58 + 7 * q) x2) 89 0 0 (58 + 7 * q + 1) x3) 89 0 0 (58 + 7 * q + 2) x4) 89 0 0 (58 + 7 * q + 3) x5) 89 0 0 (58 + 7 * q + 4) 0) 89 0 0 (58 + 7 * q + 5) 0) 89 0 0 (58 + 7 * q + 6) (-2)) 93 0 0 (10 + q) (-2)) 93 0 0 (22 + q) 0) 93 0 0 (34 + q) 0) 91 0 0 q 0
theorem U_pap {m : gM} {T : Nat → Nat} {l b q : Nat} {x2 x3 x4 x5 : Int32} (h : MW m T l b) (eq : vA (nV m) = q) (h12 : q < 12) (h2 : vp_in x2 (vP (nV m))) (h3 : dOK x3) (h4 : vp_in x4 2) (h5 : vp_in x5 3) : MP (uPap m q x2 x3 x4 x5) T l b q := by
  have ev : ∀ i, (nV (uPap m q x2 x3 x4 x5)).1 i = if i = 58 + 7 * q + 6 then -2 else if i = 58 + 7 * q + 5 then 0 else if i = 58 + 7 * q + 4 then 0 else if i = 58 + 7 * q + 3 then x5 else if i = 58 + 7 * q + 2 then x4 else if i = 58 + 7 * q + 1 then x3 else if i = 58 + 7 * q then x2 else (nV m).1 i := fun i => by
    show (nV (wrI (wrI (wrI (wrI (wrI (wrI (wrI m 89 0 0 (58 + 7 * q) x2) 89 0 0 (58 + 7 * q + 1) x3) 89 0 0 (58 + 7 * q + 2) x4) 89 0 0 (58 + 7 * q + 3) x5) 89 0 0 (58 + 7 * q + 4) 0) 89 0 0 (58 + 7 * q + 5) 0) 89 0 0 (58 + 7 * q + 6) (-2))).1 i = _
    rw [w89, w89, w89, w89, w89, w89, w89]
  have ew : ∀ i, (nV (uPap m q x2 x3 x4 x5)).2.1 i = if i = 34 + q then 0 else if i = 22 + q then 0 else if i = 10 + q then -2 else (nV m).2.1 i := fun i => by
    show (nV (wrI (wrI (wrI m 93 0 0 (10 + q) (-2)) 93 0 0 (22 + q) 0) 93 0 0 (34 + q) 0)).2.1 i = _
    rw [w93, w93, w93]
  have hMS : MS (uPap m q x2 x3 x4 x5) T l b := ((((((((((h.1.wr (by omega)).wr (by omega)).wr (by omega)).wr (by omega)).wr (by omega)).wr (by omega)).wr (by omega)).wr (by omega)).wr (by omega)).wr (by omega)).wr (by omega)
  generalize uPap m q x2 x3 x4 x5 = m' at *
  obtain ⟨s1, s2, s3, s4⟩ := h.slot (m' := m') eq h12 hMS (fun i _ a c => by rw [ev, if_neg (by omega), if_neg (by omega), if_neg (by omega), if_neg (by omega), if_neg (by omega), if_neg (by omega), if_neg (by omega)]) (fun i a c d => by rw [ew, if_neg (by omega), if_neg (by omega), if_neg (by omega)])
  have c0 : (nV m').1 (58 + 7 * q) = x2 := by rw [ev, if_neg (by omega), if_neg (by omega), if_neg (by omega), if_neg (by omega), if_neg (by omega), if_neg (by omega), if_pos rfl]
  have c1 : (nV m').1 (58 + 7 * q + 1) = x3 := by rw [ev, if_neg (by omega), if_neg (by omega), if_neg (by omega), if_neg (by omega), if_neg (by omega), if_pos rfl]
  have c2 : (nV m').1 (58 + 7 * q + 2) = x4 := by rw [ev, if_neg (by omega), if_neg (by omega), if_neg (by omega), if_neg (by omega), if_pos rfl]
  have c3 : (nV m').1 (58 + 7 * q + 3) = x5 := by rw [ev, if_neg (by omega), if_neg (by omega), if_neg (by omega), if_pos rfl]
  have c4 : (nV m').1 (58 + 7 * q + 4) = 0 := by rw [ev, if_neg (by omega), if_neg (by omega), if_pos rfl]
  have c5 : (nV m').1 (58 + 7 * q + 5) = 0 := by rw [ev, if_neg (by omega), if_pos rfl]
  have c6 : (nV m').1 (58 + 7 * q + 6) = -2 := by rw [ev, if_pos rfl]
  have d1 : (nV m').2.1 (10 + q) = -2 := by rw [ew, if_neg (by omega), if_neg (by omega), if_pos rfl]
  have d2 : (nV m').2.1 (22 + q) = 0 := by rw [ew, if_neg (by omega), if_pos rfl]
  have d3 : (nV m').2.1 (34 + q) = 0 := by rw [ew, if_pos rfl]
  refine ⟨s1, s2, h12, ?_, fun k hk => ?_⟩
  · unfold wfA
    rw [s3, c0, c1, c2, c3, c4, c5, c6, d1, d2, d3]
    refine ⟨h2, h3, h4, h5, vpD (by decide), vpD (by decide), Or.inl rfl, Or.inl rfl, vpD (by decide), fun i hi => ?_, ?_⟩
    · rw [b_0] at hi; cases hi
    · rw [fb_ct_zero.mpr (fun k _ => b_0 k)]; omega
  · have : vG (nV m') q = 0 := by unfold vG; rw [c5]; rfl
    omega
theorem R_87 {m : gM} {T : Nat → Nat} {l b q : Nat} {x2 x3 x4 : Int32} (h : MW m T l b) (eq : vA (nV m) = q) (h12 : q < 12) (h2 : vp_in x2 (vP (nV m))) (h3 : dOK x3) (h4 : vp_in x4 2) (h5 : vp_in (rdI m 74 0 0 0 - 11) 3) : s_X13_readPaper_87 m (nI q) x2 x3 x4 ∧ (MF (f_X13_readPaper_87 m (nI q) x2 x3 x4) ∨ MW (f_X13_readPaper_87 m (nI q) x2 x3 x4) T l b) := by
  have u := U_pap h eq h12 h2 h3 h4 h5
  obtain ⟨a1, a2, -⟩ := u.go
  have hl := h.l
  have hb := a2.1.1.le
  obtain ⟨r1, r2⟩ := R_225 (q := q) (l + 1 - b) FU b (by omega) (by rw [FU_eq]; omega) _ a2
  unfold uPap at a1 r1 r2
  have i0 : vp_in (nI (58 + 7 * q)) 502 := vpi (by omega)
  have i1 : vp_in (nI (58 + 7 * q + 1)) 502 := vpi (by omega)
  have i2 : vp_in (nI (58 + 7 * q + 2)) 502 := vpi (by omega)
  have i3 : vp_in (nI (58 + 7 * q + 3)) 502 := vpi (by omega)
  have i4 : vp_in (nI (58 + 7 * q + 4)) 502 := vpi (by omega)
  have i5 : vp_in (nI (58 + 7 * q + 5)) 502 := vpi (by omega)
  have i6 : vp_in (nI (58 + 7 * q + 6)) 502 := vpi (by omega)
  have j1 : vp_in (nI (10 + q)) 65 := vpi (by omega)
  have j2 : vp_in (nI (22 + q)) 65 := vpi (by omega)
  have j3 : vp_in (nI (34 + q)) 65 := vpi (by omega)
  have j4 : vp_in (nI q) 12 := vpi (by omega)
  have e74 : rdI (wrI (wrI (wrI m 89 0 0 (58 + 7 * q) x2) 89 0 0 (58 + 7 * q + 1) x3) 89 0 0 (58 + 7 * q + 2) x4) 74 0 0 0 = rdI m 74 0 0 0 := by rw [rwN (by decide), rwN (by decide), rwN (by decide)]
  simp only [s_X13_readPaper_87, f_X13_readPaper_87, bnd, bndP, h.z, if_true, e58, p0, p1, p2, p3, p4, p5, p6, show (10 : Int32) + nI q = nI (10 + q) from nI_add 10 _, show (22 : Int32) + nI q = nI (22 + q) from nI_add 22 _, show (34 : Int32) + nI q = nI (34 + q) from nI_add 34 _, i0, i1, i2, i3, i4, i5, i6, j1, j2, j3, j4, true_and,
    nn_nI (show 58 + 7 * q < 2 ^ 31 by omega), nn_nI (show 58 + 7 * q + 1 < 2 ^ 31 by omega), nn_nI (show 58 + 7 * q + 2 < 2 ^ 31 by omega), nn_nI (show 58 + 7 * q + 3 < 2 ^ 31 by omega), nn_nI (show 58 + 7 * q + 4 < 2 ^ 31 by omega), nn_nI (show 58 + 7 * q + 5 < 2 ^ 31 by omega), nn_nI (show 58 + 7 * q + 6 < 2 ^ 31 by omega), nn_nI (show 10 + q < 2 ^ 31 by omega), nn_nI (show 22 + q < 2 ^ 31 by omega), nn_nI (show 34 + q < 2 ^ 31 by omega), nn_nI (show q < 2 ^ 31 by omega), e74, a1, r1]
  exact r2
theorem kd_3 {x : Int32} (h : ¬ x < 11) (k : x ≤ 13) : vp_in (x - 11) 3 := by
  have a := Int32.le_iff_toInt_le.mp (i_nlt.mp h)
  have b := Int32.le_iff_toInt_le.mp k
  have e11 : (11 : Int32).toInt = 11 := by decide
  have e13 : (13 : Int32).toInt = 13 := by decide
  rw [e11] at a
  rw [e13] at b
  have s : (x - 11).toInt = x.toInt - 11 := by rw [fb_subI (by rw [e11]; omega) (by rw [e11]; omega), e11]
  exact vp_in_iff.mpr ⟨by omega, by omega⟩
theorem R_pap {m : gM} {T : Nat → Nat} {l b : Nat} (h : MW m T l b) (h3 : rdI m 73 0 0 0 ≠ 3) : s_X13_readPaper m ∧ (MF (f_X13_readPaper m) ∨ MW (f_X13_readPaper m) T l (b + 1)) := by
  obtain ⟨c1, c2, c3, c4, c5, c6, c7, c8⟩ := h.cnt
  have i0 : vp_in 2 502 := vpD (by decide)
  simp only [s_X13_readPaper, f_X13_readPaper, bnd, bndP, show nn 2 = 2 from rfl, c3, i0, true_and]
  by_cases z : nI (vA (nV m)) = 12
  · obtain ⟨w1, w2⟩ := h.wr (k := 2) (by decide)
    obtain ⟨f1, f2⟩ := F_p18 w2 (nI (vA (nV m)))
    simp only [if_pos z]
    rw [f2]
    exact ⟨⟨w1, f1⟩, Or.inl w2⟩
  · obtain ⟨q, eq⟩ : ∃ q, vA (nV m) = q := ⟨_, rfl⟩
    rw [eq] at z ⊢
    have lt : q < 12 := by
      rcases Nat.lt_or_ge q 12 with u | u
      · exact u
      · exact absurd (show nI q = 12 by rw [show q = 12 by omega]; rfl) z
    simp only [if_neg z, s_X13_readPaper_18, f_X13_readPaper_18, bnd, bndP]
    obtain ⟨a1, -, a3, a4⟩ := h.go
    have h1 := a3 h3
    rw [← a4] at eq
    clear c1 c2 c3 c4 c5 c6 c7 c8 z a3
    generalize f_X13_goOn m = m1 at *
    obtain ⟨b1, b2⟩ := h1.nw 2 2 (by omega) rfl (show vA (nV m1) < 12 by omega)
    rcases b2 with b2 | ⟨b2, b3⟩
    · simp only [a1, b1, m_tdF b2.i, m_nmF b2.i, if_neg b2.i, F_87 b2, true_and]
      exact Or.inl b2
    · rw [← b3] at eq
      generalize f_X13_newName m1 2 = m2 at *
      obtain ⟨d1, d2⟩ := b2.td 0 0 (by omega) rfl
      rcases d2 with ⟨d2, -⟩ | ⟨d2, d3, j, hj, ej⟩
      · simp only [a1, b1, d1, m_nmF d2.i, if_neg d2.i, F_87 d2, true_and]
        exact Or.inl d2
      · rw [← d3] at eq hj
        generalize f_X13_told m2 0 = z1 at *
        obtain ⟨k1, k2⟩ := d2.num 0 9999
        rcases k2 with ⟨k2, -⟩ | ⟨k2, k3, k4, k5⟩
        · simp only [a1, b1, d1, k1, m_nmF k2.i, if_neg k2.i, F_87 k2, true_and]
          exact Or.inl k2
        · rw [← k3] at eq hj
          generalize f_X13_number z1.2 0 9999 = z2 at *
          obtain ⟨r1, r2⟩ := k2.num 0 1
          rcases r2 with ⟨r2, -⟩ | ⟨r2, r3, r4, r5⟩
          · simp only [a1, b1, d1, k1, r1, if_neg r2.i, F_87 r2, true_and]
            exact Or.inl r2
          · rw [← r3] at eq hj
            generalize f_X13_number z2.2 0 1 = z3 at *
            have h10 := r2.2.1.P.2
            have hj' : j < vP (nV z3.2) := hj
            obtain ⟨w1, w2⟩ := r2.wr (k := 1) (by decide)
            have bad : s_X13_readPaper_82 z3.2 (nI q) z1.1 z2.1 z3.1 ∧ (MF (f_X13_readPaper_82 z3.2 (nI q) z1.1 z2.1 z3.1) ∨ MW (f_X13_readPaper_82 z3.2 (nI q) z1.1 z2.1 z3.1) T l (b + 1)) := by
              simp only [s_X13_readPaper_82, f_X13_readPaper_82, bnd, bndP, w1, F_87 w2, true_and]
              exact Or.inl w2
            simp only [a1, b1, d1, k1, r1, r2.z, if_true, true_and]
            by_cases y1 : rdI z3.2 73 0 0 0 = 0
            · simp only [if_pos y1]
              by_cases y2 : rdI z3.2 74 0 0 0 < 11
              · simp only [if_pos y2]
                exact bad
              · simp only [if_neg y2]
                by_cases y3 : rdI z3.2 74 0 0 0 ≤ 13
                · simp only [if_pos y3]
                  obtain ⟨g1, g2⟩ := R_87 r2 eq lt (x2 := z1.1) (x3 := z2.1) (x4 := z3.1) (by rw [ej]; exact vpi hj') ⟨k4, k5⟩ (n_01 r4 r5) (kd_3 y2 y3)
                  exact ⟨g1, g2.imp id (fun x => x.mono (by omega))⟩
                · simp only [if_neg y3]
                  exact bad
            · simp only [if_neg y1]
              exact bad
end
