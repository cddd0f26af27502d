-- THE CLASS'S PAPER ALONE (draft)
set_option linter.all false
noncomputable section
theorem CI.slot {r g q k : Nat} {d : gM} {v : Int32} (h : CI r d) (hq : vA (cV r d) ≤ q) (h1 : 25 ≤ g) (h2 : g ≤ 40) : CI r (wrI d g r q k v) := by
  obtain ⟨w, lf, f1, f2⟩ := h
  have o : offW [g] d (wrI d g r q k v) := oW
  have kk : ∀ f : Nat → Bool, f g = true → [g].all f = true := fun f hf => by simp [hf]
  have h12 := w.A.2
  obtain ⟨p1, p2, p3⟩ := x_P w o (kk _ (by simp; omega))
  obtain ⟨t1, t2, t3⟩ := x_T w o (kk _ (by simp; omega))
  obtain ⟨w1, w2⟩ := x_W w o (kk _ (by simp; omega))
  have e0 : (cV r (wrI d g r q k v)).1 2 = (cV r d).1 2 := by rw [v_7, v_7, rwN (by omega)]
  have eA : vA (cV r (wrI d g r q k v)) = vA (cV r d) := by unfold vA; rw [e0]
  have rd0 : ∀ g' x y, x ≠ q → rdI (wrI d g r q k v) g' r x y = rdI d g' r x y := fun g' x y hx => by rw [rwI, if_neg (fun z => hx z.2.2.1)]
  have e25 : ∀ q', q' < vA (cV r d) → ∀ j, j < 7 → (cV r (wrI d g r q k v)).1 (58 + 7 * q' + j) = (cV r d).1 (58 + 7 * q' + j) := fun q' h' j hj => by
    rw [v_25 (by omega) hj, v_25 (by omega) hj, rd0 _ _ _ (by omega), rd0 _ _ _ (by omega)]
  refine ⟨WF_ext w ⟨p2, t2, by rw [e0]; exact w.1.2.2.1, w1⟩ (by omega) (by omega) p3 t3 (fun q' hq' => Or.inr ?_) (fun q' hq' => Or.inr ?_) w2 (x_L o (kk _ (by simp [Nat.blt_eq]; omega))), lf, fun i hi => ?_, fun i j hi hj => ?_⟩
  · rw [eA] at hq'
    refine ⟨hq', e25 q' hq', ?_, ?_, ?_⟩
    · rw [v_33 (by omega), v_33 (by omega), rwI, if_neg (fun z => absurd z.2.2.1 (by omega))]
    · rw [v_30 (by omega), v_30 (by omega), rwI, if_neg (fun z => absurd z.2.2.1 (by omega))]
    · rw [v_34 (by omega), v_34 (by omega), rwI, if_neg (fun z => absurd z.2.2.1 (by omega))]
  · rw [eA] at hq'
    refine ⟨hq', e25 q' hq' 5 (by omega), fun k' j hk hj => ?_⟩
    rw [v_36 (by omega) hk hj, v_36 (by omega) hk hj, rd0 _ _ _ (by omega)]
  · rw [eA] at hi ⊢
    refine ⟨(f1 i hi).1, ?_⟩
    have := (f1 i hi).2
    rw [rpj] at this ⊢
    rw [rwN (by omega)]
    exact this
  · rw [eA] at hj
    have := f2 i j hi hj
    have a := (f1 i (by omega)).1
    have b := (f1 j hj).1
    unfold vlater at this ⊢
    rw [e25 _ a 1 (by omega), e25 _ b 1 (by omega)]
    exact this
/-- one give; a paper that is being read -/
def mG (r q P T : Nat) (c : gM) (k : Nat) : Prop := vp_in (rdI c 36 r q k) T ∧ vp_in (rdI c 37 r q k) P ∧ (rdI c 38 r q k = 0 ∧ rdI c 39 r q k = -1 ∨ (rdI c 38 r q k = 1 ∨ rdI c 38 r q k = 2) ∧ vp_in (rdI c 39 r q k) P) ∧ (rdI c 40 r q k = -1 ∨ vp_in (rdI c 40 r q k) P)
def mPp (r q P T : Nat) (c : gM) : Prop := (vp_in (rdI c 25 r q 0) P ∧ dOK (rdI c 26 r q 0) ∧ vp_in (rdI c 27 r q 0) 2 ∧ vp_in (rdI c 28 r q 0) 3) ∧ vp_in (rdI c 29 r q 0) 2 ∧ (∃ g, rdI c 35 r q 0 = nI g ∧ g ≤ 6 ∧ ∀ k, k < g → mG r q P T c k) ∧ (rdI c 32 r q 0 = -1 ∨ vp_in (rdI c 32 r q 0) P) ∧ (rdI c 33 r q 0 = -1 ∧ rdI c 34 r q 0 = 0) ∧ (∀ i, bt (rdI c 30 r q 0) i = true → i < P) ∧ fb_ct (bt (rdI c 30 r q 0)) 10 ≤ 4
theorem mG.eq {r q P T k : Nat} {c d : gM} (e : ∀ g, 36 ≤ g → g ≤ 40 → rdI d g r q k = rdI c g r q k) (h : mG r q P T c k) : mG r q P T d k := by
  unfold mG at h ⊢
  rw [e 36 (by omega) (by omega), e 37 (by omega) (by omega), e 38 (by omega) (by omega), e 39 (by omega) (by omega), e 40 (by omega) (by omega)]
  exact h
theorem mPp.eq {r q P T : Nat} {c d : gM} (e : ∀ g, 25 ≤ g → g ≤ 35 → g ≠ 31 → rdI d g r q 0 = rdI c g r q 0) (e2 : ∀ g k, nI k ≠ rdI c 35 r q 0 → 36 ≤ g → g ≤ 40 → rdI d g r q k = rdI c g r q k) (h : mPp r q P T c) : mPp r q P T d := by
  unfold mPp at h ⊢
  rw [e 25 (by omega) (by omega) (by omega), e 26 (by omega) (by omega) (by omega), e 27 (by omega) (by omega) (by omega), e 28 (by omega) (by omega) (by omega), e 29 (by omega) (by omega) (by omega), e 35 (by omega) (by omega) (by omega), e 32 (by omega) (by omega) (by omega), e 33 (by omega) (by omega) (by omega), e 34 (by omega) (by omega) (by omega), e 30 (by omega) (by omega) (by omega)]
  obtain ⟨h1, h2, ⟨g, g1, g2, g3⟩, h4⟩ := h
  refine ⟨h1, h2, ⟨g, g1, g2, fun k hk => (g3 k hk).eq fun g' a b => e2 g' k ?_ a b⟩, h4⟩
  rw [g1]
  intro z
  have := congrArg nn z
  rw [nn_nI (by omega), nn_nI (by omega)] at this
  omega
def CP (r q P T : Nat) (c : gM) : Prop := CT r 0 c ∧ (vP (cV r c) = P ∧ vT (cV r c) = T ∧ vA (cV r c) = q ∧ q < 12) ∧ (rdI c 48 r 0 0 = 0 → mPp r q P T c)
theorem CP.ke {r q P T : Nat} {c d : gM} (h : CP r q P T c) (t : CT r 0 d) (k : KE r c d) (f : rdI d 48 r 0 0 = 0 → rdI c 48 r 0 0 = 0) : CP r q P T d := by
  obtain ⟨h1, h2, h3⟩ := h
  refine ⟨t, by rw [cV_keep k]; exact h2, fun z => (h3 (f z)).eq (fun g a b _ => k g q 0 (by omega) (by omega)) (fun g x _ a b => k g q x (by omega) (by omega))⟩
theorem CP.P {r q P T : Nat} {c : gM} (h : CP r q P T c) : rdI c 5 r 0 0 = nI P ∧ P ≤ 10 := by
  have := h.1.2.1.P
  rw [h.2.1.1] at this
  exact this
theorem CP.T {r q P T : Nat} {c : gM} (h : CP r q P T c) : rdI c 6 r 0 0 = nI T ∧ T ≤ 8 := by
  have := h.1.2.1.T
  rw [h.2.1.2.1] at this
  exact this
theorem CP.A {r q P T : Nat} {c : gM} (h : CP r q P T c) : rdI c 7 r 0 0 = nI q := by
  have := h.1.2.1.A
  rw [h.2.1.2.2.1] at this
  exact this.1
theorem CP.slot {r q P T g k : Nat} {c : gM} {v : Int32} (h : CP r q P T c) (h1 : 25 ≤ g) (h2 : g ≤ 40) (m : rdI c 48 r 0 0 = 0 → mPp r q P T c → mPp r q P T (wrI c g r q k v)) : CP r q P T (wrI c g r q k v) := by
  obtain ⟨⟨t, i⟩, ⟨e1, e2, e3, e4⟩, h3⟩ := h
  refine ⟨⟨t.wr (by omega), i.slot (by omega) h1 h2⟩, ⟨?_, ?_, ?_, e4⟩, fun z => ?_⟩
  · rw [← e1]; unfold vP; rw [v_5, v_5, rwN (by omega)]
  · rw [← e2]; unfold vT; rw [v_6, v_6, rwN (by omega)]
  · rw [← e3]; unfold vA; rw [v_7, v_7, rwN (by omega)]
  · rw [rwN (by omega)] at z
    exact m z (h3 z)
-- ===== its parts =====
theorem C_own {r q P T : Nat} {c : gM} (h : CP r q P T c) : s_X8_takeOnce c r (rdI c 29 r q 0) ∧ CP r q P T (wrI (f_X8_takeOnce c r (rdI c 29 r q 0)) 29 r q 0 1) := by
  obtain ⟨a1, a2, a3, a4⟩ := P_once h.1 (rdI c 29 r q 0)
  refine ⟨a1, (h.ke a2 a3 (fun z => (a4 z).1)).slot (by omega) (by omega) fun _ m => ?_⟩
  obtain ⟨h1, h2, ⟨g, g1, g2, g3⟩, h4⟩ := m
  refine ⟨?_, ?_, ⟨g, ?_, g2, fun k hk => (g3 k hk).eq fun g' a b => by rw [rwN (by omega)]⟩, ?_⟩
  · rw [rwN (by decide), rwN (by decide), rwN (by decide), rwN (by decide)]; exact h1
  · rw [rwS]; exact vp12
  · rw [rwN (by decide)]; exact g1
  · rw [rwN (by decide), rwN (by decide), rwN (by decide), rwN (by decide)]; exact h4
theorem C_rst {r q P T : Nat} {c : gM} (h : CP r q P T c) (y : Int32) : s_X8_readPart_110 c r q y ∧ CP r q P T (f_X8_readPart_110 c r q y) := by
  obtain ⟨a1, a2, a3, a4⟩ := P_once h.1 y
  have h1 := h.ke a2 a3 (fun z => (a4 z).1)
  simp only [s_X8_readPart_110, f_X8_readPart_110, bnd, bndP, and_true]
  generalize f_X8_takeOnce c r y = c1 at *
  obtain ⟨b1, b2, b3, b4, b5⟩ := P_per a2 h1.P.1 h1.P.2
  have h2 := h1.ke b2 b3 (fun z => (b5 z).1)
  generalize f_X8_takePerson c1 r = z at *
  refine ⟨⟨a1, b1⟩, h2.slot (by omega) (by omega) fun f m => ?_⟩
  obtain ⟨-, j, hj, ej⟩ := b5 f
  obtain ⟨m1, m2, ⟨g, g1, g2, g3⟩, m4, m5⟩ := m
  refine ⟨?_, ?_, ⟨g, ?_, g2, fun k hk => (g3 k hk).eq fun g' a b => by rw [rwN (by omega)]⟩, ?_, ?_⟩
  · rw [rwN (by decide), rwN (by decide), rwN (by decide), rwN (by decide)]; exact m1
  · rw [rwN (by decide)]; exact m2
  · rw [rwN (by decide)]; exact g1
  · rw [rwS, ej]; exact Or.inr (vpi hj (by have := h.P.2; omega))
  · rw [rwN (by decide), rwN (by decide), rwN (by decide)]; exact m5
theorem C_wtn {r q P T : Nat} {c : gM} (h : CP r q P T c) : s_X8_readWitness c r q ∧ CP r q P T (f_X8_readWitness c r q) := by
  have h10 := h.P.2
  obtain ⟨a1, a2, a3, a4⟩ := P_more h.1 (f_J6_bitCount_0f7a4 c (rdI c 30 r q 0)) 4
  have h1 := h.ke a2 a3 (fun z => (a4 z).1)
  simp only [s_X8_readWitness, f_X8_readWitness, bnd, bndP]
  generalize f_X8_takeOneMore c r (f_J6_bitCount_0f7a4 c (rdI c 30 r q 0)) 4 = c1 at *
  obtain ⟨b1, b2, b3, b4, b5⟩ := P_per a2 h1.P.1 h1.P.2
  have h2 := h1.ke b2 b3 (fun z => (b5 z).1)
  generalize f_X8_takePerson c1 r = z at *
  have lt : rdI z.2 48 r 0 0 = 0 → fb_ct (bt (rdI z.2 30 r q 0)) 10 < 4 := fun f => by
    obtain ⟨f1, -⟩ := b5 f
    obtain ⟨f2, l⟩ := a4 f1
    have m := (h.2.2 f2).2.2.2.2.2
    rw [bc10 h10 m.1] at l
    have := n_lt (by have := m.2; omega) (by omega) (show nI (fb_ct (bt (rdI c 30 r q 0)) 10) < nI 4 from l)
    rw [b3 30 q 0 (by omega) (by omega), a3 30 q 0 (by omega) (by omega)]
    exact this
  have go : ∀ d, CP r q P T d → KE r z.2 d → (rdI d 48 r 0 0 = 0 → rdI z.2 48 r 0 0 = 0) → s_X8_readWitness_37 d r q z.1 ∧ CP r q P T (f_X8_readWitness_37 d r q z.1) := fun d hd kd fd => by
    simp only [s_X8_readWitness_37, f_X8_readWitness_37, bnd, bndP, true_and]
    refine hd.slot (by omega) (by omega) fun f m => ?_
    obtain ⟨-, j, hj, ej⟩ := b5 (fd f)
    have l := lt (fd f)
    rw [← kd 30 q 0 (by omega) (by omega)] at l
    obtain ⟨m1, m2, ⟨g, g1, g2, g3⟩, m4, m5, m6, m7⟩ := m
    refine ⟨?_, ?_, ⟨g, ?_, g2, fun k hk => (g3 k hk).eq fun g' a b => by rw [rwN (by omega)]⟩, ?_, ?_, ?_⟩
    · rw [rwN (by decide), rwN (by decide), rwN (by decide), rwN (by decide)]; exact m1
    · rw [rwN (by decide)]; exact m2
    · rw [rwN (by decide)]; exact g1
    · rw [rwN (by decide)]; exact m4
    · rw [rwN (by decide), rwN (by decide)]; exact m5
    · rw [rwS, ej]
      exact ⟨or_in hj (by omega) m6, by have := or_ct (x := rdI d 30 r q 0) (j := j) (by omega); omega⟩
  obtain ⟨f1, f2, f3, f4⟩ := P_faT b2
  have h3 := h2.ke f2 f3 (P_faK b2)
  have bad : s_X8_readWitness_33 z.2 r q z.1 ∧ CP r q P T (f_X8_readWitness_33 z.2 r q z.1) := by
    simp only [s_X8_readWitness_33, f_X8_readWitness_33, bnd, bndP]
    obtain ⟨n1, n2⟩ := go _ h3 f3 (P_faK b2)
    exact ⟨⟨f1, n1⟩, n2⟩
  obtain ⟨n1, n2⟩ := go _ h2 KE.rfl id
  have sw : s_X5_isWitness z.2 r q z.1 := by unfold s_X5_isWitness; split <;> trivial
  split
  · split
    · exact ⟨⟨s_bit, a1, b1, sw, bad.1⟩, bad.2⟩
    · exact ⟨⟨s_bit, a1, b1, sw, n1⟩, n2⟩
  · exact ⟨⟨s_bit, a1, b1, sw, bad.1⟩, bad.2⟩
theorem C_str {r q P T : Nat} {c : gM} (h : CP r q P T c) : s_X8_readStrike c r q ∧ CP r q P T (f_X8_readStrike c r q) := by
  have h12 := h.2.1.2.2.2
  obtain ⟨a1, a2, a3, a4⟩ := P_more h.1 (f_J6_bitCount_0f7a4 c (rdI c 31 r q 0)) 3
  have h1 := h.ke a2 a3 (fun z => (a4 z).1)
  simp only [s_X8_readStrike, f_X8_readStrike, bnd, bndP]
  generalize f_X8_takeOneMore c r (f_J6_bitCount_0f7a4 c (rdI c 31 r q 0)) 3 = c1 at *
  obtain ⟨b1, b2, b3, b4, b5⟩ := P_pap a2 h1.A (by omega)
  have h2 := h1.ke b2 b3 (fun z => (b5 z).1)
  generalize f_X8_takePaper c1 r = z at *
  have v12 := b4.in (N := 12) (by omega) (by omega) (by omega)
  have go : ∀ d, CP r q P T d → s_X8_readStrike_48 d r q z.1 ∧ CP r q P T (f_X8_readStrike_48 d r q z.1) := fun d hd => by
    simp only [s_X8_readStrike_48, f_X8_readStrike_48, bnd, bndP, true_and]
    refine hd.slot (by omega) (by omega) fun f m => m.eq (fun g a b e => by rw [rwN (by omega)]) (fun g k _ a b => by rw [rwN (by omega)])
  obtain ⟨f1, f2, f3, f4⟩ := P_faT b2
  have bad : s_X8_readStrike_44 z.2 r q z.1 ∧ CP r q P T (f_X8_readStrike_44 z.2 r q z.1) := by
    simp only [s_X8_readStrike_44, f_X8_readStrike_44, bnd, bndP]
    obtain ⟨n1, n2⟩ := go _ (h2.ke f2 f3 (P_faK b2))
    exact ⟨⟨f1, n1⟩, n2⟩
  obtain ⟨n1, n2⟩ := go _ h2
  have sw : s_X5_strikes z.2 r q z.1 := by unfold s_X5_strikes; split <;> trivial
  split
  · split
    · exact ⟨⟨s_bit, a1, b1, sw, v12, n1⟩, n2⟩
    · exact ⟨⟨s_bit, a1, b1, sw, v12, bad.1⟩, bad.2⟩
  · exact ⟨⟨s_bit, a1, b1, sw, bad.1⟩, bad.2⟩
-- ===== a give =====
def CG (r q P T g : Nat) (c : gM) : Prop := CP r q P T c ∧ rdI c 35 r q 0 = nI g ∧ g < 6 ∧ (rdI c 48 r 0 0 = 0 → mG r q P T c g)
theorem CG.ke {r q P T g : Nat} {c d : gM} (h : CG r q P T g c) (t : CT r 0 d) (k : KE r c d) (f : rdI d 48 r 0 0 = 0 → rdI c 48 r 0 0 = 0) : CG r q P T g d :=
  ⟨h.1.ke t k f, (k 35 q 0 (by omega) (by omega)).trans h.2.1, h.2.2.1, fun z => (h.2.2.2 (f z)).eq fun g' a b => k g' q g (by omega) (by omega)⟩
/-- a cell of the give that is being read -/
theorem CP.giv {r q P T g g' : Nat} {c : gM} {v : Int32} (h : CP r q P T c) (e : rdI c 35 r q 0 = nI g) (h1 : 36 ≤ g') (h2 : g' ≤ 40) : CP r q P T (wrI c g' r q g v) ∧ rdI (wrI c g' r q g v) 35 r q 0 = nI g :=
  ⟨h.slot (by omega) h2 fun f m => m.eq (fun g2 a b _ => by rw [rwN (by omega)]) (fun g2 k ne a b => by
    rw [rwI, if_neg]
    intro z
    apply ne
    rw [e, z.2.2.2]), by rw [rwN (by omega)]; exact e⟩
theorem C_165 {r q P T g : Nat} {c : gM} (h : CG r q P T g c) : s_X8_readGive_165 c r q ∧ CP r q P T (f_X8_readGive_165 c r q) := by
  obtain ⟨h1, h2, h3, h4⟩ := h
  simp only [s_X8_readGive_165, f_X8_readGive_165, bnd, bndP, true_and, h2, p1]
  refine h1.slot (by omega) (by omega) fun f m => ?_
  obtain ⟨m1, m2, ⟨g', g1, g2, g3⟩, m4, m5, m6⟩ := m
  have eg : g' = g := by
    have := congrArg nn (g1.symm.trans h2)
    rwa [nn_nI (by omega), nn_nI (by omega)] at this
  subst eg
  refine ⟨?_, ?_, ⟨g' + 1, ?_, by omega, fun k hk => ?_⟩, ?_, ?_, ?_⟩
  · rw [rwN (by decide), rwN (by decide), rwN (by decide), rwN (by decide)]; exact m1
  · rw [rwN (by decide)]; exact m2
  · rw [rwS]
  · have e : mG r q P T c k := by
      by_cases z : k = g'
      · rw [z]; exact h4 f
      · exact g3 k (by omega)
    exact e.eq fun g2 a b => by rw [rwN (by omega)]
  · rw [rwN (by decide)]; exact m4
  · rw [rwN (by decide), rwN (by decide)]; exact m5
  · rw [rwN (by decide)]; exact m6
theorem C_122 {r q P T g : Nat} {c : gM} (h : CG r q P T g c) : s_X8_readGive_122 c r q (nI g) ∧ CP r q P T (f_X8_readGive_122 c r q (nI g)) := by
  have hc := h.1.1.1.comes
  have g6 := h.2.2.1
  have h10 := h.1.P.2
  obtain ⟨a1, a2, a3, a4⟩ := P_take h.1.1
  have h1 := h.ke a2 a3 (fun z => a4.symm.trans z)
  have vg : vp_in (nI g) 6 := vpi g6
  obtain ⟨n1, n2⟩ := C_165 h
  simp only [s_X8_readGive_122, f_X8_readGive_122, bnd, bndP, nn_nI (show g < 2 ^ 31 by omega)]
  generalize f_X8_takeToken c r = c1 at *
  obtain ⟨b1, b2, b3, b4, b5⟩ := P_per a2 h1.1.P.1 h10
  have h2 := h1.ke b2 b3 (fun z => (b5 z).1)
  generalize f_X8_takePerson c1 r = z at *
  have h3 : CG r q P T g (wrI z.2 40 r q g z.1) := by
    obtain ⟨k1, k2⟩ := h2.1.giv (g' := 40) (v := z.1) h2.2.1 (by omega) (by omega)
    refine ⟨k1, k2, g6, fun f => ?_⟩
    rw [rwN (by decide)] at f
    obtain ⟨-, j, hj, ej⟩ := b5 f
    obtain ⟨m1, m2, m3, m4⟩ := h2.2.2.2 f
    refine ⟨?_, ?_, ?_, ?_⟩
    · rw [rwN (by decide)]; exact m1
    · rw [rwN (by decide)]; exact m2
    · rw [rwN (by decide), rwN (by decide)]; exact m3
    · rw [rwS, ej]; exact Or.inr (vpi hj)
  generalize wrI z.2 40 r q g z.1 = c3 at *
  obtain ⟨f1, f2, f3, f4⟩ := P_faT h3.1.1
  obtain ⟨u1, u2⟩ := C_165 (h3.ke f2 f3 (P_faK h3.1.1))
  obtain ⟨w1, w2⟩ := C_165 h3
  split
  · split
    · exact ⟨⟨hc.1, hc.2, a1, b1, vg, vg, vg, f1, u1⟩, u2⟩
    · exact ⟨⟨hc.1, hc.2, a1, b1, vg, vg, vg, w1⟩, w2⟩
  · exact ⟨⟨hc.1, hc.2, n1⟩, n2⟩
theorem C_107 {r q P T g : Nat} {c : gM} (h : CG r q P T g c) {y : Int32} (hy : y = 1 ∨ y = 2) : s_X8_readGive_107 c r q (nI g) (nI g) y ∧ CP r q P T (f_X8_readGive_107 c r q (nI g) (nI g) y) := by
  have g6 := h.2.2.1
  have h10 := h.1.P.2
  have vg : vp_in (nI g) 6 := vpi g6
  simp only [s_X8_readGive_107, f_X8_readGive_107, bnd, bndP, nn_nI (show g < 2 ^ 31 by omega)]
  obtain ⟨k1, k2⟩ := h.1.giv (g' := 38) (v := y) h.2.1 (by omega) (by omega)
  have m38 : rdI (wrI c 38 r q g y) 48 r 0 0 = 0 → vp_in (rdI (wrI c 38 r q g y) 36 r q g) T ∧ vp_in (rdI (wrI c 38 r q g y) 37 r q g) P ∧ rdI (wrI c 38 r q g y) 38 r q g = y ∧ (rdI (wrI c 38 r q g y) 40 r q g = -1 ∨ vp_in (rdI (wrI c 38 r q g y) 40 r q g) P) := fun f => by
    rw [rwN (by decide)] at f
    obtain ⟨m1, m2, m3, m4⟩ := h.2.2.2 f
    rw [rwN (by decide), rwN (by decide), rwS, rwN (by decide)]
    exact ⟨m1, m2, rfl, m4⟩
  generalize wrI c 38 r q g y = c1 at *
  obtain ⟨a1, a2, a3, a4⟩ := P_take k1.1
  have h1 := k1.ke a2 a3 (fun z => a4.symm.trans z)
  generalize f_X8_takeToken c1 r = c2 at *
  obtain ⟨b1, b2, b3, b4, b5⟩ := P_per a2 h1.P.1 h10
  have h2 := h1.ke b2 b3 (fun z => (b5 z).1)
  generalize f_X8_takePerson c2 r = z at *
  have e35 : rdI z.2 35 r q 0 = nI g := ((a3.tr b3) 35 q 0 (by omega) (by omega)).trans k2
  have h3 : CG r q P T g (wrI z.2 39 r q g z.1) := by
    obtain ⟨l1, l2⟩ := h2.giv (g' := 39) (v := z.1) e35 (by omega) (by omega)
    refine ⟨l1, l2, g6, fun f => ?_⟩
    rw [rwN (by decide)] at f
    obtain ⟨f', j, hj, ej⟩ := b5 f
    obtain ⟨m1, m2, m3, m4⟩ := m38 (a4.symm.trans f')
    have kk := a3.tr b3
    refine ⟨?_, ?_, ?_, ?_⟩
    · rw [rwN (by decide), kk 36 q g (by omega) (by omega)]; exact m1
    · rw [rwN (by decide), kk 37 q g (by omega) (by omega)]; exact m2
    · rw [rwN (by decide), rwS, kk 38 q g (by omega) (by omega), m3, ej]
      exact Or.inr ⟨hy, vpi hj⟩
    · rw [rwN (by decide), kk 40 q g (by omega) (by omega)]; exact m4
  obtain ⟨n1, n2⟩ := C_122 h3
  exact ⟨⟨vg, a1, b1, vg, n1⟩, n2⟩
theorem C_giv {r q P T : Nat} {c : gM} (h : CP r q P T c) : s_X8_readGive c r q ∧ CP r q P T (f_X8_readGive c r q) := by
  obtain ⟨a1, a2, a3, a4⟩ := P_more h.1 (rdI c 35 r q 0) 6
  have h1 := h.ke a2 a3 (fun z => (a4 z).1)
  have h10 := h.P.2
  have h8 := h.T.2
  simp only [s_X8_readGive, f_X8_readGive, bnd, bndP]
  generalize f_X8_takeOneMore c r (rdI c 35 r q 0) 6 = c1 at *
  by_cases f0 : rdI c1 48 r 0 0 = 0
  · obtain ⟨f1, l⟩ := a4 f0
    obtain ⟨g, g1, g2, g3⟩ := (h.2.2 f1).2.2.1
    rw [g1] at l a1 ⊢
    have g6 : g < 6 := n_lt (by omega) (by omega) (show nI g < nI 6 from l)
    have vg : vp_in (nI g) 6 := vpi g6
    have e35 : rdI c1 35 r q 0 = nI g := (a3 35 q 0 (by omega) (by omega)).trans g1
    simp only [if_pos f0, if_pos l, nn_nI (show g < 2 ^ 31 by omega)]
    obtain ⟨b1, b2, b3, b4, b5⟩ := P_thg a2 h1.T.1 h8
    have h2 := h1.ke b2 b3 (fun z => (b5 z).1)
    generalize f_X8_takeThing c1 r = z at *
    obtain ⟨k1, k2⟩ := h2.giv (g' := 36) (v := z.1) ((b3 35 q 0 (by omega) (by omega)).trans e35) (by omega) (by omega)
    have m36 : rdI (wrI z.2 36 r q g z.1) 48 r 0 0 = 0 → vp_in (rdI (wrI z.2 36 r q g z.1) 36 r q g) T := fun f => by
      rw [rwN (by decide)] at f
      obtain ⟨-, j, hj, ej⟩ := b5 f
      rw [rwS, ej]
      exact vpi hj
    generalize wrI z.2 36 r q g z.1 = c2 at *
    obtain ⟨d1, d2, d3, d4, d5⟩ := P_per k1.1 k1.P.1 h10
    have h3 := k1.ke d2 d3 (fun z => (d5 z).1)
    generalize f_X8_takePerson c2 r = y at *
    obtain ⟨l1, l2⟩ := h3.giv (g' := 37) (v := y.1) ((d3 35 q 0 (by omega) (by omega)).trans k2) (by omega) (by omega)
    obtain ⟨l3, l4⟩ := l1.giv (g' := 38) (v := 0) l2 (by omega) (by omega)
    obtain ⟨l5, l6⟩ := l3.giv (g' := 39) (v := -1) l4 (by omega) (by omega)
    obtain ⟨l7, l8⟩ := l5.giv (g' := 40) (v := -1) l6 (by omega) (by omega)
    have cg : CG r q P T g (wrI (wrI (wrI (wrI y.2 37 r q g y.1) 38 r q g 0) 39 r q g (-1)) 40 r q g (-1)) := by
      refine ⟨l7, l8, g6, fun f => ?_⟩
      rw [rwN (by decide), rwN (by decide), rwN (by decide), rwN (by decide)] at f
      obtain ⟨f', j, hj, ej⟩ := d5 f
      refine ⟨?_, ?_, Or.inl ⟨?_, ?_⟩, Or.inl ?_⟩
      · rw [rwN (by decide), rwN (by decide), rwN (by decide), rwN (by decide), d3 36 q g (by omega) (by omega)]; exact m36 f'
      · rw [rwN (by decide), rwN (by decide), rwN (by decide), rwS, ej]; exact vpi hj
      · rw [rwN (by decide), rwN (by decide), rwS]
      · rw [rwN (by decide), rwS]
      · rw [rwS]
    generalize wrI (wrI (wrI (wrI y.2 37 r q g y.1) 38 r q g 0) 39 r q g (-1)) 40 r q g (-1) = c3 at *
    have hc := cg.1.1.1.comes
    have s87 : s_X8_readGive_87 c3 r q (nI g) ∧ CP r q P T (f_X8_readGive_87 c3 r q (nI g)) := by
      simp only [s_X8_readGive_87, f_X8_readGive_87]
      obtain ⟨u1, u2⟩ := C_107 cg (Or.inl rfl)
      obtain ⟨w1, w2⟩ := C_107 cg (Or.inr rfl)
      split
      · exact ⟨⟨hc.1, hc.2, u1⟩, u2⟩
      · exact ⟨⟨hc.1, hc.2, w1⟩, w2⟩
    obtain ⟨u1, u2⟩ := C_122 cg
    split
    · exact ⟨⟨a1, b1, vg, d1, vg, vg, vg, vg, hc.1, hc.2, s87.1⟩, s87.2⟩
    · split
      · exact ⟨⟨a1, b1, vg, d1, vg, vg, vg, vg, hc.1, hc.2, hc.1, hc.2, s87.1⟩, s87.2⟩
      · exact ⟨⟨a1, b1, vg, d1, vg, vg, vg, vg, hc.1, hc.2, hc.1, hc.2, u1⟩, u2⟩
  · simp only [if_neg f0]
    exact ⟨⟨a1, trivial⟩, h1⟩
theorem C_part {r q P T : Nat} {c : gM} (h : CP r q P T c) : s_X8_readPart c r q ∧ CP r q P T (f_X8_readPart c r q) := by
  have hc := h.1.1.comes
  have ho := h.1.1.ord
  obtain ⟨a1, a2⟩ := C_own h
  obtain ⟨b1, b2⟩ := C_wtn h
  obtain ⟨d1, d2⟩ := C_giv h
  obtain ⟨e1, e2⟩ := C_rst h 0
  obtain ⟨g1, g2⟩ := C_rst h 1
  obtain ⟨i1, i2⟩ := C_str h
  have bad : s_X8_readPart_132 c r q ∧ CP r q P T (f_X8_readPart_132 c r q) := by
    obtain ⟨t1, t2, t3⟩ := T_fail h.1.1 (v := 1) (by decide)
    have kk : KE r c (f_X8_fail c r 1) := KE.of (o_X8_fail c r 1) (by decide)
    simp only [s_X8_readPart_132, f_X8_readPart_132, bnd, bndP, and_true]
    exact ⟨t1, h.ke (h.1.ke t2 kk) kk (fun z => absurd z t3)⟩
  simp only [s_X8_readPart, f_X8_readPart, bnd, bndP, and_true]
  refine ⟨⟨hc.1, hc.2, ho.1, ho.2, ?_⟩, ?_⟩
  · (repeat' split) <;> first | exact a1 | exact b1 | exact d1 | exact e1 | exact g1 | exact i1 | exact bad.1
  · (repeat' split) <;> first | exact a2 | exact b2 | exact d2 | exact e2 | exact g2 | exact i2 | exact bad.2
end
