set_option linter.all false
noncomputable section
-- ===== what both have read so far =====
def prj (r : Nat) (c : gM) : gM := (fun g _ b d => rdI c g r b d, c.2)
theorem rpj {r : Nat} {c : gM} {g a b d : Nat} : rdI (prj r c) g a b d = rdI c g r b d := rfl
def nV (m : gM) : vV := (fun i => rdI m 89 0 0 i, fun i => rdI m 93 0 0 i, fun i => rdI m 91 0 0 i)
theorem y89 {m : gM} (i : Nat) : rdI m 89 0 0 i = (nV m).1 i := rfl
theorem y93 {m : gM} (i : Nat) : rdI m 93 0 0 i = (nV m).2.1 i := rfl
theorem y91 {m : gM} (i : Nat) : rdI m 91 0 0 i = (nV m).2.2 i := rfl
/-- told so far: the class's row r, the reference's new rows -/
def DR (r : Nat) (c m : gM) (T : Nat → Nat) (lf : Nat → Nat) : Prop := CV (prj r c) (nV m) lf ∧ WF (nV m) ∧ (NMk c m r T 0 (vP (nV m)) ∧ NMk c m r T 1 (vT (nV m)) ∧ NMk c m r T 2 (vA (nV m))) ∧ (∀ x, x < 2 → rdI c 13 r x 0 = rdI m 96 0 0 x ∧ gB (rdI m 96 0 0 x)) ∧ (∀ p, vP (nV m) ≤ p → p < 10 → (nV m).2.1 p = -2 ∧ (nV m).1 (24 + p) = 0) ∧ ∀ p, p < vP (nV m) → fb_ct (bt ((nV m).1 (24 + p))) 10 ≤ 2
theorem nV_off {m m' : gM} {W : List Nat} (o : offW W m m') (k : W.all (fun g => g != 89 && g != 91 && g != 93) = true) : nV m' = nV m := by
  have e : ∀ g, (g = 89 ∨ g = 91 ∨ g = 93) → ∀ i, rdI m' g 0 0 i = rdI m g 0 0 i := fun g hg i => (o g 0 0 i fun q => by
    have := List.all_eq_true.mp k g q
    rcases hg with rfl | rfl | rfl <;> simp at this).1
  unfold nV
  simp only [e 89 (Or.inl rfl), e 91 (Or.inr (Or.inl rfl)), e 93 (Or.inr (Or.inr rfl))]
theorem pj_off {r : Nat} {c c' : gM} {V : vV} {lf : Nat → Nat} {W : List Nat} (h : CV (prj r c) V lf) (o : offW W c c') (k : W.all (fun g => Nat.blt g 4 || Nat.blt 40 g) = true) : CV (prj r c') V lf :=
  h.same fun g b d h1 h2 => (o g r b d fun q => by
    have := List.all_eq_true.mp k g q
    rcases (Bool.or_eq_true _ _).mp this with z | z
    · have := Nat.le_of_ble_eq_true z; omega
    · have := Nat.le_of_ble_eq_true z; omega).1
theorem NMk.keep {c c' m m' : gM} {r kd n : Nat} {T : Nat → Nat} (h : NMk c m r T kd n) (a : ∀ j, j < n → rdI c' 50 r kd j = rdI c 50 r kd j) (b : ∀ j, j < n → rdI m' 95 0 0 (12 * kd + j) = rdI m 95 0 0 (12 * kd + j)) : NMk c' m' r T kd n := fun j hj => by rw [a j hj, b j hj]; exact h j hj
theorem DR.off {r : Nat} {c c' m m' : gM} {T : Nat → Nat} {lf : Nat → Nat} {Wc Wm : List Nat} (h : DR r c m T lf) (oc : offW Wc c c') (kc : Wc.all (fun g => Nat.blt 40 g && g != 50) = true) (om : offW Wm m m') (km : Wm.all (fun g => Nat.blt g 89) = true) : DR r c' m' T lf := by
  obtain ⟨h1, h2, ⟨n1, n2, n3⟩, h4, h5⟩ := h
  have e := nV_off om (List.all_eq_true.mpr fun g hg => by
    have := Nat.le_of_ble_eq_true (List.all_eq_true.mp km g hg)
    simp; omega)
  have c50 : ∀ kd j, rdI c' 50 r kd j = rdI c 50 r kd j := fun kd j => (oc 50 r kd j fun q => by
    have := List.all_eq_true.mp kc 50 q
    simp at this).1
  have c13 : ∀ x, rdI c' 13 r x 0 = rdI c 13 r x 0 := fun x => (oc 13 r x 0 fun q => by
    have := List.all_eq_true.mp kc 13 q
    simp at this).1
  have m95 : ∀ g i, 89 ≤ g → rdI m' g 0 0 i = rdI m g 0 0 i := fun g i hg => (om g 0 0 i fun q => by
    have := Nat.le_of_ble_eq_true (List.all_eq_true.mp km g q)
    omega).1
  refine ⟨?_, by rw [e]; exact h2, ?_, fun x hx => ?_, by rw [e]; exact h5⟩
  · rw [e]
    exact pj_off h1 oc (List.all_eq_true.mpr fun g hg => by
      have := (Bool.and_eq_true _ _).mp (List.all_eq_true.mp kc g hg)
      exact (Bool.or_eq_true _ _).mpr (Or.inr this.1))
  · rw [e]
    exact ⟨n1.keep (fun j _ => c50 0 j) (fun j _ => m95 95 _ (by omega)), n2.keep (fun j _ => c50 1 j) (fun j _ => m95 95 _ (by omega)), n3.keep (fun j _ => c50 2 j) (fun j _ => m95 95 _ (by omega))⟩
  · rw [c13, m95 96 _ (by omega)]; exact h4 x hx
theorem DR.P {r : Nat} {c m : gM} {T : Nat → Nat} {lf : Nat → Nat} (h : DR r c m T lf) : rdI c 5 r 0 0 = nI (vP (nV m)) ∧ rdI m 89 0 0 0 = nI (vP (nV m)) ∧ vP (nV m) ≤ 10 := ⟨h.1.P h.2.1, h.2.1.P.1, h.2.1.P.2⟩
theorem DR.T {r : Nat} {c m : gM} {T : Nat → Nat} {lf : Nat → Nat} (h : DR r c m T lf) : rdI c 6 r 0 0 = nI (vT (nV m)) ∧ rdI m 89 0 0 1 = nI (vT (nV m)) ∧ vT (nV m) ≤ 8 := ⟨h.1.T h.2.1, h.2.1.T.1, h.2.1.T.2⟩
theorem DR.A {r : Nat} {c m : gM} {T : Nat → Nat} {lf : Nat → Nat} (h : DR r c m T lf) : rdI c 7 r 0 0 = nI (vA (nV m)) ∧ rdI m 89 0 0 2 = nI (vA (nV m)) ∧ vA (nV m) ≤ 12 := ⟨h.1.A h.2.1, h.2.1.A.1, h.2.1.A.2⟩
theorem DR.N {r : Nat} {c m : gM} {T : Nat → Nat} {lf : Nat → Nat} (h : DR r c m T lf) : rdI c 8 r 0 0 = nI (vN (nV m)) ∧ rdI m 93 0 0 64 = nI (vN (nV m)) ∧ vN (nV m) ≤ 6 := ⟨h.1.N h.2.1, h.2.1.N.1, h.2.1.N.2⟩
-- steps
theorem o47 {c : gM} {r : Nat} {v : Int32} : offW [47] c (wrI c 47 r 0 0 v) := offR.wI (by decide)
/-- both at token i, all told so far alike -/
def RS (r : Nat) (c m : gM) (T : Nat → Nat) (l cn i : Nat) : Prop := (∃ j, i ≤ j ∧ cOK c r T l cn j ∧ mOK m T l j ∧ ∃ lf, DR r c m T lf) ∨ FM c m r T l cn
theorem nIeq {a b : Nat} (ha : a < 2 ^ 31) (hb : b < 2 ^ 31) : nI a = nI b ↔ a = b := ⟨fun e => by
    have := congrArg nn e
    rwa [nn_nI ha, nn_nI hb] at this, fun e => by rw [e]⟩
/-- one more, or too many -/
theorem S_more {c m : gM} {r : Nat} {T : Nat → Nat} {l cn i n : Nat} {N : Int32} {N' : Nat} (eN : N = nI N') (hN : N' < 2 ^ 31) (h : cOK c r T l cn i) (k : mOK m T l i) (hi : i < cn) (hn : n ≤ N') :
    (n < N' → s_X8_takeOneMore c r (nI n) N ∧ f_X8_takeOneMore c r (nI n) N = wrI c 47 r 0 0 (nI (i + 1)) ∧ cOK (wrI c 47 r 0 0 (nI (i + 1))) r T l cn (i + 1) ∧ ¬ nI n = N) ∧
    (n = N' → s_X8_takeOneMore c r (nI n) N ∧ s_X13_wrong m 2 ∧ FM (f_X8_takeOneMore c r (nI n) N) (f_X13_wrong m 2) r T l cn ∧ nI n = N) := by
  subst eN
  obtain ⟨t1, t2, t3⟩ := cx_tk h hi
  constructor
  · intro q
    have q2 : nI n < nI N' := nI_lt q hN
    simp only [s_X8_takeOneMore, f_X8_takeOneMore, bnd, bndP, if_pos q2, t1, t2, true_and]
    rw [t2] at t3
    exact ⟨t3, fun z => by have := (nIeq (by omega) hN).mp z; omega⟩
  · rintro rfl
    have q2 : ¬ nI n < nI n := i_nlt.mpr (nI_le (Nat.le_refl _) hN)
    obtain ⟨b1, b2, b3⟩ := S_fail h k (v := 2) (by decide)
    obtain ⟨u1, u2⟩ := c_takeF b3.1.2.1
    simp only [s_X8_takeOneMore, f_X8_takeOneMore, bnd, bndP, if_neg q2, b1, b2, u1, u2, true_and]
    exact ⟨b3, trivial⟩
theorem c_omF {c : gM} {r : Nat} {x1 x2 : Int32} (h : rdI c 48 r 0 0 ≠ 0) : s_X8_takeOneMore c r x1 x2 ∧ f_X8_takeOneMore c r x1 x2 = c := by
  obtain ⟨t1, t2⟩ := c_takeF h
  obtain ⟨f1, f2⟩ := c_failF (k := 2) h
  simp only [s_X8_takeOneMore, f_X8_takeOneMore, bnd, bndP, t1, t2, f1, f2, true_and, ite_self]
/-- the reference's told and number: here, and on -/
theorem m_num {m : gM} {x1 x2 : Int32} : (s_X13_number m x1 x2 ↔ s_X13_numberHere m x1 x2 ∧ s_X13_goOn (f_X13_numberHere m x1 x2).2) ∧ f_X13_number m x1 x2 = ((f_X13_numberHere m x1 x2).1, f_X13_goOn (f_X13_numberHere m x1 x2).2) := by
  unfold s_X13_number f_X13_number
  exact ⟨⟨fun h => ⟨h.1, h.2.1⟩, fun h => ⟨h.1, h.2, trivial⟩⟩, rfl⟩
theorem m_told {m : gM} {x1 : Int32} : (s_X13_told m x1 ↔ s_X13_toldHere m x1 ∧ s_X13_goOn (f_X13_toldHere m x1).2) ∧ f_X13_told m x1 = ((f_X13_toldHere m x1).1, f_X13_goOn (f_X13_toldHere m x1).2) := by
  unfold s_X13_told f_X13_told
  exact ⟨⟨fun h => ⟨h.1, h.2.1⟩, fun h => ⟨h.1, h.2, trivial⟩⟩, rfl⟩
/-- a number, and on -/
theorem S_numGo {c m : gM} {r : Nat} {T : Nat → Nat} {l cn i : Nat} (h : cOK c r T l cn i) (k : mOK m T l i) {a b : Nat} {lo hi : Int32} (elo : lo = nI a) (ehi : hi = nI b) (hab : a ≤ b) (hb : b ≤ 99999) :
    s_X8_takeNumber c r lo hi ∧ s_X13_number m lo hi ∧ ((∃ v, a ≤ v ∧ v ≤ b ∧ f_X8_takeNumber c r lo hi = (nI v, wrI c 47 r 0 0 (nI (i + 1))) ∧ (f_X13_number m lo hi).1 = nI v ∧ i < cn ∧ cOK (wrI c 47 r 0 0 (nI (i + 1))) r T l cn (i + 1) ∧ mOK (f_X13_number m lo hi).2 T l (i + 1) ∧ offW [71, 72, 73, 74, 75] m (f_X13_number m lo hi).2) ∨ (FM (f_X8_takeNumber c r lo hi).2 (f_X13_number m lo hi).2 r T l cn ∧ (f_X8_takeNumber c r lo hi).1 = 0 ∧ (f_X13_number m lo hi).1 = lo)) := by
  obtain ⟨a1, a2, a3⟩ := S_num h k elo ehi hab hb
  obtain ⟨n1, n2⟩ := m_num (m := m) (x1 := lo) (x2 := hi)
  rw [n1, n2]
  rcases a3 with ⟨v, b1, b2, b3, b4, b5⟩ | ⟨b1, b2, b3⟩
  · obtain ⟨t1, t2, t3⟩ := cx_tk h b5
    rw [t2] at t3
    rw [b4]
    obtain ⟨g1, g2, g3⟩ := m_go k (h.1.2.2.2.1 i b5)
    exact ⟨a1, ⟨a2, g1⟩, Or.inl ⟨v, b1, b2, b3, rfl, b5, t3, g2, g3⟩⟩
  · obtain ⟨g1, g2⟩ := m_goF b1.m
    refine ⟨a1, ⟨a2, g1⟩, Or.inr ⟨?_, b2, b3⟩⟩
    rw [g2]; exact b1
theorem S_knGo {c m : gM} {r : Nat} {T : Nat → Nat} {l cn i kd n : Nat} (h : cOK c r T l cn i) (k : mOK m T l i) (hkd : kd < 3) (hn : n ≤ nmL kd) (h89 : rdI m 89 0 0 kd = nI n) (nk : NMk c m r T kd n) :
    s_X8_takeKnownName c r kd (nI n) ∧ s_X13_told m (nI kd) ∧ ((∃ v, v < n ∧ f_X8_takeKnownName c r kd (nI n) = (nI v, wrI c 47 r 0 0 (nI (i + 1))) ∧ (f_X13_told m (nI kd)).1 = nI v ∧ i < cn ∧ cOK (wrI c 47 r 0 0 (nI (i + 1))) r T l cn (i + 1) ∧ mOK (f_X13_told m (nI kd)).2 T l (i + 1) ∧ offW [71, 72, 73, 74, 75] m (f_X13_told m (nI kd)).2) ∨ (FM (f_X8_takeKnownName c r kd (nI n)).2 (f_X13_told m (nI kd)).2 r T l cn ∧ (f_X8_takeKnownName c r kd (nI n)).1 = 0 ∧ (f_X13_told m (nI kd)).1 = 0)) := by
  obtain ⟨a1, a2, a3⟩ := S_kn h k hkd hn h89 nk
  obtain ⟨n1, n2⟩ := m_told (m := m) (x1 := nI kd)
  rw [n1, n2]
  rcases a3 with ⟨v, b2, b3, b4, b5⟩ | ⟨b1, b2, b3⟩
  · obtain ⟨t1, t2, t3⟩ := cx_tk h b5
    rw [t2] at t3
    rw [b4]
    obtain ⟨g1, g2, g3⟩ := m_go k (h.1.2.2.2.1 i b5)
    exact ⟨a1, ⟨a2, g1⟩, Or.inl ⟨v, b2, b3, rfl, b5, t3, g2, g3⟩⟩
  · obtain ⟨g1, g2⟩ := m_goF b1.m
    refine ⟨a1, ⟨a2, g1⟩, Or.inr ⟨?_, b2, b3⟩⟩
    rw [g2]; exact b1
theorem m_nmF {m : gM} (h : rdI m 76 0 0 0 ≠ 0) (x1 x2 : Int32) : s_X13_number m x1 x2 ∧ f_X13_number m x1 x2 = (x1, m) := by
  obtain ⟨n1, n2⟩ := m_num (m := m) (x1 := x1) (x2 := x2)
  obtain ⟨a1, a2⟩ := m_numF h x1 x2
  obtain ⟨g1, g2⟩ := m_goF h
  rw [n1, n2, a2]
  exact ⟨⟨a1, g1⟩, by rw [g2]⟩
theorem m_tdF {m : gM} (h : rdI m 76 0 0 0 ≠ 0) (x1 : Int32) : s_X13_told m x1 ∧ f_X13_told m x1 = (0, m) := by
  obtain ⟨n1, n2⟩ := m_told (m := m) (x1 := x1)
  obtain ⟨a1, a2⟩ := m_toF h x1
  obtain ⟨g1, g2⟩ := m_goF h
  rw [n1, n2, a2]
  exact ⟨⟨a1, g1⟩, by rw [g2]⟩
end
