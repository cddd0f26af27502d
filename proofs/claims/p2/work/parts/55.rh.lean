set_option linter.all false
noncomputable section
-- ===== names =====
def ixf (P : Nat → Bool) : Nat → Nat → Int32
  | 0, _ => -1
  | f + 1, x => if P x = true then nI x else ixf P f (x + 1)
theorem ixf_cs {P : Nat → Bool} : ∀ f x, (ixf P f x = -1 ∧ ∀ k, x ≤ k → k < x + f → P k = false) ∨ ∃ k, x ≤ k ∧ k < x + f ∧ ixf P f x = nI k := by
  intro f
  induction f with
  | zero => intro x; exact Or.inl ⟨rfl, fun k h1 h2 => by omega⟩
  | succ f ih =>
    intro x
    rw [ixf]
    by_cases h : P x = true
    · rw [if_pos h]; exact Or.inr ⟨x, Nat.le_refl _, by omega, rfl⟩
    · rw [if_neg h]
      rcases ih (x + 1) with ⟨a, b⟩ | ⟨k, a, b, e⟩
      · refine Or.inl ⟨a, fun k h1 h2 => ?_⟩
        by_cases z : k = x
        · rw [z]; simpa using h
        · exact b k (by omega) (by omega)
      · exact Or.inr ⟨k, by omega, by omega, e⟩
theorem ixf_cong {P Q : Nat → Bool} : ∀ f x, (∀ k, x ≤ k → k < x + f → P k = Q k) → ixf P f x = ixf Q f x := by
  intro f
  induction f with
  | zero => intro x _; rfl
  | succ f ih =>
    intro x h
    rw [ixf, ixf, h x (Nat.le_refl _) (by omega), ih (x + 1) (fun k h1 h2 => h k (by omega) (by omega))]
theorem nmL_le (kd : Nat) : nmL kd ≤ 12 := by unfold nmL; split <;> (try split) <;> omega
theorem c_ixS {c : gM} {r : Nat} {T : Nat → Nat} {l cn i kd : Nat} (h : TKc c T l cn) (h47 : rdI c 47 r 0 0 = nI i) (hi : i ≤ cn) (x2 : Int32) : s_X8_indexOfName c r kd x2 := by
  have hc := h.2.1
  have i1 : vp_in (nI i) 1201 := vpi (by omega)
  have e := (h.2.2.2.2 i hi).1
  have l12 := nmL_le kd
  have t26 := tK_lt (T := T) (l := l) (p := st T l i)
  unfold s_X8_indexOfName
  have := lp (σ := Unit) (ρ := Unit) (fun _ _ _ => ()) (fun f x s => s_X8_indexOfName_2 c r kd x2 f (nI x)) (fun x s => True) (fun _ => True) (nmL kd) ?_ ?_ FU 0 () (Nat.zero_le _) (by rw [FU_eq]; omega) trivial
  · exact this.1
  · intro f x s hx hI ih
    refine ⟨?_, trivial⟩
    have g : ¬ Int32.ofNat (nmL kd) ≤ nI x := nI_ge (a := x) (b := nmL kd) hx (by omega)
    have ix : vp_in (nI x) (nmL kd) := vpi hx
    have := (ih () trivial).1
    simp only [s_X8_indexOfName_2, h47, i1, nn_nI (show i < 2 ^ 31 by omega), e, nn_nI (show tK T l (st T l i) < 2 ^ 31 by omega), t26, if_neg g, ix, p1, this, true_and, ite_self]
  · intro f s hI
    refine ⟨?_, trivial⟩
    have g : Int32.ofNat (nmL kd) ≤ nI (nmL kd) := nI_le (Nat.le_refl _) (by omega)
    simp only [s_X8_indexOfName_2, if_pos g, ite_self]
theorem c_ix {c : gM} {r : Nat} {T : Nat → Nat} {l cn i kd n : Nat} (h : TKc c T l cn) (h47 : rdI c 47 r 0 0 = nI i) (hi : i ≤ cn) (hn : n ≤ nmL kd) : f_X8_indexOfName c r kd (nI n) = if tK T l (st T l i) = 21 then ixf (fun j => decide (rdI c 50 r kd j = tV T l (st T l i))) n 0 else -1 := by
  have hc := h.2.1
  have e := (h.2.2.2.2 i hi).1
  have e46 := (h.2.2.2.2 i hi).2.2
  have l12 := nmL_le kd
  have t26 := tK_lt (T := T) (l := l) (p := st T l i)
  unfold f_X8_indexOfName
  have := lp (σ := Unit) (fun f x (s : Unit) => f_X8_indexOfName_2 c r kd (nI n) f (nI x)) (fun f x s => True) (fun x s => tK T l (st T l i) = 21 → ixf (fun j => decide (rdI c 50 r kd j = tV T l (st T l i))) n 0 = ixf (fun j => decide (rdI c 50 r kd j = tV T l (st T l i))) (n - x) x) (fun z => z = if tK T l (st T l i) = 21 then ixf (fun j => decide (rdI c 50 r kd j = tV T l (st T l i))) n 0 else -1) n ?_ ?_ FU 0 () (Nat.zero_le _) (by rw [FU_eq]; omega) (fun _ => rfl)
  · exact this.2
  · intro f x s hx hI ih
    refine ⟨trivial, ?_⟩
    have g : ¬ Int32.ofNat (nmL kd) ≤ nI x := nI_ge (a := x) (b := nmL kd) (by omega) (by omega)
    simp only [f_X8_indexOfName_2, if_neg (nI_ge hx (by omega)), if_neg g, h47, nn_nI (show i < 2 ^ 31 by omega), nn_nI (show x < 2 ^ 31 by omega), e, e46, nn_nI (show tK T l (st T l i) < 2 ^ 31 by omega), p1]
    by_cases z : tK T l (st T l i) = 21
    · have hz := hI z
      rw [show n - x = (n - (x + 1)) + 1 by omega, ixf] at hz
      rw [if_pos z]
      by_cases y : rdI c 50 r kd x = tV T l (st T l i)
      · rw [if_pos y, if_pos z, hz, if_pos (decide_eq_true y)]
      · rw [if_neg y]
        rw [if_neg (by rw [decide_eq_false y]; decide)] at hz
        exact (ih () (fun _ => hz)).2
    · rw [if_neg z]
      exact (ih () (fun q => absurd q z)).2
  · intro f s hI
    refine ⟨trivial, ?_⟩
    simp only [f_X8_indexOfName_2, if_pos (nI_le (Nat.le_refl n) (by omega))]
    by_cases z : tK T l (st T l i) = 21
    · rw [if_pos z, hI z, Nat.sub_self]; rfl
    · rw [if_neg z]
theorem m_ix {m : gM} {kd n : Nat} (hk : kd < 3) (hn : n ≤ 12) (h89 : rdI m 89 0 0 kd = nI n) : s_X13_namedHere m (nI kd) ∧ f_X13_namedHere m (nI kd) = ixf (fun j => decide (rdI m 95 0 0 (12 * kd + j) = rdI m 75 0 0 0)) n 0 := by
  have ik : vp_in (nI kd) 502 := vpi (by omega)
  unfold s_X13_namedHere f_X13_namedHere
  refine lp (σ := Unit) (fun f x (s : Unit) => f_X13_namedHere_2 m (nI kd) f (nI x)) (fun f x s => s_X13_namedHere_2 m (nI kd) f (nI x)) (fun x s => ixf (fun j => decide (rdI m 95 0 0 (12 * kd + j) = rdI m 75 0 0 0)) n 0 = ixf (fun j => decide (rdI m 95 0 0 (12 * kd + j) = rdI m 75 0 0 0)) (n - x) x) (fun z => z = ixf (fun j => decide (rdI m 95 0 0 (12 * kd + j) = rdI m 75 0 0 0)) n 0) n ?_ ?_ FU 0 () (Nat.zero_le _) (by rw [FU_eq]; omega) rfl
  · intro f x s hx hI ih
    have e : (12 : Int32) * nI kd + nI x = nI (12 * kd + x) := by rw [show (12 : Int32) * nI kd = nI (12 * kd) from pk_mul 12 kd, nI_add]
    have i36 : vp_in (nI (12 * kd + x)) 36 := vpi (by omega)
    rw [show n - x = (n - (x + 1)) + 1 by omega, ixf] at hI
    simp only [s_X13_namedHere_2, f_X13_namedHere_2, ik, nn_nI (show kd < 2 ^ 31 by omega), h89, if_neg (nI_ge hx (by omega)), e, i36, nn_nI (show 12 * kd + x < 2 ^ 31 by omega), p1, true_and]
    by_cases y : rdI m 95 0 0 (12 * kd + x) = rdI m 75 0 0 0
    · rw [if_pos y, if_pos y, hI, if_pos (decide_eq_true y)]
      exact ⟨trivial, rfl⟩
    · rw [if_neg y, if_neg y]
      rw [if_neg (by rw [decide_eq_false y]; decide)] at hI
      exact ih () hI
  · intro f s hI
    rw [Nat.sub_self] at hI
    simp only [s_X13_namedHere_2, f_X13_namedHere_2, ik, nn_nI (show kd < 2 ^ 31 by omega), h89, if_pos (nI_le (Nat.le_refl n) (by omega)), true_and]
    rw [hI]; rfl
/-- names of one kind on both sides -/
def NMk (c m : gM) (r : Nat) (T : Nat → Nat) (kd n : Nat) : Prop := ∀ j, j < n → nmR T (rdI c 50 r kd j) (rdI m 95 0 0 (12 * kd + j))
theorem s_oth {m : gM} : s_X13_isOther m := by
  unfold s_X13_isOther s_X13_isOther_19
  repeat' split
  all_goals trivial
theorem f_oth {m : gM} {T : Nat → Nat} {l q : Nat} (h : mKd m T l q) : f_X13_isOther m = bz (decide (tK T l q = 21)) := by
  obtain ⟨h1, h2, h3, h4, h5, h6⟩ := kd_m h
  have := tK_lt (T := T) (l := l) (p := q)
  simp only [f_X13_isOther, f_X13_isOther_19]
  rcases (show tK T l q < 21 ∨ tK T l q = 21 ∨ tK T l q = 22 ∨ tK T l q = 23 ∨ tK T l q = 24 ∨ tK T l q = 25 by omega) with z | z | z | z | z | z
  · obtain ⟨a, b⟩ := h1 z
    rw [a, if_pos rfl, b, if_neg (nI_ne (show tK T l q < 2 ^ 31 by omega)).2, decide_eq_false (by omega)]; rfl
  · obtain ⟨a, b, -⟩ := h2 z
    rw [a, if_pos rfl, b, if_pos rfl, decide_eq_true z]; rfl
  · rw [(h3 z).1, if_neg (by decide), decide_eq_false (by omega)]; rfl
  · rw [h4 z, if_neg (by decide), decide_eq_false (by omega)]; rfl
  · rw [h5 z, if_neg (by decide), decide_eq_false (by omega)]; rfl
  · rw [h6 z, if_neg (by decide), decide_eq_false (by omega)]; rfl
theorem S_ix {c m : gM} {r : Nat} {T : Nat → Nat} {l q kd n : Nat} (h : mKd m T l q) (z : tK T l q = 21) (nk : NMk c m r T kd n) : ixf (fun j => decide (rdI c 50 r kd j = tV T l q)) n 0 = ixf (fun j => decide (rdI m 95 0 0 (12 * kd + j) = rdI m 75 0 0 0)) n 0 := by
  obtain ⟨-, h2, -⟩ := kd_m h
  have nr := (h2 z).2.2
  refine ixf_cong n 0 fun k _ hk => ?_
  have := nmR_eq (nk k (by omega)) nr
  by_cases y : rdI c 50 r kd k = tV T l q
  · rw [decide_eq_true y, decide_eq_true (this.mp y)]
  · rw [decide_eq_false y, decide_eq_false (fun w => y (this.mpr w))]
theorem c_knF {c : gM} {r : Nat} {T : Nat → Nat} {l cn : Nat} (h : cFt c r T l cn) (kd : Nat) (x2 : Int32) : s_X8_takeKnownName c r kd x2 ∧ f_X8_takeKnownName c r kd x2 = (0, c) := by
  obtain ⟨h1, h2, i, hi, h3⟩ := h
  obtain ⟨t1, t2⟩ := c_takeF h2
  obtain ⟨f1, f2⟩ := c_failF (k := 1) h2
  have e17 : ∀ v, s_X8_takeKnownName_17 c r kd v ∧ f_X8_takeKnownName_17 c r kd v = (0, c) := fun v => by
    simp only [s_X8_takeKnownName_17, f_X8_takeKnownName_17, bnd, bndP, t1, t2, if_neg h2, true_and]
  simp only [s_X8_takeKnownName, f_X8_takeKnownName, bnd, bndP, c_ixS h1 h3 hi, f1, f2, true_and]
  split <;> exact e17 _
theorem m_toF {m : gM} (h : rdI m 76 0 0 0 ≠ 0) (x1 : Int32) : s_X13_toldHere m x1 ∧ f_X13_toldHere m x1 = (0, m) := by
  simp only [s_X13_toldHere, f_X13_toldHere, s_X13_toldHere_28, f_X13_toldHere_28, if_neg h, true_and]
theorem S_kn {c m : gM} {r : Nat} {T : Nat → Nat} {l cn i kd n : Nat} (h : cOK c r T l cn i) (k : mOK m T l i) (hkd : kd < 3) (hn : n ≤ nmL kd) (h89 : rdI m 89 0 0 kd = nI n) (nk : NMk c m r T kd n) :
    s_X8_takeKnownName c r kd (nI n) ∧ s_X13_toldHere m (nI kd) ∧ ((∃ v, v < n ∧ f_X8_takeKnownName c r kd (nI n) = (nI v, wrI c 47 r 0 0 (nI (i + 1))) ∧ f_X13_toldHere m (nI kd) = (nI v, m) ∧ i < cn) ∨ (FM (f_X8_takeKnownName c r kd (nI n)).2 (f_X13_toldHere m (nI kd)).2 r T l cn ∧ (f_X8_takeKnownName c r kd (nI n)).1 = 0 ∧ (f_X13_toldHere m (nI kd)).1 = 0)) := by
  obtain ⟨h1, h2, h3, h4⟩ := id h
  have l12 := nmL_le kd
  have kd' := k.2.2.2.2.2
  obtain ⟨a1, a2⟩ := m_ix hkd (by omega) h89
  obtain ⟨b1, b2, b3⟩ := S_fail h k (v := 1) (by decide)
  obtain ⟨t1, t2⟩ := c_takeF b3.1.2.1
  have e17 : ∀ v, s_X8_takeKnownName_17 (f_X8_fail c r 1) r kd v ∧ f_X8_takeKnownName_17 (f_X8_fail c r 1) r kd v = (0, f_X8_fail c r 1) := fun v => by
    simp only [s_X8_takeKnownName_17, f_X8_takeKnownName_17, bnd, bndP, t1, t2, if_neg b3.1.2.1, true_and]
  have m28 : s_X13_toldHere_28 (f_X13_wrong m 1) (nI kd) ∧ f_X13_toldHere_28 (f_X13_wrong m 1) (nI kd) = (0, f_X13_wrong m 1) := by
    simp only [s_X13_toldHere_28, f_X13_toldHere_28, if_neg b3.m, true_and]
  simp only [s_X8_takeKnownName, f_X8_takeKnownName, s_X13_toldHere, f_X13_toldHere, bnd, bndP, c_ixS h1 h3 h4, c_ix h1 h3 h4 hn, k.1, if_true, s_oth, f_oth kd', bz_0, a1, a2, true_and, s_X13_toldHere_23, f_X13_toldHere_23, b2]
  by_cases z : tK T l (st T l i) = 21
  · have hi : i < cn := tK_end h1.2.2.1 h4 (by omega)
    obtain ⟨u1, u2, u3⟩ := cx_tk h hi
    rw [if_pos z, ← S_ix kd' z nk, decide_eq_true z]
    simp only [Bool.true_eq_false, if_false]
    rcases ixf_cs (P := fun j => decide (rdI c 50 r kd j = tV T l (st T l i))) n 0 with ⟨e, -⟩ | ⟨v, -, hv, e⟩
    · rw [e]
      simp only [if_true, b1, (e17 _).1, (e17 _).2, m28.1, m28.2, true_and]
      exact Or.inr (by first | exact ⟨b3, rfl, rfl⟩ | exact ⟨b3, trivial⟩)
    · have nv := (nI_ne (show v < 2 ^ 31 by omega)).2
      rw [e]
      have h2' : rdI (wrI c 47 r 0 0 (nI (i + 1))) 48 r 0 0 = 0 := by rw [rwN (by decide)]; exact h2
      simp only [if_neg nv, s_X8_takeKnownName_17, f_X8_takeKnownName_17, bnd, bndP, u1, u2, h2', s_X13_toldHere_28, f_X13_toldHere_28, k.1, if_true, a1, a2, true_and]
      rw [← S_ix kd' z nk, e]
      exact Or.inl ⟨v, by omega, rfl, rfl, hi⟩
  · rw [if_neg z, decide_eq_false z]
    simp only [if_true, b1, (e17 _).1, (e17 _).2, m28.1, m28.2, true_and]
    exact Or.inr (by first | exact ⟨b3, rfl, rfl⟩ | exact ⟨b3, trivial⟩)
-- new names
theorem c_nwF {c : gM} {r : Nat} {T : Nat → Nat} {l cn : Nat} (h : cFt c r T l cn) (kd : Nat) (x2 : Int32) : s_X8_takeNewName c r kd x2 ∧ f_X8_takeNewName c r kd x2 = c := by
  obtain ⟨h1, h2, i, hi, h3⟩ := h
  obtain ⟨a1, a2⟩ := c_comes h1 h3 hi
  obtain ⟨t1, t2⟩ := c_takeF h2
  obtain ⟨f1, f2⟩ := c_failF (k := 1) h2
  obtain ⟨f3, f4⟩ := c_failF (k := 3) h2
  have e33 : s_X8_takeNewName_33 c r kd x2 ∧ f_X8_takeNewName_33 c r kd x2 = c := by
    simp only [s_X8_takeNewName_33, f_X8_takeNewName_33, bnd, bndP, t1, t2, if_neg h2, true_and]
  simp only [s_X8_takeNewName, f_X8_takeNewName, bnd, bndP, a1, a2, tK_lt, c_ixS h1 h3 hi, f1, f2, f3, f4, e33.1, e33.2, true_and, ite_self]
theorem m_nwF {m : gM} (h : rdI m 76 0 0 0 ≠ 0) (x1 : Int32) : s_X13_newName m x1 ∧ f_X13_newName m x1 = m := by
  obtain ⟨g1, g2⟩ := m_goF h
  simp only [s_X13_newName, f_X13_newName, s_X13_newName_19, f_X13_newName_19, s_X13_newName_40, f_X13_newName_40, bnd, bndP, if_neg h, g1, g2, true_and]
theorem S_nw {c m : gM} {r : Nat} {T : Nat → Nat} {l cn i kd n : Nat} (h : cOK c r T l cn i) (k : mOK m T l i) (hkd : kd < 3) (hn : n < nmL kd) (h89 : rdI m 89 0 0 kd = nI n) (nk : NMk c m r T kd n) :
    s_X8_takeNewName c r kd (nI n) ∧ s_X13_newName m (nI kd) ∧ ((i < cn ∧ (∃ u, f_X8_takeNewName c r kd (nI n) = wrI (wrI c 50 r kd n u) 47 r 0 0 (nI (i + 1)) ∧ nmR T u (rdI (f_X13_newName m (nI kd)) 95 0 0 (12 * kd + n))) ∧ mOK (f_X13_newName m (nI kd)) T l (i + 1) ∧ offW [71, 72, 73, 74, 75, 95] m (f_X13_newName m (nI kd)) ∧ ∀ j, j ≠ 12 * kd + n → rdI (f_X13_newName m (nI kd)) 95 0 0 j = rdI m 95 0 0 j) ∨ FM (f_X8_takeNewName c r kd (nI n)) (f_X13_newName m (nI kd)) r T l cn) := by
  obtain ⟨h1, h2, h3, h4⟩ := id h
  have hc := h1.2.1
  have l12 := nmL_le kd
  have kd' := k.2.2.2.2.2
  obtain ⟨d1, d2⟩ := c_comes h1 h3 h4
  obtain ⟨a1, a2⟩ := m_ix hkd (by omega) h89
  have fl : ∀ v : Int32, v ≠ 0 → s_X8_fail c r v ∧ s_X13_wrong m v ∧ FM (f_X8_fail c r v) (f_X13_wrong m v) r T l cn ∧ (s_X8_takeNewName_33 (f_X8_fail c r v) r kd (nI n) ∧ f_X8_takeNewName_33 (f_X8_fail c r v) r kd (nI n) = f_X8_fail c r v) ∧ (s_X13_newName_40 (f_X13_wrong m v) (nI kd) ∧ f_X13_newName_40 (f_X13_wrong m v) (nI kd) = f_X13_wrong m v) ∧ (s_X13_newName_19 (f_X13_wrong m v) (nI kd) ∧ f_X13_newName_19 (f_X13_wrong m v) (nI kd) = f_X13_wrong m v) := fun v hv => by
    obtain ⟨b1, b2, b3⟩ := S_fail h k hv
    obtain ⟨t1, t2⟩ := c_takeF b3.1.2.1
    obtain ⟨g1, g2⟩ := m_goF b3.m
    refine ⟨b1, b2, b3, ?_, ?_, ?_⟩
    · simp only [s_X8_takeNewName_33, f_X8_takeNewName_33, bnd, bndP, t1, t2, if_neg b3.1.2.1, true_and]
    · simp only [s_X13_newName_40, f_X13_newName_40, bnd, bndP, g1, g2, if_neg b3.m, true_and]
    · simp only [s_X13_newName_19, f_X13_newName_19, s_X13_newName_40, f_X13_newName_40, bnd, bndP, g1, g2, if_neg b3.m, true_and]
  simp only [s_X8_takeNewName, f_X8_takeNewName, s_X13_newName, f_X13_newName, bnd, bndP, d1, d2, tK_lt, c_ixS h1 h3 h4, c_ix h1 h3 h4 (show n ≤ nmL kd by omega), k.1, if_true, s_oth, f_oth kd', bz_0, true_and]
  by_cases z : tK T l (st T l i) = 21
  · have hi : i < cn := tK_end h1.2.2.1 h4 (by omega)
    simp only [if_pos z, decide_eq_true z, Bool.true_eq_false, if_false, s_X13_newName_19, f_X13_newName_19, bnd, bndP, k.1, if_true, a1, a2, true_and]
    rw [← S_ix kd' z nk]
    by_cases y : ixf (fun j => decide (rdI c 50 r kd j = tV T l (st T l i))) n 0 = -1
    · simp only [if_pos y]
      have ik : vp_in (nI kd) 502 := vpi (by omega)
      have i36 : vp_in (nI (12 * kd + n)) 36 := vpi (by omega)
      have in' : vp_in (nI n) (nmL kd) := vpi hn
      have i1 : vp_in (nI i) 1201 := vpi (by omega)
      have e12 : (12 : Int32) * nI kd + nI n = nI (12 * kd + n) := by rw [show (12 : Int32) * nI kd = nI (12 * kd) from pk_mul 12 kd, nI_add]
      have g : ¬ Int32.ofNat (nmL kd) ≤ nI n := nI_ge (a := n) (b := nmL kd) hn (by omega)
      have e46 := (h1.2.2.2.2 i h4).2.2
      have h' : cOK (wrI c 50 r kd n (tV T l (st T l i))) r T l cn i := ⟨h1.wr (by omega), by rw [rwN (by decide)]; exact h2, by rw [rwN (by decide)]; exact h3, h4⟩
      obtain ⟨u1, u2, u3⟩ := cx_tk h' hi
      have hst := h1.2.2.2.1 i hi
      have k' : mOK (wrI m 95 0 0 (12 * kd + n) (rdI m 75 0 0 0)) T l i := by
        obtain ⟨k1, k2, k3, k4, k5, k6⟩ := k
        refine ⟨by rw [rwN (by decide)]; exact k1, k2.wr (by omega), by rw [rwN (by decide)]; exact k3, by rw [rwN (by decide)]; exact k4, k5, ?_⟩
        unfold mKd at k6 ⊢
        rw [rwN (by decide), rwN (by decide), rwN (by decide)]
        exact k6
      obtain ⟨v1, v2, v3⟩ := m_go k' hst
      obtain ⟨-, q2, -⟩ := kd_m kd'
      have nr := (q2 z).2.2
      simp only [s_X8_takeNewName_33, f_X8_takeNewName_33, s_X13_newName_40, f_X13_newName_40, bnd, bndP, h2, k.1, if_true, if_neg g, h3, i1, in', nn_nI (show n < 2 ^ 31 by omega), nn_nI (show i < 2 ^ 31 by omega), e46, u1, u2, ik, nn_nI (show kd < 2 ^ 31 by omega), h89, e12, i36, nn_nI (show 12 * kd + n < 2 ^ 31 by omega), v1, true_and]
      refine Or.inl ⟨hi, ⟨_, rfl, ?_⟩, v2, ?_, fun j hj => ?_⟩
      · rw [(v3 95 0 0 (12 * kd + n) (by decide)).1, rwS]; exact nr
      · exact (offR.wI (by decide)).tr (v3.mono (by decide))
      · rw [(v3 95 0 0 j (by decide)).1, rwI, if_neg (by omega)]
    · obtain ⟨f1, f2, f3, f4, f5, f6⟩ := fl 3 (by decide)
      simp only [if_neg y, f1, f2, f4, f5, true_and]
      exact Or.inr f3
  · obtain ⟨f1, f2, f3, f4, f5, f6⟩ := fl 1 (by decide)
    simp only [if_neg z, decide_eq_false z, if_true, f1, f2, f4, f6, true_and]
    exact Or.inr f3
end
