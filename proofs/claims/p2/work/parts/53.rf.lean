set_option linter.all false
noncomputable section
-- ===== both readers at a token =====
def cOK (c : gM) (r : Nat) (T : Nat → Nat) (l cn i : Nat) : Prop := TKc c T l cn ∧ rdI c 48 r 0 0 = 0 ∧ rdI c 47 r 0 0 = nI i ∧ i ≤ cn
def mOK (m : gM) (T : Nat → Nat) (l j : Nat) : Prop := rdI m 76 0 0 0 = 0 ∧ mTok m T l (st T l j)
def cFt (c : gM) (r : Nat) (T : Nat → Nat) (l cn : Nat) : Prop := TKc c T l cn ∧ rdI c 48 r 0 0 ≠ 0 ∧ ∃ i, i ≤ cn ∧ rdI c 47 r 0 0 = nI i
def FM (c m : gM) (r : Nat) (T : Nat → Nat) (l cn : Nat) : Prop := cFt c r T l cn ∧ rdI m 76 0 0 0 = rdI c 48 r 0 0 ∧ rdI m 77 0 0 0 = rdI c 49 r 0 0
theorem FM.m {c m : gM} {r : Nat} {T : Nat → Nat} {l cn : Nat} (h : FM c m r T l cn) : rdI m 76 0 0 0 ≠ 0 := by rw [h.2.1]; exact h.1.2.1
theorem TKc.wr {M : gM} {T : Nat → Nat} {l cn : Nat} (h : TKc M T l cn) {g a b c : Nat} {v : Int32} (k : g ≠ 41 ∧ g ≠ 44 ∧ g ≠ 45 ∧ g ≠ 46) : TKc (wrI M g a b c v) T l cn := by
  obtain ⟨h1, h2, h3, h4, h5⟩ := h
  exact ⟨by rw [rwN (fun z => k.1 z.symm)]; exact h1, h2, h3, h4, fun i hi => (h5 i hi).keep fun g hg => by rw [rwN (by omega)]⟩
theorem TKc.off {M N : gM} {T : Nat → Nat} {l cn : Nat} {W : List Nat} (h : TKc M T l cn) (o : offW W M N) (k : W.all (fun g => g != 41 && g != 44 && g != 45 && g != 46) = true) : TKc N T l cn := by
  have e : ∀ g, (g = 41 ∨ g = 44 ∨ g = 45 ∨ g = 46) → ∀ c, rdI N g 0 0 c = rdI M g 0 0 c := fun g hg c => (o g 0 0 c fun q => by
    have := List.all_eq_true.mp k g q
    rcases hg with rfl | rfl | rfl | rfl <;> simp at this).1
  obtain ⟨h1, h2, h3, h4, h5⟩ := h
  exact ⟨by rw [e 41 (by omega)]; exact h1, h2, h3, h4, fun i hi => (h5 i hi).keep fun g hg => e g (by omega) i⟩
theorem tK_end {T : Nat → Nat} {l cn i : Nat} (hc : st T l cn = l) (hi : i ≤ cn) (h : tK T l (st T l i) ≠ 25) : i < cn := by
  rcases Nat.lt_or_ge i cn with q | q
  · exact q
  · obtain rfl : i = cn := by omega
    rw [hc, tK, if_neg (by omega)] at h
    exact absurd rfl h
theorem c_comes {c : gM} {r : Nat} {T : Nat → Nat} {l cn i : Nat} (h : TKc c T l cn) (h47 : rdI c 47 r 0 0 = nI i) (hi : i ≤ cn) : s_X8_comes c r ∧ f_X8_comes c r = tK T l (st T l i) := by
  have hc := h.2.1
  have i1 : vp_in (nI i) 1201 := vpi (by omega)
  have e := (h.2.2.2.2 i hi).1
  simp only [s_X8_comes, f_X8_comes, h47, i1, nn_nI (show i < 2 ^ 31 by omega), e, nn_nI (show tK T l (st T l i) < 2 ^ 31 by have := tK_lt (T := T) (l := l) (p := st T l i); omega), true_and]
theorem cx_tk {c : gM} {r : Nat} {T : Nat → Nat} {l cn i : Nat} (h : cOK c r T l cn i) (hi : i < cn) : s_X8_takeToken c r ∧ f_X8_takeToken c r = wrI c 47 r 0 0 (nI (i + 1)) ∧ cOK (f_X8_takeToken c r) r T l cn (i + 1) := by
  obtain ⟨h1, h2, h3, h4⟩ := h
  have hc := h1.2.1
  have e : f_X8_takeToken c r = wrI c 47 r 0 0 (nI (i + 1)) := by
    simp only [f_X8_takeToken, bnd, h2, if_true, h1.1, h3, if_neg (nI_ge hi (by omega)), p1]
  refine ⟨?_, e, ?_⟩
  · simp only [s_X8_takeToken, bndP, h2, if_true, h1.1, h3, if_neg (nI_ge hi (by omega))]
  · rw [e]
    exact ⟨h1.wr (by omega), by rw [rwN (by decide)]; exact h2, rwS, by omega⟩
theorem c_takeF {c : gM} {r : Nat} (h : rdI c 48 r 0 0 ≠ 0) : s_X8_takeToken c r ∧ f_X8_takeToken c r = c := by
  simp only [s_X8_takeToken, f_X8_takeToken, if_neg h, true_and]
theorem c_failF {c : gM} {r : Nat} {k : Int32} (h : rdI c 48 r 0 0 ≠ 0) : s_X8_fail c r k ∧ f_X8_fail c r k = c := by
  simp only [s_X8_fail, f_X8_fail, if_neg h, true_and]
theorem c_faTF {c : gM} {r : Nat} (h : rdI c 48 r 0 0 ≠ 0) : s_X8_failAtTaken c r ∧ f_X8_failAtTaken c r = c := by
  simp only [s_X8_failAtTaken, f_X8_failAtTaken, if_neg h, true_and]
theorem m_wrongF {m : gM} {k : Int32} (h : rdI m 76 0 0 0 ≠ 0) : s_X13_wrong m k ∧ f_X13_wrong m k = m := by
  simp only [s_X13_wrong, f_X13_wrong, if_neg h, true_and]
theorem m_goF {m : gM} (h : rdI m 76 0 0 0 ≠ 0) : s_X13_goOn m ∧ f_X13_goOn m = m := by
  simp only [s_X13_goOn, f_X13_goOn, if_neg h, true_and]
theorem m_go {m : gM} {T : Nat → Nat} {l j : Nat} (h : mOK m T l j) (hj : st T l j < l) : s_X13_goOn m ∧ mOK (f_X13_goOn m) T l (j + 1) ∧ offW [71, 72, 73, 74, 75] m (f_X13_goOn m) := by
  obtain ⟨h1, h2, h3, h4, h5, h6⟩ := h
  rw [if_pos hj] at h3
  have a := en_in (T := T) hj
  obtain ⟨b1, b2⟩ := M_tok h2 h3 a.2
  have e : f_X13_goOn m = f_X13_token m := by simp only [f_X13_goOn, bnd, h1, if_true]
  have o := o_X13_token m
  refine ⟨?_, ?_, ?_⟩
  · simp only [s_X13_goOn, bndP, h1, if_true, b1, true_and]
  · rw [e]
    refine ⟨by rw [(o 76 0 0 0 (by decide)).1]; exact h1, ?_⟩
    rw [st, if_pos hj]
    exact b2
  · rw [e]; exact o
/-- both fail -/
theorem S_fail {c m : gM} {r : Nat} {T : Nat → Nat} {l cn i : Nat} (h : cOK c r T l cn i) (k : mOK m T l i) {v : Int32} (hv : v ≠ 0) : s_X8_fail c r v ∧ s_X13_wrong m v ∧ FM (f_X8_fail c r v) (f_X13_wrong m v) r T l cn := by
  obtain ⟨h1, h2, h3, h4⟩ := h
  have hc := h1.2.1
  have i1 : vp_in (nI i) 1201 := vpi (by omega)
  have e45 := (h1.2.2.2.2 i h4).2.1
  have ec : f_X8_fail c r v = wrI (wrI c 48 r 0 0 v) 49 r 0 0 (nI (st T l i)) := by
    simp only [f_X8_fail, bnd, h2, if_true, rwN (show (47 : Nat) ≠ 48 by decide), rwN (show (45 : Nat) ≠ 48 by decide), h3, nn_nI (show i < 2 ^ 31 by omega), e45]
  have em : f_X13_wrong m v = wrI (wrI m 76 0 0 0 v) 77 0 0 0 (nI (st T l i)) := by
    simp only [f_X13_wrong, bnd, k.1, if_true, rwN (show (72 : Nat) ≠ 76 by decide), k.2.2.2.1]
  refine ⟨?_, ?_, ?_⟩
  · simp only [s_X8_fail, bndP, h2, if_true, rwN (show (47 : Nat) ≠ 48 by decide), h3, i1, true_and]
  · simp only [s_X13_wrong, bndP, k.1, if_true]
  · rw [ec, em]
    refine ⟨⟨(h1.wr (by omega)).wr (by omega), ?_, i, h4, ?_⟩, ?_, ?_⟩
    · rw [rwN (by decide), rwS]; exact hv
    · rw [rwN (by decide), rwN (by decide)]; exact h3
    · rw [rwN (by decide), rwS, rwN (by decide), rwS]
    · rw [rwS, rwS]
theorem S_faT {c m : gM} {r : Nat} {T : Nat → Nat} {l cn i : Nat} (h : cOK c r T l cn (i + 1)) (k : mOK m T l i) : s_X8_failAtTaken c r ∧ s_X13_wrong m 3 ∧ FM (f_X8_failAtTaken c r) (f_X13_wrong m 3) r T l cn := by
  obtain ⟨h1, h2, h3, h4⟩ := h
  have hc := h1.2.1
  have i1 : vp_in (nI i) 1201 := vpi (by omega)
  have e45 := (h1.2.2.2.2 i (by omega)).2.1
  have z : ¬ nI (i + 1) ≤ 0 := nI_ge (a := 0) (b := i + 1) (by omega) (by omega)
  have d : nI (i + 1) - 1 = nI i := by rw [← p1]; exact Int32.add_sub_cancel _ _
  have ec : f_X8_failAtTaken c r = wrI (wrI c 48 r 0 0 3) 49 r 0 0 (nI (st T l i)) := by
    simp only [f_X8_failAtTaken, bnd, h2, if_true, rwN (show (47 : Nat) ≠ 48 by decide), rwN (show (45 : Nat) ≠ 48 by decide), h3, if_neg z, d, nn_nI (show i < 2 ^ 31 by omega), e45]
  have em : f_X13_wrong m 3 = wrI (wrI m 76 0 0 0 3) 77 0 0 0 (nI (st T l i)) := by
    simp only [f_X13_wrong, bnd, k.1, if_true, rwN (show (72 : Nat) ≠ 76 by decide), k.2.2.2.1]
  refine ⟨?_, ?_, ?_⟩
  · simp only [s_X8_failAtTaken, bndP, h2, if_true, rwN (show (47 : Nat) ≠ 48 by decide), h3, if_neg z, d, i1, true_and]
  · simp only [s_X13_wrong, bndP, k.1, if_true]
  · rw [ec, em]
    refine ⟨⟨(h1.wr (by omega)).wr (by omega), ?_, i + 1, h4, ?_⟩, ?_, ?_⟩
    · rw [rwN (by decide), rwS]; decide
    · rw [rwN (by decide), rwN (by decide)]; exact h3
    · rw [rwN (by decide), rwS, rwN (by decide), rwS]
    · rw [rwS, rwS]
-- ===== numbers =====
theorem kd_73 {M : gM} {T : Nat → Nat} {l q : Nat} (h : mKd M T l q) (k : tK T l q ≠ 22) : rdI M 73 0 0 0 ≠ 1 := by
  obtain ⟨h1, h2, h3, h4, h5, h6⟩ := kd_m h
  have := tK_lt (T := T) (l := l) (p := q)
  rcases (show tK T l q < 21 ∨ tK T l q = 21 ∨ tK T l q = 23 ∨ tK T l q = 24 ∨ tK T l q = 25 by omega) with z | z | z | z | z
  · rw [(h1 z).1]; decide
  · rw [(h2 z).1]; decide
  · rw [h4 z]; decide
  · rw [h5 z]; decide
  · rw [h6 z]; decide
theorem c_numF {c : gM} {r : Nat} {T : Nat → Nat} {l cn : Nat} (h : cFt c r T l cn) (x1 x2 : Int32) : s_X8_takeNumber c r x1 x2 ∧ f_X8_takeNumber c r x1 x2 = (0, c) := by
  obtain ⟨h1, h2, i, hi, h3⟩ := h
  have hc := h1.2.1
  have i1 : vp_in (nI i) 1201 := vpi (by omega)
  obtain ⟨a1, a2⟩ := c_comes h1 h3 hi
  obtain ⟨t1, t2⟩ := c_takeF h2
  obtain ⟨f1, f2⟩ := c_failF (k := 1) h2
  obtain ⟨f3, f4⟩ := c_failF (k := 2) h2
  have e46 : ∀ v, s_X8_takeNumber_46 c r v ∧ f_X8_takeNumber_46 c r v = (0, c) := fun v => by
    simp only [s_X8_takeNumber_46, f_X8_takeNumber_46, bnd, bndP, t1, t2, if_neg h2, true_and]
  have e41 : ∀ v, s_X8_takeNumber_41 c r v ∧ f_X8_takeNumber_41 c r v = (0, c) := fun v => by
    simp only [s_X8_takeNumber_41, f_X8_takeNumber_41, bnd, bndP, f3, f4, true_and]
    exact e46 v
  simp only [s_X8_takeNumber, f_X8_takeNumber, bnd, bndP, h3, i1, a1, a2, tK_lt, f1, f2, true_and]
  split
  · split
    · exact e41 _
    · split
      · exact e46 _
      · exact e41 _
  · exact e46 _
theorem m_numF {m : gM} (h : rdI m 76 0 0 0 ≠ 0) (x1 x2 : Int32) : s_X13_numberHere m x1 x2 ∧ f_X13_numberHere m x1 x2 = (x1, m) := by
  simp only [s_X13_numberHere, f_X13_numberHere, s_X13_numberHere_20, f_X13_numberHere_20, s_X13_numberHere_48, f_X13_numberHere_48, if_neg h, true_and]
theorem S_num {c m : gM} {r : Nat} {T : Nat → Nat} {l cn i : Nat} (h : cOK c r T l cn i) (k : mOK m T l i) {a b : Nat} {lo hi : Int32} (elo : lo = nI a) (ehi : hi = nI b) (hab : a ≤ b) (hb : b ≤ 99999) :
    s_X8_takeNumber c r lo hi ∧ s_X13_numberHere m lo hi ∧ ((∃ v, a ≤ v ∧ v ≤ b ∧ f_X8_takeNumber c r lo hi = (nI v, wrI c 47 r 0 0 (nI (i + 1))) ∧ f_X13_numberHere m lo hi = (nI v, m) ∧ i < cn) ∨ (FM (f_X8_takeNumber c r lo hi).2 (f_X13_numberHere m lo hi).2 r T l cn ∧ (f_X8_takeNumber c r lo hi).1 = 0 ∧ (f_X13_numberHere m lo hi).1 = lo)) := by
  subst elo ehi
  obtain ⟨h1, h2, h3, h4⟩ := id h
  have hc := h1.2.1
  have i1 : vp_in (nI i) 1201 := vpi (by omega)
  obtain ⟨a1, a2⟩ := c_comes h1 h3 h4
  have e46 := (h1.2.2.2.2 i h4).2.2
  have kd := k.2.2.2.2.2
  have fl : ∀ v : Int32, v ≠ 0 → s_X8_fail c r v ∧ (∀ w, s_X8_takeNumber_46 (f_X8_fail c r v) r w ∧ f_X8_takeNumber_46 (f_X8_fail c r v) r w = (0, f_X8_fail c r v)) ∧ s_X13_wrong m v ∧ rdI (f_X13_wrong m v) 76 0 0 0 ≠ 0 ∧ FM (f_X8_fail c r v) (f_X13_wrong m v) r T l cn := fun v hv => by
    obtain ⟨b1, b2, b3⟩ := S_fail h k hv
    obtain ⟨t1, t2⟩ := c_takeF b3.1.2.1
    refine ⟨b1, fun w => ?_, b2, b3.m, b3⟩
    simp only [s_X8_takeNumber_46, f_X8_takeNumber_46, bnd, bndP, t1, t2, if_neg b3.1.2.1, true_and]
  by_cases z : tK T l (st T l i) = 22
  · have hi : i < cn := tK_end h1.2.2.1 h4 (by omega)
    obtain ⟨x, y, e1, e2, e3⟩ := kd_num kd z
    obtain ⟨-, -, k3, -, -, -⟩ := kd_m kd
    have e73 := (k3 z).1
    obtain ⟨t1, t2, t3⟩ := cx_tk h hi
    have h2' : rdI (wrI c 47 r 0 0 (nI (i + 1))) 48 r 0 0 = 0 := by rw [rwN (by decide)]; exact h2
    obtain ⟨f1, f2, f3, f4, f5⟩ := fl 2 (by decide)
    simp only [s_X8_takeNumber, f_X8_takeNumber, s_X8_takeNumber_41, f_X8_takeNumber_41, s_X13_numberHere, f_X13_numberHere, s_X13_numberHere_20, f_X13_numberHere_20, s_X13_numberHere_43, f_X13_numberHere_43, bnd, bndP, h3, i1, a1, a2, z, show (22 : Nat) < 26 by omega, if_true, nn_nI (show i < 2 ^ 31 by omega), e46, e1, k.1, e73, e2, f1, f3, true_and]
    rcases e3 with ⟨rfl, e3⟩ | ⟨rfl, e3, e4⟩
    · by_cases p : x < a
      · have p' : nI x < nI a := nI_lt p (by omega)
        simp only [if_pos p']
        simp only [s_X13_numberHere_48, f_X13_numberHere_48, if_neg f4, (f2 _).1, (f2 _).2, true_and]
        exact Or.inr (by first | exact ⟨f5, trivial, trivial⟩ | exact ⟨f5, trivial⟩ | exact ⟨f5, rfl, rfl⟩ | exact f5)
      · have p' : ¬ nI x < nI a := i_nlt.mpr (nI_le (by omega) (by omega))
        by_cases w : x ≤ b
        · have w' : nI x ≤ nI b := nI_le w (by omega)
          simp only [if_neg p', if_pos w', s_X13_numberHere_48, f_X13_numberHere_48, s_X8_takeNumber_46, f_X8_takeNumber_46, bnd, bndP, t1, t2, h2', k.1, e2, if_true, true_and]
          exact Or.inl ⟨x, by omega, w, rfl, rfl, hi⟩
        · have w' : ¬ nI x ≤ nI b := nI_ge (by omega) (by omega)
          simp only [if_neg p', if_neg w']
          simp only [s_X13_numberHere_48, f_X13_numberHere_48, if_neg f4, (f2 _).1, (f2 _).2, true_and]
          exact Or.inr (by first | exact ⟨f5, trivial, trivial⟩ | exact ⟨f5, trivial⟩ | exact ⟨f5, rfl, rfl⟩ | exact f5)
    · have p' : ¬ nI 100000 < nI a := i_nlt.mpr (nI_le (by omega) (by omega))
      have w' : ¬ nI 100000 ≤ nI b := nI_ge (by omega) (by omega)
      have p2 : ¬ nI y < nI a := i_nlt.mpr (nI_le (by omega) (by omega))
      have w2 : ¬ nI y ≤ nI b := nI_ge (by omega) (by omega)
      simp only [if_neg p', if_neg w', if_neg p2, if_neg w2]
      simp only [s_X13_numberHere_48, f_X13_numberHere_48, if_neg f4, (f2 _).1, (f2 _).2, true_and]
      exact Or.inr (by first | exact ⟨f5, trivial, trivial⟩ | exact ⟨f5, trivial⟩ | exact ⟨f5, rfl, rfl⟩ | exact f5)
  · have e73 := kd_73 kd z
    obtain ⟨f1, f2, f3, f4, f5⟩ := fl 1 (by decide)
    simp only [s_X8_takeNumber, f_X8_takeNumber, s_X13_numberHere, f_X13_numberHere, s_X13_numberHere_20, f_X13_numberHere_20, bnd, bndP, h3, i1, a1, a2, if_neg z, tK_lt, k.1, if_true, if_neg e73, f1, f3, if_neg f4, s_X13_numberHere_48, f_X13_numberHere_48, (f2 _).1, (f2 _).2, true_and]
    exact Or.inr (by first | exact ⟨f5, trivial, trivial⟩ | exact ⟨f5, trivial⟩ | exact ⟨f5, rfl, rfl⟩ | exact f5)
end
