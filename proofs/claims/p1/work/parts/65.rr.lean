set_option linter.all false
noncomputable section
/-- the class has failed at a token that the reference is about to find wrong -/
def LG (c m : gM) (r : Nat) (T : Nat → Nat) (l cn : Nat) : Prop := cFt c r T l cn ∧ rdI c 48 r 0 0 = 1 ∧ ∃ j, rdI c 49 r 0 0 = nI (st T l j) ∧ mOK m T l j ∧ tK T l (st T l j) ≠ 23
def RX (r : Nat) (c m : gM) (T : Nat → Nat) (l cn i : Nat) : Prop := RS r c m T l cn i ∨ LG c m r T l cn
theorem FM.wc {c m : gM} {r : Nat} {T : Nat → Nat} {l cn : Nat} (h : FM c m r T l cn) {g a b d : Nat} {v : Int32} (k : g < 41 ∨ 49 < g) : FM (wrI c g a b d v) m r T l cn := by
  obtain ⟨⟨h1, h2, i, hi, h3⟩, h4, h5⟩ := h
  exact ⟨⟨h1.wr (by omega), by rw [rwN (by omega)]; exact h2, i, hi, by rw [rwN (by omega)]; exact h3⟩, by rw [rwN (by omega)]; exact h4, by rw [rwN (by omega)]; exact h5⟩
theorem FM.wm {c m : gM} {r : Nat} {T : Nat → Nat} {l cn : Nat} (h : FM c m r T l cn) {g a b d : Nat} {v : Int32} (k : 87 < g) : FM c (wrI m g a b d v) r T l cn := by
  obtain ⟨h1, h4, h5⟩ := h
  exact ⟨h1, by rw [rwN (by omega)]; exact h4, by rw [rwN (by omega)]; exact h5⟩
theorem kd_2 {M : gM} {T : Nat → Nat} {l q : Nat} (h : mKd M T l q) : rdI M 73 0 0 0 = 2 ↔ tK T l q = 23 := by
  obtain ⟨h1, h2, h3, h4, h5, h6⟩ := kd_m h
  have := tK_lt (T := T) (l := l) (p := q)
  rcases (show tK T l q < 21 ∨ tK T l q = 21 ∨ tK T l q = 22 ∨ tK T l q = 23 ∨ tK T l q = 24 ∨ tK T l q = 25 by omega) with z | z | z | z | z | z
  · rw [(h1 z).1]; constructor <;> intro y
    · exact absurd y (by decide)
    · omega
  · rw [(h2 z).1]; constructor <;> intro y
    · exact absurd y (by decide)
    · omega
  · rw [(h3 z).1]; constructor <;> intro y
    · exact absurd y (by decide)
    · omega
  · rw [h4 z]; exact ⟨fun _ => z, fun _ => rfl⟩
  · rw [h5 z]; constructor <;> intro y
    · exact absurd y (by decide)
    · omega
  · rw [h6 z]; constructor <;> intro y
    · exact absurd y (by decide)
    · omega
theorem DR.lin {c m : gM} {r : Nat} {T : Nat → Nat} {lf : Nat → Nat} (d : DR r c m T lf) {u : Int32} : DR r (wrI c 4 r 0 0 u) (wrI m 89 0 0 3 u) T lf := by
  obtain ⟨D1, D2, ⟨D3, D4, D5⟩, D6, D7, D8⟩ := d
  have q : nV (wrI m 89 0 0 3 u) = ((fun kk => if kk = 3 then u else (nV m).1 kk), (nV m).2) := by rw [nV_w89]
  unfold DR
  generalize hV : nV (wrI m 89 0 0 3 u) = V' at *
  have q1 : ∀ kk, V'.1 kk = if kk = 3 then u else (nV m).1 kk := fun kk => by rw [q]
  have q2 : V'.2 = (nV m).2 := by rw [q]
  have es : ∀ kk, kk ≠ 3 → V'.1 kk = (nV m).1 kk := fun kk e1 => by rw [q1, if_neg e1]
  have q4 : vP V' = vP (nV m) := by
    show nn (V'.1 0) = _
    rw [es _ (by omega)]; rfl
  have q3 : vT V' = vT (nV m) := by
    show nn (V'.1 1) = _
    rw [es _ (by omega)]; rfl
  have q5 : vA V' = vA (nV m) := by
    show nn (V'.1 2) = _
    rw [es _ (by omega)]; rfl
  obtain ⟨A1, A2⟩ := add_lin (C' := prj r (wrI c 4 r 0 0 u)) (V' := V') D1 D2 (u := u) (by rw [q1, if_pos rfl]) es q2 (by rw [prw, if_pos ⟨rfl, rfl, rfl⟩]) (fun g b dd a1 a2 a3 => by rw [prw, if_neg (by omega)])
  refine ⟨A1, A2, ⟨?_, ?_, ?_⟩, fun x' hx' => ?_, fun p a b => ?_, fun p a => ?_⟩
  · rw [q4]; exact D3.wr (by decide) (by decide)
  · rw [q3]; exact D4.wr (by decide) (by decide)
  · rw [q5]; exact D5.wr (by decide) (by decide)
  · rw [rwN (by decide), rwN (by decide)]; exact D6 x' hx'
  · rw [q4] at a
    rw [q2, es _ (by omega)]
    exact D7 p a b
  · rw [q4] at a
    rw [es _ (by omega)]
    exact D8 p a
theorem m_138F {m : gM} (h : rdI m 76 0 0 0 ≠ 0) : s_X13_readLine_138 m ∧ ∃ u, f_X13_readLine_138 m = wrI m 89 0 0 3 u := by
  have i3 : vp_in (3 : Int32) 502 := i502 (k := 3) (by omega)
  simp only [s_X13_readLine_138, f_X13_readLine_138, bnd, bndP, (m_goF h).1, (m_goF h).2, i3, n3, true_and]
  exact ⟨_, rfl⟩
theorem L_semi {c m : gM} {r : Nat} {T : Nat → Nat} {l cn i : Nat} (h : RX r c m T l cn i) : s_X8_takeSemicolon c r ∧ s_X13_readLine_118 m ∧ RS r (f_X8_takeSemicolon c r) (f_X13_readLine_118 m) T l cn i := by
  have i3 : vp_in (3 : Int32) 502 := i502 (k := 3) (by omega)
  have F : ∀ C, rdI C 48 r 0 0 ≠ 0 → s_X8_takeSemicolon_15 C r ∧ f_X8_takeSemicolon_15 C r = C := fun C h => by
    simp only [s_X8_takeSemicolon_15, f_X8_takeSemicolon_15, bnd, bndP, (c_takeF h).1, (c_takeF h).2, if_neg h, true_and]
  have cF : cFt c r T l cn → s_X8_takeSemicolon c r ∧ f_X8_takeSemicolon c r = c := fun h => by
    obtain ⟨h1, h2, j, hj, h3⟩ := id h
    obtain ⟨a1, a2⟩ := c_comes h1 h3 hj
    simp only [s_X8_takeSemicolon, f_X8_takeSemicolon, bnd, bndP, a1, a2, tK_lt, (F c h2).1, (F c h2).2, (c_failF (k := 1) h2).1, (c_failF (k := 1) h2).2, true_and, ite_self]
  rcases h with (⟨j, hij, h1, h2, lf, d⟩ | f) | ⟨f, f1, j, f2, f3, f4⟩
  · obtain ⟨t1, t2, t3, t4⟩ := id h1
    obtain ⟨a1, a2⟩ := c_comes t1 t3 t4
    have kd := h2.2.2.2.2.2
    by_cases z : tK T l (st T l j) = 23
    · have hj : j < cn := tK_end t1.2.2.1 t4 (by omega)
      obtain ⟨b1, b2, b3⟩ := cx_tk h1 hj
      rw [b2] at b3
      obtain ⟨g1, g2, g3, g4, g5⟩ := D_go (cn := cn) h2 (t1.2.2.2.1 j hj) (d.off (Wm := []) (m' := m) (o47 (r := r) (v := nI (j + 1))) (by decide) offR (by decide))
      simp only [s_X8_takeSemicolon, f_X8_takeSemicolon, s_X8_takeSemicolon_15, f_X8_takeSemicolon_15, s_X13_readLine_118, f_X13_readLine_118, s_X13_readLine_138, f_X13_readLine_138, bnd, bndP, a1, a2, z, show (23 : Nat) < 26 by omega, if_true, b1, b2, b3.2.1, h2.1, (kd_2 kd).mpr z, g1, i3, n3, true_and]
      have e4 : rdI (wrI c 47 r 0 0 (nI (j + 1))) 4 r 0 0 = rdI (f_X13_goOn m) 89 0 0 3 := g4.1.1.2.2.2.1
      rw [e4]
      exact Or.inl ⟨j + 1, by omega, b3.wr (by omega), g2.wr (by omega), lf, g4.lin⟩
    · obtain ⟨b1, b2, b3⟩ := S_fail h1 h2 (v := 1) (by decide)
      obtain ⟨q1, u, q2⟩ := m_138F b3.m
      simp only [s_X8_takeSemicolon, f_X8_takeSemicolon, s_X13_readLine_118, f_X13_readLine_118, bnd, bndP, a1, a2, tK_lt, if_neg z, b1, (F _ b3.1.2.1).1, (F _ b3.1.2.1).2, h2.1, if_true, if_neg (fun w => z ((kd_2 kd).mp w)), b2, q1, q2, true_and]
      exact Or.inr (b3.wm (by omega))
  · obtain ⟨q1, u, q2⟩ := m_138F f.m
    obtain ⟨c1, c2⟩ := cF f.1
    simp only [c1, c2, s_X13_readLine_118, f_X13_readLine_118, bnd, bndP, if_neg f.m, q1, q2, true_and]
    exact Or.inr (f.wm (by omega))
  · obtain ⟨c1, c2⟩ := cF f
    have kd := f3.2.2.2.2.2
    have ew : f_X13_wrong m 1 = wrI (wrI m 76 0 0 0 1) 77 0 0 0 (nI (st T l j)) := by
      simp only [f_X13_wrong, bnd, f3.1, if_true, rwN (show (72 : Nat) ≠ 76 by decide), f3.2.2.2.1]
    have sw : s_X13_wrong m 1 := by
      simp only [s_X13_wrong, bndP, f3.1, if_true]
    have fm : FM c (f_X13_wrong m 1) r T l cn := by
      rw [ew]
      refine ⟨f, ?_, ?_⟩
      · rw [rwN (by decide), rwS, f1]
      · rw [rwS, f2]
    obtain ⟨q1, u, q2⟩ := m_138F fm.m
    simp only [c1, c2, s_X13_readLine_118, f_X13_readLine_118, bnd, bndP, f3.1, if_true, if_neg (fun w => f4 ((kd_2 kd).mp w)), sw, q1, q2, true_and]
    exact Or.inr (fm.wm (by omega))
end
