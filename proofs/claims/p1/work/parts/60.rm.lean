set_option linter.all false
noncomputable section
-- ===== one told name, one number, with what is told so far =====
/-- the class's view of one kind: how many -/
def cnt (V : vV) (kd : Nat) : Nat := if kd = 0 then vP V else if kd = 1 then vT V else vA V
theorem DR.cnt {r : Nat} {c m : gM} {T : Nat → Nat} {lf : Nat → Nat} (d : DR r c m T lf) {kd : Nat} (hk : kd < 3) : cnt (nV m) kd ≤ nmL kd ∧ rdI m 89 0 0 kd = nI (cnt (nV m) kd) ∧ NMk c m r T kd (cnt (nV m) kd) := by
  obtain ⟨p1, p2, p3⟩ := d.P
  obtain ⟨t1, t2, t3⟩ := d.T
  obtain ⟨a1, a2, a3⟩ := d.A
  rcases (show kd = 0 ∨ kd = 1 ∨ kd = 2 by omega) with rfl | rfl | rfl
  · exact ⟨p3, p2, d.2.2.1.1⟩
  · exact ⟨t3, t2, d.2.2.1.2.1⟩
  · exact ⟨a3, a2, d.2.2.1.2.2⟩
/-- known, and on -/
theorem D_kn {c m : gM} {r : Nat} {T : Nat → Nat} {l cn i kd : Nat} {lf : Nat → Nat} (h : cOK c r T l cn i) (k : mOK m T l i) (d : DR r c m T lf) (hkd : kd < 3) {x1 x2 : Int32} (ex : x1 = nI kd) (e2 : x2 = nI (cnt (nV m) kd)) :
    s_X8_takeKnownName c r kd x2 ∧ s_X13_told m x1 ∧ ((∃ v, v < cnt (nV m) kd ∧ f_X8_takeKnownName c r kd x2 = (nI v, wrI c 47 r 0 0 (nI (i + 1))) ∧ (f_X13_told m x1).1 = nI v ∧ i < cn ∧ cOK (wrI c 47 r 0 0 (nI (i + 1))) r T l cn (i + 1) ∧ mOK (f_X13_told m x1).2 T l (i + 1) ∧ offW [71, 72, 73, 74, 75] m (f_X13_told m x1).2 ∧ DR r (wrI c 47 r 0 0 (nI (i + 1))) (f_X13_told m x1).2 T lf ∧ nV (f_X13_told m x1).2 = nV m) ∨ (FM (f_X8_takeKnownName c r kd x2).2 (f_X13_told m x1).2 r T l cn ∧ (f_X8_takeKnownName c r kd x2).1 = 0 ∧ (f_X13_told m x1).1 = 0)) := by
  subst ex e2
  obtain ⟨q1, q2, q3⟩ := d.cnt hkd
  obtain ⟨a1, a2, a3⟩ := S_knGo h k hkd q1 q2 q3
  refine ⟨a1, a2, ?_⟩
  rcases a3 with ⟨v, b1, b2, b3, b4, b5, b6, b7⟩ | b
  · exact Or.inl ⟨v, b1, b2, b3, b4, b5, b6, b7, d.off o47 (by decide) b7 (by decide), nV_off b7 (by decide)⟩
  · exact Or.inr b
/-- known, here: the reference stays at the token -/
theorem D_kh {c m : gM} {r : Nat} {T : Nat → Nat} {l cn i kd : Nat} {lf : Nat → Nat} (h : cOK c r T l cn i) (k : mOK m T l i) (d : DR r c m T lf) (hkd : kd < 3) {x1 x2 : Int32} (ex : x1 = nI kd) (e2 : x2 = nI (cnt (nV m) kd)) :
    s_X8_takeKnownName c r kd x2 ∧ s_X13_toldHere m x1 ∧ ((∃ v, v < cnt (nV m) kd ∧ f_X8_takeKnownName c r kd x2 = (nI v, wrI c 47 r 0 0 (nI (i + 1))) ∧ f_X13_toldHere m x1 = (nI v, m) ∧ i < cn ∧ cOK (wrI c 47 r 0 0 (nI (i + 1))) r T l cn (i + 1) ∧ DR r (wrI c 47 r 0 0 (nI (i + 1))) m T lf) ∨ (FM (f_X8_takeKnownName c r kd x2).2 (f_X13_toldHere m x1).2 r T l cn ∧ (f_X8_takeKnownName c r kd x2).1 = 0 ∧ (f_X13_toldHere m x1).1 = 0)) := by
  subst ex e2
  obtain ⟨q1, q2, q3⟩ := d.cnt hkd
  obtain ⟨a1, a2, a3⟩ := S_kn h k hkd q1 q2 q3
  refine ⟨a1, a2, ?_⟩
  rcases a3 with ⟨v, b1, b2, b3, b4⟩ | b
  · have t := cx_tk h b4
    rw [t.2.1] at t
    exact Or.inl ⟨v, b1, b2, b3, b4, t.2.2, d.off (Wm := []) o47 (by decide) offR (by decide)⟩
  · exact Or.inr b
theorem D_num {c m : gM} {r : Nat} {T : Nat → Nat} {l cn i : Nat} {lf : Nat → Nat} (h : cOK c r T l cn i) (k : mOK m T l i) (d : DR r c m T lf) {a b : Nat} {lo hi : Int32} (elo : lo = nI a) (ehi : hi = nI b) (hab : a ≤ b) (hb : b ≤ 99999) :
    s_X8_takeNumber c r lo hi ∧ s_X13_number m lo hi ∧ ((∃ v, a ≤ v ∧ v ≤ b ∧ f_X8_takeNumber c r lo hi = (nI v, wrI c 47 r 0 0 (nI (i + 1))) ∧ (f_X13_number m lo hi).1 = nI v ∧ i < cn ∧ cOK (wrI c 47 r 0 0 (nI (i + 1))) r T l cn (i + 1) ∧ mOK (f_X13_number m lo hi).2 T l (i + 1) ∧ offW [71, 72, 73, 74, 75] m (f_X13_number m lo hi).2 ∧ DR r (wrI c 47 r 0 0 (nI (i + 1))) (f_X13_number m lo hi).2 T lf ∧ nV (f_X13_number m lo hi).2 = nV m) ∨ (FM (f_X8_takeNumber c r lo hi).2 (f_X13_number m lo hi).2 r T l cn ∧ (f_X8_takeNumber c r lo hi).1 = 0 ∧ (f_X13_number m lo hi).1 = lo)) := by
  obtain ⟨a1, a2, a3⟩ := S_numGo h k elo ehi hab hb
  refine ⟨a1, a2, ?_⟩
  rcases a3 with ⟨v, b0, b1, b2, b3, b4, b5, b6, b7⟩ | b
  · exact Or.inl ⟨v, b0, b1, b2, b3, b4, b5, b6, b7, d.off o47 (by decide) b7 (by decide), nV_off b7 (by decide)⟩
  · exact Or.inr b
theorem D_go {c m : gM} {r : Nat} {T : Nat → Nat} {l cn i : Nat} {lf : Nat → Nat} (k : mOK m T l i) (h : st T l i < l) (d : DR r c m T lf) : s_X13_goOn m ∧ mOK (f_X13_goOn m) T l (i + 1) ∧ offW [71, 72, 73, 74, 75] m (f_X13_goOn m) ∧ DR r c (f_X13_goOn m) T lf ∧ nV (f_X13_goOn m) = nV m := by
  obtain ⟨a1, a2, a3⟩ := m_go k h
  exact ⟨a1, a2, a3, d.off (Wc := []) offR (by decide) a3 (by decide), nV_off a3 (by decide)⟩
theorem D_nw {c m : gM} {r : Nat} {T : Nat → Nat} {l cn i kd : Nat} {lf : Nat → Nat} (h : cOK c r T l cn i) (k : mOK m T l i) (d : DR r c m T lf) (hkd : kd < 3) (hlt : cnt (nV m) kd < nmL kd) {x1 x2 : Int32} (ex : x1 = nI kd) (e2 : x2 = nI (cnt (nV m) kd)) :
    s_X8_takeNewName c r kd x2 ∧ s_X13_newName m x1 ∧ ((i < cn ∧ cOK (f_X8_takeNewName c r kd x2) r T l cn (i + 1) ∧ mOK (f_X13_newName m x1) T l (i + 1) ∧ DR r (f_X8_takeNewName c r kd x2) (f_X13_newName m x1) T lf ∧ nV (f_X13_newName m x1) = nV m ∧ nmR T (rdI (f_X8_takeNewName c r kd x2) 50 r kd (cnt (nV m) kd)) (rdI (f_X13_newName m x1) 95 0 0 (12 * kd + cnt (nV m) kd)) ∧ offW [47, 50] c (f_X8_takeNewName c r kd x2) ∧ offW [71, 72, 73, 74, 75, 95] m (f_X13_newName m x1)) ∨ FM (f_X8_takeNewName c r kd x2) (f_X13_newName m x1) r T l cn) := by
  subst ex e2
  obtain ⟨q1, q2, q3⟩ := d.cnt hkd
  obtain ⟨a1, a2, a3⟩ := S_nw h k hkd hlt q2 q3
  refine ⟨a1, a2, ?_⟩
  rcases a3 with ⟨b1, ⟨u, b2, b3⟩, b4, b5, b6⟩ | b
  · obtain ⟨d1, d2⟩ := d.nw (kd := kd) (n := cnt (nV m) kd) (u := u) (v := nI (i + 1)) rfl b5 b6 hkd hlt
    have t := cx_tk (c := wrI c 50 r kd (cnt (nV m) kd) u) (h.wr (by omega)) b1
    rw [t.2.1] at t
    rw [b2]
    refine Or.inl ⟨b1, t.2.2, b4, d1, d2, ?_, (offR.wI (by decide)).wI (by decide), b5⟩
    rw [rwN (by decide), rwS]; exact b3
  · exact Or.inr b
theorem c_tp {c : gM} {r : Nat} : (s_X8_takePerson c r ↔ s_X8_takeKnownName c r 0 (rdI c 5 r 0 0)) ∧ f_X8_takePerson c r = f_X8_takeKnownName c r 0 (rdI c 5 r 0 0) := by
  unfold s_X8_takePerson f_X8_takePerson
  exact ⟨⟨fun h => h.1, fun h => ⟨h, trivial⟩⟩, rfl⟩
theorem c_tt {c : gM} {r : Nat} : (s_X8_takeThing c r ↔ s_X8_takeKnownName c r 1 (rdI c 6 r 0 0)) ∧ f_X8_takeThing c r = f_X8_takeKnownName c r 1 (rdI c 6 r 0 0) := by
  unfold s_X8_takeThing f_X8_takeThing
  exact ⟨⟨fun h => h.1, fun h => ⟨h, trivial⟩⟩, rfl⟩
theorem c_ta {c : gM} {r : Nat} : (s_X8_takePaper c r ↔ s_X8_takeKnownName c r 2 (rdI c 7 r 0 0)) ∧ f_X8_takePaper c r = f_X8_takeKnownName c r 2 (rdI c 7 r 0 0) := by
  unfold s_X8_takePaper f_X8_takePaper
  exact ⟨⟨fun h => h.1, fun h => ⟨h, trivial⟩⟩, rfl⟩
-- after a fault, what is left changes nothing
theorem c_tpF {c : gM} {r : Nat} {T : Nat → Nat} {l cn : Nat} (h : cFt c r T l cn) : s_X8_takePerson c r ∧ f_X8_takePerson c r = (0, c) := by rw [c_tp.1, c_tp.2]; exact c_knF h 0 _
theorem c_ttF {c : gM} {r : Nat} {T : Nat → Nat} {l cn : Nat} (h : cFt c r T l cn) : s_X8_takeThing c r ∧ f_X8_takeThing c r = (0, c) := by rw [c_tt.1, c_tt.2]; exact c_knF h 1 _
theorem c_taF {c : gM} {r : Nat} {T : Nat → Nat} {l cn : Nat} (h : cFt c r T l cn) : s_X8_takePaper c r ∧ f_X8_takePaper c r = (0, c) := by rw [c_ta.1, c_ta.2]; exact c_knF h 2 _
-- ===== the thing line =====
theorem L_thg {c m : gM} {r : Nat} {T : Nat → Nat} {l cn i : Nat} {lf : Nat → Nat} (h : cOK c r T l cn i) (k : mOK m T l i) (hi : i < cn) (d : DR r c m T lf) : s_X8_readThing c r ∧ s_X13_readThing m ∧ RS r (f_X8_readThing c r) (f_X13_readThing m) T l cn (i + 1) := by
  obtain ⟨P5, M0, le⟩ := d.T
  have i0 : vp_in (1 : Int32) 502 := i502 (k := 1) (by omega)
  obtain ⟨sm1, sm2⟩ := S_more (N := 8) (N' := 8) rfl (by omega) h k hi le
  simp only [s_X8_readThing, f_X8_readThing, s_X13_readThing, f_X13_readThing, bnd, bndP, P5, n1, M0, i0, true_and]
  by_cases hn : vT (nV m) = 8
  · obtain ⟨a1, a2, a3, a4⟩ := sm2 hn
    generalize f_X8_takeOneMore c r (nI (vT (nV m))) 8 = c1 at *
    generalize f_X13_wrong m 2 = m1 at *
    obtain ⟨q1, q2⟩ := c_nwF a3.1 1 (rdI c1 6 r 0 0)
    simp only [if_pos a4, s_X13_readThing_16, f_X13_readThing_16, bnd, bndP, a1, a2, q1, q2, (c_tpF a3.1).1, (c_tpF a3.1).2, (c_numF a3.1 _ _).1, (c_numF a3.1 _ _).2, (m_goF a3.m).1, (m_goF a3.m).2, (m_nwF a3.m _).1, (m_nwF a3.m _).2, (m_tdF a3.m _).1, (m_tdF a3.m _).2, (m_nmF a3.m _ _).1, (m_nmF a3.m _ _).2, if_neg a3.1.2.1, if_neg a3.m, true_and]
    exact Or.inr a3
  · obtain ⟨a1, a2, a3, a4⟩ := sm1 (by omega)
    have d1' := d.off (Wm := []) (m' := m) (o47 (r := r) (v := nI (i + 1))) (by decide) offR (by decide)
    simp only [if_neg a4, s_X13_readThing_16, f_X13_readThing_16, bnd, bndP, a1, a2, true_and]
    generalize wrI c 47 r 0 0 (nI (i + 1)) = c1 at *
    obtain ⟨g1, g2, g3, d1, eV⟩ := D_go (cn := cn) k (h.1.2.2.2.1 i hi) d1'
    simp only [g1, true_and]
    generalize f_X13_goOn m = m1 at *
    have lt1 : vT (nV m1) < 8 := by rw [eV]; omega
    -- its name
    obtain ⟨w1, w2, w3⟩ := D_nw (kd := 1) a3 g2 d1 (by omega) lt1 (x1 := 1) (x2 := rdI c1 6 r 0 0) rfl d1.T.1
    simp only [w1, w2, true_and]
    rcases w3 with ⟨v1, c2, k2, d2, eV2, nu, -, -⟩ | w3
    · rw [show cnt (nV m1) 1 = vT (nV m1) from rfl] at nu
      generalize f_X8_takeNewName c1 r 1 (rdI c1 6 r 0 0) = C2 at *
      generalize f_X13_newName m1 1 = m2 at *
      -- its maker
      obtain ⟨u1, u2, u3⟩ := D_kn (kd := 0) c2 k2 d2 (by omega) (x1 := 0) (x2 := rdI C2 5 r 0 0) rfl d2.P.1
      simp only [c_tp.1, c_tp.2, u1, u2, true_and]
      rcases u3 with ⟨p, hp, y3, y4, -, c3, k3, o3, d3, eV3⟩ | ⟨y1, y2, y3⟩
      · have nu3 : nmR T (rdI (wrI C2 47 r 0 0 (nI (i + 1 + 1 + 1))) 50 r 1 (vT (nV m1))) (rdI (f_X13_told m2 0).2 95 0 0 (12 * 1 + vT (nV m1))) := by
          rw [rwN (by decide), (o3 95 0 0 _ (by decide)).1]; exact nu
        rw [y3]
        simp only [y4]
        generalize wrI C2 47 r 0 0 (nI (i + 1 + 1 + 1)) = C3 at *
        generalize (f_X13_told m2 0).2 = m3 at *
        obtain ⟨u1, u2, u3⟩ := D_num c3 k3 d3 (lo := 0) (hi := 1) x0 x1' (by omega) (by omega)
        simp only [u1, u2, true_and]
        rcases u3 with ⟨b, -, hb, y5, y6, -, c4, k4, o4, d4, eV4⟩ | ⟨y1, y2, y3⟩
        · have nu4 : nmR T (rdI (wrI C3 47 r 0 0 (nI (i + 1 + 1 + 1 + 1))) 50 r 1 (vT (nV m1))) (rdI (f_X13_number m3 0 1).2 95 0 0 (12 * 1 + vT (nV m1))) := by
            rw [rwN (by decide), (o4 95 0 0 _ (by decide)).1]; exact nu3
          rw [y5]
          simp only [y6]
          generalize wrI C3 47 r 0 0 (nI (i + 1 + 1 + 1 + 1)) = C4 at *
          generalize (f_X13_number m3 0 1).2 = m4 at *
          obtain ⟨u1, u2, u3⟩ := D_num c4 k4 d4 (lo := 1) (hi := 9999) (b := 9999) x1' rfl (by omega) (by omega)
          simp only [u1, u2, true_and]
          rcases u3 with ⟨z, hz1, hz2, y7, y8, -, c5, k5, o5, d5, eV5⟩ | ⟨y1, y2, y3⟩
          · have nu5 : nmR T (rdI (wrI C4 47 r 0 0 (nI (i + 1 + 1 + 1 + 1 + 1))) 50 r 1 (vT (nV m1))) (rdI (f_X13_number m4 1 9999).2 95 0 0 (12 * 1 + vT (nV m1))) := by
              rw [rwN (by decide), (o5 95 0 0 _ (by decide)).1]; exact nu4
            rw [y7]
            simp only [y8]
            generalize wrI C4 47 r 0 0 (nI (i + 1 + 1 + 1 + 1 + 1)) = C5 at *
            generalize (f_X13_number m4 1 9999).2 = m5 at *
            obtain ⟨T6, N1, -⟩ := d5.T
            have hv5 : vT (nV m5) = vT (nV m1) := by rw [eV5, eV4, eV3, eV2]
            have hp5 : p < vP (nV m5) := by rw [eV5, eV4, eV3]; exact hp
            have lt5 : vT (nV m5) < 8 := by rw [hv5]; exact lt1
            have le10 := d5.P.2.2
            have l8 : nI (vT (nV m5)) < 8 := nI_lt (b := 8) lt5 (by omega)
            have j8 : vp_in (nI (vT (nV m5))) 8 := vpi lt5
            have j0 : vp_in (nI (34 + 3 * vT (nV m5))) 502 := i502 (by omega)
            have j1 : vp_in (nI (34 + 3 * vT (nV m5) + 1)) 502 := i502 (by omega)
            have j2 : vp_in (nI (34 + 3 * vT (nV m5) + 2)) 502 := i502 (by omega)
            simp only [c5.2.1, k5.1, if_true, s_X7_addThing, f_X7_addThing, bnd, bndP, T6, l8, j8, nn_nI (show vT (nV m5) < 2 ^ 31 by omega), rwN (show (6 : Nat) ≠ 22 by decide), rwN (show (6 : Nat) ≠ 23 by decide), rwN (show (6 : Nat) ≠ 24 by decide), p1, p2, n1, i0, N1, e34, j0, j1, j2, nn_nI (show 34 + 3 * vT (nV m5) < 2 ^ 31 by omega), nn_nI (show 34 + 3 * vT (nV m5) + 1 < 2 ^ 31 by omega), nn_nI (show 34 + 3 * vT (nV m5) + 2 < 2 ^ 31 by omega), true_and]
            have r0 : rdI (wrI (wrI (wrI m5 89 0 0 (34 + 3 * vT (nV m5)) (nI p)) 89 0 0 (34 + 3 * vT (nV m5) + 1) (nI b)) 89 0 0 (34 + 3 * vT (nV m5) + 2) (nI z)) 89 0 0 1 = nI (vT (nV m5)) := by rw [rwI, if_neg (by omega), rwI, if_neg (by omega), rwI, if_neg (by omega)]; exact N1
            simp only [r0, p1]
            refine Or.inl ⟨i + 1 + 1 + 1 + 1 + 1, by omega, (((c5.wr (by omega)).wr (by omega)).wr (by omega)).wr (by omega), (((k5.wr (by omega)).wr (by omega)).wr (by omega)).wr (by omega), lf, ?_⟩
            obtain ⟨D1, D2, ⟨D3, D4, D5⟩, D6, D7, D8⟩ := d5
            have q : nV (wrI (wrI (wrI (wrI m5 89 0 0 (34 + 3 * vT (nV m5)) (nI p)) 89 0 0 (34 + 3 * vT (nV m5) + 1) (nI b)) 89 0 0 (34 + 3 * vT (nV m5) + 2) (nI z)) 89 0 0 1 (nI (vT (nV m5) + 1))) = ((fun kk => if kk = 1 then nI (vT (nV m5) + 1) else if kk = 34 + 3 * vT (nV m5) + 2 then nI z else if kk = 34 + 3 * vT (nV m5) + 1 then nI b else if kk = 34 + 3 * vT (nV m5) then nI p else (nV m5).1 kk), (nV m5).2) := by rw [nV_w89, nV_w89, nV_w89, nV_w89]
            generalize hV : nV (wrI (wrI (wrI (wrI m5 89 0 0 (34 + 3 * vT (nV m5)) (nI p)) 89 0 0 (34 + 3 * vT (nV m5) + 1) (nI b)) 89 0 0 (34 + 3 * vT (nV m5) + 2) (nI z)) 89 0 0 1 (nI (vT (nV m5) + 1))) = V' at *
            have q1 : ∀ kk, V'.1 kk = if kk = 1 then nI (vT (nV m5) + 1) else if kk = 34 + 3 * vT (nV m5) + 2 then nI z else if kk = 34 + 3 * vT (nV m5) + 1 then nI b else if kk = 34 + 3 * vT (nV m5) then nI p else (nV m5).1 kk := fun kk => by rw [q]
            have q2 : V'.2 = (nV m5).2 := by rw [q]
            have es : ∀ kk, kk ≠ 1 → (kk < 34 + 3 * vT (nV m5) ∨ 34 + 3 * vT (nV m5) + 2 < kk) → V'.1 kk = (nV m5).1 kk := fun kk e1 e2 => by rw [q1, if_neg e1, if_neg (by omega), if_neg (by omega), if_neg (by omega)]
            have q3 : vT V' = vT (nV m5) + 1 := by
              show nn (V'.1 1) = _
              rw [q1, if_pos rfl, nn_nI (by omega)]
            have q4 : vP V' = vP (nV m5) := by
              show nn (V'.1 0) = _
              rw [es _ (by omega) (by omega)]; rfl
            have q5 : vA V' = vA (nV m5) := by
              show nn (V'.1 2) = _
              rw [es _ (by omega) (by omega)]; rfl
            obtain ⟨A1, A2⟩ := add_thg (C' := prj r (wrI (wrI (wrI (wrI C5 22 r (vT (nV m5)) 0 (nI p)) 23 r (vT (nV m5)) 0 (nI b)) 24 r (vT (nV m5)) 0 (nI z)) 6 r 0 0 (nI (vT (nV m5) + 1)))) (V' := V') D1 D2 lt5 (x := nI p) (y := nI b) (z := nI z) (vpi hp5) (vpi (by omega)) (nI_le (a := 1) hz1 (by omega)) (nI_le (b := 9999) hz2 (by omega))
              (by rw [q1, if_pos rfl]) (by rw [q1, if_neg (by omega), if_neg (by omega), if_neg (by omega), if_pos rfl]) (by rw [q1, if_neg (by omega), if_neg (by omega), if_pos rfl]) (by rw [q1, if_neg (by omega), if_pos rfl]) es q2
              (by rw [prw, if_pos ⟨rfl, rfl, rfl⟩]) (by rw [prw, if_neg (by omega), prw, if_neg (by omega), prw, if_neg (by omega), prw, if_pos ⟨rfl, rfl, rfl⟩]) (by rw [prw, if_neg (by omega), prw, if_neg (by omega), prw, if_pos ⟨rfl, rfl, rfl⟩]) (by rw [prw, if_neg (by omega), prw, if_pos ⟨rfl, rfl, rfl⟩])
              (fun g b dd a1 a2 a3 a4 => by rw [prw, if_neg (by omega), prw, if_neg (by omega), prw, if_neg (by omega), prw, if_neg (by omega)])
            unfold DR
            rw [hV]
            refine ⟨A1, A2, ⟨?_, ?_, ?_⟩, fun x hx => ?_, fun p a b => ?_, fun p a => ?_⟩
            · rw [q4]; exact ((((((D3.c (by decide)).c (by decide)).c (by decide)).c (by decide)).m (by decide)).m (by decide)).m (by decide) |>.m (by decide)
            · rw [q3]
              intro j hj
              rw [rwN (by decide), rwN (by decide), rwN (by decide), rwN (by decide), rwN (by decide), rwN (by decide), rwN (by decide), rwN (by decide)]
              by_cases w : j = vT (nV m5)
              · rw [w, hv5]; exact nu5
              · exact D4 j (by omega)
            · rw [q5]; exact ((((((D5.c (by decide)).c (by decide)).c (by decide)).c (by decide)).m (by decide)).m (by decide)).m (by decide) |>.m (by decide)
            · rw [rwN (by decide), rwN (by decide), rwN (by decide), rwN (by decide), rwN (by decide), rwN (by decide), rwN (by decide), rwN (by decide)]; exact D6 x hx
            · rw [q4] at a
              rw [q2, es _ (by omega) (by omega)]
              exact D7 p a b
            · rw [q4] at a
              rw [es _ (by omega) (by omega)]
              exact D8 p a
          · simp only [if_neg y1.1.2.1, if_neg y1.m, true_and]
            exact Or.inr y1
        · generalize (f_X8_takeNumber C3 r 0 1).2 = C4 at *
          generalize (f_X13_number m3 0 1).2 = m4 at *
          simp only [(c_numF y1.1 _ _).1, (c_numF y1.1 _ _).2, (m_nmF y1.m _ _).1, (m_nmF y1.m _ _).2, if_neg y1.1.2.1, if_neg y1.m, true_and]
          exact Or.inr y1
      · generalize (f_X8_takeKnownName C2 r 0 (rdI C2 5 r 0 0)).2 = C3 at *
        generalize (f_X13_told m2 0).2 = m3 at *
        simp only [(c_numF y1.1 _ _).1, (c_numF y1.1 _ _).2, (m_nmF y1.m _ _).1, (m_nmF y1.m _ _).2, if_neg y1.1.2.1, if_neg y1.m, true_and]
        exact Or.inr y1
    · generalize f_X8_takeNewName c1 r 1 (rdI c1 6 r 0 0) = C2 at *
      generalize f_X13_newName m1 1 = m2 at *
      simp only [(c_tpF w3.1).1, (c_tpF w3.1).2, (c_numF w3.1 _ _).1, (c_numF w3.1 _ _).2, (m_tdF w3.m _).1, (m_tdF w3.m _).2, (m_nmF w3.m _ _).1, (m_nmF w3.m _ _).2, if_neg w3.1.2.1, if_neg w3.m, true_and]
      exact Or.inr w3
end
