set_option linter.all false
noncomputable section
theorem n0 : nn (0 : Int32) = 0 := rfl
theorem n1 : nn (1 : Int32) = 1 := rfl
theorem n2 : nn (2 : Int32) = 2 := rfl
theorem n3 : nn (3 : Int32) = 3 := rfl
theorem i502 {k : Nat} (h : k < 502) : vp_in (nI k) 502 := vpi h
theorem x0 : (0 : Int32) = nI 0 := rfl
theorem x1' : (1 : Int32) = nI 1 := rfl
theorem prw {r : Nat} {c : gM} {g a b d g' b' d' : Nat} {v : Int32} : rdI (prj r (wrI c g r b d v)) g' a b' d' = if g' = g ∧ b' = b ∧ d' = d then v else rdI (prj r c) g' a b' d' := by
  show rdI (wrI c g r b d v) g' r b' d' = _
  rw [rwI]
  by_cases z : g' = g ∧ b' = b ∧ d' = d
  · rw [if_pos z, if_pos ⟨z.1, rfl, z.2⟩]
  · rw [if_neg z, if_neg (fun w => z ⟨w.1, w.2.2⟩)]; rfl
theorem NMk.wr {c m : gM} {r kd n : Nat} {T : Nat → Nat} (h : NMk c m r T kd n) {g a b d g' a' b' d' : Nat} {v v' : Int32} (k : g ≠ 50) (k' : g' ≠ 95) : NMk (wrI c g a b d v) (wrI m g' a' b' d' v') r T kd n := h.keep (fun j _ => rwN (fun z => k z.symm)) (fun j _ => rwN (fun z => k' z.symm))
theorem NMk.c {c m : gM} {r kd n : Nat} {T : Nat → Nat} (h : NMk c m r T kd n) {g a b d : Nat} {v : Int32} (k : g ≠ 50) : NMk (wrI c g a b d v) m r T kd n := h.keep (fun j _ => rwN (fun z => k z.symm)) (fun j _ => rfl)
theorem NMk.m {c m : gM} {r kd n : Nat} {T : Nat → Nat} (h : NMk c m r T kd n) {g' a' b' d' : Nat} {v' : Int32} (k' : g' ≠ 95) : NMk c (wrI m g' a' b' d' v') r T kd n := h.keep (fun j _ => rfl) (fun j _ => rwN (fun z => k' z.symm))
theorem nV_w89 {m : gM} {k : Nat} {v : Int32} : nV (wrI m 89 0 0 k v) = ((fun i => if i = k then v else (nV m).1 i), (nV m).2) := by
  refine Prod.ext (funext fun i => ?_) (Prod.ext (funext fun i => ?_) (funext fun i => ?_))
  · show rdI (wrI m 89 0 0 k v) 89 0 0 i = if i = k then v else rdI m 89 0 0 i
    rw [rwI]
    by_cases e : i = k <;> simp [e]
  · show rdI (wrI m 89 0 0 k v) 93 0 0 i = rdI m 93 0 0 i
    rw [rwN (by decide)]
  · show rdI (wrI m 89 0 0 k v) 91 0 0 i = rdI m 91 0 0 i
    rw [rwN (by decide)]
theorem nV_w93 {m : gM} {k : Nat} {v : Int32} : nV (wrI m 93 0 0 k v) = vset (nV m) k v := by
  refine Prod.ext (funext fun i => ?_) (Prod.ext (funext fun i => ?_) (funext fun i => ?_))
  · show rdI (wrI m 93 0 0 k v) 89 0 0 i = rdI m 89 0 0 i
    rw [rwN (by decide)]
  · show rdI (wrI m 93 0 0 k v) 93 0 0 i = if i = k then v else rdI m 93 0 0 i
    rw [rwI]
    by_cases e : i = k <;> simp [e]
  · show rdI (wrI m 93 0 0 k v) 91 0 0 i = rdI m 91 0 0 i
    rw [rwN (by decide)]
theorem ct_0 (n : Nat) : fb_ct (bt 0) n = 0 := fb_ct_zero.mpr fun k _ => b_0 k
theorem L_per {c m : gM} {r : Nat} {T : Nat → Nat} {l cn i : Nat} {lf : Nat → Nat} (h : cOK c r T l cn i) (k : mOK m T l i) (hi : i < cn) (d : DR r c m T lf) : s_X8_readPerson c r ∧ s_X13_readPerson m ∧ RS r (f_X8_readPerson c r) (f_X13_readPerson m) T l cn (i + 1) := by
  obtain ⟨P5, M0, le⟩ := d.P
  have i0 : vp_in (0 : Int32) 502 := i502 (k := 0) (by omega)
  obtain ⟨sm1, sm2⟩ := S_more (N := 10) (N' := 10) rfl (by omega) h k hi le
  simp only [s_X8_readPerson, f_X8_readPerson, s_X13_readPerson, f_X13_readPerson, bnd, bndP, P5, n0, M0, i0, true_and]
  by_cases hn : vP (nV m) = 10
  · obtain ⟨a1, a2, a3, a4⟩ := sm2 hn
    generalize f_X8_takeOneMore c r (nI (vP (nV m))) 10 = c1 at *
    generalize f_X13_wrong m 2 = m1 at *
    obtain ⟨q1, q2⟩ := c_nwF a3.1 0 (rdI c1 5 r 0 0)
    obtain ⟨q3, q4⟩ := c_numF a3.1 0 1
    obtain ⟨q5, q6⟩ := m_goF a3.m
    obtain ⟨q7, q8⟩ := m_nwF a3.m 0
    obtain ⟨q9, q10⟩ := m_nmF a3.m 0 1
    simp only [if_pos a4, s_X13_readPerson_16, f_X13_readPerson_16, bnd, bndP, a1, a2, q1, q2, q3, q4, q5, q6, q7, q8, q9, q10, if_neg a3.1.2.1, if_neg a3.m, true_and]
    exact Or.inr a3
  · obtain ⟨a1, a2, a3, a4⟩ := sm1 (by omega)
    obtain ⟨g1, g2, g3⟩ := m_go k (h.1.2.2.2.1 i hi)
    have d1 := d.off (o47 (r := r) (v := nI (i + 1))) (by decide) g3 (by decide)
    have eV := nV_off g3 (by decide)
    simp only [if_neg a4, s_X13_readPerson_16, f_X13_readPerson_16, bnd, bndP, a1, a2, g1, true_and]
    generalize wrI c 47 r 0 0 (nI (i + 1)) = c1 at *
    generalize f_X13_goOn m = m1 at *
    obtain ⟨P5', M0', -⟩ := d1.P
    have W := S_nw (kd := 0) a3 g2 (by omega) (show vP (nV m1) < nmL 0 by rw [eV]; show _ < 10; omega) M0' d1.2.2.1.1
    rw [show nI 0 = (0 : Int32) from rfl] at W
    obtain ⟨w1, w2, w3⟩ := W
    simp only [P5', w1, w2, true_and]
    rcases w3 with ⟨v1, ⟨u, v2, v3⟩, v4, v5, v6⟩ | w3
    · obtain ⟨d2, eV2⟩ := d1.nw (kd := 0) (n := vP (nV m1)) (u := u) (v := nI (i + 1 + 1)) rfl v5 v6 (by omega) (by rw [eV]; show _ < 10; omega)
      have c2 : cOK (wrI (wrI c1 50 r 0 (vP (nV m1)) u) 47 r 0 0 (nI (i + 1 + 1))) r T l cn (i + 1 + 1) := by
        have := cx_tk (c := wrI c1 50 r 0 (vP (nV m1)) u) (a3.wr (by omega)) v1
        rw [this.2.1] at this
        exact this.2.2
      rw [v2]
      have nu : nmR T (rdI (wrI (wrI c1 50 r 0 (vP (nV m1)) u) 47 r 0 0 (nI (i + 1 + 1))) 50 r 0 (vP (nV m1))) (rdI (f_X13_newName m1 0) 95 0 0 (12 * 0 + vP (nV m1))) := by
        rw [rwN (by decide), rwS]; exact v3
      generalize wrI (wrI c1 50 r 0 (vP (nV m1)) u) 47 r 0 0 (nI (i + 1 + 1)) = c2' at *
      generalize f_X13_newName m1 0 = m2 at *
      obtain ⟨z1, z2, z3⟩ := S_numGo c2 v4 (lo := 0) (hi := 1) x0 x1' (by omega) (by omega)
      simp only [z1, z2, true_and]
      rcases z3 with ⟨v, y1, y2, y3, y4, y5, y6, y7, y8⟩ | ⟨y1, y2, y3⟩
      · have d3 := d2.off (o47 (r := r) (v := nI (i + 1 + 1 + 1))) (by decide) y8 (by decide)
        have eV3 := nV_off y8 (by decide)
        have nu3 : nmR T (rdI (wrI c2' 47 r 0 0 (nI (i + 1 + 1 + 1))) 50 r 0 (vP (nV m1))) (rdI (f_X13_number m2 0 1).2 95 0 0 (12 * 0 + vP (nV m1))) := by
          rw [rwN (by decide), (y8 95 0 0 _ (by decide)).1]; exact nu
        rw [y3]
        simp only [y4]
        generalize wrI c2' 47 r 0 0 (nI (i + 1 + 1 + 1)) = c3 at *
        generalize (f_X13_number m2 0 1).2 = m3 at *
        obtain ⟨P5'', M0'', -⟩ := d3.P
        have hv3 : vP (nV m3) = vP (nV m1) := by rw [eV3, eV2]
        have hlt : vP (nV m3) < 10 := by rw [hv3, eV]; omega
        have l10 : nI (vP (nV m3)) < 10 := nI_lt (b := 10) hlt (by omega)
        have j10 : vp_in (nI (vP (nV m3))) 10 := vpi hlt
        have e14 : (14 : Int32) + nI (vP (nV m3)) = nI (14 + vP (nV m3)) := nI_add 14 _
        have j14 : vp_in (nI (14 + vP (nV m3))) 502 := i502 (by omega)
        simp only [y6.2.1, y7.1, if_true, s_X7_addPerson, f_X7_addPerson, bnd, bndP, P5'', l10, j10, nn_nI (show vP (nV m3) < 2 ^ 31 by omega), rwN (show (5 : Nat) ≠ 19 by decide), rwN (show (5 : Nat) ≠ 20 by decide), rwN (show (5 : Nat) ≠ 21 by decide), p1, n0, i0, M0'', e14, j14, nn_nI (show 14 + vP (nV m3) < 2 ^ 31 by omega), true_and]
        have r0 : rdI (wrI m3 89 0 0 (14 + vP (nV m3)) (nI v)) 89 0 0 0 = nI (vP (nV m3)) := by rw [rwI, if_neg (by omega)]; exact M0''
        simp only [r0, p1]
        refine Or.inl ⟨i + 1 + 1 + 1, by omega, (((y6.wr (by omega)).wr (by omega)).wr (by omega)).wr (by omega), (y7.wr (by omega)).wr (by omega), lf, ?_⟩
        obtain ⟨D1, D2, ⟨D3, D4, D5⟩, D6, D7, D8⟩ := d3
        have q1 : ∀ kk, (nV (wrI (wrI m3 89 0 0 (14 + vP (nV m3)) (nI v)) 89 0 0 0 (nI (vP (nV m3) + 1)))).1 kk = if kk = 0 then nI (vP (nV m3) + 1) else if kk = 14 + vP (nV m3) then nI v else (nV m3).1 kk := fun kk => by
          show rdI (wrI (wrI m3 89 0 0 (14 + vP (nV m3)) (nI v)) 89 0 0 0 (nI (vP (nV m3) + 1))) 89 0 0 kk = _
          rw [rwI, rwI]
          by_cases a : kk = 0
          · rw [if_pos ⟨rfl, rfl, rfl, a⟩, if_pos a]
          · rw [if_neg (fun w => a w.2.2.2), if_neg a]
            by_cases b : kk = 14 + vP (nV m3)
            · rw [if_pos ⟨rfl, rfl, rfl, b⟩, if_pos b]
            · rw [if_neg (fun w => b w.2.2.2), if_neg b]; rfl
        have q2 : (nV (wrI (wrI m3 89 0 0 (14 + vP (nV m3)) (nI v)) 89 0 0 0 (nI (vP (nV m3) + 1)))).2 = (nV m3).2 := by
          rw [nV_w89, nV_w89]
        have q3 : vP (nV (wrI (wrI m3 89 0 0 (14 + vP (nV m3)) (nI v)) 89 0 0 0 (nI (vP (nV m3) + 1)))) = vP (nV m3) + 1 := by
          show nn ((nV (wrI (wrI m3 89 0 0 (14 + vP (nV m3)) (nI v)) 89 0 0 0 (nI (vP (nV m3) + 1)))).1 0) = _
          rw [q1, if_pos rfl, nn_nI (by omega)]
        have q4 : vT (nV (wrI (wrI m3 89 0 0 (14 + vP (nV m3)) (nI v)) 89 0 0 0 (nI (vP (nV m3) + 1)))) = vT (nV m3) := by
          show nn ((nV (wrI (wrI m3 89 0 0 (14 + vP (nV m3)) (nI v)) 89 0 0 0 (nI (vP (nV m3) + 1)))).1 1) = _
          rw [q1, if_neg (by omega), if_neg (by omega)]; rfl
        have q5 : vA (nV (wrI (wrI m3 89 0 0 (14 + vP (nV m3)) (nI v)) 89 0 0 0 (nI (vP (nV m3) + 1)))) = vA (nV m3) := by
          show nn ((nV (wrI (wrI m3 89 0 0 (14 + vP (nV m3)) (nI v)) 89 0 0 0 (nI (vP (nV m3) + 1)))).1 2) = _
          rw [q1, if_neg (by omega), if_neg (by omega)]; rfl
        obtain ⟨A1, A2⟩ := add_per (C' := prj r (wrI (wrI (wrI (wrI c3 19 r (vP (nV m3)) 0 (nI v)) 20 r (vP (nV m3)) 0 (-1)) 21 r (vP (nV m3)) 0 0) 5 r 0 0 (nI (vP (nV m3) + 1)))) (V' := nV (wrI (wrI m3 89 0 0 (14 + vP (nV m3)) (nI v)) 89 0 0 0 (nI (vP (nV m3) + 1)))) D1 D2 hlt (v := v) y2 (D7 _ (Nat.le_refl _) hlt)
          (by rw [q1, if_pos rfl]) (by rw [q1, if_neg (by omega), if_pos rfl]) (fun kk a b => by rw [q1, if_neg a, if_neg b]) q2
          (by rw [prw, if_pos ⟨rfl, rfl, rfl⟩]) (by rw [prw, if_neg (by omega), prw, if_neg (by omega), prw, if_neg (by omega), prw, if_pos ⟨rfl, rfl, rfl⟩]) (by rw [prw, if_neg (by omega), prw, if_neg (by omega), prw, if_pos ⟨rfl, rfl, rfl⟩]) (by rw [prw, if_neg (by omega), prw, if_pos ⟨rfl, rfl, rfl⟩])
          (fun g b dd a1 a2 a3 a4 => by rw [prw, if_neg (by omega), prw, if_neg (by omega), prw, if_neg (by omega), prw, if_neg (by omega)])
        refine ⟨A1, A2, ⟨?_, ?_, ?_⟩, fun x hx => ?_, fun p a b => ?_, fun p a => ?_⟩
        · rw [q3]
          intro j hj
          rw [rwN (by decide), rwN (by decide), rwN (by decide), rwN (by decide), rwN (by decide), rwN (by decide)]
          by_cases z : j = vP (nV m3)
          · rw [z, hv3]; exact nu3
          · exact D3 j (by omega)
        · rw [q4]; exact ((((D4.wr (by decide) (by decide)).wr (by decide) (by decide)).c (by decide)).c (by decide))
        · rw [q5]; exact ((((D5.wr (by decide) (by decide)).wr (by decide) (by decide)).c (by decide)).c (by decide))
        · rw [rwN (by decide), rwN (by decide), rwN (by decide), rwN (by decide), rwN (by decide), rwN (by decide)]; exact D6 x hx
        · rw [q3] at a
          rw [q2, q1, if_neg (by omega), if_neg (by omega)]
          exact D7 p (by omega) b
        · rw [q3] at a
          rw [q1, if_neg (by omega), if_neg (by omega)]
          by_cases z : p = vP (nV m3)
          · rw [z, (D7 _ (Nat.le_refl _) hlt).2, ct_0]; omega
          · exact D8 p (by omega)
      · simp only [if_neg y1.1.2.1, if_neg y1.m, true_and]
        exact Or.inr y1
    · generalize f_X8_takeNewName c1 r 0 (nI (vP (nV m1))) = c2 at *
      generalize f_X13_newName m1 0 = m2 at *
      obtain ⟨q3, q4⟩ := c_numF w3.1 0 1
      obtain ⟨q9, q10⟩ := m_nmF w3.m 0 1
      simp only [q3, q4, q9, q10, if_neg w3.1.2.1, if_neg w3.m, true_and]
      exact Or.inr w3
end
