set_option linter.all false
noncomputable section
-- ===== one parent more =====
theorem add_par {C C' : gM} {V V' : vV} {lf : Nat → Nat} (c : CV C V lf) (w : WF V) {x : Nat} (hx : x < vP V) {u : Int32} (hu : ∀ i, bt u i = true → i < x)
    (e24 : V'.1 (24 + x) = u) (es : ∀ k, k ≠ 24 + x → V'.1 k = V.1 k) (e2 : V'.2 = V.2)
    (f21 : rdI C' 21 0 x 0 = u)
    (fs : ∀ g b d, 4 ≤ g → g ≤ 40 → ¬ (g = 21 ∧ b = x) → rdI C' g 0 b d = rdI C g 0 b d) : CV C' V' lf ∧ WF V' := by
  have hP := w.P.2
  have xP : vP V' = vP V := by unfold vP; rw [es 0 (by omega)]
  have xT : vT V' = vT V := by unfold vT; rw [es 1 (by omega)]
  have xA : vA V' = vA V := by unfold vA; rw [es 2 (by omega)]
  have xN : vN V' = vN V := by unfold vN; rw [e2]
  have hT := w.T.2
  have hA := w.A.2
  have hN := w.N.2
  have xG : ∀ q, vG V' q = vG V q := fun q => by unfold vG; rw [es _ (by omega)]
  have up1 : ∀ {x : Int32}, vp_in x (vP V) → vp_in x (vP V') := fun {x} h => by
    obtain ⟨j, hj, rfl⟩ := vp_in_of h (show vP V < 2 ^ 31 by omega)
    exact vpi (by omega)
  obtain ⟨⟨c1, c2, c3, c4, c5⟩, cp, ct, ca, cw, cl, cf1, cf2⟩ := c
  obtain ⟨⟨w1, w2, w3, w4⟩, wp, wt, wa, ww, wl⟩ := w
  constructor
  · refine ⟨⟨?_, ?_, ?_, ?_, ?_⟩, fun p hp => ?_, fun t ht => ?_, fun q hq => ⟨?_, fun k hk => ?_⟩, fun k hk => ?_, fun x hx => ?_, fun i hi => ?_, fun i j hi hj => ?_⟩
    · rw [fs 5 _ _ (by omega) (by omega) (by omega), es _ (by omega)]; exact c1
    · rw [fs 6 _ _ (by omega) (by omega) (by omega), es _ (by omega)]; exact c2
    · rw [fs 7 _ _ (by omega) (by omega) (by omega), es _ (by omega)]; exact c3
    · rw [fs 4 _ _ (by omega) (by omega) (by omega), es _ (by omega)]; exact c4
    · rw [fs 8 _ _ (by omega) (by omega) (by omega), e2]; exact c5
    · rw [xP] at hp
      unfold cvP
      rw [e2]
      rw [fs 19 _ _ (by omega) (by omega) (by omega), fs 20 _ _ (by omega) (by omega) (by omega), es (14 + p) (by omega)]
      obtain ⟨b1, b2, b3⟩ := cp p hp
      refine ⟨b1, b2, ?_⟩
      by_cases z : p = x
      · rw [z, f21, e24]
      · rw [fs 21 _ _ (by omega) (by omega) (by omega), es _ (by omega)]; exact b3
    · rw [xT] at ht
      unfold cvT
      rw [fs 22 _ _ (by omega) (by omega) (by omega), fs 23 _ _ (by omega) (by omega) (by omega), fs 24 _ _ (by omega) (by omega) (by omega), es _ (by omega), es _ (by omega), es _ (by omega)]
      exact ct t ht
    · rw [xA] at hq
      unfold cvA
      rw [fs 25 _ _ (by omega) (by omega) (by omega), fs 26 _ _ (by omega) (by omega) (by omega), fs 27 _ _ (by omega) (by omega) (by omega), fs 28 _ _ (by omega) (by omega) (by omega), fs 29 _ _ (by omega) (by omega) (by omega), fs 30 _ _ (by omega) (by omega) (by omega), fs 31 _ _ (by omega) (by omega) (by omega), fs 32 _ _ (by omega) (by omega) (by omega), fs 33 _ _ (by omega) (by omega) (by omega), fs 34 _ _ (by omega) (by omega) (by omega), fs 35 _ _ (by omega) (by omega) (by omega), es _ (by omega), es _ (by omega), es _ (by omega), es _ (by omega), es _ (by omega), es _ (by omega), es _ (by omega), e2]
      exact (ca q hq).1
    · rw [xA] at hq
      rw [xG] at hk
      unfold cvG gi
      rw [fs 36 _ _ (by omega) (by omega) (by omega), fs 37 _ _ (by omega) (by omega) (by omega), fs 38 _ _ (by omega) (by omega) (by omega), fs 39 _ _ (by omega) (by omega) (by omega), fs 40 _ _ (by omega) (by omega) (by omega), es _ (by omega), es _ (by omega), es _ (by omega), es _ (by omega), es _ (by omega)]
      exact (ca q hq).2 k hk
    · rw [xN] at hk
      unfold cvW
      rw [fs 10 _ _ (by omega) (by omega) (by omega), fs 11 _ _ (by omega) (by omega) (by omega), fs 12 _ _ (by omega) (by omega) (by omega), e2]
      exact cw k hk
    · unfold cvL
      rw [fs 14 _ _ (by omega) (by omega) (by omega), fs 15 _ _ (by omega) (by omega) (by omega), fs 16 _ _ (by omega) (by omega) (by omega), fs 17 _ _ (by omega) (by omega) (by omega), fs 18 _ _ (by omega) (by omega) (by omega), es _ (by omega), es _ (by omega), es _ (by omega), es _ (by omega), es _ (by omega)]
      exact cl x hx
    · rw [xA] at hi ⊢
      rw [fs 9 _ _ (by omega) (by omega) (by omega)]
      exact cf1 i hi
    · rw [xA] at hj
      have := cf2 i j hi hj
      unfold vlater at this ⊢
      rw [es _ (by omega), es _ (by omega)]
      exact this
  · refine ⟨⟨by rw [es 0 (by omega)]; exact w1, by rw [es 1 (by omega)]; exact w2, by rw [es 2 (by omega)]; exact w3, by rw [e2]; exact w4⟩, fun p hp => ?_, fun t ht => ?_, fun q hq => ⟨?_, fun k hk => ?_⟩, fun k hk => ?_, fun x hx => ?_⟩
    · rw [xP] at hp
      unfold wfP
      rw [e2]
      rw [es (14 + p) (by omega)]
      obtain ⟨b1, b2, b3⟩ := wp p hp
      refine ⟨b1, b2, ?_⟩
      by_cases z : p = x
      · rw [z, e24]; exact hu
      · rw [es _ (by omega)]; exact b3
    · rw [xT] at ht
      unfold wfT
      rw [es _ (by omega), es _ (by omega), es _ (by omega)]
      obtain ⟨b1, b2, b3⟩ := wt t ht
      exact ⟨up1 b1, b2, b3⟩
    · rw [xA] at hq
      unfold wfA
      rw [es _ (by omega), es _ (by omega), es _ (by omega), es _ (by omega), es _ (by omega), es _ (by omega), es _ (by omega), e2]
      obtain ⟨b1, b2, b3, b4, b5, b6, b7, b8, b9, b10, b11⟩ := (wa q hq).1
      exact ⟨up1 b1, b2, b3, b4, b5, b6, b7.imp id up1, b8, b9, fun i hi => by have := b10 i hi; omega, b11⟩
    · rw [xA] at hq
      rw [xG] at hk
      unfold wfG gi
      rw [es _ (by omega), es _ (by omega), es _ (by omega), es _ (by omega), es _ (by omega), xT]
      obtain ⟨b1, b2, b3, b4, b5⟩ := (wa q hq).2 k hk
      exact ⟨b1, up1 b2, b3, b4.imp id (fun z => ⟨z.1, up1 z.2⟩), b5.imp id up1⟩
    · rw [xN] at hk
      unfold wfW
      rw [e2]
      obtain ⟨b1, b2, b3⟩ := ww k hk
      exact ⟨up1 b1, up1 b2, b3⟩
    · unfold wfL
      rw [es _ (by omega), es _ (by omega), es _ (by omega), es _ (by omega), es _ (by omega)]
      exact wl x hx
-- ===== the child line =====
theorem lt2 {c : Nat} (h : c ≤ 2) : (nI c < 2 ↔ ¬ c = 2) ∧ (nI c = 2 ↔ c = 2) := by
  revert h
  exact (by decide : ∀ c, c < 3 → (nI c < 2 ↔ ¬ c = 2) ∧ (nI c = 2 ↔ c = 2)) c ∘ Nat.lt_succ_of_le
theorem L_chi {c m : gM} {r : Nat} {T : Nat → Nat} {l cn i : Nat} {lf : Nat → Nat} (h : cOK c r T l cn i) (k : mOK m T l i) (hi : i < cn) (d : DR r c m T lf) : s_X8_readChild c r ∧ s_X13_readChild m ∧ RS r (f_X8_readChild c r) (f_X13_readChild m) T l cn (i + 1) := by
  obtain ⟨t1, t2, t3⟩ := cx_tk h hi
  have z10 : vp_in (0 : Int32) 10 := vpi (k := 0) (by omega)
  rw [t2] at t3
  have d1' := d.off (Wm := []) (m' := m) (o47 (r := r) (v := nI (i + 1))) (by decide) offR (by decide)
  simp only [s_X8_readChild, f_X8_readChild, s_X13_readChild, f_X13_readChild, bnd, bndP, t1, t2, true_and]
  generalize wrI c 47 r 0 0 (nI (i + 1)) = c1 at *
  obtain ⟨g1, g2, g3, d1, eV⟩ := D_go (cn := cn) k (h.1.2.2.2.1 i hi) d1'
  simp only [g1, true_and]
  generalize f_X13_goOn m = m1 at *
  -- once a fault stands
  have FF : ∀ (C M : gM) (x y : Int32) (q : Nat) (x' : Int32), FM C M r T l cn → (∀ u, s_X8_readChild_40 C r x y q u ∧ f_X8_readChild_40 C r x y q u = C) ∧ s_X13_readChild_66 M x y ∧ f_X13_readChild_66 M x y = M := by
    intro C M x y q x' f
    refine ⟨fun u => ?_, ?_⟩
    · simp only [s_X8_readChild_40, f_X8_readChild_40, s_X8_readChild_63, f_X8_readChild_63, s_X8_readChild_67, f_X8_readChild_67, bnd, bndP, s_bit, (c_faTF f.1.2.1).1, (c_faTF f.1.2.1).2, if_neg f.1.2.1, true_and, ite_self]
    · simp only [s_X13_readChild_66, f_X13_readChild_66, bnd, bndP, if_neg f.m, (m_goF f.m).1, (m_goF f.m).2, true_and]
  obtain ⟨u1, u2, u3⟩ := D_kn (kd := 0) t3 g2 d1 (by omega) (x1 := 0) (x2 := rdI c1 5 r 0 0) rfl d1.P.1
  simp only [c_tp.1, c_tp.2, u1, u2, true_and]
  rcases u3 with ⟨x, hx, y3, y4, hi1, c2, k2, o2, d2, eV2⟩ | ⟨y1, y2, y3⟩
  · have hx : x < vP (nV m1) := hx
    rw [y3]
    simp only [y4]
    generalize wrI c1 47 r 0 0 (nI (i + 1 + 1)) = C2 at *
    generalize (f_X13_told m1 0).2 = m2 at *
    have i10 : vp_in (nI x) 10 := vpi (by have := d1.P.2.2; omega)
    obtain ⟨u1, u2, u3⟩ := D_kh (kd := 0) c2 k2 d2 (by omega) (x1 := 0) (x2 := rdI C2 5 r 0 0) rfl d2.P.1
    simp only [u1, u2, i10, true_and]
    rcases u3 with ⟨y, hy, y3, y4, hi2, c3, d3⟩ | ⟨y1, y2, y3⟩
    · have hy : y < vP (nV m2) := hy
      have le10 := d2.P.2.2
      rw [← eV2] at hx
      rw [y3, y4]
      generalize wrI C2 47 r 0 0 (nI (i + 1 + 1 + 1)) = C3 at *
      have r21 : rdI C3 21 r x 0 = (nV m2).1 (24 + x) := (d3.1.2.1 x hx).2.2
      have b24 := (d3.2.1.2.1 x hx).2.2
      have c24 := d3.2.2.2.2.2 x hx
      have bc : ∀ M : gM, f_J6_bitCount_0f7a4 M ((nV m2).1 (24 + x)) = nI (fb_ct (bt ((nV m2).1 (24 + x))) 10) := fun M => bc10 (n := x) (by omega) b24
      have e24 : (24 : Int32) + nI x = nI (24 + x) := nI_add 24 x
      have j24 : vp_in (nI (24 + x)) 502 := i502 (by omega)
      simp only [nn_nI (show x < 2 ^ 31 by omega), r21, k2.1, if_true, e24, j24, nn_nI (show 24 + x < 2 ^ 31 by omega), y89, b_read _ (show y < 32 by omega), bz_0, bz_1, bc, s_bit, (lt2 c24).2, true_and]
      obtain ⟨f1, f2, f3⟩ := S_faT c3 k2
      have bad : ∀ u : Int32, (s_X8_readChild_63 C3 r (nI y) x ∧ f_X8_readChild_63 C3 r (nI y) x = f_X8_failAtTaken C3 r) ∧ (s_X13_readChild_61 m2 (nI x) (nI y) ∧ f_X13_readChild_61 m2 (nI x) (nI y) = f_X13_wrong m2 3) := fun u => by
        obtain ⟨-, z2, z3⟩ := FF _ _ (nI x) (nI y) x 0 f3
        simp only [s_X8_readChild_63, f_X8_readChild_63, s_X8_readChild_67, f_X8_readChild_67, s_X13_readChild_61, f_X13_readChild_61, bnd, bndP, f1, f2, z2, z3, if_neg f3.1.2.1, true_and]
      obtain ⟨⟨b1, b2⟩, b3, b4⟩ := bad 0
      simp only [s_X8_readChild_40, f_X8_readChild_40, s_bit, r21, bc, (lt2 c24).1, b1, b2, b3, b4, if_true, show ((1 : Int32) = 0) = False by decide, if_false, true_and]
      by_cases a : x ≤ y
      · have a' : nI x ≤ nI y := nI_le a (by omega)
        simp only [if_pos a', ite_self, true_and]
        exact Or.inr f3
      · have a' : ¬ nI x ≤ nI y := nI_ge (by omega) (by omega)
        simp only [if_neg a']
        cases hb : bt ((nV m2).1 (24 + x)) y
        · simp only [if_true, Bool.false_eq_true, if_false]
          by_cases e : fb_ct (bt ((nV m2).1 (24 + x))) 10 = 2
          · simp only [e, not_true_eq_false, if_true, if_false, true_and]
            exact Or.inr f3
          · simp only [e, not_false_eq_true, if_true, if_false, s_X8_readChild_67, f_X8_readChild_67, s_X13_readChild_66, f_X13_readChild_66, bnd, bndP, c3.2.1, k2.1, r21, e24, j24, nn_nI (show 24 + x < 2 ^ 31 by omega), y89, true_and]
            obtain ⟨n1', n2'⟩ := w_new (x := (nV m2).1 (24 + x)) (j := y) (n := x) (by omega) (by omega) b24 hb
            generalize (nV m2).1 (24 + x) ||| (1 <<< (nI y &&& 31)) = u at *
            have k3 : mOK (wrI m2 89 0 0 (24 + x) u) T l (i + 1 + 1) := k2.wr (by omega)
            have d4 : DR r (wrI C3 21 r x 0 u) (wrI m2 89 0 0 (24 + x) u) T lf := by
              obtain ⟨D1, D2, ⟨D3, D4, D5⟩, D6, D7, D8⟩ := d3
              have q : nV (wrI m2 89 0 0 (24 + x) u) = ((fun kk => if kk = 24 + x then u else (nV m2).1 kk), (nV m2).2) := by rw [nV_w89]
              unfold DR
              generalize hV : nV (wrI m2 89 0 0 (24 + x) u) = V' at *
              have q1 : ∀ kk, V'.1 kk = if kk = 24 + x then u else (nV m2).1 kk := fun kk => by rw [q]
              have q2 : V'.2 = (nV m2).2 := by rw [q]
              have es : ∀ kk, kk ≠ 24 + x → V'.1 kk = (nV m2).1 kk := fun kk e1 => by rw [q1, if_neg e1]
              have q4 : vP V' = vP (nV m2) := by
                show nn (V'.1 0) = _
                rw [es _ (by omega)]; rfl
              have q3 : vT V' = vT (nV m2) := by
                show nn (V'.1 1) = _
                rw [es _ (by omega)]; rfl
              have q5 : vA V' = vA (nV m2) := by
                show nn (V'.1 2) = _
                rw [es _ (by omega)]; rfl
              obtain ⟨A1, A2⟩ := add_par (C' := prj r (wrI C3 21 r x 0 u)) (V' := V') D1 D2 hx (u := u) n1' (by rw [q1, if_pos rfl]) es q2 (by rw [prw, if_pos ⟨rfl, rfl, rfl⟩]) (fun g b dd a1 a2 a3 => by rw [prw, if_neg (by omega)])
              refine ⟨A1, A2, ⟨?_, ?_, ?_⟩, fun x' hx' => ?_, fun p a b => ?_, fun p a => ?_⟩
              · rw [q4]; exact D3.wr (by decide) (by decide)
              · rw [q3]; exact D4.wr (by decide) (by decide)
              · rw [q5]; exact D5.wr (by decide) (by decide)
              · rw [rwN (by decide), rwN (by decide)]; exact D6 x' hx'
              · rw [q4] at a
                rw [q2, es _ (by omega)]
                exact D7 p a b
              · rw [q4] at a
                rw [q1]
                by_cases z : p = x
                · rw [z, if_pos rfl]; omega
                · rw [if_neg (by omega)]; exact D8 p a
            obtain ⟨G1, G2, G3, G4, G5⟩ := D_go (cn := cn) k3 (h.1.2.2.2.1 _ hi2) d4
            simp only [G1, true_and]
            exact Or.inl ⟨i + 1 + 1 + 1, by omega, c3.wr (by omega), G2, lf, G4⟩
        · simp only [Bool.true_eq_false, if_false, if_true, true_and]
          exact Or.inr f3
    · rw [y2, y3]
      generalize (f_X8_takeKnownName C2 r 0 (rdI C2 5 r 0 0)).2 = C3 at *
      generalize (f_X13_toldHere m2 0).2 = m3 at *
      obtain ⟨z1, z2, z3⟩ := FF _ _ (nI x) 0 (nn (nI x)) 0 y1
      simp only [if_neg y1.m, (z1 _).1, (z1 _).2, z2, z3, ite_self, true_and]
      exact Or.inr y1
  · rw [y2]
    simp only [y3]
    generalize (f_X8_takeKnownName c1 r 0 (rdI c1 5 r 0 0)).2 = C2 at *
    generalize (f_X13_told m1 0).2 = m2 at *
    obtain ⟨z1, z2, z3⟩ := FF _ _ 0 0 (nn 0) 0 y1
    simp only [(c_knF y1.1 0 _).1, (c_knF y1.1 0 _).2, (m_toF y1.m _).1, (m_toF y1.m _).2, z10, if_neg y1.m, (z1 _).1, (z1 _).2, z2, z3, ite_self, true_and]
    exact Or.inr y1
end
