set_option linter.all false
noncomputable section
theorem cOK.wr {c : gM} {r : Nat} {T : Nat → Nat} {l cn i : Nat} (h : cOK c r T l cn i) {g a b d : Nat} {v : Int32} (k : g < 41 ∨ 48 < g) : cOK (wrI c g a b d v) r T l cn i := ⟨h.1.wr (by omega), by rw [rwN (by omega)]; exact h.2.1, by rw [rwN (by omega)]; exact h.2.2.1, h.2.2.2⟩
theorem mOK.wr {m : gM} {T : Nat → Nat} {l i : Nat} (h : mOK m T l i) {g a b d : Nat} {v : Int32} (k : 87 < g) : mOK (wrI m g a b d v) T l i := by
  obtain ⟨k1, k2, k3, k4, k5, k6⟩ := h
  refine ⟨by rw [rwN (by omega)]; exact k1, k2.wr (by omega), by rw [rwN (by omega)]; exact k3, by rw [rwN (by omega)]; exact k4, k5, ?_⟩
  unfold mKd at k6 ⊢
  rw [rwN (by omega), rwN (by omega), rwN (by omega)]
  exact k6
theorem DR.nw {r : Nat} {c m m' : gM} {T : Nat → Nat} {lf : Nat → Nat} (h : DR r c m T lf) {kd n : Nat} {u v : Int32} (hn : n = if kd = 0 then vP (nV m) else if kd = 1 then vT (nV m) else vA (nV m)) (om : offW [71, 72, 73, 74, 75, 95] m m') (o95 : ∀ j, j ≠ 12 * kd + n → rdI m' 95 0 0 j = rdI m 95 0 0 j) (hkd : kd < 3) (hlt : n < nmL kd) : DR r (wrI (wrI c 50 r kd n u) 47 r 0 0 v) m' T lf ∧ nV m' = nV m := by
  obtain ⟨p1, p2, p3⟩ := h.P
  obtain ⟨t1, t2, t3⟩ := h.T
  obtain ⟨a1, a2, a3⟩ := h.A
  obtain ⟨h1, h2, ⟨n1, n2, n3⟩, h4, h5⟩ := h
  have e := nV_off om (by decide)
  have oc : offW [47, 50] c (wrI (wrI c 50 r kd n u) 47 r 0 0 v) := (offR.wI (by decide)).wI (by decide)
  have l12 : n < 12 := by have := nmL_le kd; omega
  refine ⟨⟨?_, by rw [e]; exact h2, ?_, fun x hx => ?_, by rw [e]; exact h5⟩, e⟩
  · rw [e]; exact pj_off h1 oc (by decide)
  · rw [e]
    refine ⟨n1.keep (fun j hj => ?_) (fun j hj => o95 _ ?_), n2.keep (fun j hj => ?_) (fun j hj => o95 _ ?_), n3.keep (fun j hj => ?_) (fun j hj => o95 _ ?_)⟩
    · rw [rwN (by decide), rwI, if_neg]
      rintro ⟨-, -, z, y⟩
      subst z
      rw [if_pos rfl] at hn
      omega
    · intro z
      have : kd = 0 := by omega
      subst this
      rw [if_pos rfl] at hn
      omega
    · rw [rwN (by decide), rwI, if_neg]
      rintro ⟨-, -, z, y⟩
      subst z
      rw [if_neg (by omega), if_pos rfl] at hn
      omega
    · intro z
      have : kd = 1 := by omega
      subst this
      rw [if_neg (by omega), if_pos rfl] at hn
      omega
    · rw [rwN (by decide), rwI, if_neg]
      rintro ⟨-, -, z, y⟩
      subst z
      rw [if_neg (by omega), if_neg (by omega)] at hn
      omega
    · intro z
      have : kd = 2 := by omega
      subst this
      rw [if_neg (by omega), if_neg (by omega)] at hn
      omega
  · rw [rwN (by decide), rwN (by decide), (om 96 0 0 x (by decide)).1]; exact h4 x hx
-- ===== one person more =====
theorem add_per {C C' : gM} {V V' : vV} {lf : Nat → Nat} (c : CV C V lf) (w : WF V) (hn : vP V < 10) {v : Nat} (hv : v ≤ 1) (fr : V.2.1 (vP V) = -2 ∧ V.1 (24 + vP V) = 0)
    (e0 : V'.1 0 = nI (vP V + 1)) (e14 : V'.1 (14 + vP V) = nI v) (es : ∀ k, k ≠ 0 → k ≠ 14 + vP V → V'.1 k = V.1 k) (e2 : V'.2 = V.2)
    (f5 : rdI C' 5 0 0 0 = nI (vP V + 1)) (f19 : rdI C' 19 0 (vP V) 0 = nI v) (f20 : rdI C' 20 0 (vP V) 0 = -1) (f21 : rdI C' 21 0 (vP V) 0 = 0)
    (fs : ∀ g b d, 4 ≤ g → g ≤ 40 → g ≠ 5 → ¬ ((g = 19 ∨ g = 20 ∨ g = 21) ∧ b = vP V) → rdI C' g 0 b d = rdI C g 0 b d) : CV C' V' lf ∧ WF V' := by
  have xP : vP V' = vP V + 1 := by unfold vP at *; rw [e0, nn_nI (by omega)]
  have xT : vT V' = vT V := by unfold vT; rw [es 1 (by omega) (by omega)]
  have xA : vA V' = vA V := by unfold vA; rw [es 2 (by omega) (by omega)]
  have xN : vN V' = vN V := by unfold vN; rw [e2]
  have hT := w.T.2
  have hA := w.A.2
  have hN := w.N.2
  have xG : ∀ q, vG V' q = vG V q := fun q => by unfold vG; rw [es _ (by omega) (by omega)]
  have up1 : ∀ {x : Int32}, vp_in x (vP V) → vp_in x (vP V') := fun {x} h => by
    obtain ⟨j, hj, rfl⟩ := vp_in_of h (show vP V < 2 ^ 31 by omega)
    exact vpi (by omega)
  obtain ⟨⟨c1, c2, c3, c4, c5⟩, cp, ct, ca, cw, cl, cf1, cf2⟩ := c
  obtain ⟨⟨w1, w2, w3, w4⟩, wp, wt, wa, ww, wl⟩ := w
  constructor
  · refine ⟨⟨?_, ?_, ?_, ?_, ?_⟩, fun p hp => ?_, fun t ht => ?_, fun q hq => ⟨?_, fun k hk => ?_⟩, fun k hk => ?_, fun x hx => ?_, fun i hi => ?_, fun i j hi hj => ?_⟩
    · rw [f5, e0]
    · rw [fs 6 _ _ (by omega) (by omega) (by omega) (by omega), es _ (by omega) (by omega)]; exact c2
    · rw [fs 7 _ _ (by omega) (by omega) (by omega) (by omega), es _ (by omega) (by omega)]; exact c3
    · rw [fs 4 _ _ (by omega) (by omega) (by omega) (by omega), es _ (by omega) (by omega)]; exact c4
    · rw [fs 8 _ _ (by omega) (by omega) (by omega) (by omega), e2]; exact c5
    · rw [xP] at hp
      unfold cvP
      rw [e2]
      by_cases z : p = vP V
      · rw [z, f19, f20, f21, e14, fr.1, es _ (by omega) (by omega), fr.2]
        exact ⟨rfl, rfl, rfl⟩
      · rw [fs 19 _ _ (by omega) (by omega) (by omega) (by omega), fs 20 _ _ (by omega) (by omega) (by omega) (by omega), fs 21 _ _ (by omega) (by omega) (by omega) (by omega), es _ (by omega) (by omega), es _ (by omega) (by omega)]
        exact cp p (by omega)
    · rw [xT] at ht
      unfold cvT
      rw [fs 22 _ _ (by omega) (by omega) (by omega) (by omega), fs 23 _ _ (by omega) (by omega) (by omega) (by omega), fs 24 _ _ (by omega) (by omega) (by omega) (by omega), es _ (by omega) (by omega), es _ (by omega) (by omega), es _ (by omega) (by omega)]
      exact ct t ht
    · rw [xA] at hq
      unfold cvA
      rw [fs 25 _ _ (by omega) (by omega) (by omega) (by omega), fs 26 _ _ (by omega) (by omega) (by omega) (by omega), fs 27 _ _ (by omega) (by omega) (by omega) (by omega), fs 28 _ _ (by omega) (by omega) (by omega) (by omega), fs 29 _ _ (by omega) (by omega) (by omega) (by omega), fs 30 _ _ (by omega) (by omega) (by omega) (by omega), fs 31 _ _ (by omega) (by omega) (by omega) (by omega), fs 32 _ _ (by omega) (by omega) (by omega) (by omega), fs 33 _ _ (by omega) (by omega) (by omega) (by omega), fs 34 _ _ (by omega) (by omega) (by omega) (by omega), fs 35 _ _ (by omega) (by omega) (by omega) (by omega), es _ (by omega) (by omega), es _ (by omega) (by omega), es _ (by omega) (by omega), es _ (by omega) (by omega), es _ (by omega) (by omega), es _ (by omega) (by omega), es _ (by omega) (by omega), e2]
      exact (ca q hq).1
    · rw [xA] at hq
      rw [xG] at hk
      unfold cvG gi
      rw [fs 36 _ _ (by omega) (by omega) (by omega) (by omega), fs 37 _ _ (by omega) (by omega) (by omega) (by omega), fs 38 _ _ (by omega) (by omega) (by omega) (by omega), fs 39 _ _ (by omega) (by omega) (by omega) (by omega), fs 40 _ _ (by omega) (by omega) (by omega) (by omega), es _ (by omega) (by omega), es _ (by omega) (by omega), es _ (by omega) (by omega), es _ (by omega) (by omega), es _ (by omega) (by omega)]
      exact (ca q hq).2 k hk
    · rw [xN] at hk
      unfold cvW
      rw [fs 10 _ _ (by omega) (by omega) (by omega) (by omega), fs 11 _ _ (by omega) (by omega) (by omega) (by omega), fs 12 _ _ (by omega) (by omega) (by omega) (by omega), e2]
      exact cw k hk
    · unfold cvL
      rw [fs 14 _ _ (by omega) (by omega) (by omega) (by omega), fs 15 _ _ (by omega) (by omega) (by omega) (by omega), fs 16 _ _ (by omega) (by omega) (by omega) (by omega), fs 17 _ _ (by omega) (by omega) (by omega) (by omega), fs 18 _ _ (by omega) (by omega) (by omega) (by omega), es _ (by omega) (by omega), es _ (by omega) (by omega), es _ (by omega) (by omega), es _ (by omega) (by omega), es _ (by omega) (by omega)]
      exact cl x hx
    · rw [xA] at hi ⊢
      rw [fs 9 _ _ (by omega) (by omega) (by omega) (by omega)]
      exact cf1 i hi
    · rw [xA] at hj
      have := cf2 i j hi hj
      unfold vlater at this ⊢
      rw [es _ (by omega) (by omega), es _ (by omega) (by omega)]
      exact this
  · refine ⟨⟨by rw [e0]; exact vpi (by omega), by rw [es 1 (by omega) (by omega)]; exact w2, by rw [es 2 (by omega) (by omega)]; exact w3, by rw [e2]; exact w4⟩, fun p hp => ?_, fun t ht => ?_, fun q hq => ⟨?_, fun k hk => ?_⟩, fun k hk => ?_, fun x hx => ?_⟩
    · rw [xP] at hp
      unfold wfP
      rw [e2]
      by_cases z : p = vP V
      · rw [z, e14, es _ (by omega) (by omega), fr.1, fr.2]
        exact ⟨vpi (by omega), Or.inl rfl, fun i hi => by rw [b_0] at hi; cases hi⟩
      · rw [es _ (by omega) (by omega), es _ (by omega) (by omega)]
        exact wp p (by omega)
    · rw [xT] at ht
      unfold wfT
      rw [es _ (by omega) (by omega), es _ (by omega) (by omega), es _ (by omega) (by omega)]
      obtain ⟨b1, b2, b3⟩ := wt t ht
      exact ⟨up1 b1, b2, b3⟩
    · rw [xA] at hq
      unfold wfA
      rw [es _ (by omega) (by omega), es _ (by omega) (by omega), es _ (by omega) (by omega), es _ (by omega) (by omega), es _ (by omega) (by omega), es _ (by omega) (by omega), es _ (by omega) (by omega), e2]
      obtain ⟨b1, b2, b3, b4, b5, b6, b7, b8, b9, b10, b11⟩ := (wa q hq).1
      exact ⟨up1 b1, b2, b3, b4, b5, b6, b7.imp id up1, b8, b9, fun i hi => by have := b10 i hi; omega, b11⟩
    · rw [xA] at hq
      rw [xG] at hk
      unfold wfG gi
      rw [es _ (by omega) (by omega), es _ (by omega) (by omega), es _ (by omega) (by omega), es _ (by omega) (by omega), es _ (by omega) (by omega), xT]
      obtain ⟨b1, b2, b3, b4, b5⟩ := (wa q hq).2 k hk
      exact ⟨b1, up1 b2, b3, b4.imp id (fun z => ⟨z.1, up1 z.2⟩), b5.imp id up1⟩
    · rw [xN] at hk
      unfold wfW
      rw [e2]
      obtain ⟨b1, b2, b3⟩ := ww k hk
      exact ⟨up1 b1, up1 b2, b3⟩
    · unfold wfL
      rw [es _ (by omega) (by omega), es _ (by omega) (by omega), es _ (by omega) (by omega), es _ (by omega) (by omega), es _ (by omega) (by omega)]
      exact wl x hx
end
