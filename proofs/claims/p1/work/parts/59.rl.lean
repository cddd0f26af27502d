set_option linter.all false
noncomputable section
-- ===== one thing more =====
theorem add_thg {C C' : gM} {V V' : vV} {lf : Nat → Nat} (c : CV C V lf) (w : WF V) (hn : vT V < 8) {x y z : Int32} (hx : vp_in x (vP V)) (hy : vp_in y 2) (hz1 : 1 ≤ z) (hz2 : z ≤ 9999)
    (e0 : V'.1 1 = nI (vT V + 1)) (t0 : V'.1 (34 + 3 * vT V) = x) (t1 : V'.1 (34 + 3 * vT V + 1) = y) (t2 : V'.1 (34 + 3 * vT V + 2) = z) (es : ∀ k, k ≠ 1 → (k < 34 + 3 * vT V ∨ 34 + 3 * vT V + 2 < k) → V'.1 k = V.1 k) (e2 : V'.2 = V.2)
    (f6 : rdI C' 6 0 0 0 = nI (vT V + 1)) (f22 : rdI C' 22 0 (vT V) 0 = x) (f23 : rdI C' 23 0 (vT V) 0 = y) (f24 : rdI C' 24 0 (vT V) 0 = z)
    (fs : ∀ g b d, 4 ≤ g → g ≤ 40 → g ≠ 6 → ¬ ((g = 22 ∨ g = 23 ∨ g = 24) ∧ b = vT V) → rdI C' g 0 b d = rdI C g 0 b d) : CV C' V' lf ∧ WF V' := by
  have hP := w.P.2
  have xP : vP V' = vP V := by unfold vP; rw [es 0 (by omega) (by omega)]
  have xT : vT V' = vT V + 1 := by unfold vT at *; rw [e0, nn_nI (by omega)]
  have xA : vA V' = vA V := by unfold vA; rw [es 2 (by omega) (by omega)]
  have xN : vN V' = vN V := by unfold vN; rw [e2]
  have hA := w.A.2
  have hN := w.N.2
  have xG : ∀ q, vG V' q = vG V q := fun q => by unfold vG; rw [es _ (by omega) (by omega)]
  have up1 : ∀ {x : Int32}, vp_in x (vP V) → vp_in x (vP V') := fun {x} h => by
    obtain ⟨j, hj, rfl⟩ := vp_in_of h (show vP V < 2 ^ 31 by omega)
    exact vpi (by omega)
  have upT : ∀ {x : Int32}, vp_in x (vT V) → vp_in x (vT V + 1) := fun {x} h => by
    obtain ⟨j, hj, rfl⟩ := vp_in_of h (show vT V < 2 ^ 31 by omega)
    exact vpi (by omega)
  obtain ⟨⟨c1, c2, c3, c4, c5⟩, cp, ct, ca, cw, cl, cf1, cf2⟩ := c
  obtain ⟨⟨w1, w2, w3, w4⟩, wp, wt, wa, ww, wl⟩ := w
  constructor
  · refine ⟨⟨?_, ?_, ?_, ?_, ?_⟩, fun p hp => ?_, fun t ht => ?_, fun q hq => ⟨?_, fun k hk => ?_⟩, fun k hk => ?_, fun x hx => ?_, fun i hi => ?_, fun i j hi hj => ?_⟩
    · rw [fs 5 _ _ (by omega) (by omega) (by omega) (by omega), es _ (by omega) (by omega)]; exact c1
    · rw [f6, e0]
    · rw [fs 7 _ _ (by omega) (by omega) (by omega) (by omega), es _ (by omega) (by omega)]; exact c3
    · rw [fs 4 _ _ (by omega) (by omega) (by omega) (by omega), es _ (by omega) (by omega)]; exact c4
    · rw [fs 8 _ _ (by omega) (by omega) (by omega) (by omega), e2]; exact c5
    · rw [xP] at hp
      unfold cvP
      rw [e2]
      rw [fs 19 _ _ (by omega) (by omega) (by omega) (by omega), fs 20 _ _ (by omega) (by omega) (by omega) (by omega), fs 21 _ _ (by omega) (by omega) (by omega) (by omega), es _ (by omega) (by omega), es _ (by omega) (by omega)]
      exact cp p hp
    · rw [xT] at ht
      unfold cvT
      by_cases q : t = vT V
      · rw [q, f22, f23, f24, t0, t1, t2]
        exact ⟨rfl, rfl, rfl⟩
      · rw [fs 22 _ _ (by omega) (by omega) (by omega) (by omega), fs 23 _ _ (by omega) (by omega) (by omega) (by omega), fs 24 _ _ (by omega) (by omega) (by omega) (by omega), es _ (by omega) (by omega), es _ (by omega) (by omega), es _ (by omega) (by omega)]
        exact ct t (by omega)
    · rw [xA] at hq
      unfold cvA
      rw [fs 25 _ _ (by omega) (by omega) (by omega) (by omega), fs 26 _ _ (by omega) (by omega) (by omega) (by omega), fs 27 _ _ (by omega) (by omega) (by omega) (by omega), fs 28 _ _ (by omega) (by omega) (by omega) (by omega), fs 29 _ _ (by omega) (by omega) (by omega) (by omega), fs 30 _ _ (by omega) (by omega) (by omega) (by omega), fs 31 _ _ (by omega) (by omega) (by omega) (by omega), fs 32 _ _ (by omega) (by omega) (by omega) (by omega), fs 33 _ _ (by omega) (by omega) (by omega) (by omega), fs 34 _ _ (by omega) (by omega) (by omega) (by omega), fs 35 _ _ (by omega) (by omega) (by omega) (by omega), es _ (by omega) (by omega), es _ (by omega) (by omega), es _ (by omega) (by omega), es _ (by omega) (by omega), es _ (by omega) (by omega), es _ (by omega) (by omega), es _ (by omega) (by omega), e2]
      exact (ca q hq).1
    · rw [xA] at hq
      rw [xG] at hk
      unfold cvG gi
      rw [fs 36 _ _ (by omega) (by omega) (by omega) (by omega), fs 37 _ _ (by omega) (by omega) (by omega) (by omega), fs 38 _ _ (by omega) (by omega) (by omega) (by omega), fs 39 _ _ (by omega) (by omega) (by omega) (by omega), fs 40 _ _ (by omega) (by omega) (by omega) (by omega), es _ (by omega) (by omega), es _ (by omega) (by omega), es _ (by omega) (by omega), es _ (by omega) (by omega), es _ (by omega) (by omega)]
      exact (ca q hq).2 k hk
    · rw [xN] at hk
      unfold cvW
      rw [fs 10 _ _ (by omega) (by omega) (by omega) (by omega), fs 11 _ _ (by omega) (by omega) (by omega) (by omega), fs 12 _ _ (by omega) (by omega) (by omega) (by omega), e2]
      exact cw k hk
    · unfold cvL
      rw [fs 14 _ _ (by omega) (by omega) (by omega) (by omega), fs 15 _ _ (by omega) (by omega) (by omega) (by omega), fs 16 _ _ (by omega) (by omega) (by omega) (by omega), fs 17 _ _ (by omega) (by omega) (by omega) (by omega), fs 18 _ _ (by omega) (by omega) (by omega) (by omega), es _ (by omega) (by omega), es _ (by omega) (by omega), es _ (by omega) (by omega), es _ (by omega) (by omega), es _ (by omega) (by omega)]
      exact cl x hx
    · rw [xA] at hi ⊢
      rw [fs 9 _ _ (by omega) (by omega) (by omega) (by omega)]
      exact cf1 i hi
    · rw [xA] at hj
      have := cf2 i j hi hj
      unfold vlater at this ⊢
      rw [es _ (by omega) (by omega), es _ (by omega) (by omega)]
      exact this
  · refine ⟨⟨by rw [es 0 (by omega) (by omega)]; exact w1, by rw [e0]; exact vpi (by omega), by rw [es 2 (by omega) (by omega)]; exact w3, by rw [e2]; exact w4⟩, fun p hp => ?_, fun t ht => ?_, fun q hq => ⟨?_, fun k hk => ?_⟩, fun k hk => ?_, fun x hx => ?_⟩
    · rw [xP] at hp
      unfold wfP
      rw [e2]
      rw [es _ (by omega) (by omega), es _ (by omega) (by omega)]
      exact wp p hp
    · rw [xT] at ht
      unfold wfT
      by_cases q : t = vT V
      · rw [q, t0, t1, t2]
        exact ⟨up1 hx, hy, hz1, hz2⟩
      · rw [es _ (by omega) (by omega), es _ (by omega) (by omega), es _ (by omega) (by omega)]
        obtain ⟨b1, b2, b3⟩ := wt t (by omega)
        exact ⟨up1 b1, b2, b3⟩
    · rw [xA] at hq
      unfold wfA
      rw [es _ (by omega) (by omega), es _ (by omega) (by omega), es _ (by omega) (by omega), es _ (by omega) (by omega), es _ (by omega) (by omega), es _ (by omega) (by omega), es _ (by omega) (by omega), e2]
      obtain ⟨b1, b2, b3, b4, b5, b6, b7, b8, b9, b10, b11⟩ := (wa q hq).1
      exact ⟨up1 b1, b2, b3, b4, b5, b6, b7.imp id up1, b8, b9, fun i hi => by have := b10 i hi; omega, b11⟩
    · rw [xA] at hq
      rw [xG] at hk
      unfold wfG gi
      rw [es _ (by omega) (by omega), es _ (by omega) (by omega), es _ (by omega) (by omega), es _ (by omega) (by omega), es _ (by omega) (by omega), xT]
      obtain ⟨b1, b2, b3, b4, b5⟩ := (wa q hq).2 k hk
      exact ⟨upT b1, up1 b2, b3, b4.imp id (fun z => ⟨z.1, up1 z.2⟩), b5.imp id up1⟩
    · rw [xN] at hk
      unfold wfW
      rw [e2]
      obtain ⟨b1, b2, b3⟩ := ww k hk
      exact ⟨up1 b1, up1 b2, b3⟩
    · unfold wfL
      rw [es _ (by omega) (by omega), es _ (by omega) (by omega), es _ (by omega) (by omega), es _ (by omega) (by omega), es _ (by omega) (by omega)]
      exact wl x hx
end
