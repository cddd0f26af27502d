set_option linter.all false
noncomputable section
-- ===== one cell of a land =====
theorem add_lnd {C C' : gM} {V V' : vV} {lf : Nat → Nat} (c : CV C V lf) (w : WF V) {x y : Nat} (hx : x < 2) (hy : y < 5) {u : Int32} (hu : vp_in u (if y = 0 then 5 else 2))
    (e24 : V'.1 (4 + 5 * x + y) = u) (es : ∀ k, k ≠ 4 + 5 * x + y → V'.1 k = V.1 k) (e2 : V'.2 = V.2)
    (f21 : rdI C' (14 + y) 0 x 0 = u)
    (fs : ∀ g b d, 4 ≤ g → g ≤ 40 → ¬ (g = 14 + y ∧ b = x) → rdI C' g 0 b d = rdI C g 0 b d) : CV C' V' lf ∧ WF V' := by
  have hP := w.P.2
  have xP : vP V' = vP V := by unfold vP; rw [es 0 (by omega)]
  have xT : vT V' = vT V := by unfold vT; rw [es 1 (by omega)]
  have xA : vA V' = vA V := by unfold vA; rw [es 2 (by omega)]
  have xN : vN V' = vN V := by unfold vN; rw [e2]
  have hT := w.T.2
  have hA := w.A.2
  have hN := w.N.2
  have xG : ∀ q, vG V' q = vG V q := fun q => by unfold vG; rw [es _ (by omega)]
  have up1 : ∀ {x : Int32}, vp_in x (vP V) → vp_in x (vP V') := fun {x} h => by
    obtain ⟨j, hj, rfl⟩ := vp_in_of h (show vP V < 2 ^ 31 by omega)
    exact vpi (by omega)
  obtain ⟨⟨c1, c2, c3, c4, c5⟩, cp, ct, ca, cw, cl, cf1, cf2⟩ := c
  obtain ⟨⟨w1, w2, w3, w4⟩, wp, wt, wa, ww, wl⟩ := w
  constructor
  · refine ⟨⟨?_, ?_, ?_, ?_, ?_⟩, fun p hp => ?_, fun t ht => ?_, fun q hq => ⟨?_, fun k hk => ?_⟩, fun k hk => ?_, fun x2 hx => ?_, fun i hi => ?_, fun i j hi hj => ?_⟩
    · rw [fs 5 _ _ (by omega) (by omega) (by omega), es _ (by omega)]; exact c1
    · rw [fs 6 _ _ (by omega) (by omega) (by omega), es _ (by omega)]; exact c2
    · rw [fs 7 _ _ (by omega) (by omega) (by omega), es _ (by omega)]; exact c3
    · rw [fs 4 _ _ (by omega) (by omega) (by omega), es _ (by omega)]; exact c4
    · rw [fs 8 _ _ (by omega) (by omega) (by omega), e2]; exact c5
    · rw [xP] at hp
      unfold cvP
      rw [e2]
      rw [fs 19 _ _ (by omega) (by omega) (by omega), fs 20 _ _ (by omega) (by omega) (by omega), fs 21 _ _ (by omega) (by omega) (by omega), es _ (by omega), es _ (by omega)]
      exact cp p hp
    · rw [xT] at ht
      unfold cvT
      rw [fs 22 _ _ (by omega) (by omega) (by omega), fs 23 _ _ (by omega) (by omega) (by omega), fs 24 _ _ (by omega) (by omega) (by omega), es _ (by omega), es _ (by omega), es _ (by omega)]
      exact ct t ht
    · rw [xA] at hq
      unfold cvA
      rw [fs 25 _ _ (by omega) (by omega) (by omega), fs 26 _ _ (by omega) (by omega) (by omega), fs 27 _ _ (by omega) (by omega) (by omega), fs 28 _ _ (by omega) (by omega) (by omega), fs 29 _ _ (by omega) (by omega) (by omega), fs 30 _ _ (by omega) (by omega) (by omega), fs 31 _ _ (by omega) (by omega) (by omega), fs 32 _ _ (by omega) (by omega) (by omega), fs 33 _ _ (by omega) (by omega) (by omega), fs 34 _ _ (by omega) (by omega) (by omega), fs 35 _ _ (by omega) (by omega) (by omega), es _ (by omega), es _ (by omega), es _ (by omega), es _ (by omega), es _ (by omega), es _ (by omega), es _ (by omega), e2]
      exact (ca q hq).1
    · rw [xA] at hq
      rw [xG] at hk
      unfold cvG gi
      rw [fs 36 _ _ (by omega) (by omega) (by omega), fs 37 _ _ (by omega) (by omega) (by omega), fs 38 _ _ (by omega) (by omega) (by omega), fs 39 _ _ (by omega) (by omega) (by omega), fs 40 _ _ (by omega) (by omega) (by omega), es _ (by omega), es _ (by omega), es _ (by omega), es _ (by omega), es _ (by omega)]
      exact (ca q hq).2 k hk
    · rw [xN] at hk
      unfold cvW
      rw [fs 10 _ _ (by omega) (by omega) (by omega), fs 11 _ _ (by omega) (by omega) (by omega), fs 12 _ _ (by omega) (by omega) (by omega), e2]
      exact cw k hk
    · rename_i x2
      have := cl x2 hx
      unfold cvL at this ⊢
      by_cases z : x2 = x
      · subst z
        obtain ⟨b1, b2, b3, b4, b5⟩ := this
        rcases (show y = 0 ∨ y = 1 ∨ y = 2 ∨ y = 3 ∨ y = 4 by omega) with rfl | rfl | rfl | rfl | rfl
        · exact ⟨f21.trans e24.symm, by rw [fs 15 _ _ (by omega) (by omega) (by omega), es _ (by omega)]; exact b2, by rw [fs 16 _ _ (by omega) (by omega) (by omega), es _ (by omega)]; exact b3, by rw [fs 17 _ _ (by omega) (by omega) (by omega), es _ (by omega)]; exact b4, by rw [fs 18 _ _ (by omega) (by omega) (by omega), es _ (by omega)]; exact b5⟩
        · exact ⟨by rw [fs 14 _ _ (by omega) (by omega) (by omega), es _ (by omega)]; exact b1, f21.trans e24.symm, by rw [fs 16 _ _ (by omega) (by omega) (by omega), es _ (by omega)]; exact b3, by rw [fs 17 _ _ (by omega) (by omega) (by omega), es _ (by omega)]; exact b4, by rw [fs 18 _ _ (by omega) (by omega) (by omega), es _ (by omega)]; exact b5⟩
        · exact ⟨by rw [fs 14 _ _ (by omega) (by omega) (by omega), es _ (by omega)]; exact b1, by rw [fs 15 _ _ (by omega) (by omega) (by omega), es _ (by omega)]; exact b2, f21.trans e24.symm, by rw [fs 17 _ _ (by omega) (by omega) (by omega), es _ (by omega)]; exact b4, by rw [fs 18 _ _ (by omega) (by omega) (by omega), es _ (by omega)]; exact b5⟩
        · exact ⟨by rw [fs 14 _ _ (by omega) (by omega) (by omega), es _ (by omega)]; exact b1, by rw [fs 15 _ _ (by omega) (by omega) (by omega), es _ (by omega)]; exact b2, by rw [fs 16 _ _ (by omega) (by omega) (by omega), es _ (by omega)]; exact b3, f21.trans e24.symm, by rw [fs 18 _ _ (by omega) (by omega) (by omega), es _ (by omega)]; exact b5⟩
        · exact ⟨by rw [fs 14 _ _ (by omega) (by omega) (by omega), es _ (by omega)]; exact b1, by rw [fs 15 _ _ (by omega) (by omega) (by omega), es _ (by omega)]; exact b2, by rw [fs 16 _ _ (by omega) (by omega) (by omega), es _ (by omega)]; exact b3, by rw [fs 17 _ _ (by omega) (by omega) (by omega), es _ (by omega)]; exact b4, f21.trans e24.symm⟩
      · rw [fs 14 _ _ (by omega) (by omega) (by omega), fs 15 _ _ (by omega) (by omega) (by omega), fs 16 _ _ (by omega) (by omega) (by omega), fs 17 _ _ (by omega) (by omega) (by omega), fs 18 _ _ (by omega) (by omega) (by omega), es _ (by omega), es _ (by omega), es _ (by omega), es _ (by omega), es _ (by omega)]
        exact this
    · rw [xA] at hi ⊢
      rw [fs 9 _ _ (by omega) (by omega) (by omega)]
      exact cf1 i hi
    · rw [xA] at hj
      have := cf2 i j hi hj
      unfold vlater at this ⊢
      rw [es _ (by omega), es _ (by omega)]
      exact this
  · refine ⟨⟨by rw [es 0 (by omega)]; exact w1, by rw [es 1 (by omega)]; exact w2, by rw [es 2 (by omega)]; exact w3, by rw [e2]; exact w4⟩, fun p hp => ?_, fun t ht => ?_, fun q hq => ⟨?_, fun k hk => ?_⟩, fun k hk => ?_, fun x2 hx => ?_⟩
    · rw [xP] at hp
      unfold wfP
      rw [e2]
      rw [es _ (by omega), es _ (by omega)]
      exact wp p hp
    · rw [xT] at ht
      unfold wfT
      rw [es _ (by omega), es _ (by omega), es _ (by omega)]
      obtain ⟨b1, b2, b3⟩ := wt t ht
      exact ⟨up1 b1, b2, b3⟩
    · rw [xA] at hq
      unfold wfA
      rw [es _ (by omega), es _ (by omega), es _ (by omega), es _ (by omega), es _ (by omega), es _ (by omega), es _ (by omega), e2]
      obtain ⟨b1, b2, b3, b4, b5, b6, b7, b8, b9, b10, b11⟩ := (wa q hq).1
      exact ⟨up1 b1, b2, b3, b4, b5, b6, b7.imp id up1, b8, b9, fun i hi => by have := b10 i hi; omega, b11⟩
    · rw [xA] at hq
      rw [xG] at hk
      unfold wfG gi
      rw [es _ (by omega), es _ (by omega), es _ (by omega), es _ (by omega), es _ (by omega), xT]
      obtain ⟨b1, b2, b3, b4, b5⟩ := (wa q hq).2 k hk
      exact ⟨b1, up1 b2, b3, b4.imp id (fun z => ⟨z.1, up1 z.2⟩), b5.imp id up1⟩
    · rw [xN] at hk
      unfold wfW
      rw [e2]
      obtain ⟨b1, b2, b3⟩ := ww k hk
      exact ⟨up1 b1, up1 b2, b3⟩
    · rename_i x2
      have := wl x2 hx
      unfold wfL at this ⊢
      by_cases z : x2 = x
      · subst z
        obtain ⟨b1, b2, b3, b4, b5⟩ := this
        rcases (show y = 0 ∨ y = 1 ∨ y = 2 ∨ y = 3 ∨ y = 4 by omega) with rfl | rfl | rfl | rfl | rfl
        · rw [if_pos rfl] at hu
          exact ⟨by rw [Nat.add_zero] at e24; rw [e24]; exact hu, by rw [es _ (by omega)]; exact b2, by rw [es _ (by omega)]; exact b3, by rw [es _ (by omega)]; exact b4, by rw [es _ (by omega)]; exact b5⟩
        · rw [if_neg (by omega)] at hu
          exact ⟨by rw [es _ (by omega)]; exact b1, by rw [e24]; exact hu, by rw [es _ (by omega)]; exact b3, by rw [es _ (by omega)]; exact b4, by rw [es _ (by omega)]; exact b5⟩
        · rw [if_neg (by omega)] at hu
          exact ⟨by rw [es _ (by omega)]; exact b1, by rw [es _ (by omega)]; exact b2, by rw [e24]; exact hu, by rw [es _ (by omega)]; exact b4, by rw [es _ (by omega)]; exact b5⟩
        · rw [if_neg (by omega)] at hu
          exact ⟨by rw [es _ (by omega)]; exact b1, by rw [es _ (by omega)]; exact b2, by rw [es _ (by omega)]; exact b3, by rw [e24]; exact hu, by rw [es _ (by omega)]; exact b5⟩
        · rw [if_neg (by omega)] at hu
          exact ⟨by rw [es _ (by omega)]; exact b1, by rw [es _ (by omega)]; exact b2, by rw [es _ (by omega)]; exact b3, by rw [es _ (by omega)]; exact b4, by rw [e24]; exact hu⟩
      · rw [es _ (by omega), es _ (by omega), es _ (by omega), es _ (by omega), es _ (by omega)]
        exact this
-- ===== one line more =====
theorem add_lin {C C' : gM} {V V' : vV} {lf : Nat → Nat} (c : CV C V lf) (w : WF V) {u : Int32}
    (e24 : V'.1 3 = u) (es : ∀ k, k ≠ 3 → V'.1 k = V.1 k) (e2 : V'.2 = V.2)
    (f21 : rdI C' 4 0 0 0 = u)
    (fs : ∀ g b d, 4 ≤ g → g ≤ 40 → ¬ g = 4 → rdI C' g 0 b d = rdI C g 0 b d) : CV C' V' lf ∧ WF V' := by
  have hP := w.P.2
  have xP : vP V' = vP V := by unfold vP; rw [es 0 (by omega)]
  have xT : vT V' = vT V := by unfold vT; rw [es 1 (by omega)]
  have xA : vA V' = vA V := by unfold vA; rw [es 2 (by omega)]
  have xN : vN V' = vN V := by unfold vN; rw [e2]
  have hT := w.T.2
  have hA := w.A.2
  have hN := w.N.2
  have xG : ∀ q, vG V' q = vG V q := fun q => by unfold vG; rw [es _ (by omega)]
  have up1 : ∀ {x : Int32}, vp_in x (vP V) → vp_in x (vP V') := fun {x} h => by
    obtain ⟨j, hj, rfl⟩ := vp_in_of h (show vP V < 2 ^ 31 by omega)
    exact vpi (by omega)
  obtain ⟨⟨c1, c2, c3, c4, c5⟩, cp, ct, ca, cw, cl, cf1, cf2⟩ := c
  obtain ⟨⟨w1, w2, w3, w4⟩, wp, wt, wa, ww, wl⟩ := w
  constructor
  · refine ⟨⟨?_, ?_, ?_, ?_, ?_⟩, fun p hp => ?_, fun t ht => ?_, fun q hq => ⟨?_, fun k hk => ?_⟩, fun k hk => ?_, fun x hx => ?_, fun i hi => ?_, fun i j hi hj => ?_⟩
    · rw [fs 5 _ _ (by omega) (by omega) (by omega), es _ (by omega)]; exact c1
    · rw [fs 6 _ _ (by omega) (by omega) (by omega), es _ (by omega)]; exact c2
    · rw [fs 7 _ _ (by omega) (by omega) (by omega), es _ (by omega)]; exact c3
    · rw [f21, e24]
    · rw [fs 8 _ _ (by omega) (by omega) (by omega), e2]; exact c5
    · rw [xP] at hp
      unfold cvP
      rw [e2]
      rw [fs 19 _ _ (by omega) (by omega) (by omega), fs 20 _ _ (by omega) (by omega) (by omega), fs 21 _ _ (by omega) (by omega) (by omega), es _ (by omega), es _ (by omega)]
      exact cp p hp
    · rw [xT] at ht
      unfold cvT
      rw [fs 22 _ _ (by omega) (by omega) (by omega), fs 23 _ _ (by omega) (by omega) (by omega), fs 24 _ _ (by omega) (by omega) (by omega), es _ (by omega), es _ (by omega), es _ (by omega)]
      exact ct t ht
    · rw [xA] at hq
      unfold cvA
      rw [fs 25 _ _ (by omega) (by omega) (by omega), fs 26 _ _ (by omega) (by omega) (by omega), fs 27 _ _ (by omega) (by omega) (by omega), fs 28 _ _ (by omega) (by omega) (by omega), fs 29 _ _ (by omega) (by omega) (by omega), fs 30 _ _ (by omega) (by omega) (by omega), fs 31 _ _ (by omega) (by omega) (by omega), fs 32 _ _ (by omega) (by omega) (by omega), fs 33 _ _ (by omega) (by omega) (by omega), fs 34 _ _ (by omega) (by omega) (by omega), fs 35 _ _ (by omega) (by omega) (by omega), es _ (by omega), es _ (by omega), es _ (by omega), es _ (by omega), es _ (by omega), es _ (by omega), es _ (by omega), e2]
      exact (ca q hq).1
    · rw [xA] at hq
      rw [xG] at hk
      unfold cvG gi
      rw [fs 36 _ _ (by omega) (by omega) (by omega), fs 37 _ _ (by omega) (by omega) (by omega), fs 38 _ _ (by omega) (by omega) (by omega), fs 39 _ _ (by omega) (by omega) (by omega), fs 40 _ _ (by omega) (by omega) (by omega), es _ (by omega), es _ (by omega), es _ (by omega), es _ (by omega), es _ (by omega)]
      exact (ca q hq).2 k hk
    · rw [xN] at hk
      unfold cvW
      rw [fs 10 _ _ (by omega) (by omega) (by omega), fs 11 _ _ (by omega) (by omega) (by omega), fs 12 _ _ (by omega) (by omega) (by omega), e2]
      exact cw k hk
    · unfold cvL
      rw [fs 14 _ _ (by omega) (by omega) (by omega), fs 15 _ _ (by omega) (by omega) (by omega), fs 16 _ _ (by omega) (by omega) (by omega), fs 17 _ _ (by omega) (by omega) (by omega), fs 18 _ _ (by omega) (by omega) (by omega), es _ (by omega), es _ (by omega), es _ (by omega), es _ (by omega), es _ (by omega)]
      exact cl x hx
    · rw [xA] at hi ⊢
      rw [fs 9 _ _ (by omega) (by omega) (by omega)]
      exact cf1 i hi
    · rw [xA] at hj
      have := cf2 i j hi hj
      unfold vlater at this ⊢
      rw [es _ (by omega), es _ (by omega)]
      exact this
  · refine ⟨⟨by rw [es 0 (by omega)]; exact w1, by rw [es 1 (by omega)]; exact w2, by rw [es 2 (by omega)]; exact w3, by rw [e2]; exact w4⟩, fun p hp => ?_, fun t ht => ?_, fun q hq => ⟨?_, fun k hk => ?_⟩, fun k hk => ?_, fun x hx => ?_⟩
    · rw [xP] at hp
      unfold wfP
      rw [e2]
      rw [es _ (by omega), es _ (by omega)]
      exact wp p hp
    · rw [xT] at ht
      unfold wfT
      rw [es _ (by omega), es _ (by omega), es _ (by omega)]
      obtain ⟨b1, b2, b3⟩ := wt t ht
      exact ⟨up1 b1, b2, b3⟩
    · rw [xA] at hq
      unfold wfA
      rw [es _ (by omega), es _ (by omega), es _ (by omega), es _ (by omega), es _ (by omega), es _ (by omega), es _ (by omega), e2]
      obtain ⟨b1, b2, b3, b4, b5, b6, b7, b8, b9, b10, b11⟩ := (wa q hq).1
      exact ⟨up1 b1, b2, b3, b4, b5, b6, b7.imp id up1, b8, b9, fun i hi => by have := b10 i hi; omega, b11⟩
    · rw [xA] at hq
      rw [xG] at hk
      unfold wfG gi
      rw [es _ (by omega), es _ (by omega), es _ (by omega), es _ (by omega), es _ (by omega), xT]
      obtain ⟨b1, b2, b3, b4, b5⟩ := (wa q hq).2 k hk
      exact ⟨b1, up1 b2, b3, b4.imp id (fun z => ⟨z.1, up1 z.2⟩), b5.imp id up1⟩
    · rw [xN] at hk
      unfold wfW
      rw [e2]
      obtain ⟨b1, b2, b3⟩ := ww k hk
      exact ⟨up1 b1, up1 b2, b3⟩
    · unfold wfL
      rw [es _ (by omega), es _ (by omega), es _ (by omega), es _ (by omega), es _ (by omega)]
      exact wl x hx
end
