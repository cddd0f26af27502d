set_option linter.all false
noncomputable section
-- ===== acts: what they answer, what they change =====
abbrev oT : Type := Int32 × Option ((Nat → Int32) × hE)
def oC (z : Int32 × gM) (V : vV) (lf : Nat → Nat) (n x : Nat) (E : Nat → hE) (o : oT) : Prop :=
  z.1 = o.1 ∧ match o.2 with
    | none => CV z.2 V lf ∧ CH z.2 n x E
    | some r => CV z.2 (rw2 V r.1) lf ∧ CH z.2 (up n) ((x + 1) % 16) (psh n E r.2)
def oM (z : Int32 × gM) (V : vV) (n : Nat) (R : Nat → Nat → Int32) (o : oT) : Prop :=
  z.1 = o.1 ∧ match o.2 with
    | none => mV z.2 = V ∧ MH z.2 n R
    | some r => mV z.2 = rw2 V r.1 ∧ MH z.2 (up n) (psh n R V.2.1)
def oG (V : vV) (o : oT) : Prop := match o.2 with
    | none => True
    | some r => WF (rw2 V r.1) ∧ stp V r.1 V.2.1 r.2
def IV (M : gM) (V : vV) (lf : Nat → Nat) (n x : Nat) (E : Nat → hE) (R : Nat → Nat → Int32) : Prop := CV M V lf ∧ mV M = V ∧ WF V ∧ CH M n x E ∧ MH M n R ∧ Hs V n E R
def IVe (M : gM) : Prop := ∃ V lf n x E R, IV M V lf n x E R
theorem IV.act {M : gM} {V : vV} {lf : Nat → Nat} {n x : Nat} {E : Nat → hE} {R : Nat → Nat → Int32} (h : IV M V lf n x E R) {z w : Int32 × gM} {o : oT} (g : oG V o) (hz : oC z V lf n x E o) (hw : oM w V n R o) {W : List Nat} (hW : offW W z.2 w.2) (k1 : W.all (fun g => Nat.blt g 4 || Nat.blt 40 g) = true) (k2 : W.all (fun g => Nat.blt g 62 || Nat.blt 66 g) = true) : w.1 = z.1 ∧ IVe w.2 := by
  obtain ⟨h1, h2, h3, h4, h5, h6⟩ := h
  refine ⟨hw.1.trans hz.1.symm, ?_⟩
  obtain ⟨a, o⟩ := o
  cases o with
  | none => exact ⟨V, lf, n, x, E, R, hz.2.1.off hW k1, hw.2.1, h3, hz.2.2.off hW k2, hw.2.2, h6⟩
  | some r => exact ⟨rw2 V r.1, lf, up n, (x + 1) % 16, psh n E r.2, psh n R V.2.1, hz.2.1.off hW k1, hw.2.1, g.1, hz.2.2.off hW k2, hw.2.2, Hs_psh h6 h3 h4.2.2.1 g.2⟩
theorem CV.genR {M N : gM} {V : vV} {lf : Nat → Nat} (c : CV M V lf) {r : Nat → Int32}
    (e : ∀ g b c', 4 ≤ g → g ≤ 40 → ¬ (g = 8 ∨ g = 10 ∨ g = 11 ∨ g = 12 ∨ g = 20 ∨ g = 30 ∨ g = 33 ∨ g = 34) → rdI N g 0 b c' = rdI M g 0 b c')
    (e8 : rdI N 8 0 0 0 = r 64) (eW : ∀ k, k < nn (r 64) → cvW N (rw2 V r) k)
    (e20 : ∀ p, p < vP V → rdI N 20 0 p 0 = mo (r p)) (e30 : ∀ q, q < vA V → rdI N 30 0 q 0 = r (22 + q)) (e33 : ∀ q, q < vA V → rdI N 33 0 q 0 = mo (r (10 + q))) (e34 : ∀ q, q < vA V → rdI N 34 0 q 0 = r (34 + q)) : CV N (rw2 V r) lf := by
  obtain ⟨⟨a1, a2, a3, a4, a5⟩, hp, ht, ha, hw, hl, hf⟩ := c
  refine ⟨⟨?_, ?_, ?_, ?_, e8⟩, fun p hp' => ?_, fun t ht' => ?_, fun q hq => ⟨?_, fun k' hk' => ?_⟩, eW, fun l hl' => ?_, fun i hi => ⟨(hf.1 i hi).1, ?_⟩, hf.2⟩
  · rw [e _ _ _ (by omega) (by omega) (by omega)]; exact a1
  · rw [e _ _ _ (by omega) (by omega) (by omega)]; exact a2
  · rw [e _ _ _ (by omega) (by omega) (by omega)]; exact a3
  · rw [e _ _ _ (by omega) (by omega) (by omega)]; exact a4
  · have hp' : p < vP V := hp'
    have b := hp p hp'
    unfold cvP at b ⊢
    rw [e 19 _ _ (by omega) (by omega) (by omega), e 21 _ _ (by omega) (by omega) (by omega)]
    exact ⟨b.1, e20 p hp', b.2.2⟩
  · have b := ht t ht'
    unfold cvT at b ⊢
    rw [e 22 _ _ (by omega) (by omega) (by omega), e 23 _ _ (by omega) (by omega) (by omega), e 24 _ _ (by omega) (by omega) (by omega)]; exact b
  · have hq : q < vA V := hq
    have b := (ha q hq).1
    unfold cvA at b ⊢
    rw [e 25 _ _ (by omega) (by omega) (by omega), e 26 _ _ (by omega) (by omega) (by omega), e 27 _ _ (by omega) (by omega) (by omega), e 28 _ _ (by omega) (by omega) (by omega), e 29 _ _ (by omega) (by omega) (by omega), e 31 _ _ (by omega) (by omega) (by omega), e 32 _ _ (by omega) (by omega) (by omega), e 35 _ _ (by omega) (by omega) (by omega)]
    obtain ⟨b1, b2, b3, b4, b5, b6, b7, b8, b9, b10, b11⟩ := b
    exact ⟨b1, b2, b3, b4, b5, b6, b7, e30 q hq, b9, e33 q hq, e34 q hq⟩
  · have b := (ha q hq).2 k' hk'
    unfold cvG at b ⊢
    rw [e 36 _ _ (by omega) (by omega) (by omega), e 37 _ _ (by omega) (by omega) (by omega), e 38 _ _ (by omega) (by omega) (by omega), e 39 _ _ (by omega) (by omega) (by omega), e 40 _ _ (by omega) (by omega) (by omega)]; exact b
  · have b := hl l hl'
    unfold cvL at b ⊢
    rw [e 14 _ _ (by omega) (by omega) (by omega), e 15 _ _ (by omega) (by omega) (by omega), e 16 _ _ (by omega) (by omega) (by omega), e 17 _ _ (by omega) (by omega) (by omega), e 18 _ _ (by omega) (by omega) (by omega)]; exact b
  · rw [e _ _ _ (by omega) (by omega) (by omega)]; exact (hf.1 i hi).2
theorem CV.e20 {M : gM} {V : vV} {lf : Nat → Nat} (c : CV M V lf) : ∀ p, p < vP V → rdI M 20 0 p 0 = mo (V.2.1 p) := fun p hp => (c.2.1 p hp).2.1
theorem CV.e30 {M : gM} {V : vV} {lf : Nat → Nat} (c : CV M V lf) : ∀ q, q < vA V → rdI M 30 0 q 0 = V.2.1 (22 + q) := fun q hq => (c.2.2.2.1 q hq).1.2.2.2.2.2.2.2.1
theorem CV.e33 {M : gM} {V : vV} {lf : Nat → Nat} (c : CV M V lf) : ∀ q, q < vA V → rdI M 33 0 q 0 = mo (V.2.1 (10 + q)) := fun q hq => (c.2.2.2.1 q hq).1.2.2.2.2.2.2.2.2.2.1
theorem CV.e34 {M : gM} {V : vV} {lf : Nat → Nat} (c : CV M V lf) : ∀ q, q < vA V → rdI M 34 0 q 0 = V.2.1 (34 + q) := fun q hq => (c.2.2.2.1 q hq).1.2.2.2.2.2.2.2.2.2.2
-- ===== one number put =====
theorem M_puts {M : gM} {V : vV} {n : Nat} {R : Nat → Nat → Int32} (hV : mV M = V) (h : MH M n R) {k : Nat} (hk : k < 65) (v : Int32) : s_X13_puts M (nI k) v ∧ (V.2.1 k = v → f_X13_puts M (nI k) v = (0, M)) ∧ (V.2.1 k ≠ v → (f_X13_puts M (nI k) v).1 = 1 ∧ mV (f_X13_puts M (nI k) v).2 = vset V k v ∧ MH (f_X13_puts M (nI k) v).2 (up n) (psh n R V.2.1)) := by
  have i65 : vp_in (nI k) 65 := vpi hk
  obtain ⟨a1, a2⟩ := M_keeps h
  have a3 := mV_keeps M
  rw [hV] at a2 a3
  simp only [s_X13_puts, f_X13_puts, bnd, bndP, i65, a1, nn_nI (show k < 2 ^ 31 by omega), x92, hV, true_and]
  refine ⟨?_, fun e => by rw [if_pos e], fun e => ?_⟩
  · split <;> trivial
  · rw [if_neg e]
    exact ⟨rfl, mV_set a3, a2.wr (by omega)⟩
theorem eqX_set {V : vV} {k : Nat} {v : Int32} : eqX (vset V k v).2.1 V.2.1 k := fun i hi => if_neg hi
theorem mo_eq {x v : Int32} (hv : v ≠ -1) (hx : x ≠ -1) (h : v ≠ -2) : mo x = v ↔ x = v := by
  unfold mo
  by_cases z : x = -2
  · rw [if_pos z]
    exact ⟨fun q => absurd q.symm hv, fun q => absurd (q.symm.trans z) h⟩
  · rw [if_neg z]
theorem le3 {x : Int32} (h1 : ¬ x < 0) (h2 : ¬ 3 < x) : vp_in x 4 := by
  have a := i_nlt.mp h1
  have b := i_nlt.mp h2
  obtain ⟨j, hj, e⟩ := isB_t (x := x) (n := 4) (by omega) (by
    unfold isB
    rw [decide_eq_true_iff]
    refine ⟨h1, ?_⟩
    exact Int32.lt_of_le_of_lt b (by decide))
  rw [e]
  exact vpi hj
theorem vp4 {x : Int32} (h : vp_in x 4) : x ≠ -1 ∧ x ≠ -2 := by
  obtain ⟨e, hj⟩ := vpe h (by decide)
  rw [e]
  revert hj
  exact (by decide : ∀ j, j < 4 → nI j ≠ -1 ∧ nI j ≠ -2) _
-- ===== lose, find, copy =====
def pls (V : vV) (q : Nat) (v : Int32) : oT := (1, some ((vset V (10 + q) v).2.1, (0, nI q, mo (V.2.1 (10 + q)))))
def o_los (V : vV) (x1 x2 : Int32) : oT := if isB x1 (vA V) = true then (if x2 < 0 then (0, none) else if 3 < x2 then (0, none) else if V.2.1 (10 + nn x1) = x2 then (0, none) else pls V (nn x1) x2) else (0, none)
theorem g_pls {V : vV} (w : WF V) {q : Nat} (hq : q < vA V) {v : Int32} (hv : v = -2 ∨ vp_in v 4) : oG V (pls V q v) := ⟨wf_cop w hq hv, Or.inl ⟨rfl, q, hq, rfl, rfl, eqX_set⟩⟩
theorem C_cc {M : gM} {V : vV} {lf : Nat → Nat} {n x : Nat} {E : Nat → hE} (c : CV M V lf) (w : WF V) (h : CH M n x E) {q : Nat} (hq : q < vA V) (v : Int32) {u : Int32} (hu : u = mo v) : s_X12_changeCopies M (nI q) u ∧ oC (1, f_X12_changeCopies M (nI q) u) V lf n x E (pls V q v) := by
  subst hu
  have h12 := w.A.2
  have i12 : vp_in (nI q) 12 := vpi (by omega)
  have r33 := c.e33 q hq
  obtain ⟨a1, a2⟩ := C_keep h 0 (nI q) (mo (V.2.1 (10 + q)))
  have c2 := c.off (o_X2_keep M 0 (nI q) (mo (V.2.1 (10 + q)))) (by decide)
  simp only [s_X12_changeCopies, f_X12_changeCopies, bnd, bndP, i12, nn_nI (show q < 2 ^ 31 by omega), r33, a1, true_and]
  exact ⟨rfl, c2.cop w hq v, a2.wr (by omega)⟩
theorem e10q {V : vV} (w : WF V) {q : Nat} (hq : q < vA V) : V.2.1 (10 + q) = -2 ∨ vp_in (V.2.1 (10 + q)) 4 := (w.2.2.2.1 q hq).1.2.2.2.2.2.2.2.1
theorem e10m {V : vV} (w : WF V) {q : Nat} (hq : q < vA V) : V.2.1 (10 + q) ≠ -1 := by
  rcases e10q w hq with e | e
  · rw [e]; decide
  · exact (vp4 e).1
theorem C_los {M : gM} {V : vV} {lf : Nat → Nat} {n x : Nat} {E : Nat → hE} (c : CV M V lf) (w : WF V) (h : CH M n x E) (x1 x2 : Int32) : s_X12_lose M x1 x2 ∧ oC (f_X12_lose M x1 x2) V lf n x E (o_los V x1 x2) := by
  have h12 := w.A.2
  simp only [s_X12_lose, f_X12_lose, bnd, bndP, sX7_isA, fX7_isA c w, true_and, bz_0, o_los]
  rcases isP_cases (x := x1) (n := vA V) (by omega) with e | ⟨q, hq, rfl, e⟩
  · simp only [e, if_true, Bool.false_eq_true, if_false, true_and]; exact ⟨rfl, c, h⟩
  · simp only [e, Bool.true_eq_false, if_false, if_true, nn_nI (show q < 2 ^ 31 by omega)]
    by_cases a : x2 < 0
    · simp only [a, if_true, true_and]; exact ⟨rfl, c, h⟩
    · by_cases b : 3 < x2
      · simp only [a, b, if_true, if_false, true_and]; exact ⟨rfl, c, h⟩
      · have v4 := le3 a b
        have i12 : vp_in (nI q) 12 := vpi (by omega)
        have ne := vp4 v4
        have r33 := c.e33 q hq
        obtain ⟨s, g⟩ := C_cc c w h hq x2 (u := x2) (mo_ne ne.2).symm
        simp only [a, b, if_false, i12, r33, s, mo_eq ne.1 (e10m w hq) ne.2, true_and]
        by_cases z : V.2.1 (10 + q) = x2
        · simp only [z, if_true, true_and]; exact ⟨rfl, c, h⟩
        · simp only [z, if_false, true_and]; exact g
theorem M_los {M : gM} {V : vV} {n : Nat} {R : Nat → Nat → Int32} (hV : mV M = V) (w : WF V) (h : MH M n R) (x1 x2 : Int32) : s_X13_lose M x1 x2 ∧ oM (f_X13_lose M x1 x2) V n R (o_los V x1 x2) := by
  have h12 := w.A.2
  have hV1 : mV (wrI M 67 0 0 0 0) = V := by rw [mV_wr (by omega)]; exact hV
  have h1 : MH (wrI M 67 0 0 0 0) n R := h.wr (by omega)
  generalize hM1 : wrI M 67 0 0 0 0 = M1 at *
  have w1 : WF (mV M1) := by rw [hV1]; exact w
  simp only [s_X13_lose, f_X13_lose, s_X13_lose_38, f_X13_lose_38, bnd, bndP, hM1, s_isA, f_isA w1, hV1, true_and, bz_0, o_los]
  rcases isP_cases (x := x1) (n := vA V) (by omega) with e | ⟨q, hq, rfl, e⟩
  · simp only [e, if_true, Bool.false_eq_true, if_false, true_and]; exact ⟨rfl, hV1, h1⟩
  · simp only [e, Bool.true_eq_false, if_false, if_true, nn_nI (show q < 2 ^ 31 by omega), e10n]
    by_cases a : x2 < 0
    · simp only [a, if_true, true_and]; exact ⟨rfl, hV1, h1⟩
    · by_cases b : 3 < x2
      · simp only [a, b, if_true, if_false, true_and]; exact ⟨rfl, hV1, h1⟩
      · obtain ⟨s, g1, g2⟩ := M_puts hV1 h1 (show 10 + q < 65 by omega) x2
        simp only [a, b, if_false, s, true_and]
        by_cases z : V.2.1 (10 + q) = x2
        · simp only [g1 z, z, if_true, true_and]; exact ⟨rfl, hV1, h1⟩
        · obtain ⟨b1, b2, b3⟩ := g2 z
          simp only [b1, z, if_false, show ((1 : Int32) = 0) = False by decide, true_and]; exact ⟨rfl, b2, b3⟩
theorem G_los {V : vV} (w : WF V) (x1 x2 : Int32) : oG V (o_los V x1 x2) := by
  have h12 := w.A.2
  unfold o_los
  rcases isP_cases (x := x1) (n := vA V) (by omega) with e | ⟨q, hq, rfl, e⟩
  · simp only [e, Bool.false_eq_true, if_false]; trivial
  · simp only [e, if_true, nn_nI (show q < 2 ^ 31 by omega)]
    by_cases a : x2 < 0
    · simp only [a, if_true]; trivial
    · by_cases b : 3 < x2
      · simp only [a, b, if_true, if_false]; trivial
      · by_cases z : V.2.1 (10 + q) = x2
        · simp only [a, b, z, if_true, if_false]; trivial
        · simp only [a, b, z, if_false]; exact g_pls w hq (Or.inr (le3 a b))
theorem sLost {M : gM} {q : Nat} : s_X5_isLost M 0 q := by unfold s_X5_isLost; split <;> trivial
theorem fLost {M : gM} {V : vV} {lf : Nat → Nat} (c : CV M V lf) (w : WF V) {q : Nat} (hq : q < vA V) : f_X5_isLost M 0 q = bz (decide (V.2.1 (10 + q) ≠ -2)) := by
  unfold f_X5_isLost
  rw [c.e33 q hq, bz_d]
  by_cases z : V.2.1 (10 + q) = -2
  · rw [z, if_pos (by decide), if_neg (fun k => k rfl)]
  · rw [mo_ne z, if_neg (e10m w hq), if_pos z]
def o_fin (V : vV) (x1 : Int32) : oT := if isB x1 (vA V) = true then (if V.2.1 (10 + nn x1) = -2 then (0, none) else pls V (nn x1) (-2)) else (0, none)
theorem C_fin {M : gM} {V : vV} {lf : Nat → Nat} {n x : Nat} {E : Nat → hE} (c : CV M V lf) (w : WF V) (h : CH M n x E) (x1 : Int32) : s_X12_find M x1 ∧ oC (f_X12_find M x1) V lf n x E (o_fin V x1) := by
  have h12 := w.A.2
  simp only [s_X12_find, f_X12_find, bnd, bndP, sX7_isA, fX7_isA c w, true_and, bz_0, o_fin]
  rcases isP_cases (x := x1) (n := vA V) (by omega) with e | ⟨q, hq, rfl, e⟩
  · simp only [e, if_true, Bool.false_eq_true, if_false, true_and]; exact ⟨rfl, c, h⟩
  · have i12 : vp_in (nI q) 12 := vpi (by omega)
    obtain ⟨s, g⟩ := C_cc c w h hq (-2) (u := -1) rfl
    simp only [e, Bool.true_eq_false, if_false, if_true, nn_nI (show q < 2 ^ 31 by omega), i12, sLost, fLost c w hq, bz_0, s, decide_eq_false_iff_not, Decidable.not_not, true_and]
    by_cases z : V.2.1 (10 + q) = -2
    · simp only [z, if_true, true_and, ne_eq, not_true_eq_false, not_false_eq_true]; exact ⟨rfl, c, h⟩
    · simp only [z, if_false, true_and, ne_eq, not_false_eq_true, not_true_eq_false]; exact g
theorem M_fin {M : gM} {V : vV} {n : Nat} {R : Nat → Nat → Int32} (hV : mV M = V) (w : WF V) (h : MH M n R) (x1 : Int32) : s_X13_find M x1 ∧ oM (f_X13_find M x1) V n R (o_fin V x1) := by
  have h12 := w.A.2
  have hV1 : mV (wrI M 67 0 0 0 0) = V := by rw [mV_wr (by omega)]; exact hV
  have h1 : MH (wrI M 67 0 0 0 0) n R := h.wr (by omega)
  generalize hM1 : wrI M 67 0 0 0 0 = M1 at *
  have w1 : WF (mV M1) := by rw [hV1]; exact w
  simp only [s_X13_find, f_X13_find, s_X13_find_30, f_X13_find_30, bnd, bndP, hM1, s_isA, f_isA w1, hV1, true_and, bz_0, o_fin]
  rcases isP_cases (x := x1) (n := vA V) (by omega) with e | ⟨q, hq, rfl, e⟩
  · simp only [e, if_true, Bool.false_eq_true, if_false, true_and]; exact ⟨rfl, hV1, h1⟩
  · obtain ⟨s, g1, g2⟩ := M_puts hV1 h1 (show 10 + q < 65 by omega) (-2)
    simp only [e, Bool.true_eq_false, if_false, if_true, nn_nI (show q < 2 ^ 31 by omega), e10n, s, true_and]
    by_cases z : V.2.1 (10 + q) = -2
    · simp only [g1 z, z, if_true, true_and]; exact ⟨rfl, hV1, h1⟩
    · obtain ⟨b1, b2, b3⟩ := g2 z
      simp only [b1, z, if_false, show ((1 : Int32) = 0) = False by decide, true_and]; exact ⟨rfl, b2, b3⟩
theorem G_fin {V : vV} (w : WF V) (x1 : Int32) : oG V (o_fin V x1) := by
  have h12 := w.A.2
  unfold o_fin
  rcases isP_cases (x := x1) (n := vA V) (by omega) with e | ⟨q, hq, rfl, e⟩
  · simp only [e, Bool.false_eq_true, if_false]; trivial
  · simp only [e, if_true, nn_nI (show q < 2 ^ 31 by omega)]
    by_cases z : V.2.1 (10 + q) = -2
    · simp only [z, if_true]; trivial
    · simp only [z, if_false]; exact g_pls w hq (Or.inl rfl)
def o_cop (V : vV) (x1 : Int32) : oT := if isB x1 (vA V) = true then (if V.2.1 (10 + nn x1) = -2 then (-2, none) else if V.2.1 (10 + nn x1) = 3 then (-2, none) else (V.2.1 (10 + nn x1) + 1, (pls V (nn x1) (V.2.1 (10 + nn x1) + 1)).2)) else (-1, none)
theorem lt3 {x : Int32} (h : vp_in x 4) : (x < 3 ↔ ¬ x = 3) ∧ (x < 3 → vp_in (x + 1) 4 ∧ x ≠ x + 1) := by
  obtain ⟨e, hj⟩ := vpe h (by decide)
  rw [e]
  generalize nn x = j at hj
  refine ⟨(by decide : ∀ j, j < 4 → (nI j < 3 ↔ ¬ nI j = 3)) j hj, fun k => ⟨?_, (by decide : ∀ j, j < 4 → nI j ≠ nI j + 1) j hj⟩⟩
  rw [p1]
  exact vpi ((by decide : ∀ j, j < 4 → nI j < 3 → j + 1 < 4) j hj k)
theorem C_cop {M : gM} {V : vV} {lf : Nat → Nat} {n x : Nat} {E : Nat → hE} (c : CV M V lf) (w : WF V) (h : CH M n x E) (x1 : Int32) : s_X12_copy M x1 ∧ oC (f_X12_copy M x1) V lf n x E (o_cop V x1) := by
  have h12 := w.A.2
  simp only [s_X12_copy, f_X12_copy, bnd, bndP, sX7_isA, fX7_isA c w, true_and, bz_0, o_cop]
  rcases isP_cases (x := x1) (n := vA V) (by omega) with e | ⟨q, hq, rfl, e⟩
  · simp only [e, if_true, Bool.false_eq_true, if_false, true_and]; exact ⟨rfl, c, h⟩
  · have i12 : vp_in (nI q) 12 := vpi (by omega)
    simp only [e, Bool.true_eq_false, if_false, if_true, nn_nI (show q < 2 ^ 31 by omega), i12, sLost, fLost c w hq, bz_0, decide_eq_false_iff_not, Decidable.not_not, true_and]
    by_cases z : V.2.1 (10 + q) = -2
    · simp only [z, if_true, true_and, ne_eq, not_true_eq_false, not_false_eq_true]; exact ⟨rfl, c, h⟩
    · have v4 : vp_in (V.2.1 (10 + q)) 4 := (e10q w hq).resolve_left z
      have r33 : rdI M 33 0 q 0 = V.2.1 (10 + q) := (c.e33 q hq).trans (mo_ne z)
      obtain ⟨l1, l2⟩ := lt3 v4
      simp only [z, if_false, true_and, ne_eq, not_false_eq_true, not_true_eq_false, r33]
      by_cases y : V.2.1 (10 + q) = 3
      · simp only [y, if_true, show ((3 : Int32) < 3) = False by decide, if_false, true_and]; exact ⟨rfl, c, h⟩
      · have lt := l1.mpr y
        obtain ⟨s, g⟩ := C_cc c w h hq (V.2.1 (10 + q) + 1) (u := V.2.1 (10 + q) + 1) (mo_ne (vp4 (l2 lt).1).2).symm
        simp only [y, lt, if_true, if_false, s, true_and]
        refine ⟨?_, g.2⟩
        have := g.2.1.e33 q hq
        rw [show (rw2 V (vset V (10 + q) (V.2.1 (10 + q) + 1)).2.1).2.1 (10 + q) = V.2.1 (10 + q) + 1 from vset_eq, mo_ne (vp4 (l2 lt).1).2] at this
        exact this
theorem M_cop {M : gM} {V : vV} {n : Nat} {R : Nat → Nat → Int32} (hV : mV M = V) (w : WF V) (h : MH M n R) (x1 : Int32) : s_X13_copy M x1 ∧ oM (f_X13_copy M x1) V n R (o_cop V x1) := by
  have h12 := w.A.2
  have hV1 : mV (wrI M 67 0 0 0 0) = V := by rw [mV_wr (by omega)]; exact hV
  have h1 : MH (wrI M 67 0 0 0 0) n R := h.wr (by omega)
  generalize hM1 : wrI M 67 0 0 0 0 = M1 at *
  have w1 : WF (mV M1) := by rw [hV1]; exact w
  simp only [s_X13_copy, f_X13_copy, bnd, bndP, hM1, s_isA, f_isA w1, hV1, true_and, bz_0, o_cop]
  rcases isP_cases (x := x1) (n := vA V) (by omega) with e | ⟨q, hq, rfl, e⟩
  · simp only [e, if_true, Bool.false_eq_true, if_false, true_and]; exact ⟨rfl, hV1, h1⟩
  · have i65 : vp_in (nI (10 + q)) 65 := vpi (by omega)
    simp only [e, Bool.true_eq_false, if_false, if_true, nn_nI (show q < 2 ^ 31 by omega), e10n, nn_nI (show 10 + q < 2 ^ 31 by omega), i65, x92, hV1, true_and]
    by_cases z : V.2.1 (10 + q) = -2
    · simp only [z, if_true, true_and]; exact ⟨rfl, hV1, h1⟩
    · by_cases y : V.2.1 (10 + q) = 3
      · simp only [y, show ((3 : Int32) = -2) = False by decide, if_true, if_false, true_and]; exact ⟨rfl, hV1, h1⟩
      · have v4 : vp_in (V.2.1 (10 + q)) 4 := (e10q w hq).resolve_left z
        obtain ⟨l1, l2⟩ := lt3 v4
        obtain ⟨s, g1, g2⟩ := M_puts hV1 h1 (show 10 + q < 65 by omega) (V.2.1 (10 + q) + 1)
        obtain ⟨b1, b2, b3⟩ := g2 (l2 (l1.mpr y)).2
        simp only [z, y, if_false, s, b2, true_and, and_true]
        exact ⟨vset_eq, b2, b3⟩
theorem G_cop {V : vV} (w : WF V) (x1 : Int32) : oG V (o_cop V x1) := by
  have h12 := w.A.2
  unfold o_cop
  rcases isP_cases (x := x1) (n := vA V) (by omega) with e | ⟨q, hq, rfl, e⟩
  · simp only [e, Bool.false_eq_true, if_false]; trivial
  · simp only [e, if_true, nn_nI (show q < 2 ^ 31 by omega)]
    by_cases z : V.2.1 (10 + q) = -2
    · simp only [z, if_true]; trivial
    · by_cases y : V.2.1 (10 + q) = 3
      · simp only [y, show ((3 : Int32) = -2) = False by decide, if_true, if_false]; trivial
      · have v4 : vp_in (V.2.1 (10 + q)) 4 := (e10q w hq).resolve_left z
        obtain ⟨l1, l2⟩ := lt3 v4
        simp only [z, y, if_false]; exact g_pls w hq (Or.inr (l2 (l1.mpr y)).1)
end
