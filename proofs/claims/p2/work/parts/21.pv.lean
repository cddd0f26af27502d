set_option linter.all false
noncomputable section
-- ===== the view: the reference's three rows of numbers =====
abbrev vV : Type := (Nat → Int32) × (Nat → Int32) × (Nat → Int32)
def mV (M : gM) : vV := (fun i => rdI M 88 0 0 i, fun i => rdI M 92 0 0 i, fun i => rdI M 90 0 0 i)
def vP (V : vV) : Nat := nn (V.1 0)
def vT (V : vV) : Nat := nn (V.1 1)
def vA (V : vV) : Nat := nn (V.1 2)
def vN (V : vV) : Nat := nn (V.2.1 64)
def vG (V : vV) (q : Nat) : Nat := nn (V.1 (58 + 7 * q + 5))
def mo (x : Int32) : Int32 := if x = -2 then -1 else x
def vlater (V : vV) (q p : Nat) : Bool := decide (V.1 (58 + 7 * p + 1) < V.1 (58 + 7 * q + 1) ∨ V.1 (58 + 7 * p + 1) = V.1 (58 + 7 * q + 1) ∧ p < q)
def dOK (x : Int32) : Prop := 0 ≤ x ∧ x ≤ 9999
def wfP (V : vV) (p : Nat) : Prop := vp_in (V.1 (14 + p)) 2 ∧ (V.2.1 p = -2 ∨ dOK (V.2.1 p)) ∧ (∀ i, bt (V.1 (24 + p)) i = true → i < p)
def wfT (V : vV) (t : Nat) : Prop := vp_in (V.1 (34 + 3 * t)) (vP V) ∧ vp_in (V.1 (34 + 3 * t + 1)) 2 ∧ 1 ≤ V.1 (34 + 3 * t + 2) ∧ V.1 (34 + 3 * t + 2) ≤ 9999
def wfA (V : vV) (q : Nat) : Prop := vp_in (V.1 (58 + 7 * q)) (vP V) ∧ dOK (V.1 (58 + 7 * q + 1)) ∧ vp_in (V.1 (58 + 7 * q + 2)) 2 ∧ vp_in (V.1 (58 + 7 * q + 3)) 3 ∧ vp_in (V.1 (58 + 7 * q + 4)) 2 ∧ vp_in (V.1 (58 + 7 * q + 5)) 7 ∧
  (V.1 (58 + 7 * q + 6) = -2 ∨ vp_in (V.1 (58 + 7 * q + 6)) (vP V)) ∧ (V.2.1 (10 + q) = -2 ∨ vp_in (V.2.1 (10 + q)) 4) ∧ vp_in (V.2.1 (34 + q)) 2 ∧ (∀ i, bt (V.2.1 (22 + q)) i = true → i < vP V) ∧ fb_ct (bt (V.2.1 (22 + q))) 10 ≤ 4
def gi (q k j : Nat) : Nat := 142 + 5 * (6 * q + k) + j
def wfG (V : vV) (q k : Nat) : Prop := vp_in (V.1 (gi q k 0)) (vT V) ∧ vp_in (V.1 (gi q k 1)) (vP V) ∧ vp_in (V.1 (gi q k 2)) 3 ∧ (V.1 (gi q k 2) = 0 ∧ V.1 (gi q k 3) = -2 ∨ V.1 (gi q k 2) ≠ 0 ∧ vp_in (V.1 (gi q k 3)) (vP V)) ∧ (V.1 (gi q k 4) = -2 ∨ vp_in (V.1 (gi q k 4)) (vP V))
def wfW (V : vV) (k : Nat) : Prop := vp_in (V.2.1 (46 + 3 * k)) (vP V) ∧ vp_in (V.2.1 (46 + 3 * k + 1)) (vP V) ∧ dOK (V.2.1 (46 + 3 * k + 2))
def wfL (V : vV) (l : Nat) : Prop := vp_in (V.1 (4 + 5 * l)) 5 ∧ vp_in (V.1 (4 + 5 * l + 1)) 2 ∧ vp_in (V.1 (4 + 5 * l + 2)) 2 ∧ vp_in (V.1 (4 + 5 * l + 3)) 2 ∧ vp_in (V.1 (4 + 5 * l + 4)) 2
def WF (V : vV) : Prop := (vp_in (V.1 0) 11 ∧ vp_in (V.1 1) 9 ∧ vp_in (V.1 2) 13 ∧ vp_in (V.2.1 64) 7) ∧ (∀ p, p < vP V → wfP V p) ∧ (∀ t, t < vT V → wfT V t) ∧ (∀ q, q < vA V → wfA V q ∧ ∀ k, k < vG V q → wfG V q k) ∧ (∀ k, k < vN V → wfW V k) ∧ (∀ l, l < 2 → wfL V l)
def cvP (M : gM) (V : vV) (p : Nat) : Prop := rdI M 19 0 p 0 = V.1 (14 + p) ∧ rdI M 20 0 p 0 = mo (V.2.1 p) ∧ rdI M 21 0 p 0 = V.1 (24 + p)
def cvT (M : gM) (V : vV) (t : Nat) : Prop := rdI M 22 0 t 0 = V.1 (34 + 3 * t) ∧ rdI M 23 0 t 0 = V.1 (34 + 3 * t + 1) ∧ rdI M 24 0 t 0 = V.1 (34 + 3 * t + 2)
def cvA (M : gM) (V : vV) (q : Nat) : Prop := rdI M 25 0 q 0 = V.1 (58 + 7 * q) ∧ rdI M 26 0 q 0 = V.1 (58 + 7 * q + 1) ∧ rdI M 27 0 q 0 = V.1 (58 + 7 * q + 2) ∧ rdI M 28 0 q 0 = V.1 (58 + 7 * q + 3) ∧ rdI M 29 0 q 0 = V.1 (58 + 7 * q + 4) ∧ rdI M 35 0 q 0 = V.1 (58 + 7 * q + 5) ∧
  rdI M 32 0 q 0 = mo (V.1 (58 + 7 * q + 6)) ∧ rdI M 30 0 q 0 = V.2.1 (22 + q) ∧ rdI M 31 0 q 0 = V.2.2 q ∧ rdI M 33 0 q 0 = mo (V.2.1 (10 + q)) ∧ rdI M 34 0 q 0 = V.2.1 (34 + q)
def cvG (M : gM) (V : vV) (q k : Nat) : Prop := rdI M 36 0 q k = V.1 (gi q k 0) ∧ rdI M 37 0 q k = V.1 (gi q k 1) ∧ rdI M 38 0 q k = V.1 (gi q k 2) ∧ rdI M 39 0 q k = mo (V.1 (gi q k 3)) ∧ rdI M 40 0 q k = mo (V.1 (gi q k 4))
def cvW (M : gM) (V : vV) (k : Nat) : Prop := rdI M 10 0 0 k = V.2.1 (46 + 3 * k) ∧ rdI M 11 0 0 k = V.2.1 (46 + 3 * k + 1) ∧ rdI M 12 0 0 k = V.2.1 (46 + 3 * k + 2)
def cvL (M : gM) (V : vV) (l : Nat) : Prop := rdI M 14 0 l 0 = V.1 (4 + 5 * l) ∧ rdI M 15 0 l 0 = V.1 (4 + 5 * l + 1) ∧ rdI M 16 0 l 0 = V.1 (4 + 5 * l + 2) ∧ rdI M 17 0 l 0 = V.1 (4 + 5 * l + 3) ∧ rdI M 18 0 l 0 = V.1 (4 + 5 * l + 4)
def cvF (M : gM) (V : vV) (lf : Nat → Nat) : Prop := (∀ i, i < vA V → lf i < vA V ∧ rdI M 9 0 0 i = nI (lf i)) ∧ ∀ i j, i < j → j < vA V → vlater V (lf i) (lf j) = true
/-- the class's told memory is the view -/
def CV (M : gM) (V : vV) (lf : Nat → Nat) : Prop := (rdI M 5 0 0 0 = V.1 0 ∧ rdI M 6 0 0 0 = V.1 1 ∧ rdI M 7 0 0 0 = V.1 2 ∧ rdI M 4 0 0 0 = V.1 3 ∧ rdI M 8 0 0 0 = V.2.1 64) ∧ (∀ p, p < vP V → cvP M V p) ∧ (∀ t, t < vT V → cvT M V t) ∧ (∀ q, q < vA V → cvA M V q ∧ ∀ k, k < vG V q → cvG M V q k) ∧ (∀ k, k < vN V → cvW M V k) ∧ (∀ l, l < 2 → cvL M V l) ∧ cvF M V lf
theorem CV.same {M N : gM} {V : vV} {lf : Nat → Nat} (h : CV M V lf) (e : ∀ g b c, 4 ≤ g → g ≤ 40 → rdI N g 0 b c = rdI M g 0 b c) : CV N V lf := by
  obtain ⟨⟨a1, a2, a3, a4, a5⟩, hp, ht, ha, hw, hl, hf⟩ := h
  refine ⟨⟨?_, ?_, ?_, ?_, ?_⟩, fun p hp' => ?_, fun t ht' => ?_, fun q hq => ⟨?_, fun k hk => ?_⟩, fun k hk => ?_, fun l hl' => ?_, fun i hi => ⟨(hf.1 i hi).1, ?_⟩, hf.2⟩
  · rw [e _ _ _ (by omega) (by omega)]; exact a1
  · rw [e _ _ _ (by omega) (by omega)]; exact a2
  · rw [e _ _ _ (by omega) (by omega)]; exact a3
  · rw [e _ _ _ (by omega) (by omega)]; exact a4
  · rw [e _ _ _ (by omega) (by omega)]; exact a5
  · have := hp p hp'
    unfold cvP at this ⊢
    rw [e 19 _ _ (by omega) (by omega), e 20 _ _ (by omega) (by omega), e 21 _ _ (by omega) (by omega)]; exact this
  · have := ht t ht'
    unfold cvT at this ⊢
    rw [e 22 _ _ (by omega) (by omega), e 23 _ _ (by omega) (by omega), e 24 _ _ (by omega) (by omega)]; exact this
  · have := (ha q hq).1
    unfold cvA at this ⊢
    rw [e 25 _ _ (by omega) (by omega), e 26 _ _ (by omega) (by omega), e 27 _ _ (by omega) (by omega), e 28 _ _ (by omega) (by omega), e 29 _ _ (by omega) (by omega), e 30 _ _ (by omega) (by omega), e 31 _ _ (by omega) (by omega), e 32 _ _ (by omega) (by omega), e 33 _ _ (by omega) (by omega), e 34 _ _ (by omega) (by omega), e 35 _ _ (by omega) (by omega)]; exact this
  · have := (ha q hq).2 k hk
    unfold cvG at this ⊢
    rw [e 36 _ _ (by omega) (by omega), e 37 _ _ (by omega) (by omega), e 38 _ _ (by omega) (by omega), e 39 _ _ (by omega) (by omega), e 40 _ _ (by omega) (by omega)]; exact this
  · have := hw k hk
    unfold cvW at this ⊢
    rw [e 10 _ _ (by omega) (by omega), e 11 _ _ (by omega) (by omega), e 12 _ _ (by omega) (by omega)]; exact this
  · have := hl l hl'
    unfold cvL at this ⊢
    rw [e 14 _ _ (by omega) (by omega), e 15 _ _ (by omega) (by omega), e 16 _ _ (by omega) (by omega), e 17 _ _ (by omega) (by omega), e 18 _ _ (by omega) (by omega)]; exact this
  · rw [e _ _ _ (by omega) (by omega)]; exact (hf.1 i hi).2
theorem CV.off {M N : gM} {V : vV} {lf : Nat → Nat} {W : List Nat} (h : CV M V lf) (o : offW W M N) (k : W.all (fun g => Nat.blt g 4 || Nat.blt 40 g) = true) : CV N V lf :=
  h.same fun g b c h1 h2 => (o g 0 b c fun q => by
    have := List.all_eq_true.mp k g q
    rcases (Bool.or_eq_true _ _).mp this with z | z
    · have := Nat.le_of_ble_eq_true z; omega
    · have := Nat.le_of_ble_eq_true z; omega).1
theorem mV_off {M N : gM} {W : List Nat} (o : offW W M N) (k : W.all (fun g => g != 88 && g != 90 && g != 92) = true) : mV N = mV M := by
  have e : ∀ g, (g = 88 ∨ g = 90 ∨ g = 92) → ∀ i, rdI N g 0 0 i = rdI M g 0 0 i := fun g hg i => (o g 0 0 i fun q => by
    have := List.all_eq_true.mp k g q
    rcases hg with rfl | rfl | rfl <;> simp at this).1
  unfold mV
  simp only [e 88 (Or.inl rfl), e 90 (Or.inr (Or.inl rfl)), e 92 (Or.inr (Or.inr rfl))]
theorem vpe {x : Int32} {n : Nat} (h : vp_in x n) (hn : n < 2 ^ 31) : x = nI (nn x) ∧ nn x < n := by
  obtain ⟨j, hj, rfl⟩ := vp_in_of h hn
  rw [nn_nI (by omega)]
  exact ⟨rfl, hj⟩
theorem vpi {k n : Nat} (h : k < n) (hn : n < 2 ^ 31 := by omega) : vp_in (nI k) n := vp_in_nI h hn
theorem WF.P {V : vV} (h : WF V) : V.1 0 = nI (vP V) ∧ vP V ≤ 10 := ⟨(vpe h.1.1 (by decide)).1, Nat.le_of_lt_succ (vpe h.1.1 (by decide)).2⟩
theorem WF.T {V : vV} (h : WF V) : V.1 1 = nI (vT V) ∧ vT V ≤ 8 := ⟨(vpe h.1.2.1 (by decide)).1, Nat.le_of_lt_succ (vpe h.1.2.1 (by decide)).2⟩
theorem WF.A {V : vV} (h : WF V) : V.1 2 = nI (vA V) ∧ vA V ≤ 12 := ⟨(vpe h.1.2.2.1 (by decide)).1, Nat.le_of_lt_succ (vpe h.1.2.2.1 (by decide)).2⟩
theorem WF.N {V : vV} (h : WF V) : V.2.1 64 = nI (vN V) ∧ vN V ≤ 6 := ⟨(vpe h.1.2.2.2 (by decide)).1, Nat.le_of_lt_succ (vpe h.1.2.2.2 (by decide)).2⟩
theorem CV.P {M : gM} {V : vV} {lf : Nat → Nat} (c : CV M V lf) (h : WF V) : rdI M 5 0 0 0 = nI (vP V) := c.1.1.trans h.P.1
theorem CV.T {M : gM} {V : vV} {lf : Nat → Nat} (c : CV M V lf) (h : WF V) : rdI M 6 0 0 0 = nI (vT V) := c.1.2.1.trans h.T.1
theorem CV.A {M : gM} {V : vV} {lf : Nat → Nat} (c : CV M V lf) (h : WF V) : rdI M 7 0 0 0 = nI (vA V) := c.1.2.2.1.trans h.A.1
theorem CV.N {M : gM} {V : vV} {lf : Nat → Nat} (c : CV M V lf) (h : WF V) : rdI M 8 0 0 0 = nI (vN V) := c.1.2.2.2.2.trans h.N.1
theorem mP {M : gM} (h : WF (mV M)) : rdI M 88 0 0 (nn 0) = nI (vP (mV M)) := h.P.1
theorem mT {M : gM} (h : WF (mV M)) : rdI M 88 0 0 (nn 1) = nI (vT (mV M)) := h.T.1
theorem mA {M : gM} (h : WF (mV M)) : rdI M 88 0 0 (nn 2) = nI (vA (mV M)) := h.A.1
theorem mN {M : gM} (h : WF (mV M)) : rdI M 92 0 0 (nn 64) = nI (vN (mV M)) := h.N.1
-- indices
theorem ix2 {a k : Nat} (h : a + k < 2 ^ 31) : nn (nI a + nI k) = a + k := by rw [nI_add]; exact nn_nI h
theorem ix0 {k : Nat} (h : k < 1000) : nn ((0 : Int32) + nI k) = k := by rw [show (0 : Int32) + nI k = nI (0 + k) from nI_add 0 k, Nat.zero_add]; exact nn_nI (by omega)
theorem ix10 {k : Nat} (h : k < 1000) : nn ((10 : Int32) + nI k) = 10 + k := by rw [show (10 : Int32) + nI k = nI (10 + k) from nI_add 10 k]; exact nn_nI (by omega)
theorem ix14 {k : Nat} (h : k < 1000) : nn ((14 : Int32) + nI k) = 14 + k := by rw [show (14 : Int32) + nI k = nI (14 + k) from nI_add 14 k]; exact nn_nI (by omega)
theorem ix22 {k : Nat} (h : k < 1000) : nn ((22 : Int32) + nI k) = 22 + k := by rw [show (22 : Int32) + nI k = nI (22 + k) from nI_add 22 k]; exact nn_nI (by omega)
theorem ix24 {k : Nat} (h : k < 1000) : nn ((24 : Int32) + nI k) = 24 + k := by rw [show (24 : Int32) + nI k = nI (24 + k) from nI_add 24 k]; exact nn_nI (by omega)
theorem ix34 {k : Nat} (h : k < 1000) : nn ((34 : Int32) + nI k) = 34 + k := by rw [show (34 : Int32) + nI k = nI (34 + k) from nI_add 34 k]; exact nn_nI (by omega)
theorem in0 {k n : Nat} (h : k < n) (hn : n < 2 ^ 31) : vp_in ((0 : Int32) + nI k) n := by rw [show (0 : Int32) + nI k = nI (0 + k) from nI_add 0 k, Nat.zero_add]; exact vp_in_nI h hn
theorem inN {c : Int32} (a : Nat) (hc : c = nI a) {k n : Nat} (h : a + k < n) (hn : n < 2 ^ 31) : vp_in (c + nI k) n := by rw [hc, nI_add]; exact vp_in_nI h hn
theorem e46 (k : Nat) : (46 : Int32) + 3 * nI k = nI (46 + 3 * k) := by rw [show (3 : Int32) * nI k = nI (3 * k) from pk_mul 3 k, show (46 : Int32) + nI (3 * k) = nI (46 + 3 * k) from nI_add 46 _]
theorem e58 (k : Nat) : (58 : Int32) + 7 * nI k = nI (58 + 7 * k) := by rw [show (7 : Int32) * nI k = nI (7 * k) from pk_mul 7 k, show (58 : Int32) + nI (7 * k) = nI (58 + 7 * k) from nI_add 58 _]
theorem e34 (k : Nat) : (34 : Int32) + 3 * nI k = nI (34 + 3 * k) := by rw [show (3 : Int32) * nI k = nI (3 * k) from pk_mul 3 k, show (34 : Int32) + nI (3 * k) = nI (34 + 3 * k) from nI_add 34 _]
theorem e4 (k : Nat) : (4 : Int32) + 5 * nI k = nI (4 + 5 * k) := by rw [show (5 : Int32) * nI k = nI (5 * k) from pk_mul 5 k, show (4 : Int32) + nI (5 * k) = nI (4 + 5 * k) from nI_add 4 _]
theorem e142 (q k : Nat) : (142 : Int32) + 5 * (6 * nI q + nI k) = nI (gi q k 0) := by rw [show (6 : Int32) * nI q = nI (6 * q) from pk_mul 6 q, nI_add, show (5 : Int32) * nI (6 * q + k) = nI (5 * (6 * q + k)) from pk_mul 5 _, show (142 : Int32) + nI (5 * (6 * q + k)) = nI (142 + 5 * (6 * q + k)) from nI_add 142 _]; rfl
theorem p1 (k : Nat) : nI k + 1 = nI (k + 1) := nI_1 k
theorem p2 (k : Nat) : nI k + 2 = nI (k + 2) := nI_add k 2
theorem p3 (k : Nat) : nI k + 3 = nI (k + 3) := nI_add k 3
theorem p4 (k : Nat) : nI k + 4 = nI (k + 4) := nI_add k 4
theorem p5 (k : Nat) : nI k + 5 = nI (k + 5) := nI_add k 5
theorem p6 (k : Nat) : nI k + 6 = nI (k + 6) := nI_add k 6
theorem p0 (k : Nat) : nI k + 0 = nI k := nI_add k 0
theorem nx {k : Nat} (h : k < 2000) : nn (nI k) = k := nn_nI (by omega)
-- ===== lives =====
def vliv (V : vV) (p : Nat) (d : Int32) : Bool := decide (V.2.1 p = -2 ∨ d < V.2.1 p)
theorem mo_m1 {x : Int32} (h : x = -2 ∨ dOK x) : mo x = -1 ↔ x = -2 := by
  unfold mo
  rcases h with rfl | h
  · simp
  · have : x ≠ -2 := fun q => by rw [q] at h; exact absurd h.1 (by decide)
    rw [if_neg this]
    constructor
    · intro q; rw [q] at h; exact absurd h.1 (by decide)
    · intro q; exact absurd q this
theorem mo_ne {x : Int32} (h : x ≠ -2) : mo x = x := if_neg h
theorem i_nle {x y : Int32} : ¬ x ≤ y ↔ y < x := Int32.not_le
theorem i_nlt {x y : Int32} : ¬ x < y ↔ y ≤ x := Int32.not_lt
theorem sX6_lives {M : gM} {r p : Nat} {d : Int32} : s_X6_livesOn M r p d := by
  unfold s_X6_livesOn s_X6_livesOn_16
  split
  · trivial
  · split <;> trivial
theorem fX6_lives {M : gM} {V : vV} {lf : Nat → Nat} (c : CV M V lf) (h : WF V) {p : Nat} (hp : p < vP V) (d : Int32) : f_X6_livesOn M 0 p d = bz (vliv V p d) := by
  have e := (c.2.1 p hp).2.1
  have w := (h.2.1 p hp).2.1
  unfold f_X6_livesOn f_X6_livesOn_16 vliv
  rw [e, bz_d]
  by_cases q : V.2.1 p = -2
  · rw [if_pos ((mo_m1 w).mpr q), if_pos (Or.inl q)]
  · rw [if_neg (fun z => q ((mo_m1 w).mp z)), mo_ne q]
    by_cases q2 : V.2.1 p ≤ d
    · rw [if_pos q2, if_neg (fun z => z.elim q (fun z => (i_nle.mpr z) q2))]
    · rw [if_neg q2, if_pos (Or.inr (i_nle.mp q2))]
theorem sX6_mortal {M : gM} {r p : Nat} : s_X6_isMortal M r p := by
  unfold s_X6_isMortal
  split <;> trivial
theorem fX6_mortal {M : gM} {V : vV} {lf : Nat → Nat} (c : CV M V lf) (h : WF V) {p : Nat} (hp : p < vP V) : f_X6_isMortal M 0 p = bz (decide (V.2.1 p ≠ -2)) := by
  have e := (c.2.1 p hp).2.1
  have w := (h.2.1 p hp).2.1
  unfold f_X6_isMortal
  rw [e, bz_d]
  by_cases q : V.2.1 p = -2
  · rw [if_pos ((mo_m1 w).mpr q), if_neg (fun z => z q)]
  · rw [if_neg (fun z => q ((mo_m1 w).mp z)), if_pos q]
theorem s_dies {M : gM} {p : Nat} (hp : p < 65) : s_X13_diesOn M (nI p) := ⟨in0 hp (by decide), trivial⟩
theorem f_dies {M : gM} {p : Nat} (hp : p < 65) : f_X13_diesOn M (nI p) = (mV M).2.1 p := by
  unfold f_X13_diesOn
  rw [ix0 (by omega)]
  rfl
theorem s_lives {M : gM} {p : Nat} (hp : p < 65) {d : Int32} : s_X13_lives M (nI p) d := by
  unfold s_X13_lives s_X13_lives_19
  refine ⟨s_dies hp, ?_⟩
  split
  · trivial
  · refine ⟨s_dies hp, ?_⟩
    split <;> trivial
theorem f_lives {M : gM} {p : Nat} (hp : p < 65) (d : Int32) : f_X13_lives M (nI p) d = bz (vliv (mV M) p d) := by
  unfold f_X13_lives f_X13_lives_19 vliv
  rw [f_dies hp, bz_d]
  by_cases q : (mV M).2.1 p = -2
  · rw [if_pos q, if_pos (Or.inl q)]
  · rw [if_neg q]
    by_cases q2 : (mV M).2.1 p ≤ d
    · rw [if_pos q2, if_neg (fun z => z.elim q (fun z => (i_nle.mpr z) q2))]
    · rw [if_neg q2, if_pos (Or.inr (i_nle.mp q2))]
-- ===== children =====
def vkids (V : vV) (p : Nat) : Int32 := bo (fun c => bt (V.1 (24 + c)) p) (vP V)
theorem X7_children {M : gM} {V : vV} {lf : Nat → Nat} (c : CV M V lf) (h : WF V) {p : Nat} (hp : p < 32) : s_X7_childrenOf M 0 (nI p) ∧ f_X7_childrenOf M 0 (nI p) = vkids V p := by
  have hN := c.P h
  have h10 := h.P.2
  unfold s_X7_childrenOf f_X7_childrenOf
  refine lp (fun n k (s : Int32) => f_X7_childrenOf_4 M 0 (nI p) n s (nI k)) (fun n k s => s_X7_childrenOf_4 M 0 (nI p) n s (nI k)) (fun k s => s = bo (fun c => bt (V.1 (24 + c)) p) k) (fun z => z = vkids V p) (vP V) ?_ ?_ FU 0 0 (Nat.zero_le _) (by rw [FU_eq]; omega) rfl
  · intro n k s hk hI ih
    simp only [s_X7_childrenOf_4, f_X7_childrenOf_4, hN, if_neg (nI_ge hk (by omega)), bnd, bndP, nn_nI (show k < 2 ^ 31 by omega), (c.2.1 k hk).2.2, b_read _ hp, p1]
    have := ih (s ||| bz (bt (V.1 (24 + k)) p) <<< (nI k &&& 31)) (by rw [hI]; rfl)
    exact ⟨⟨vpi (by omega), this.1⟩, this.2⟩
  · intro n s hI
    simp only [s_X7_childrenOf_4, f_X7_childrenOf_4, hN, if_pos (nI_le (Nat.le_refl (vP V)) (by omega))]
    exact ⟨trivial, hI⟩
theorem X13_children {M : gM} (h : WF (mV M)) {p : Nat} (hp : p < 32) : s_X13_childrenOf M (nI p) ∧ f_X13_childrenOf M (nI p) = vkids (mV M) p := by
  have hN := mP h
  have h10 := h.P.2
  unfold s_X13_childrenOf f_X13_childrenOf
  refine lp (fun n k (s : Int32) => f_X13_childrenOf_4 M (nI p) n s (nI k)) (fun n k s => s_X13_childrenOf_4 M (nI p) n s (nI k)) (fun k s => s = bo (fun c => bt ((mV M).1 (24 + c)) p) k) (fun z => z = vkids (mV M) p) (vP (mV M)) ?_ ?_ FU 0 0 (Nat.zero_le _) (by rw [FU_eq]; omega) rfl
  · intro n k s hk hI ih
    simp only [s_X13_childrenOf_4, f_X13_childrenOf_4, hN, if_neg (nI_ge hk (by omega)), bnd, bndP, ix24 (show k < 1000 by omega), b_read _ hp, p1]
    have := ih (s ||| bz (bt ((mV M).1 (24 + k)) p) <<< (nI k &&& 31)) (by rw [hI]; rfl)
    exact ⟨⟨vpi (k := 0) (by omega), inN 24 rfl (by omega) (by decide), this.1⟩, this.2⟩
  · intro n s hI
    simp only [s_X13_childrenOf_4, f_X13_childrenOf_4, hN, if_pos (nI_le (Nat.le_refl (vP (mV M))) (by omega))]
    exact ⟨⟨vpi (k := 0) (by omega), trivial⟩, hI⟩
-- ===== the living ones =====
def vlvs (V : vV) (set d : Int32) : Int32 := bo (fun p => bt set p && vliv V p d) (vP V)
theorem X7_living {M : gM} {V : vV} {lf : Nat → Nat} (c : CV M V lf) (h : WF V) (d : Int32) : s_X7_livingOn M 0 d ∧ f_X7_livingOn M 0 d = bo (fun p => vliv V p d) (vP V) := by
  have hN := c.P h
  have h10 := h.P.2
  unfold s_X7_livingOn f_X7_livingOn
  refine lp (fun n k (s : Int32) => f_X7_livingOn_4 M 0 d n s (nI k)) (fun n k s => s_X7_livingOn_4 M 0 d n s (nI k)) (fun k s => s = bo (fun p => vliv V p d) k) (fun z => z = bo (fun p => vliv V p d) (vP V)) (vP V) ?_ ?_ FU 0 0 (Nat.zero_le _) (by rw [FU_eq]; omega) rfl
  · intro n k s hk hI ih
    simp only [s_X7_livingOn_4, f_X7_livingOn_4, hN, if_neg (nI_ge hk (by omega)), bnd, bndP, nn_nI (show k < 2 ^ 31 by omega), fX6_lives c h hk, p1, bz_0]
    cases hv : vliv V k d
    · have := ih s (by rw [hI]; exact bo_f (by omega) hv)
      simp only [if_true]
      exact ⟨⟨vpi (by omega), sX6_lives, this.1⟩, this.2⟩
    · have := ih (s ||| (1 <<< (nI k &&& 31))) (by rw [hI]; exact bo_t hv)
      simp only [Bool.true_eq_false, if_false]
      exact ⟨⟨vpi (by omega), sX6_lives, this.1⟩, this.2⟩
  · intro n s hI
    simp only [s_X7_livingOn_4, f_X7_livingOn_4, hN, if_pos (nI_le (Nat.le_refl (vP V)) (by omega))]
    exact ⟨trivial, hI⟩
theorem X13_living {M : gM} (h : WF (mV M)) (set d : Int32) : s_X13_living_ M set d 0 ∧ f_X13_living_ M set d 0 = vlvs (mV M) set d := by
  have hN := mP h
  have h10 := h.P.2
  unfold s_X13_living_ f_X13_living_
  refine lp (fun n k (s : Int32) => f_X13_living__6 M set d n s (nI k)) (fun n k s => s_X13_living__6 M set d n s (nI k)) (fun k s => s = bo (fun p => bt set p && vliv (mV M) p d) k) (fun z => z = vlvs (mV M) set d) (vP (mV M)) ?_ ?_ FU 0 0 (Nat.zero_le _) (by rw [FU_eq]; omega) rfl
  · intro n k s hk hI ih
    simp only [s_X13_living__6, f_X13_living__6, s_X13_living__46, f_X13_living__46, hN, if_neg (nI_ge hk (by omega)), bnd, bndP, f_lives (show k < 65 by omega), p1, bz_0, b_read _ (show k < 32 by omega), bz_1, or_0]
    cases hb : bt set k
    · have := ih s (by rw [hI]; exact bo_f (by omega) (by rw [hb]; rfl))
      simp only [Bool.false_eq_true, if_false]
      exact ⟨⟨vpi (k := 0) (by omega), this.1⟩, this.2⟩
    · simp only [if_true]
      cases hv : vliv (mV M) k d
      · have := ih s (by rw [hI]; exact bo_f (by omega) (by rw [hb, hv]; rfl))
        simp only [if_true]
        exact ⟨⟨vpi (k := 0) (by omega), s_lives (by omega), this.1⟩, this.2⟩
      · have := ih (s ||| (1 <<< (nI k &&& 31))) (by rw [hI]; exact bo_t (P := fun p => bt set p && vliv (mV M) p d) (by show (bt set k && vliv (mV M) k d) = true; rw [hb, hv]; rfl))
        simp only [Bool.true_eq_false, if_false]
        exact ⟨⟨vpi (k := 0) (by omega), s_lives (by omega), this.1⟩, this.2⟩
  · intro n s hI
    simp only [s_X13_living__6, f_X13_living__6, hN, if_pos (nI_le (Nat.le_refl (vP (mV M))) (by omega))]
    exact ⟨⟨vpi (k := 0) (by omega), trivial⟩, hI⟩
theorem vkids_lv {V : vV} (h : WF V) (p : Nat) (d : Int32) : vkids V p &&& bo (fun p => vliv V p d) (vP V) = vlvs V (vkids V p) d := by
  have h10 := h.P.2
  rw [and_bo (by omega)]
  rfl
theorem par_lv {V : vV} (h : WF V) (x d : Int32) : x &&& bo (fun p => vliv V p d) (vP V) = vlvs V x d := by
  have h10 := h.P.2
  rw [and_bo (by omega)]
  rfl
end
