set_option linter.all false
noncomputable section
theorem mV_wr {M : gM} {g a b c : Nat} {v : Int32} (h : g ≠ 88 ∧ g ≠ 90 ∧ g ≠ 92) : mV (wrI M g a b c v) = mV M := by
  unfold mV
  simp only [rwI, h.1.symm, h.2.1.symm, h.2.2.symm, false_and, if_false]
theorem mV_wrJ {M : gM} {g a b c : Nat} {v : Int64} : mV (wrJ M g a b c v) = mV M := rfl
-- ===== is it one =====
def isB (x : Int32) (n : Nat) : Bool := decide (¬ x < 0 ∧ x < nI n)
theorem isB_nI {j n : Nat} (hj : j < 2 ^ 31) (hn : n < 2 ^ 31) : isB (nI j) n = decide (j < n) := by
  unfold isB
  by_cases h : j < n
  · rw [decide_eq_true h]
    exact decide_eq_true ⟨nI_pos hj, nI_lt h hn⟩
  · rw [decide_eq_false h]
    exact decide_eq_false fun q => nI_nlt (by omega) hj q.2
theorem isB_t {x : Int32} {n : Nat} (hn : n < 2 ^ 31) (h : isB x n = true) : ∃ j, j < n ∧ x = nI j := by
  obtain ⟨h1, h2⟩ := of_decide_eq_true h
  obtain ⟨j, hj, rfl⟩ := nI_of h1
  exact ⟨j, (nI_ltI hj hn).mp h2, rfl⟩
theorem sX7_isP {M : gM} {x : Int32} : s_X7_isPerson M 0 x := by
  unfold s_X7_isPerson s_X7_isPerson_22
  repeat' split
  all_goals trivial
theorem sX7_isT {M : gM} {x : Int32} : s_X7_isThing M 0 x := by
  unfold s_X7_isThing s_X7_isThing_22
  repeat' split
  all_goals trivial
theorem sX7_isA {M : gM} {x : Int32} : s_X7_isPaper M 0 x := by
  unfold s_X7_isPaper s_X7_isPaper_22
  repeat' split
  all_goals trivial
theorem isB_cl {x : Int32} {n N : Nat} (h : n ≤ N) (hN : N < 2 ^ 31) : (if x < 0 then (0 : Int32) else if nI n ≤ x then 0 else if nI N ≤ x then 0 else 1) = bz (isB x n) := by
  unfold isB
  rw [bz_d]
  by_cases a : x < 0
  · rw [if_pos a, if_neg (fun q => q.1 a)]
  · rw [if_neg a]
    by_cases b : nI n ≤ x
    · rw [if_pos b, if_neg (fun q => (i_nlt.mpr b) q.2)]
    · have b3 : ¬ nI N ≤ x := by
        obtain ⟨j, hj, rfl⟩ := nI_of a
        have : j < n := (nI_ltI hj (by omega)).mp (i_nle.mp b)
        exact nI_ge (a := j) (b := N) (by omega) hN
      rw [if_neg b, if_neg b3, if_pos ⟨a, i_nle.mp b⟩]
theorem isB_md {x : Int32} {n : Nat} : (if x < 0 then (0 : Int32) else if nI n ≤ x then 0 else 1) = bz (isB x n) := by
  unfold isB
  rw [bz_d]
  by_cases a : x < 0
  · rw [if_pos a, if_neg (fun q => q.1 a)]
  · rw [if_neg a]
    by_cases b : nI n ≤ x
    · rw [if_pos b, if_neg (fun q => (i_nlt.mpr b) q.2)]
    · rw [if_neg b, if_pos ⟨a, i_nle.mp b⟩]
theorem fX7_isP {M : gM} {V : vV} {lf : Nat → Nat} (c : CV M V lf) (h : WF V) (x : Int32) : f_X7_isPerson M 0 x = bz (isB x (vP V)) := by
  unfold f_X7_isPerson f_X7_isPerson_22
  rw [c.P h]
  exact isB_cl (N := 10) h.P.2 (by decide)
theorem fX7_isT {M : gM} {V : vV} {lf : Nat → Nat} (c : CV M V lf) (h : WF V) (x : Int32) : f_X7_isThing M 0 x = bz (isB x (vT V)) := by
  unfold f_X7_isThing f_X7_isThing_22
  rw [c.T h]
  exact isB_cl (N := 8) h.T.2 (by decide)
theorem fX7_isA {M : gM} {V : vV} {lf : Nat → Nat} (c : CV M V lf) (h : WF V) (x : Int32) : f_X7_isPaper M 0 x = bz (isB x (vA V)) := by
  unfold f_X7_isPaper f_X7_isPaper_22
  rw [c.A h]
  exact isB_cl (N := 12) h.A.2 (by decide)
theorem s_isP {M : gM} {x : Int32} : s_X13_isPerson M x := by
  unfold s_X13_isPerson s_X13_isPerson_18
  have i0 : vp_in (0 : Int32) 502 := vpi (k := 0) (by omega)
  repeat' (first | split | exact trivial | (refine ⟨i0, ?_⟩))
theorem s_isT {M : gM} {x : Int32} : s_X13_isThing M x := by
  unfold s_X13_isThing s_X13_isThing_18
  have i0 : vp_in (1 : Int32) 502 := vpi (k := 1) (by omega)
  repeat' (first | split | exact trivial | (refine ⟨i0, ?_⟩))
theorem s_isA {M : gM} {x : Int32} : s_X13_isPaper M x := by
  unfold s_X13_isPaper s_X13_isPaper_18
  have i0 : vp_in (2 : Int32) 502 := vpi (k := 2) (by omega)
  repeat' (first | split | exact trivial | (refine ⟨i0, ?_⟩))
theorem f_isP {M : gM} (h : WF (mV M)) (x : Int32) : f_X13_isPerson M x = bz (isB x (vP (mV M))) := by
  unfold f_X13_isPerson f_X13_isPerson_18
  rw [mP h]
  exact isB_md
theorem f_isT {M : gM} (h : WF (mV M)) (x : Int32) : f_X13_isThing M x = bz (isB x (vT (mV M))) := by
  unfold f_X13_isThing f_X13_isThing_18
  rw [mT h]
  exact isB_md
theorem f_isA {M : gM} (h : WF (mV M)) (x : Int32) : f_X13_isPaper M x = bz (isB x (vA (mV M))) := by
  unfold f_X13_isPaper f_X13_isPaper_18
  rw [mA h]
  exact isB_md
-- ===== who may take =====
def whoOK (V : vV) (x : Int32) : Prop := x = -2 ∨ vp_in x (vP V)
def vmay (V : vV) (q t : Nat) (who d : Int32) : Bool := decide (who ≠ -2) && vliv V (nn who) d && (!bt (V.2.1 (22 + q)) (nn who) || vhand V q (vld V q) || vhand V q (vlt V t))
theorem X4_may {M : gM} {V : vV} {lf : Nat → Nat} (c : CV M V lf) (h : WF V) {q t : Nat} (hq : q < vA V) (ht : t < vT V) {who : Int32} (hw : whoOK V who) (hd : V.2.1 (vmk V q) ≠ -2) : s_X4_mayTake M q (mo who) (nI t) ∧ f_X4_mayTake M q (mo who) (nI t) = bz (vmay V q t who (V.2.1 (vmk V q))) := by
  have h10 := h.P.2
  have h8 := h.T.2
  obtain ⟨e25, e26, e27, e28, e29, e35, e32, e30, e31, e33, e34'⟩ := (c.2.2.2.1 q hq).1
  obtain ⟨m1, m2⟩ := wmk h hq
  obtain ⟨l1, l2⟩ := wld h hq
  obtain ⟨t1, t2⟩ := wlt h ht
  have ed := (c.2.1 _ m2).2.1
  have et := (c.2.2.1 t ht).2.1
  obtain ⟨a1, a2⟩ := X4_hand c h hq l2
  obtain ⟨b1, b2⟩ := X4_hand c h hq t2
  have i1 : vp_in (nI (vmk V q)) 10 := vpi (by omega)
  have i2 : vp_in (nI t) 8 := vpi (by omega)
  simp only [s_X4_mayTake, f_X4_mayTake, s_X4_mayTake_83, f_X4_mayTake_83, sX7_isP, fX7_isP c h, e25, e27, m1, l1, nn_nI (show vmk V q < 2 ^ 31 by omega), nn_nI (show t < 2 ^ 31 by omega), ed, mo_ne hd, et, t1, a1, a2, b1, b2, i1, i2, sX6_lives, sX5_wit, true_and, bz_0, vmay]
  rcases hw with rfl | hw
  · have : isB (mo (-2)) (vP V) = false := by rw [show mo (-2) = -1 from rfl]; unfold isB; exact decide_eq_false fun q => q.1 (by decide)
    rw [this]
    simp [bz]
  · obtain ⟨j, hj, rfl⟩ := vp_in_of hw (by omega)
    have ne := nI_ne (show j < 2 ^ 31 by omega)
    have i3 : vp_in (nI j) 10 := vpi (by omega)
    rw [mo_ne ne.1]
    simp only [isB_nI (show j < 2 ^ 31 by omega) (show vP V < 2 ^ 31 by omega), hj, decide_true, Bool.true_eq_false, if_false, nn_nI (show j < 2 ^ 31 by omega), i3, true_and, fX6_lives c h hj, fX5_wit (show j < 32 by omega), e30, bz_0]
    cases hl : vliv V j (V.2.1 (vmk V q))
    · simp [bz]
    · cases hb : bt (V.2.1 (22 + q)) j
      · simp [bz, ne.1]
      · cases hh1 : vhand V q (vld V q) <;> cases hh2 : vhand V q (vlt V t) <;> simp [bz, ne.1]
theorem X13_may {M : gM} (h : WF (mV M)) {q t : Nat} (hq : q < vA (mV M)) (ht : t < vT (mV M)) {who : Int32} (hw : whoOK (mV M) who) (d : Int32) : s_X13_mayTake M (nI q) (nI t) who d ∧ f_X13_mayTake M (nI q) (nI t) who d = bz (vmay (mV M) q t who d) := by
  have h10 := h.P.2
  have h8 := h.T.2
  have h12 := h.A.2
  have wl := (h.2.2.2.1 q hq).1.2.2.1
  have wt := (h.2.2.1 t ht).2.1
  have i3 := fhas (M := M) 1 rfl wl (by omega)
  have i4 := shas (M := M) 1 rfl wl (by omega)
  have i5 := fhas (M := M) 1 rfl wt (by omega)
  have i6 := shas (M := M) 1 rfl wt (by omega)
  rw [show nI 1 = 1 from rfl] at i3 i4 i5 i6
  have i1 : vp_in ((22 : Int32) + nI q) 65 := inN 22 rfl (by omega) (by decide)
  have n2 : nn ((mV M).1 (58 + 7 * q + 2)) = vld (mV M) q := rfl
  have n3 : nn ((mV M).1 (34 + 3 * t + 1)) = vlt (mV M) t := rfl
  simp only [s_X13_mayTake, f_X13_mayTake, s_X13_mayTake_55, f_X13_mayTake_55, s_X13_mayTake_59, f_X13_mayTake_59, s_X13_mayTake_60, f_X13_mayTake_60, s_X13_mayTake_83, f_X13_mayTake_83, fof4 (show q < 12 by omega), sof4 (show q < 12 by omega), fof2 (show q < 12 by omega), sof2 (show q < 12 by omega), flnd (show t < 8 by omega), slnd (show t < 8 by omega), i1, i3, i4, i5, i6, n2, n3, ix22 (show q < 1000 by omega), x92, true_and, bz_0, o1, if_false, if_true, vmay]
  rcases hw with rfl | hw
  · simp [bz]
  · obtain ⟨j, hj, rfl⟩ := vp_in_of hw (by omega)
    have ne := nI_ne (show j < 2 ^ 31 by omega)
    simp only [ne.1, if_false, nn_nI (show j < 2 ^ 31 by omega), f_lives (show j < 65 by omega), s_lives (show j < 65 by omega), true_and, bz_0, b_read _ (show j < 32 by omega), vhand]
    cases hl : vliv (mV M) j d
    · simp [bz]
    · cases hb : bt ((mV M).2.1 (22 + q)) j
      · by_cases z1 : (mV M).1 (58 + 7 * q + 4) = 1
        · by_cases z2 : (mV M).1 (4 + 5 * vld (mV M) q + 1) = 1 <;> by_cases z3 : (mV M).1 (4 + 5 * vlt (mV M) t + 1) = 1 <;> simp [bz, z1, z2, z3, ne.1]
        · simp [bz, z1, ne.1]
      · by_cases z1 : (mV M).1 (58 + 7 * q + 4) = 1
        · by_cases z2 : (mV M).1 (4 + 5 * vld (mV M) q + 1) = 1 <;> by_cases z3 : (mV M).1 (4 + 5 * vlt (mV M) t + 1) = 1 <;> simp [bz, z1, z2, z3, ne.1]
        · simp [bz, z1, ne.1]
-- ===== who takes by gives =====
def vso (V : vV) (q k : Nat) (d : Int32) : Bool := decide (V.1 (gi q k 2) = 0) || (vliv V (nn (V.1 (gi q k 3))) d == decide (V.1 (gi q k 2) = 1))
def vtg (V : vV) (q t : Nat) (d : Int32) : Nat → Nat → Int32
  | 0, _ => -2
  | j + 1, k => if V.1 (gi q k 0) = nI t ∧ vso V q k d = true then (if vmay V q t (V.1 (gi q k 1)) d = true then V.1 (gi q k 1) else if vmay V q t (V.1 (gi q k 4)) d = true then V.1 (gi q k 4) else vtg V q t d j (k + 1)) else vtg V q t d j (k + 1)
def vtake (V : vV) (q t : Nat) (d : Int32) : Int32 := vtg V q t d (vG V q) 0
theorem wG {V : vV} (h : WF V) {q : Nat} (hq : q < vA V) : V.1 (58 + 7 * q + 5) = nI (vG V q) ∧ vG V q ≤ 6 := by
  have := vpe (h.2.2.2.1 q hq).1.2.2.2.2.2.1 (by decide)
  exact ⟨this.1, Nat.le_of_lt_succ this.2⟩
theorem vtg_ok {V : vV} (h : WF V) {q : Nat} (hq : q < vA V) (t : Nat) (d : Int32) : ∀ j k, k + j ≤ vG V q → whoOK V (vtg V q t d j k) := by
  intro j
  induction j with
  | zero => intro k _; exact Or.inl rfl
  | succ j ih =>
    intro k hk
    have w := (h.2.2.2.1 q hq).2 k (by omega)
    rw [vtg]
    split
    · split
      · exact Or.inr w.2.1
      · split
        · exact w.2.2.2.2
        · exact ih _ (by omega)
    · exact ih _ (by omega)
theorem vtake_ok {V : vV} (h : WF V) {q : Nat} (hq : q < vA V) (t : Nat) (d : Int32) : whoOK V (vtake V q t d) := vtg_ok h hq t d _ _ (by omega)
theorem X4_so {M : gM} {V : vV} {lf : Nat → Nat} (c : CV M V lf) (h : WF V) {q k : Nat} (hq : q < vA V) (hk : k < vG V q) (hd : V.2.1 (vmk V q) ≠ -2) : s_X4_isSo M q (nI k) ∧ f_X4_isSo M q (nI k) = bz (vso V q k (V.2.1 (vmk V q))) := by
  have h10 := h.P.2
  have hG := (wG h hq).2
  obtain ⟨e25, e26, e27, e28, e29, e35, e32, e30, e31, e33, e34'⟩ := (c.2.2.2.1 q hq).1
  obtain ⟨g1, g2, g3, g4, g5⟩ := (c.2.2.2.1 q hq).2 k hk
  have w := ((h.2.2.2.1 q hq).2 k hk).2.2.2.1
  obtain ⟨m1, m2⟩ := wmk h hq
  have ed := (c.2.1 _ m2).2.1
  have i1 : vp_in (nI (vmk V q)) 10 := vpi (by omega)
  have i2 : vp_in (nI k) 6 := vpi (by omega)
  simp only [s_X4_isSo, f_X4_isSo, s_X4_isSo_75, f_X4_isSo_75, bnd, bndP, sX7_isP, fX7_isP c h, nn_nI (show k < 2 ^ 31 by omega), g3, g4, e25, m1, nn_nI (show vmk V q < 2 ^ 31 by omega), ed, mo_ne hd, i1, i2, sX6_lives, true_and, bz_0, vso]
  rcases w with ⟨w1, w2⟩ | ⟨w1, w2⟩
  · simp [w1, bz]
  · obtain ⟨j, hj, ej⟩ := vp_in_of w2 (by omega)
    have ne := nI_ne (show j < 2 ^ 31 by omega)
    have i3 : vp_in (nI j) 10 := vpi (by omega)
    simp only [w1, if_false, ej, mo_ne ne.1, isB_nI (show j < 2 ^ 31 by omega) (show vP V < 2 ^ 31 by omega), hj, decide_true, Bool.true_eq_false, nn_nI (show j < 2 ^ 31 by omega), fX6_lives c h hj, i3, true_and]
    by_cases z : V.1 (gi q k 2) = 1
    · cases hl : vliv V j (V.2.1 (vmk V q)) <;> simp [z, bz]
    · cases hl : vliv V j (V.2.1 (vmk V q)) <;> simp [z, bz]
theorem X4_gives {M : gM} {V : vV} {lf : Nat → Nat} (c : CV M V lf) (h : WF V) {q t : Nat} (hq : q < vA V) (ht : t < vT V) (hd : V.2.1 (vmk V q) ≠ -2) : s_X4_takerByGives M q (nI t) ∧ f_X4_takerByGives M q (nI t) = mo (vtake V q t (V.2.1 (vmk V q))) := by
  have hG := wG h hq
  obtain ⟨e25, e26, e27, e28, e29, e35, e32, e30, e31, e33, e34'⟩ := (c.2.2.2.1 q hq).1
  unfold s_X4_takerByGives f_X4_takerByGives
  refine lp (fun n k (s : Unit) => f_X4_takerByGives_2 M q (nI t) n (nI k)) (fun n k s => s_X4_takerByGives_2 M q (nI t) n (nI k)) (fun k s => vtg V q t (V.2.1 (vmk V q)) (vG V q - k) k = vtake V q t (V.2.1 (vmk V q))) (fun z => z = mo (vtake V q t (V.2.1 (vmk V q)))) (vG V q) ?_ ?_ FU 0 () (Nat.zero_le _) (by rw [FU_eq]; omega) rfl
  · intro n k s hk hI ih
    obtain ⟨g1, g2, g3, g4, g5⟩ := (c.2.2.2.1 q hq).2 k hk
    have w := (h.2.2.2.1 q hq).2 k hk
    obtain ⟨a1, a2⟩ := X4_so c h hq hk hd
    obtain ⟨b1, b2⟩ := X4_may c h hq ht (who := V.1 (gi q k 1)) (Or.inr w.2.1) hd
    obtain ⟨d1, d2⟩ := X4_may c h hq ht (who := V.1 (gi q k 4)) w.2.2.2.2 hd
    have mw : mo (V.1 (gi q k 1)) = V.1 (gi q k 1) := mo_ne (vp_ne w.2.1 (by have := h.P.2; omega)).1
    rw [mw] at b1 b2
    have i2 : vp_in (nI k) 6 := vpi (by omega)
    have n6 : ¬ (6 : Int32) ≤ nI k := nI_ge (b := 6) (by omega) (by decide)
    rw [show vG V q - k = (vG V q - (k + 1)) + 1 by omega, vtg] at hI
    simp only [s_X4_takerByGives_2, f_X4_takerByGives_2, e35, hG.1, if_neg (nI_ge hk (by omega)), if_neg n6, nn_nI (show k < 2 ^ 31 by omega), g1, g2, g5, a1, a2, b1, b2, d1, d2, i2, p1, true_and, and_true, bz_0]
    by_cases z1 : V.1 (gi q k 0) = nI t
    · cases z2 : vso V q k (V.2.1 (vmk V q))
      · rw [if_neg (by rw [z2]; simp)] at hI
        simp only [z1, if_true]
        exact ih () hI
      · rw [if_pos ⟨z1, z2⟩] at hI
        cases z3 : vmay V q t (V.1 (gi q k 1)) (V.2.1 (vmk V q))
        · rw [if_neg (by rw [z3]; simp)] at hI
          cases z4 : vmay V q t (V.1 (gi q k 4)) (V.2.1 (vmk V q))
          · rw [if_neg (by rw [z4]; simp)] at hI
            simp only [z1, if_true, Bool.true_eq_false, if_false]
            exact ih () hI
          · rw [if_pos z4] at hI
            simp only [z1, if_true, Bool.true_eq_false, if_false]
            exact ⟨trivial, by rw [hI]⟩
        · rw [if_pos z3] at hI
          simp only [z1, if_true, Bool.true_eq_false, if_false]
          exact ⟨trivial, by rw [← hI, mw]⟩
    · rw [if_neg (fun z => z1 z.1)] at hI
      simp only [z1, if_false]
      exact ih () hI
  · intro n s hI
    simp only [s_X4_takerByGives_2, f_X4_takerByGives_2, e35, hG.1, if_pos (nI_le (Nat.le_refl (vG V q)) (by omega))]
    refine ⟨trivial, ?_⟩
    rw [← hI, Nat.sub_self, vtg]
    rfl
theorem gip {q k j i : Nat} (h : i = j) : gi q k 0 + j = gi q k i := by subst h; unfold gi; omega
theorem X13_gives {M : gM} (h : WF (mV M)) {q t : Nat} (hq : q < vA (mV M)) (ht : t < vT (mV M)) (d : Int32) : s_X13_takerBy M (nI q) (nI t) d (-2) ∧ f_X13_takerBy M (nI q) (nI t) d (-2) = vtake (mV M) q t d := by
  have h10 := h.P.2
  have h12 := h.A.2
  have hG := wG h hq
  unfold s_X13_takerBy f_X13_takerBy
  refine lp (fun n k (s : Unit) => f_X13_takerBy_3 M (nI q) (nI t) d (-2) n (nI k)) (fun n k s => s_X13_takerBy_3 M (nI q) (nI t) d (-2) n (nI k)) (fun k s => vtg (mV M) q t d (vG (mV M) q - k) k = vtake (mV M) q t d) (fun z => z = vtake (mV M) q t d) (vG (mV M) q) ?_ ?_ FU 0 () (Nat.zero_le _) (by rw [FU_eq]; omega) rfl
  · intro n k s hk hI ih
    have w := (h.2.2.2.1 q hq).2 k hk
    obtain ⟨b1, b2⟩ := X13_may h hq ht (who := (mV M).1 (gi q k 1)) (Or.inr w.2.1) d
    obtain ⟨d1, d2⟩ := X13_may h hq ht (who := (mV M).1 (gi q k 4)) w.2.2.2.2 d
    have gb : gi q k 0 + 4 < 502 := by unfold gi; omega
    have i0 : vp_in (nI (gi q k 0)) 502 := vpi (by omega)
    have i1 : vp_in (nI (gi q k 1)) 502 := vpi (by rw [← gip (j := 1) rfl]; omega)
    have i2 : vp_in (nI (gi q k 2)) 502 := vpi (by rw [← gip (j := 2) rfl]; omega)
    have i3 : vp_in (nI (gi q k 3)) 502 := vpi (by rw [← gip (j := 3) rfl]; omega)
    have i4 : vp_in (nI (gi q k 4)) 502 := vpi (by rw [← gip (j := 4) rfl]; omega)
    have n0 : nn (nI (gi q k 0)) = gi q k 0 := nn_nI (by omega)
    have n1 : nn (nI (gi q k 1)) = gi q k 1 := nn_nI (by rw [← gip (j := 1) rfl]; omega)
    have n2 : nn (nI (gi q k 2)) = gi q k 2 := nn_nI (by rw [← gip (j := 2) rfl]; omega)
    have n3 : nn (nI (gi q k 3)) = gi q k 3 := nn_nI (by rw [← gip (j := 3) rfl]; omega)
    have n4 : nn (nI (gi q k 4)) = gi q k 4 := nn_nI (by rw [← gip (j := 4) rfl]; omega)
    rw [show vG (mV M) q - k = (vG (mV M) q - (k + 1)) + 1 by omega, vtg] at hI
    simp only [s_X13_takerBy_3, f_X13_takerBy_3, s_X13_takerBy_84, f_X13_takerBy_84, s_X13_takerBy_90, f_X13_takerBy_90, bnd, bndP, fof5 (show q < 12 by omega), sof5 (show q < 12 by omega), hG.1, if_neg (nI_ge hk (by omega)), e142, p1, p2, p3, p4, gip (q := q) (k := k) (j := 1) rfl, gip (q := q) (k := k) (j := 2) rfl, gip (q := q) (k := k) (j := 3) rfl, gip (q := q) (k := k) (j := 4) rfl, n0, n1, n2, n3, n4, i0, i1, i2, i3, i4, x88, b1, b2, d1, d2, true_and, and_true, bz_0]
    by_cases z1 : (mV M).1 (gi q k 0) = nI t
    · have main : vso (mV M) q k d = true → ((vmay (mV M) q t ((mV M).1 (gi q k 1)) d = false → (vmay (mV M) q t ((mV M).1 (gi q k 4)) d = false → s_X13_takerBy_3 M (nI q) (nI t) d (-2) n (nI (k + 1)) ∧ f_X13_takerBy_3 M (nI q) (nI t) d (-2) n (nI (k + 1)) = vtake (mV M) q t d) ∧ (vmay (mV M) q t ((mV M).1 (gi q k 4)) d = true → (mV M).1 (gi q k 4) = vtake (mV M) q t d)) ∧ (vmay (mV M) q t ((mV M).1 (gi q k 1)) d = true → (mV M).1 (gi q k 1) = vtake (mV M) q t d)) := by
        intro z2
        rw [if_pos ⟨z1, z2⟩] at hI
        refine ⟨fun z3 => ⟨fun z4 => ?_, fun z4 => ?_⟩, fun z3 => ?_⟩
        · rw [if_neg (by rw [z3]; simp), if_neg (by rw [z4]; simp)] at hI
          exact ih () hI
        · rw [if_neg (by rw [z3]; simp), if_pos z4] at hI
          exact hI
        · rw [if_pos z3] at hI
          exact hI
      have nx : vso (mV M) q k d = false → s_X13_takerBy_3 M (nI q) (nI t) d (-2) n (nI (k + 1)) ∧ f_X13_takerBy_3 M (nI q) (nI t) d (-2) n (nI (k + 1)) = vtake (mV M) q t d := fun z2 => by
        rw [if_neg (by rw [z2]; simp)] at hI
        exact ih () hI
      rcases w.2.2.2.1 with ⟨w1, w2⟩ | ⟨w1, w2⟩
      · have so : vso (mV M) q k d = true := by unfold vso; simp [w1]
        have m := main so
        simp only [z1, w1, if_true, show ((0 : Int32) ≤ 0) = True from by decide]
        cases z3 : vmay (mV M) q t ((mV M).1 (gi q k 1)) d
        · cases z4 : vmay (mV M) q t ((mV M).1 (gi q k 4)) d
          · simp only [if_true]; exact (m.1 z3).1 z4
          · simp only [if_true, Bool.true_eq_false, if_false]; exact ⟨trivial, (m.1 z3).2 z4⟩
        · simp only [Bool.true_eq_false, if_false]; exact ⟨trivial, m.2 z3⟩
      · obtain ⟨j, hj, ej⟩ := vp_in_of w2 (by omega)
        obtain ⟨cd, hcd, ecd⟩ := vp_in_of w.2.2.1 (by decide)
        have np : ¬ (mV M).1 (gi q k 2) ≤ 0 := by
          rw [ecd]; rw [ecd] at w1
          exact nI_nle (by rcases cd with _ | cd; exact absurd rfl w1; omega) (by omega)
        have so : vso (mV M) q k d = (vliv (mV M) j d == decide ((mV M).1 (gi q k 2) = 1)) := by unfold vso; rw [decide_eq_false w1, ej, nn_nI (by omega)]; rfl
        rw [so] at main nx
        simp only [z1, np, if_true, if_false, ej, f_lives (show j < 65 by omega), s_lives (show j < 65 by omega), true_and]
        have c01 : ∀ b : Bool, (bz b = 1) = (b = true) := fun b => propext bz_1
        have c00 : ∀ b : Bool, (bz b = 0) = (b = false) := fun b => propext bz_0
        by_cases y : (mV M).1 (gi q k 2) = 1
        · cases hl : vliv (mV M) j d
          · simp only [y, if_true, c01, Bool.false_eq_true, if_false]
            exact nx (by rw [hl]; simp [y])
          · have m := main (by rw [hl]; simp [y])
            simp only [y, if_true, c01]
            cases z3 : vmay (mV M) q t ((mV M).1 (gi q k 1)) d
            · cases z4 : vmay (mV M) q t ((mV M).1 (gi q k 4)) d
              · simp only [if_true]; exact (m.1 z3).1 z4
              · simp only [if_true, Bool.true_eq_false, if_false]; exact ⟨trivial, (m.1 z3).2 z4⟩
            · simp only [Bool.true_eq_false, if_false]; exact ⟨trivial, m.2 z3⟩
        · cases hl : vliv (mV M) j d
          · have m := main (by rw [hl]; simp [y])
            simp only [y, if_false, c00, if_true]
            cases z3 : vmay (mV M) q t ((mV M).1 (gi q k 1)) d
            · cases z4 : vmay (mV M) q t ((mV M).1 (gi q k 4)) d
              · simp only [if_true]; exact (m.1 z3).1 z4
              · simp only [if_true, Bool.true_eq_false, if_false]; exact ⟨trivial, (m.1 z3).2 z4⟩
            · simp only [Bool.true_eq_false, if_false]; exact ⟨trivial, m.2 z3⟩
          · simp only [y, if_false, c00, Bool.true_eq_false]
            exact nx (by rw [hl]; simp [y])
    · rw [if_neg (fun z => z1 z.1)] at hI
      simp only [z1, if_false]
      exact ih () hI
  · intro n s hI
    simp only [s_X13_takerBy_3, f_X13_takerBy_3, fof5 (show q < 12 by omega), sof5 (show q < 12 by omega), hG.1, if_pos (nI_le (Nat.le_refl (vG (mV M) q)) (by omega))]
    refine ⟨⟨trivial, trivial⟩, ?_⟩
    rw [← hI, Nat.sub_self, vtg]
end
