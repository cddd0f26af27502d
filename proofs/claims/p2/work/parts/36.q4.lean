set_option linter.all false
noncomputable section
theorem b_lit (j : Nat) (x : Int32) (h : x = nI j) : x = nI j := h
-- ===== whom a paper names =====
def vnm (V : vV) (q p : Nat) : Bool := decide (V.1 (58 + 7 * q + 6) = nI p) || vex (fun k => decide (V.1 (gi q k 1) = nI p) || decide (V.1 (gi q k 4) = nI p)) (vG V q)
theorem mo_p {V : vV} {x : Int32} (h : whoOK V x) (hn : vP V < 2 ^ 31) {p : Nat} (hp : p < 2 ^ 31) : (mo x = nI p) = (x = nI p) := by
  rcases h with rfl | h
  · exact propext ⟨fun q => absurd q.symm (nI_ne hp).2, fun q => absurd q.symm (nI_ne hp).1⟩
  · rw [mo_ne (vp_ne h hn).1]
theorem X5_gives {M : gM} {V : vV} {lf : Nat → Nat} (c : CV M V lf) (h : WF V) {q p : Nat} (hq : q < vA V) (hp : p < vP V) : s_X5_givesTo M 0 q (nI p) ∧ f_X5_givesTo M 0 q (nI p) = bz (vnm V q p) := by
  have hG := wG h hq
  have h10 := h.P.2
  obtain ⟨e25, e26, e27, e28, e29, e35, e32, e30, e31, e33, e34'⟩ := (c.2.2.2.1 q hq).1
  have wr := (h.2.2.2.1 q hq).1.2.2.2.2.2.2.1
  have er := mo_p wr (by omega) (show p < 2 ^ 31 by omega)
  unfold s_X5_givesTo f_X5_givesTo
  refine lp (fun n k (s : Unit) => f_X5_givesTo_2 M 0 q (nI p) n (nI k)) (fun n k s => s_X5_givesTo_2 M 0 q (nI p) n (nI k)) (fun k s => ∀ j, j < k → (decide (V.1 (gi q j 1) = nI p) || decide (V.1 (gi q j 4) = nI p)) = false) (fun z => z = bz (vnm V q p)) (vG V q) ?_ ?_ FU 0 () (Nat.zero_le _) (by rw [FU_eq]; omega) (fun j hj => absurd hj (Nat.not_lt_zero _))
  · intro n k s hk hI ih
    obtain ⟨g1, g2, g3, g4, g5⟩ := (c.2.2.2.1 q hq).2 k hk
    have w := (h.2.2.2.1 q hq).2 k hk
    have e4 := mo_p w.2.2.2.2 (by omega) (show p < 2 ^ 31 by omega)
    have i2 : vp_in (nI k) 6 := vpi (by omega)
    have n6 : ¬ (6 : Int32) ≤ nI k := nI_ge (b := 6) (by omega) (by decide)
    simp only [s_X5_givesTo_2, f_X5_givesTo_2, e35, hG.1, if_neg (nI_ge hk (by omega)), if_neg n6, nn_nI (show k < 2 ^ 31 by omega), g2, g5, e4, i2, p1, true_and]
    have tk : (decide (V.1 (gi q k 1) = nI p) || decide (V.1 (gi q k 4) = nI p)) = true → (1 : Int32) = bz (vnm V q p) := fun z => by
      unfold vnm
      rw [vex_t hk z, Bool.or_true]; rfl
    by_cases a : V.1 (gi q k 1) = nI p
    · simp only [a, if_true]
      exact ⟨trivial, tk (by simp [a])⟩
    · by_cases b : V.1 (gi q k 4) = nI p
      · simp only [a, b, if_true, if_false]
        exact ⟨trivial, tk (by simp [b])⟩
      · simp only [a, b, if_false]
        exact ih () (fun j hj => by
          by_cases e : j = k
          · subst e; simp [a, b]
          · exact hI j (by omega))
  · intro n s hI
    simp only [s_X5_givesTo_2, f_X5_givesTo_2, s_X5_givesTo_44, f_X5_givesTo_44, e35, hG.1, if_pos (nI_le (Nat.le_refl (vG V q)) (by omega)), e32, er]
    unfold vnm
    rw [vex_f hI, Bool.or_false, bz_d]
    refine ⟨?_, rfl⟩
    split <;> trivial
theorem X13_named {M : gM} (h : WF (mV M)) {q : Nat} (hq : q < vA (mV M)) : s_X13_namedIn M (nI q) ∧ ∀ p, p < 32 → bt (f_X13_namedIn M (nI q)) p = vnm (mV M) q p := by
  have h10 := h.P.2
  have h12 := h.A.2
  have hG := wG h hq
  have wr := (h.2.2.2.1 q hq).1.2.2.2.2.2.2.1
  have main : ∀ s0 : Int32, (∀ p, p < 32 → bt s0 p = decide ((mV M).1 (58 + 7 * q + 6) = nI p)) → s_X13_namedIn_28 M (nI q) FU s0 0 ∧ ∀ p, p < 32 → bt (f_X13_namedIn_28 M (nI q) FU s0 0) p = vnm (mV M) q p := by
    intro s0 h0
    refine lp (fun n k (s : Int32) => f_X13_namedIn_28 M (nI q) n s (nI k)) (fun n k s => s_X13_namedIn_28 M (nI q) n s (nI k)) (fun k s => ∀ p, p < 32 → bt s p = (decide ((mV M).1 (58 + 7 * q + 6) = nI p) || vex (fun k => decide ((mV M).1 (gi q k 1) = nI p) || decide ((mV M).1 (gi q k 4) = nI p)) k)) (fun z => ∀ p, p < 32 → bt z p = vnm (mV M) q p) (vG (mV M) q) ?_ ?_ FU 0 s0 (Nat.zero_le _) (by rw [FU_eq]; omega) (fun p hp => by rw [h0 p hp]; simp [vex])
    · intro n k s hk hI ih
      have w := (h.2.2.2.1 q hq).2 k hk
      have gb : gi q k 0 + 4 < 502 := by unfold gi; omega
      have i1 : vp_in (nI (gi q k 1)) 502 := vpi (by rw [← gip (j := 1) rfl]; omega)
      have i4 : vp_in (nI (gi q k 4)) 502 := vpi (by rw [← gip (j := 4) rfl]; omega)
      have n1 : nn (nI (gi q k 1)) = gi q k 1 := nn_nI (by rw [← gip (j := 1) rfl]; omega)
      have n4 : nn (nI (gi q k 4)) = gi q k 4 := nn_nI (by rw [← gip (j := 4) rfl]; omega)
      obtain ⟨a, ha, ea⟩ := vp_in_of w.2.1 (by omega)
      simp only [s_X13_namedIn_28, f_X13_namedIn_28, bnd, bndP, fof5 (show q < 12 by omega), sof5 (show q < 12 by omega), hG.1, if_neg (nI_ge hk (by omega)), e142, p1, p4, gip (q := q) (k := k) (j := 1) rfl, gip (q := q) (k := k) (j := 4) rfl, n1, n4, i1, i4, x88, or_0, true_and]
      rcases w.2.2.2.2 with e4 | w4
      · simp only [e4, if_true]
        refine ih _ (fun p hp => ?_)
        rw [b_or, hI p hp, ea, bt_bit (by omega) hp, vex]
        have z1 : decide ((mV M).1 (gi q k 1) = nI p) = decide (p = a) := decide_eq_decide.mpr (by
          rw [ea, nI_eq (by omega) (by omega)]
          exact eq_comm)
        have z2 : decide ((mV M).1 (gi q k 4) = nI p) = false := decide_eq_false (by
          rw [e4]; exact fun y => (nI_ne (show p < 2 ^ 31 by omega)).1 y.symm)
        rw [z1, z2, Bool.or_false, Bool.or_assoc]
      · obtain ⟨b, hb, eb⟩ := vp_in_of w4 (by omega)
        have nb : ¬ nI b = -2 := (nI_ne (by omega)).1
        simp only [eb, nb, if_false]
        refine ih _ (fun p hp => ?_)
        rw [b_or, b_or, hI p hp, ea, bt_bit (by omega) hp, bt_bit (by omega) hp, vex]
        have z1 : decide ((mV M).1 (gi q k 1) = nI p) = decide (p = a) := decide_eq_decide.mpr (by
          rw [ea, nI_eq (by omega) (by omega)]
          exact eq_comm)
        have z2 : decide ((mV M).1 (gi q k 4) = nI p) = decide (p = b) := decide_eq_decide.mpr (by
          rw [eb, nI_eq (by omega) (by omega)]
          exact eq_comm)
        rw [z1, z2]
        simp only [Bool.or_assoc]
    · intro n s hI
      simp only [s_X13_namedIn_28, f_X13_namedIn_28, fof5 (show q < 12 by omega), sof5 (show q < 12 by omega), hG.1, if_pos (nI_le (Nat.le_refl (vG (mV M) q)) (by omega)), true_and]
      exact hI
  simp only [s_X13_namedIn, f_X13_namedIn, bnd, bndP, fof6 (show q < 12 by omega), sof6 (show q < 12 by omega), true_and]
  rcases wr with e | w
  · simp only [e, if_true]
    exact main 0 (fun p hp => by rw [b_0, e]; exact (decide_eq_false (fun y => (nI_ne (show p < 2 ^ 31 by omega)).1 y.symm)).symm)
  · obtain ⟨a, ha, ea⟩ := vp_in_of w (by omega)
    have na : ¬ nI a = -2 := (nI_ne (by omega)).1
    simp only [ea, na, if_false]
    exact main _ (fun p hp => by
      rw [bt_bit (by omega) hp, ea]
      exact decide_eq_decide.mpr (by rw [nI_eq (by omega) (by omega)]; exact eq_comm))
-- naming
def a_nam (V : vV) (x1 x2 : Int32) : Int32 := if isB x1 (vP V) = true then (if isB x2 (vP V) = true then bo (fun q => decide (V.1 (58 + 7 * q) = x1) && vnm V q (nn x2)) (vA V) else -1) else -1
theorem qC_nam {M : gM} {V : vV} {lf : Nat → Nat} (h : At M V lf) (x1 x2 : Int32) : s_X12_naming M x1 x2 ∧ f_X12_naming M x1 x2 = a_nam V x1 x2 := by
  have h10 := h.2.2.P.2
  have h12 := h.2.2.A.2
  simp only [s_X12_naming, f_X12_naming, sX7_isP, fX7_isP h.c h.2.2, true_and, bz_0, a_nam]
  rcases isP_cases (x := x1) (n := vP V) (by omega) with e | ⟨j, hj, rfl, e⟩
  · simp [e]
  · rcases isP_cases (x := x2) (n := vP V) (by omega) with e2 | ⟨p, hp, rfl, e2⟩
    · simp [e, e2]
    · have hN := h.c.A h.2.2
      simp only [e, e2, Bool.true_eq_false, if_false, if_true, nn_nI (show p < 2 ^ 31 by omega)]
      refine lp (fun n k (s : Int32) => f_X12_naming_29 M (nI j) (nI p) n s (nI k)) (fun n k s => s_X12_naming_29 M (nI j) (nI p) n s (nI k)) (fun k s => s = bo (fun q => decide (V.1 (58 + 7 * q) = nI j) && vnm V q p) k) (fun z => z = bo (fun q => decide (V.1 (58 + 7 * q) = nI j) && vnm V q p) (vA V)) (vA V) ?_ ?_ FU 0 0 (Nat.zero_le _) (by rw [FU_eq]; omega) rfl
      · intro n k s hk hI ih
        have i1 : vp_in (nI k) 12 := vpi (by omega)
        have e25 := (h.c.2.2.2.1 k hk).1.1
        obtain ⟨a1, a2⟩ := X5_gives h.c h.2.2 hk hp
        simp only [s_X12_naming_29, f_X12_naming_29, bnd, bndP, hN, if_neg (nI_ge hk (by omega)), nn_nI (show k < 2 ^ 31 by omega), e25, i1, a1, a2, p1, true_and, bz_0]
        by_cases z : V.1 (58 + 7 * k) = nI j
        · simp only [z, if_true]
          cases hv : vnm V k p
          · simp only [if_true]
            exact ih s (by rw [hI]; exact bo_f (by omega) (by simp [hv]))
          · simp only [Bool.true_eq_false, if_false]
            exact ih _ (by rw [hI]; exact bo_t (P := fun q => decide (V.1 (58 + 7 * q) = nI j) && vnm V q p) (by simp [hv, z]))
        · simp only [z, if_false]
          exact ih s (by rw [hI]; exact bo_f (by omega) (by simp [z]))
      · intro n s hI
        simp only [s_X12_naming_29, f_X12_naming_29, hN, if_pos (nI_le (Nat.le_refl (vA V)) (by omega))]
        exact ⟨trivial, hI⟩
theorem qM_nam {M : gM} {V : vV} {lf : Nat → Nat} (h : At M V lf) (x1 x2 : Int32) : s_X13_naming M x1 x2 ∧ (f_X13_naming M x1 x2).1 = a_nam V x1 x2 := by
  have h1 := h.thr 0
  clear h
  simp only [s_X13_naming, f_X13_naming, bnd, bndP]
  generalize wrI M 67 0 0 0 0 = M1 at *
  obtain ⟨c, rfl, w⟩ := h1
  have h10 := w.P.2
  have h12 := w.A.2
  have i0 : vp_in (2 : Int32) 502 := vpi (k := 2) (by omega)
  simp only [s_isP, f_isP w, true_and, bz_0, a_nam]
  rcases isP_cases (x := x1) (n := vP (mV M1)) (by omega) with e | ⟨j, hj, rfl, e⟩
  · simp [e]
  · rcases isP_cases (x := x2) (n := vP (mV M1)) (by omega) with e2 | ⟨p, hp, rfl, e2⟩
    · simp [e, e2]
    · have hN := mA w
      simp only [e, e2, Bool.true_eq_false, if_false, if_true, nn_nI (show p < 2 ^ 31 by omega)]
      refine lp (fun n k (s : Int32) => f_X13_naming_28 M1 (nI j) (nI p) n s (nI k)) (fun n k s => s_X13_naming_28 M1 (nI j) (nI p) n s (nI k)) (fun k s => s = bo (fun q => decide ((mV M1).1 (58 + 7 * q) = nI j) && vnm (mV M1) q p) k) (fun z => z.1 = bo (fun q => decide ((mV M1).1 (58 + 7 * q) = nI j) && vnm (mV M1) q p) (vA (mV M1))) (vA (mV M1)) ?_ ?_ FU 0 0 (Nat.zero_le _) (by rw [FU_eq]; omega) rfl
      · intro n k s hk hI ih
        obtain ⟨a1, a2⟩ := X13_named w hk
        simp only [s_X13_naming_28, f_X13_naming_28, bnd, bndP, hN, if_neg (nI_ge hk (by omega)), fof0 (show k < 12 by omega), sof0 (show k < 12 by omega), i0, a1, b_read _ (show p < 32 by omega), a2 p (by omega), p1, true_and]
        by_cases z : (mV M1).1 (58 + 7 * k) = nI j
        · simp only [z, if_true]
          exact ih _ (by rw [hI, bo]; simp [z])
        · simp only [z, if_false]
          exact ih s (by rw [hI]; exact bo_f (by omega) (by simp [z]))
      · intro n s hI
        simp only [s_X13_naming_28, f_X13_naming_28, hN, if_pos (nI_le (Nat.le_refl (vA (mV M1))) (by omega))]
        exact ⟨⟨i0, trivial⟩, hI⟩
-- sees
def a_see (V : vV) (x1 x2 x3 : Int32) : Int32 := if isB x1 (vP V) = true then (if isB x2 (vA V) = true then (if isD x3 = true then
  (if vliv V (nn x1) x3 = true then (if vliv V (vmk V (nn x2)) x3 = true then (if x1 = V.1 (58 + 7 * nn x2) then 1 else 0)
    else bz (bt (vheirs V (vmk V (nn x2))) (nn x1) || (bt (V.2.1 (22 + nn x2)) (nn x1) || vnm V (nn x2) (nn x1)))) else 0) else -1) else -1) else -1
theorem qC_see {M : gM} {V : vV} {lf : Nat → Nat} (h : At M V lf) (x1 x2 x3 : Int32) : s_X12_sees M x1 x2 x3 ∧ f_X12_sees M x1 x2 x3 = a_see V x1 x2 x3 := by
  have h10 := h.2.2.P.2
  have h12 := h.2.2.A.2
  simp only [s_X12_sees, f_X12_sees, sX7_isP, fX7_isP h.c h.2.2, sX7_isA, fX7_isA h.c h.2.2, sDay.1, fDay.1, true_and, bz_0, a_see]
  rcases isP_cases (x := x1) (n := vP V) (by omega) with e | ⟨p, hp, rfl, e⟩
  · simp [e]
  · rcases isP_cases (x := x2) (n := vA V) (by omega) with e2 | ⟨q, hq, rfl, e2⟩
    · simp [e, e2]
    · cases e3 : isD x3
      · simp [e, e2]
      · have i10 : vp_in (nI p) 10 := vpi (by omega)
        have i12 : vp_in (nI q) 12 := vpi (by omega)
        obtain ⟨m1, m2⟩ := wmk h.2.2 hq
        have im : vp_in (nI (vmk V q)) 10 := vpi (by omega)
        obtain ⟨e25, e26, e27, e28, e29, e35, e32, e30, e31, e33, e34'⟩ := (h.c.2.2.2.1 q hq).1
        simp only [e, e2, Bool.true_eq_false, if_false, if_true, nn_nI (show p < 2 ^ 31 by omega), nn_nI (show q < 2 ^ 31 by omega), i10, i12, sX6_lives, fX6_lives h.c h.2.2 hp, e25, m1, im, nn_nI (show vmk V q < 2 ^ 31 by omega), fX6_lives h.c h.2.2 m2, true_and, bz_0]
        cases l1 : vliv V p x3
        · simp
        · simp only [Bool.true_eq_false, if_false, if_true]
          cases l2 : vliv V (vmk V q) x3
          · have md : V.2.1 (vmk V q) ≠ -2 := fun z => by unfold vliv at l2; simp [z] at l2
            obtain ⟨a1, a2⟩ := X7_heirs h.c h.2.2 m2 md
            obtain ⟨g1, g2⟩ := X5_gives h.c h.2.2 hq hp
            simp only [if_true, a1, a2, b_read _ (show p < 32 by omega), s_X12_sees_122, f_X12_sees_122, s_X12_sees_147, f_X12_sees_147, sX5_wit, fX5_wit (show p < 32 by omega), e30, g1, g2, sBit, bz_0, o1, if_false, true_and, and_true, Bool.false_eq_true]
            cases b1 : bt (vheirs V (vmk V q)) p <;> cases b2 : bt (V.2.1 (22 + q)) p <;> cases b3 : vnm V q p <;> simp [f_X12_bit, bz]
          · simp only [Bool.true_eq_false, if_false, if_true, sBit, and_true]
            by_cases z : nI p = nI (vmk V q) <;> simp [z, f_X12_bit]
theorem qM_see {M : gM} {V : vV} {lf : Nat → Nat} (h : At M V lf) (x1 x2 x3 : Int32) : s_X13_sees M x1 x2 x3 ∧ (f_X13_sees M x1 x2 x3).1 = a_see V x1 x2 x3 := by
  have h1 := h.thr 0
  clear h
  simp only [s_X13_sees, f_X13_sees, bnd, bndP]
  generalize wrI M 67 0 0 0 0 = M1 at *
  obtain ⟨c, rfl, w⟩ := h1
  have h10 := w.P.2
  have h12 := w.A.2
  simp only [s_isP, f_isP w, s_isA, f_isA w, sDay.2, fDay.2, true_and, bz_0, a_see]
  rcases isP_cases (x := x1) (n := vP (mV M1)) (by omega) with e | ⟨p, hp, rfl, e⟩
  · simp [e]
  · rcases isP_cases (x := x2) (n := vA (mV M1)) (by omega) with e2 | ⟨q, hq, rfl, e2⟩
    · simp [e, e2]
    · cases e3 : isD x3
      · simp [e, e2]
      · obtain ⟨m1, m2⟩ := wmk w hq
        obtain ⟨a1, a2⟩ := X13_heirs w m2
        obtain ⟨g1, g2⟩ := X13_named w hq
        have i22 : vp_in ((22 : Int32) + nI q) 65 := inN 22 rfl (by omega) (by decide)
        simp only [e, e2, Bool.true_eq_false, if_false, if_true, nn_nI (show p < 2 ^ 31 by omega), nn_nI (show q < 2 ^ 31 by omega), f_lives (show p < 65 by omega), s_lives (show p < 65 by omega), fof0 (show q < 12 by omega), sof0 (show q < 12 by omega), m1, f_lives (show vmk (mV M1) q < 65 by omega), s_lives (show vmk (mV M1) q < 65 by omega), a1, a2, g1, i22, ix22 (show q < 1000 by omega), x92, b_read _ (show p < 32 by omega), b_or, g2 p (by omega), true_and, bz_0]
        cases l1 : vliv (mV M1) p x3
        · simp
        · simp only [Bool.true_eq_false, if_false, if_true]
          cases l2 : vliv (mV M1) (vmk (mV M1) q) x3
          · simp only [if_true, true_and, Bool.false_eq_true, if_false]
            cases b1 : bt (vheirs (mV M1) (vmk (mV M1) q)) p <;> cases b2 : bt ((mV M1).2.1 (22 + q)) p <;> cases b3 : vnm (mV M1) q p <;> simp
          · simp only [Bool.true_eq_false, if_false, if_true]
            by_cases z : nI p = nI (vmk (mV M1) q) <;> simp [z]
-- margin
def a_mar (V : vV) (x1 : Int32) : Int32 := if isB x1 (vA V) = true then
  (if nn (V.1 4) = 0 ∨ nn (V.1 9) = 0 ∨ vhand V (nn x1) 0 = true ∨ vhand V (nn x1) 1 = true then -3 else if Nat.min (nn (V.1 4)) (nn (V.1 9)) ≤ vlc V (nn x1) then nI (vlc V (nn x1)) - nI (Nat.min (nn (V.1 4)) (nn (V.1 9))) + 1 else -2) else -1
theorem mn_nI {a b : Nat} (ha : a < 2 ^ 31) (hb : b < 2 ^ 31) : mn (nI a) (nI b) = nI (Nat.min a b) := by
  unfold mn
  by_cases h : b < a
  · rw [if_pos (nI_lt h ha), show Nat.min a b = b from Nat.min_eq_right (by omega)]
  · rw [if_neg (nI_nlt (by omega) hb), show Nat.min a b = a from Nat.min_eq_left (by omega)]
theorem qC_mar {M : gM} {V : vV} {lf : Nat → Nat} (h : At M V lf) (x1 : Int32) : s_X12_margin M x1 ∧ f_X12_margin M x1 = a_mar V x1 := by
  have h12 := h.2.2.A.2
  simp only [s_X12_margin, f_X12_margin, bnd, bndP, sX7_isA, fX7_isA h.c h.2.2, true_and, bz_0, a_mar]
  rcases isP_cases (x := x1) (n := vA V) (by omega) with e | ⟨q, hq, rfl, e⟩
  · simp [e]
  · have i12 : vp_in (nI q) 12 := vpi (by omega)
    have j0 : vp_in (0 : Int32) 2 := vpi (k := 0) (by omega)
    have j1 : vp_in (1 : Int32) 2 := b01
    have L0 := (h.c.2.2.2.2.2.1 0 (by omega)).1
    have L1 := (h.c.2.2.2.2.2.1 1 (by omega)).1
    have w0 := vpe (h.2.2.2.2.2.2.2 0 (by omega)).1 (by decide)
    have w1 := vpe (h.2.2.2.2.2.2.2 1 (by omega)).1 (by decide)
    obtain ⟨a1, a2⟩ := X4_lived h.c h.2.2 hq
    obtain ⟨b1, b2⟩ := X4_hand h.c h.2.2 hq (show 0 < 2 by omega)
    obtain ⟨d1, d2⟩ := X4_hand h.c h.2.2 hq (show 1 < 2 by omega)
    have b1 : s_X4_hasFormByHand M q 0 := b1
    have b2 : f_X4_hasFormByHand M q 0 = bz (vhand V q 0) := b2
    have d1 : s_X4_hasFormByHand M q 1 := d1
    have d2 : f_X4_hasFormByHand M q 1 = bz (vhand V q 1) := d2
    have n0 : nn (0 : Int32) = 0 := rfl
    have n1 : nn (1 : Int32) = 1 := rfl
    have L0 : rdI M 14 0 0 0 = nI (nn (V.1 4)) := L0.trans w0.1
    have L1 : rdI M 14 0 1 0 = nI (nn (V.1 9)) := L1.trans w1.1
    have w0 : nn (V.1 4) < 5 := w0.2
    have w1 : nn (V.1 9) < 5 := w1.2
    have mle : Nat.min (nn (V.1 4)) (nn (V.1 9)) ≤ nn (V.1 4) := Nat.min_le_left _ _
    have cl := vlc_le h.2.2 q
    simp only [e, Bool.true_eq_false, if_false, if_true, nn_nI (show q < 2 ^ 31 by omega), i12, j0, j1, n0, n1, L0, L1, mn_nI (show nn (V.1 4) < 2 ^ 31 by omega) (show nn (V.1 9) < 2 ^ 31 by omega), a1, a2, b1, b2, d1, d2, true_and, bz_0, nI_leI (show Nat.min (nn (V.1 4)) (nn (V.1 9)) < 2 ^ 31 by omega) (show vlc V q < 2 ^ 31 by omega)]
    generalize hm : Nat.min (nn (V.1 4)) (nn (V.1 9)) = m at *
    have hm0 : (nI m = 0) = (nn (V.1 4) = 0 ∨ nn (V.1 9) = 0) := propext (by
      rw [show (0 : Int32) = nI 0 from rfl, nI_eq (by omega) (by omega), ← hm]
      constructor
      · intro z
        rcases Nat.le_total (nn (V.1 4)) (nn (V.1 9)) with y | y
        · rw [show Nat.min (nn (V.1 4)) (nn (V.1 9)) = nn (V.1 4) from Nat.min_eq_left y] at z; exact Or.inl z
        · rw [show Nat.min (nn (V.1 4)) (nn (V.1 9)) = nn (V.1 9) from Nat.min_eq_right y] at z; exact Or.inr z
      · rintro (z | z)
        · rw [z]; exact Nat.zero_min _
        · rw [z]; exact Nat.min_zero _)
    simp only [hm0]
    by_cases z : nn (V.1 4) = 0 ∨ nn (V.1 9) = 0
    · have z2 : nn (V.1 4) = 0 ∨ nn (V.1 9) = 0 ∨ vhand V q 0 = true ∨ vhand V q 1 = true := z.elim Or.inl (fun y => Or.inr (Or.inl y))
      rw [if_pos z, if_pos z, if_pos z2]; exact ⟨trivial, rfl⟩
    · rw [if_neg z, if_neg z]
      have za : ¬ nn (V.1 4) = 0 := fun y => z (Or.inl y)
      have zb : ¬ nn (V.1 9) = 0 := fun y => z (Or.inr y)
      cases h0 : vhand V q 0
      · cases h1 : vhand V q 1
        · by_cases y : m ≤ vlc V q <;> simp [za, zb, y]
        · simp
      · simp
theorem qM_mar {M : gM} {V : vV} {lf : Nat → Nat} (h : At M V lf) (x1 : Int32) : s_X13_margin M x1 ∧ (f_X13_margin M x1).1 = a_mar V x1 := by
  have h1 := h.thr 0
  clear h
  simp only [s_X13_margin, f_X13_margin, bnd, bndP]
  generalize wrI M 67 0 0 0 0 = M1 at *
  obtain ⟨c, rfl, w⟩ := h1
  have h12 := w.A.2
  simp only [s_isA, f_isA w, true_and, bz_0, a_mar]
  rcases isP_cases (x := x1) (n := vA (mV M1)) (by omega) with e | ⟨q, hq, rfl, e⟩
  · simp [e]
  · have j0 : vp_in (0 : Int32) 2 := vpi (k := 0) (by omega)
    have k4 : vp_in (4 : Int32) 502 := vpi (k := 4) (by omega)
    have k9 : vp_in (9 : Int32) 502 := vpi (k := 9) (by omega)
    obtain ⟨a1, a2⟩ := X13_lived w hq
    obtain ⟨b1, b2⟩ := X13_form w hq j0
    obtain ⟨d1, d2⟩ := X13_form w hq b01
    have n4 : nn (4 : Int32) = 4 := rfl
    have n9 : nn (9 : Int32) = 9 := rfl
    have b2 : f_X13_hasForm M1 (nI q) 0 = bz (vform (mV M1) q 0) := b2
    have d2 : f_X13_hasForm M1 (nI q) 1 = bz (vform (mV M1) q 1) := d2
    have i3 := fhas (M := M1) (l := 0) 1 rfl j0 (by omega)
    have i4 := shas (M := M1) (l := 0) 1 rfl j0 (by omega)
    have i5 := fhas (M := M1) (l := 1) 1 rfl b01 (by omega)
    have i6 := shas (M := M1) (l := 1) 1 rfl b01 (by omega)
    have i3 : f_X13_has M1 0 1 = bz (decide ((mV M1).1 5 = 1)) := i3
    have i5 : f_X13_has M1 1 1 = bz (decide ((mV M1).1 10 = 1)) := i5
    have i4 : s_X13_has M1 0 1 := i4
    have i6 : s_X13_has M1 1 1 := i6
    have w0 := vpe (w.2.2.2.2.2 0 (by omega)).1 (by decide)
    have w1 := vpe (w.2.2.2.2.2 1 (by omega)).1 (by decide)
    have L0 : (mV M1).1 4 = nI (nn ((mV M1).1 4)) := w0.1
    have L1 : (mV M1).1 9 = nI (nn ((mV M1).1 9)) := w1.1
    have w0 : nn ((mV M1).1 4) < 5 := w0.2
    have w1 : nn ((mV M1).1 9) < 5 := w1.2
    have mle : Nat.min (nn ((mV M1).1 4)) (nn ((mV M1).1 9)) ≤ nn ((mV M1).1 4) := Nat.min_le_left _ _
    have cl := vlc_le w q
    have V0 : vform (mV M1) q 0 = (decide (nn ((mV M1).1 4) ≤ vlc (mV M1) q) || vhand (mV M1) q 0) := by
      unfold vform
      rw [show (mV M1).1 (4 + 5 * 0) = (mV M1).1 4 from rfl, L0, nn_nI (show nn ((mV M1).1 4) < 2 ^ 31 by omega)]
      congr 1
      exact decide_eq_decide.mpr (nI_leI (by omega) (by omega))
    have V1 : vform (mV M1) q 1 = (decide (nn ((mV M1).1 9) ≤ vlc (mV M1) q) || vhand (mV M1) q 1) := by
      unfold vform
      rw [show (mV M1).1 (4 + 5 * 1) = (mV M1).1 9 from rfl, L1, nn_nI (show nn ((mV M1).1 9) < 2 ^ 31 by omega)]
      congr 1
      exact decide_eq_decide.mpr (nI_leI (by omega) (by omega))
    have H0 : vhand (mV M1) q 0 = (decide ((mV M1).1 (58 + 7 * q + 4) = 1) && decide ((mV M1).1 5 = 1)) := rfl
    have H1 : vhand (mV M1) q 1 = (decide ((mV M1).1 (58 + 7 * q + 4) = 1) && decide ((mV M1).1 10 = 1)) := rfl
    have M4 : rdI M1 88 0 0 4 = nI (nn ((mV M1).1 4)) := L0
    have M9 : rdI M1 88 0 0 9 = nI (nn ((mV M1).1 9)) := L1
    simp only [e, Bool.true_eq_false, if_false, if_true, nn_nI (show q < 2 ^ 31 by omega), s_X13_margin_36, f_X13_margin_36, s_X13_margin_88, f_X13_margin_88, bnd, bndP, b1, b2, d1, d2, n4, n9, M4, M9, mn_nI (show nn ((mV M1).1 4) < 2 ^ 31 by omega) (show nn ((mV M1).1 9) < 2 ^ 31 by omega), k4, k9, fof4 (show q < 12 by omega), sof4 (show q < 12 by omega), i3, i4, i5, i6, a1, a2, true_and, bz_0, V0, V1, decide_eq_false_iff_not]
    generalize hm : Nat.min (nn ((mV M1).1 4)) (nn ((mV M1).1 9)) = m at *
    have hm0 : (nI m = 0) = (nn ((mV M1).1 4) = 0 ∨ nn ((mV M1).1 9) = 0) := propext (by
      rw [show (0 : Int32) = nI 0 from rfl, nI_eq (by omega) (by omega), ← hm]
      constructor
      · intro z
        rcases Nat.le_total (nn ((mV M1).1 4)) (nn ((mV M1).1 9)) with y | y
        · rw [show Nat.min (nn ((mV M1).1 4)) (nn ((mV M1).1 9)) = nn ((mV M1).1 4) from Nat.min_eq_left y] at z; exact Or.inl z
        · rw [show Nat.min (nn ((mV M1).1 4)) (nn ((mV M1).1 9)) = nn ((mV M1).1 9) from Nat.min_eq_right y] at z; exact Or.inr z
      · rintro (z | z)
        · rw [z]; exact Nat.zero_min _
        · rw [z]; exact Nat.min_zero _)
    have hmle : m ≤ vlc (mV M1) q ↔ (nn ((mV M1).1 4) ≤ vlc (mV M1) q ∨ nn ((mV M1).1 9) ≤ vlc (mV M1) q) := by
      rw [← hm]
      rcases Nat.le_total (nn ((mV M1).1 4)) (nn ((mV M1).1 9)) with y | y
      · rw [show Nat.min (nn ((mV M1).1 4)) (nn ((mV M1).1 9)) = nn ((mV M1).1 4) from Nat.min_eq_left y]; omega
      · rw [show Nat.min (nn ((mV M1).1 4)) (nn ((mV M1).1 9)) = nn ((mV M1).1 9) from Nat.min_eq_right y]; omega
    simp only [hm0, hmle]
    by_cases z0 : nn ((mV M1).1 4) = 0
    · simp [z0]
    · by_cases z1 : nn ((mV M1).1 9) = 0
      · simp [z1]
      · by_cases o : (mV M1).1 (58 + 7 * q + 4) = 1 <;> by_cases y5 : (mV M1).1 5 = 1 <;> by_cases y10 : (mV M1).1 10 = 1 <;> by_cases y4 : nn ((mV M1).1 4) ≤ vlc (mV M1) q <;> by_cases y9 : nn ((mV M1).1 9) ≤ vlc (mV M1) q <;> simp [z0, z1, H0, H1, o, y5, y10, y4, y9]
end
