set_option linter.all false
noncomputable section
-- ===== the questions, each side alone =====
def Ac (M : gM) (V : vV) (lf : Nat → Nat) : Prop := CV M V lf ∧ True ∧ WF V
theorem Ac.c {M : gM} {V : vV} {lf : Nat → Nat} (h : Ac M V lf) : CV M V lf := h.1
theorem Ac.F {M : gM} {V : vV} {lf : Nat → Nat} (h : Ac M V lf) : cvF M V lf := h.1.2.2.2.2.2.2
theorem Ac.off {M N : gM} {V : vV} {lf : Nat → Nat} {W : List Nat} (h : Ac M V lf) (o : offW W M N) (k1 : W.all (fun g => Nat.blt g 4 || Nat.blt 40 g) = true) (k2 : W.all (fun g => g != 88 && g != 90 && g != 92) = true) : Ac N V lf := ⟨h.1.off o k1, trivial, h.2.2⟩
def Am (M0 M : gM) (V : vV) (lf : Nat → Nat) : Prop := cvF M0 V lf ∧ mV M = V ∧ WF V
theorem Am.F {M0 M : gM} {V : vV} {lf : Nat → Nat} (h : Am M0 M V lf) : cvF M0 V lf := h.1
theorem Am.off {M0 M N : gM} {V : vV} {lf : Nat → Nat} {W : List Nat} (h : Am M0 M V lf) (o : offW W M N) (k1 : W.all (fun g => Nat.blt g 4 || Nat.blt 40 g) = true) (k2 : W.all (fun g => g != 88 && g != 90 && g != 92) = true) : Am M0 N V lf := ⟨h.1, by rw [mV_off o k2]; exact h.2.1, h.2.2⟩
theorem Am.thr {M0 M : gM} {V : vV} {lf : Nat → Nat} (h : Am M0 M V lf) (v : Int32) : Am M0 (wrI M 67 0 0 0 v) V lf := ⟨h.1, by rw [mV_wr (by omega)]; exact h.2.1, h.2.2⟩
theorem qC_whyo {M : gM} {V : vV} {lf : Nat → Nat} (h : Ac M V lf) (x1 x2 : Int32) : s_X12_why M x1 x2 ∧ (f_X12_why M x1 x2).1 = a_why V x1 x2 := by
  have h12 := h.2.2.A.2
  have h8 := h.2.2.T.2
  simp only [s_X12_why, f_X12_why, bnd, bndP, sX7_isA, fX7_isA h.c h.2.2, sX7_isT, fX7_isT h.c h.2.2, true_and, bz_0, a_why]
  rcases isP_cases (x := x1) (n := vA V) (by omega) with e | ⟨j, hj, rfl, e⟩
  · simp [e]
  · rcases isP_cases (x := x2) (n := vT V) (by omega) with e2 | ⟨t, ht, rfl, e2⟩
    · simp [e, e2]
    · obtain ⟨a1, a2⟩ := X4_weigh h.c h.2.2 ht
      simp only [e, e2, Bool.true_eq_false, if_false, if_true, a1, nn_nI (show j < 2 ^ 31 by omega), nn_nI (show t < 2 ^ 31 by omega), true_and]
      exact ⟨⟨vpi (by omega), trivial⟩, (a2 j hj).1⟩
theorem qC_sbyo {M : gM} {V : vV} {lf : Nat → Nat} (h : Ac M V lf) (x1 x2 : Int32) : s_X12_struckBy M x1 x2 ∧ (f_X12_struckBy M x1 x2).1 = a_sby V x1 x2 := by
  have h12 := h.2.2.A.2
  have h8 := h.2.2.T.2
  simp only [s_X12_struckBy, f_X12_struckBy, bnd, bndP, sX7_isA, fX7_isA h.c h.2.2, sX7_isT, fX7_isT h.c h.2.2, true_and, bz_0, a_sby]
  rcases isP_cases (x := x1) (n := vA V) (by omega) with e | ⟨j, hj, rfl, e⟩
  · simp [e]
  · rcases isP_cases (x := x2) (n := vT V) (by omega) with e2 | ⟨t, ht, rfl, e2⟩
    · simp [e, e2]
    · obtain ⟨a1, a2⟩ := X4_weigh h.c h.2.2 ht
      simp only [e, e2, Bool.true_eq_false, if_false, if_true, a1, nn_nI (show j < 2 ^ 31 by omega), nn_nI (show t < 2 ^ 31 by omega), true_and, (a2 j hj).2, sO2]
      refine ⟨⟨vpi (by omega), trivial⟩, fO2_n (n := 12) ?_ (by decide)⟩
      rcases oI_ok (V := V) (p := j) (t := t) with z | ⟨b, hb, z⟩
      · exact Or.inl z
      · exact Or.inr (by rw [z]; exact vpi (by omega))
theorem qC_formo {M : gM} {V : vV} {lf : Nat → Nat} (h : Ac M V lf) (x1 x2 : Int32) : s_X12_form M x1 x2 ∧ f_X12_form M x1 x2 = a_form V x1 x2 := by
  have h12 := h.2.2.A.2
  simp only [s_X12_form, f_X12_form, bnd, bndP, sX7_isA, fX7_isA h.c h.2.2, sLand, fLand, true_and, bz_0, a_form]
  rcases isP_cases (x := x1) (n := vA V) (by omega) with e | ⟨j, hj, rfl, e⟩
  · simp [e]
  · rcases isP_cases (x := x2) (n := 2) (by omega) with e2 | ⟨t, ht, rfl, e2⟩
    · simp [e, e2]
    · obtain ⟨a1, a2⟩ := X4_lived h.c h.2.2 hj
      obtain ⟨b1, b2⟩ := X4_form h.c h.2.2 hj ht
      have i12 : vp_in (nI j) 12 := vpi (by omega)
      simp only [e, e2, Bool.true_eq_false, if_false, if_true, nn_nI (show j < 2 ^ 31 by omega), nn_nI (show t < 2 ^ 31 by omega), a1, a2, b1, b2, i12, sBit, fBit, true_and]
theorem qC_heirso {M : gM} {V : vV} {lf : Nat → Nat} (h : Ac M V lf) (x1 : Int32) : s_X12_heirs M x1 ∧ f_X12_heirs M x1 = a_heirs V x1 := by
  have h10 := h.2.2.P.2
  simp only [s_X12_heirs, f_X12_heirs, bnd, bndP, sX7_isP, fX7_isP h.c h.2.2, true_and, bz_0, a_heirs]
  rcases isP_cases (x := x1) (n := vP V) (by omega) with e | ⟨j, hj, rfl, e⟩
  · simp [e]
  · have i10 : vp_in (nI j) 10 := vpi (by omega)
    simp only [e, Bool.true_eq_false, if_false, if_true, nn_nI (show j < 2 ^ 31 by omega), sX6_mortal, fX6_mortal h.c h.2.2 hj, i10, true_and, bz_0, decide_eq_false_iff_not]
    by_cases m : V.2.1 j = -2
    · simp [m]
    · obtain ⟨a1, a2⟩ := X7_heirs h.c h.2.2 hj m
      simp [m, a1, a2]
theorem qC_tako {M : gM} {V : vV} {lf : Nat → Nat} (h : Ac M V lf) (x1 x2 : Int32) : (s_X12_taker M x1 x2 ∧ (f_X12_taker M x1 x2).1 = a_tak V lf Prod.fst x1 x2) ∧ (s_X12_takerBy M x1 x2 ∧ (f_X12_takerBy M x1 x2).1 = a_tak V lf Prod.snd x1 x2) := by
  have h10 := h.2.2.P.2
  have h8 := h.2.2.T.2
  have h12 := h.2.2.A.2
  simp only [s_X12_taker, f_X12_taker, s_X12_takerBy, f_X12_takerBy, bnd, bndP, sX7_isP, fX7_isP h.c h.2.2, sX7_isT, fX7_isT h.c h.2.2, true_and, bz_0, a_tak]
  rcases isP_cases (x := x1) (n := vP V) (by omega) with e | ⟨j, hj, rfl, e⟩
  · simp [e]
  · rcases isP_cases (x := x2) (n := vT V) (by omega) with e2 | ⟨t, ht, rfl, e2⟩
    · simp [e, e2]
    · have i10 : vp_in (nI j) 10 := vpi (by omega)
      obtain ⟨a1, a2⟩ := X4_weigh h.c h.2.2 ht
      have o := o_X4_weigh M (nI t)
      obtain ⟨b1, b2, b3⟩ := X4_choose (m := j) (h.c.off o (by decide)) h.2.2 (by omega) ht (fun q hq => (a2 q hq).1)
      have ok := vtk_ok h.2.2 (wf_lf h.F) j t
      simp only [e, e2, Bool.true_eq_false, if_false, if_true, nn_nI (show j < 2 ^ 31 by omega), nn_nI (show t < 2 ^ 31 by omega), sX6_mortal, fX6_mortal h.c h.2.2 hj, i10, a1, b1, b2, b3, sO2, fO2_n ok.1 (show vP V < 2 ^ 31 by omega), fO2_n ok.2.1 (show vA V < 2 ^ 31 by omega), true_and, bz_0, decide_eq_false_iff_not]
      by_cases m : V.2.1 j = -2 <;> simp [m]
theorem qC_cnto {M : gM} {V : vV} {lf : Nat → Nat} (h : Ac M V lf) (x1 x2 x3 : Int32) : s_X12_counting M x1 x2 x3 ∧ (f_X12_counting M x1 x2 x3).1 = a_cnt V x1 x2 x3 := by
  have h10 := h.2.2.P.2
  have h8 := h.2.2.T.2
  have h12 := h.2.2.A.2
  simp only [s_X12_counting, f_X12_counting, bnd, bndP, sX7_isP, fX7_isP h.c h.2.2, sX7_isT, fX7_isT h.c h.2.2, true_and, bz_0, a_cnt]
  rcases isP_cases (x := x1) (n := vP V) (by omega) with e | ⟨j, hj, rfl, e⟩
  · simp [e]
  · rcases isP_cases (x := x2) (n := vT V) (by omega) with e2 | ⟨t, ht, rfl, e2⟩
    · simp [e, e2]
    · simp only [e, e2, Bool.true_eq_false, if_false, if_true]
      by_cases z : x3 < 0
      · have z2 : ¬ 0 ≤ x3 := i_nle.mpr z
        simp only [z, z2, if_true, if_false, and_self]
      · have z2 : 0 ≤ x3 := i_nlt.mp z
        obtain ⟨k, hk, rfl⟩ := nI_of z
        obtain ⟨a1, a2⟩ := X4_weigh h.c h.2.2 ht
        have o := o_X4_weigh M (nI t)
        have hA := h.off o (by decide) (by decide)
        simp only [z, z2, if_true, if_false, a1, true_and, nn_nI (show j < 2 ^ 31 by omega), nn_nI (show t < 2 ^ 31 by omega), nn_nI hk]
        generalize f_X4_weigh M (nI t) = N at *
        have hw := fun q hq => (a2 q hq).1
        have hN := hA.c.A h.2.2
        have F := hA.F
        refine lp (fun n i (s : Int32) => f_X12_counting_42 N (nI j) (nI k) n s (nI i)) (fun n i s => s_X12_counting_42 N (nI j) (nI k) n s (nI i)) (fun i s => s = nI (fb_ct (fun i => vcnt V j t (lf i)) i) ∧ ∀ i', i' < i → vcnt V j t (lf i') = true → fb_ct (fun i => vcnt V j t (lf i)) i' ≠ k) (fun z => z.1 = vat V j t k (vA V) 0) (vA V) ?_ ?_ FU 0 0 (Nat.zero_le _) (by rw [FU_eq]; omega) ⟨rfl, fun i hi => absurd hi (Nat.not_lt_zero _)⟩
        · rintro n i s hi ⟨hs, hI⟩ ih
          obtain ⟨q12, eq⟩ := F.1 i hi
          have i6 : vp_in (nI i) 12 := vpi (by omega)
          obtain ⟨b1, b2⟩ := X4_counts (m := j) hA.c h.2.2 q12 hw
          have st := fb_ct_succ (fun i => vcnt V j t (lf i)) i
          have cl := fb_ct_le (fun i => vcnt V j t (lf i)) i
          simp only [s_X12_counting_42, f_X12_counting_42, hN, if_neg (nI_ge hi (by omega)), nn_nI (show i < 2 ^ 31 by omega), eq, b1, b2, i6, p1, true_and, bz_0]
          cases hc : vcnt V j t (lf i)
          · simp only [if_true]
            exact ih s ⟨by rw [hs, st]; simp [hc], fun i' hi' hc' => by
              by_cases e3 : i' = i
              · subst e3; rw [hc] at hc'; cases hc'
              · exact hI i' (by omega) hc'⟩
          · simp only [Bool.true_eq_false, if_false, hs]
            by_cases y : fb_ct (fun i => vcnt V j t (lf i)) i = k
            · rw [y]
              simp only [if_true]
              refine ⟨trivial, ?_⟩
              rw [← y]
              exact (vat_lf F hi hc).symm
            · have y2 : ¬ nI (fb_ct (fun i => vcnt V j t (lf i)) i) = nI k := fun z => y ((nI_eq (by omega) hk).mp z)
              simp only [y2, if_false]
              rw [p1]
              exact ih (nI (fb_ct (fun i => vcnt V j t (lf i)) i + 1)) ⟨by rw [st]; simp [hc], fun i' hi' hc' => by
                by_cases e3 : i' = i
                · subst e3; exact y
                · exact hI i' (by omega) hc'⟩
        · rintro n s ⟨hs, hI⟩
          simp only [s_X12_counting_42, f_X12_counting_42, hN, if_pos (nI_le (Nat.le_refl (vA V)) (by omega))]
          refine ⟨trivial, ?_⟩
          refine (vat_no _ _ fun q _ hq hc hr => ?_).symm
          obtain ⟨i, hi, rfl⟩ := lf_onto F (q := q) (by omega)
          rw [vrank_lf F hi] at hr
          exact hI i hi hc hr
theorem qC_namo {M : gM} {V : vV} {lf : Nat → Nat} (h : Ac M V lf) (x1 x2 : Int32) : s_X12_naming M x1 x2 ∧ f_X12_naming M x1 x2 = a_nam V x1 x2 := by
  have h10 := h.2.2.P.2
  have h12 := h.2.2.A.2
  simp only [s_X12_naming, f_X12_naming, sX7_isP, fX7_isP h.c h.2.2, true_and, bz_0, a_nam]
  rcases isP_cases (x := x1) (n := vP V) (by omega) with e | ⟨j, hj, rfl, e⟩
  · simp [e]
  · rcases isP_cases (x := x2) (n := vP V) (by omega) with e2 | ⟨p, hp, rfl, e2⟩
    · simp [e, e2]
    · have hN := h.c.A h.2.2
      simp only [e, e2, Bool.true_eq_false, if_false, if_true, nn_nI (show p < 2 ^ 31 by omega)]
      refine lp (fun n k (s : Int32) => f_X12_naming_29 M (nI j) (nI p) n s (nI k)) (fun n k s => s_X12_naming_29 M (nI j) (nI p) n s (nI k)) (fun k s => s = bo (fun q => decide (V.1 (58 + 7 * q) = nI j) && vnm V q p) k) (fun z => z = bo (fun q => decide (V.1 (58 + 7 * q) = nI j) && vnm V q p) (vA V)) (vA V) ?_ ?_ FU 0 0 (Nat.zero_le _) (by rw [FU_eq]; omega) rfl
      · intro n k s hk hI ih
        have i1 : vp_in (nI k) 12 := vpi (by omega)
        have e25 := (h.c.2.2.2.1 k hk).1.1
        obtain ⟨a1, a2⟩ := X5_gives h.c h.2.2 hk hp
        simp only [s_X12_naming_29, f_X12_naming_29, bnd, bndP, hN, if_neg (nI_ge hk (by omega)), nn_nI (show k < 2 ^ 31 by omega), e25, i1, a1, a2, p1, true_and, bz_0]
        by_cases z : V.1 (58 + 7 * k) = nI j
        · simp only [z, if_true]
          cases hv : vnm V k p
          · simp only [if_true]
            exact ih s (by rw [hI]; exact bo_f (by omega) (by simp [hv]))
          · simp only [Bool.true_eq_false, if_false]
            exact ih _ (by rw [hI]; exact bo_t (P := fun q => decide (V.1 (58 + 7 * q) = nI j) && vnm V q p) (by simp [hv, z]))
        · simp only [z, if_false]
          exact ih s (by rw [hI]; exact bo_f (by omega) (by simp [z]))
      · intro n s hI
        simp only [s_X12_naming_29, f_X12_naming_29, hN, if_pos (nI_le (Nat.le_refl (vA V)) (by omega))]
        exact ⟨trivial, hI⟩
theorem qC_seeo {M : gM} {V : vV} {lf : Nat → Nat} (h : Ac M V lf) (x1 x2 x3 : Int32) : s_X12_sees M x1 x2 x3 ∧ f_X12_sees M x1 x2 x3 = a_see V x1 x2 x3 := by
  have h10 := h.2.2.P.2
  have h12 := h.2.2.A.2
  simp only [s_X12_sees, f_X12_sees, sX7_isP, fX7_isP h.c h.2.2, sX7_isA, fX7_isA h.c h.2.2, sDay.1, fDay.1, true_and, bz_0, a_see]
  rcases isP_cases (x := x1) (n := vP V) (by omega) with e | ⟨p, hp, rfl, e⟩
  · simp [e]
  · rcases isP_cases (x := x2) (n := vA V) (by omega) with e2 | ⟨q, hq, rfl, e2⟩
    · simp [e, e2]
    · cases e3 : isD x3
      · simp [e, e2]
      · have i10 : vp_in (nI p) 10 := vpi (by omega)
        have i12 : vp_in (nI q) 12 := vpi (by omega)
        obtain ⟨m1, m2⟩ := wmk h.2.2 hq
        have im : vp_in (nI (vmk V q)) 10 := vpi (by omega)
        obtain ⟨e25, e26, e27, e28, e29, e35, e32, e30, e31, e33, e34'⟩ := (h.c.2.2.2.1 q hq).1
        simp only [e, e2, Bool.true_eq_false, if_false, if_true, nn_nI (show p < 2 ^ 31 by omega), nn_nI (show q < 2 ^ 31 by omega), i10, i12, sX6_lives, fX6_lives h.c h.2.2 hp, e25, m1, im, nn_nI (show vmk V q < 2 ^ 31 by omega), fX6_lives h.c h.2.2 m2, true_and, bz_0]
        cases l1 : vliv V p x3
        · simp
        · simp only [Bool.true_eq_false, if_false, if_true]
          cases l2 : vliv V (vmk V q) x3
          · have md : V.2.1 (vmk V q) ≠ -2 := fun z => by unfold vliv at l2; simp [z] at l2
            obtain ⟨a1, a2⟩ := X7_heirs h.c h.2.2 m2 md
            obtain ⟨g1, g2⟩ := X5_gives h.c h.2.2 hq hp
            simp only [if_true, a1, a2, b_read _ (show p < 32 by omega), s_X12_sees_122, f_X12_sees_122, s_X12_sees_147, f_X12_sees_147, sX5_wit, fX5_wit (show p < 32 by omega), e30, g1, g2, sBit, bz_0, o1, if_false, true_and, and_true, Bool.false_eq_true]
            cases b1 : bt (vheirs V (vmk V q)) p <;> cases b2 : bt (V.2.1 (22 + q)) p <;> cases b3 : vnm V q p <;> simp [f_X12_bit, bz]
          · simp only [Bool.true_eq_false, if_false, if_true, sBit, and_true]
            by_cases z : nI p = nI (vmk V q) <;> simp [z, f_X12_bit]
theorem qC_maro {M : gM} {V : vV} {lf : Nat → Nat} (h : Ac M V lf) (x1 : Int32) : s_X12_margin M x1 ∧ f_X12_margin M x1 = a_mar V x1 := by
  have h12 := h.2.2.A.2
  simp only [s_X12_margin, f_X12_margin, bnd, bndP, sX7_isA, fX7_isA h.c h.2.2, true_and, bz_0, a_mar]
  rcases isP_cases (x := x1) (n := vA V) (by omega) with e | ⟨q, hq, rfl, e⟩
  · simp [e]
  · have i12 : vp_in (nI q) 12 := vpi (by omega)
    have j0 : vp_in (0 : Int32) 2 := vpi (k := 0) (by omega)
    have j1 : vp_in (1 : Int32) 2 := b01
    have L0 := (h.c.2.2.2.2.2.1 0 (by omega)).1
    have L1 := (h.c.2.2.2.2.2.1 1 (by omega)).1
    have w0 := vpe (h.2.2.2.2.2.2.2 0 (by omega)).1 (by decide)
    have w1 := vpe (h.2.2.2.2.2.2.2 1 (by omega)).1 (by decide)
    obtain ⟨a1, a2⟩ := X4_lived h.c h.2.2 hq
    obtain ⟨b1, b2⟩ := X4_hand h.c h.2.2 hq (show 0 < 2 by omega)
    obtain ⟨d1, d2⟩ := X4_hand h.c h.2.2 hq (show 1 < 2 by omega)
    have b1 : s_X4_hasFormByHand M q 0 := b1
    have b2 : f_X4_hasFormByHand M q 0 = bz (vhand V q 0) := b2
    have d1 : s_X4_hasFormByHand M q 1 := d1
    have d2 : f_X4_hasFormByHand M q 1 = bz (vhand V q 1) := d2
    have n0 : nn (0 : Int32) = 0 := rfl
    have n1 : nn (1 : Int32) = 1 := rfl
    have L0 : rdI M 14 0 0 0 = nI (nn (V.1 4)) := L0.trans w0.1
    have L1 : rdI M 14 0 1 0 = nI (nn (V.1 9)) := L1.trans w1.1
    have w0 : nn (V.1 4) < 5 := w0.2
    have w1 : nn (V.1 9) < 5 := w1.2
    have mle : Nat.min (nn (V.1 4)) (nn (V.1 9)) ≤ nn (V.1 4) := Nat.min_le_left _ _
    have cl := vlc_le h.2.2 q
    simp only [e, Bool.true_eq_false, if_false, if_true, nn_nI (show q < 2 ^ 31 by omega), i12, j0, j1, n0, n1, L0, L1, mn_nI (show nn (V.1 4) < 2 ^ 31 by omega) (show nn (V.1 9) < 2 ^ 31 by omega), a1, a2, b1, b2, d1, d2, true_and, bz_0, nI_leI (show Nat.min (nn (V.1 4)) (nn (V.1 9)) < 2 ^ 31 by omega) (show vlc V q < 2 ^ 31 by omega)]
    generalize hm : Nat.min (nn (V.1 4)) (nn (V.1 9)) = m at *
    have hm0 : (nI m = 0) = (nn (V.1 4) = 0 ∨ nn (V.1 9) = 0) := propext (by
      rw [show (0 : Int32) = nI 0 from rfl, nI_eq (by omega) (by omega), ← hm]
      constructor
      · intro z
        rcases Nat.le_total (nn (V.1 4)) (nn (V.1 9)) with y | y
        · rw [show Nat.min (nn (V.1 4)) (nn (V.1 9)) = nn (V.1 4) from Nat.min_eq_left y] at z; exact Or.inl z
        · rw [show Nat.min (nn (V.1 4)) (nn (V.1 9)) = nn (V.1 9) from Nat.min_eq_right y] at z; exact Or.inr z
      · rintro (z | z)
        · rw [z]; exact Nat.zero_min _
        · rw [z]; exact Nat.min_zero _)
    simp only [hm0]
    by_cases z : nn (V.1 4) = 0 ∨ nn (V.1 9) = 0
    · have z2 : nn (V.1 4) = 0 ∨ nn (V.1 9) = 0 ∨ vhand V q 0 = true ∨ vhand V q 1 = true := z.elim Or.inl (fun y => Or.inr (Or.inl y))
      rw [if_pos z, if_pos z, if_pos z2]; exact ⟨trivial, rfl⟩
    · rw [if_neg z, if_neg z]
      have za : ¬ nn (V.1 4) = 0 := fun y => z (Or.inl y)
      have zb : ¬ nn (V.1 9) = 0 := fun y => z (Or.inr y)
      cases h0 : vhand V q 0
      · cases h1 : vhand V q 1
        · by_cases y : m ≤ vlc V q <;> simp [za, zb, y]
        · simp
      · simp
theorem qC_thio {M : gM} {V : vV} {lf : Nat → Nat} (h : Ac M V lf) (x1 x2 : Int32) : s_X12_thing M x1 x2 ∧ f_X12_thing M x1 x2 = a_thi V x1 x2 := by
  have h8 := h.2.2.T.2
  simp only [s_X12_thing, f_X12_thing, sX7_isT, fX7_isT h.c h.2.2, true_and, bz_0, a_thi]
  rcases isP_cases (x := x1) (n := vT V) (by omega) with e | ⟨t, ht, rfl, e⟩
  · simp [e]
  · have i8 : vp_in (nI t) 8 := vpi (by omega)
    obtain ⟨r1, r2, r3⟩ := h.c.2.2.1 t ht
    simp only [e, Bool.true_eq_false, if_false, if_true, nn_nI (show t < 2 ^ 31 by omega), i8, r1, r2, r3, true_and]
    rcases isP_cases (x := x2) (n := 3) (by omega) with e2 | ⟨k, hk, rfl, e2⟩
    · have n0 : ¬ x2 = 0 := fun z => by rw [z] at e2; exact absurd e2 (by decide)
      have n1 : ¬ x2 = 1 := fun z => by rw [z] at e2; exact absurd e2 (by decide)
      have n2 : ¬ x2 = 2 := fun z => by rw [z] at e2; exact absurd e2 (by decide)
      simp [e2, n0, n1, n2]
    · simp only [e2, if_true, nn_nI (show k < 2 ^ 31 by omega)]
      rcases k with _ | _ | _ | k
      · exact ⟨trivial, rfl⟩
      · exact ⟨trivial, rfl⟩
      · exact ⟨trivial, rfl⟩
      · omega
theorem qC_lano {M : gM} {V : vV} {lf : Nat → Nat} (h : Ac M V lf) (x1 x2 : Int32) : s_X12_land M x1 x2 ∧ f_X12_land M x1 x2 = a_lan V x1 x2 := by
  simp only [s_X12_land, f_X12_land, sLand, fLand, true_and, bz_0, a_lan]
  rcases isP_cases (x := x1) (n := 2) (by omega) with e | ⟨l, hl, rfl, e⟩
  · simp [e]
  · have i8 : vp_in (nI l) 2 := vpi (by omega)
    obtain ⟨r1, r2, r3, r4, r5⟩ := h.c.2.2.2.2.2.1 l hl
    obtain ⟨w1, w2, w3, w4, w5⟩ := h.2.2.2.2.2.2.2 l hl
    simp only [e, Bool.true_eq_false, if_false, if_true, nn_nI (show l < 2 ^ 31 by omega), i8, r1, r2, r3, r4, r5, sBit, fBit01 w2, fBit01 w3, fBit01 w4, fBit01 w5, true_and, and_true]
    rcases isP_cases (x := x2) (n := 5) (by omega) with e2 | ⟨k, hk, rfl, e2⟩
    · have n0 : ¬ x2 = 0 := fun z => by rw [z] at e2; exact absurd e2 (by decide)
      have n1 : ¬ x2 = 1 := fun z => by rw [z] at e2; exact absurd e2 (by decide)
      have n2 : ¬ x2 = 2 := fun z => by rw [z] at e2; exact absurd e2 (by decide)
      have n3 : ¬ x2 = 3 := fun z => by rw [z] at e2; exact absurd e2 (by decide)
      have n4 : ¬ x2 = 4 := fun z => by rw [z] at e2; exact absurd e2 (by decide)
      simp [e2, n0, n1, n2, n3, n4]
    · simp only [e2, if_true, nn_nI (show k < 2 ^ 31 by omega)]
      rcases k with _ | _ | _ | _ | _ | k
      · exact ⟨trivial, rfl⟩
      · exact ⟨trivial, rfl⟩
      · exact ⟨trivial, rfl⟩
      · exact ⟨trivial, rfl⟩
      · exact ⟨trivial, rfl⟩
      · omega
theorem qC_givo {M : gM} {V : vV} {lf : Nat → Nat} (h : Ac M V lf) (x1 x2 x3 : Int32) : s_X12_give M x1 x2 x3 ∧ f_X12_give M x1 x2 x3 = a_giv V x1 x2 x3 := by
  have h12 := h.2.2.A.2
  have h10 := h.2.2.P.2
  simp only [s_X12_give, f_X12_give, sX7_isA, fX7_isA h.c h.2.2, true_and, bz_0, a_giv]
  rcases isP_cases (x := x1) (n := vA V) (by omega) with e | ⟨q, hq, rfl, e⟩
  · simp [e]
  · have i12 : vp_in (nI q) 12 := vpi (by omega)
    have e35 := (h.c.2.2.2.1 q hq).1.2.2.2.2.2.1
    have hG := wG h.2.2 hq
    have k : ∀ (u v : Int32), (if x3 < 0 then u else if x3 ≤ 4 then v else u) = if isB x3 5 = true then v else u := fun u v => isB_ite (a := 4) (by omega)
    have k2 : ∀ (u v : Prop), (if x3 < 0 then u else if x3 ≤ 4 then v else u) = if isB x3 5 = true then v else u := fun u v => isB_ite (a := 4) (by omega)
    simp only [e, Bool.true_eq_false, if_false, if_true, k, k2, i12, true_and, nn_nI (show q < 2 ^ 31 by omega), e35, hG.1]
    by_cases z : x2 < 0
    · simp [z]
    · obtain ⟨n, hn, rfl⟩ := nI_of z
      simp only [z, if_false]
      rcases isP_cases (x := x3) (n := 5) (by omega) with e3 | ⟨j, hj, rfl, e3⟩
      · simp [e3]
      · simp only [e3, if_true, isB_nI hn (show vG V q < 2 ^ 31 by omega), nn_nI hn, nn_nI (show j < 2 ^ 31 by omega)]
        by_cases y : n < vG V q
        · have l6 : nI n < 6 := nI_lt (b := 6) (by omega) (by decide)
          have i6 : vp_in (nI n) 6 := vpi (by omega)
          obtain ⟨g1, g2, g3, g4, g5⟩ := (h.c.2.2.2.1 q hq).2 n y
          have w := (h.2.2.2.2.2.1 q hq).2 n y
          have ok3 : V.1 (gi q n 3) = -2 ∨ vp_in (V.1 (gi q n 3)) (vP V) := w.2.2.2.1.elim (fun z => Or.inl z.2) (fun z => Or.inr z.2)
          simp only [y, decide_true, if_true, if_neg (nI_ge y (by omega)), l6, i6, g1, g2, g3, g4, g5, sO2, fO2_n ok3 (show vP V < 2 ^ 31 by omega), fO2_n w.2.2.2.2 (show vP V < 2 ^ 31 by omega), true_and, and_true]
          rcases j with _ | _ | _ | _ | _ | j
          · exact ⟨trivial, rfl⟩
          · exact ⟨trivial, rfl⟩
          · exact ⟨trivial, rfl⟩
          · exact ⟨trivial, rfl⟩
          · exact ⟨trivial, rfl⟩
          · omega
        · have l2 : nI (vG V q) ≤ nI n := nI_le (by omega) hn
          simp [y, l2]
theorem qC_pero {M : gM} {V : vV} {lf : Nat → Nat} (h : Ac M V lf) (x1 x2 : Int32) : s_X12_person M x1 x2 ∧ f_X12_person M x1 x2 = a_per V x1 x2 := by
  have h10 := h.2.2.P.2
  simp only [s_X12_person, f_X12_person, sX7_isP, fX7_isP h.c h.2.2, true_and, bz_0, a_per]
  rcases isP_cases (x := x1) (n := vP V) (by omega) with e | ⟨p, hp, rfl, e⟩
  · simp [e]
  · have i10 : vp_in (nI p) 10 := vpi (by omega)
    obtain ⟨r1, r2, r3⟩ := h.c.2.1 p hp
    obtain ⟨a1, a2⟩ := X7_children h.c h.2.2 (show p < 32 by omega)
    obtain ⟨b1, b2⟩ := X7_wed h.c h.2.2 p 9999
    have ok := vwed_ok h.2.2 p 9999
    simp only [e, Bool.true_eq_false, if_false, if_true, nn_nI (show p < 2 ^ 31 by omega), i10, r1, r2, r3, a1, a2, b1, b2, sO2, fO2_d (h.2.2.2.1 p hp).2.1, fO2_n ok (show vP V < 2 ^ 31 by omega), true_and, and_true]
    (repeat' split) <;> first | exact ⟨trivial, rfl⟩ | simp_all
theorem qC_papo {M : gM} {V : vV} {lf : Nat → Nat} (h : Ac M V lf) (x1 x2 : Int32) : s_X12_paper M x1 x2 ∧ f_X12_paper M x1 x2 = a_pap V x1 x2 := by
  have h12 := h.2.2.A.2
  have h10 := h.2.2.P.2
  simp only [s_X12_paper, f_X12_paper, sX7_isA, fX7_isA h.c h.2.2, true_and, bz_0, a_pap]
  rcases isP_cases (x := x1) (n := vA V) (by omega) with e | ⟨q, hq, rfl, e⟩
  · simp [e]
  · have i12 : vp_in (nI q) 12 := vpi (by omega)
    obtain ⟨e25, e26, e27, e28, e29, e35, e32, e30, e31, e33, e34'⟩ := (h.c.2.2.2.1 q hq).1
    obtain ⟨w1, w2, w3, w4, w5, w6, w7, w8, w9, w10, w11⟩ := (h.2.2.2.2.2.1 q hq).1
    simp only [e, Bool.true_eq_false, if_false, if_true, nn_nI (show q < 2 ^ 31 by omega), i12, e25, e26, e27, e28, e29, e30, e32, e33, e34', e35, sO2, sBit, fBit01 w5, fBit01 w9, fO2_n w7 (show vP V < 2 ^ 31 by omega), fO2_n w8 (show 4 < 2 ^ 31 by omega), true_and, and_true]
    rcases isP_cases (x := x2) (n := 5) (by omega) with e2 | ⟨j, hj, rfl, e2⟩
    · have n0 : ¬ x2 = 0 := fun z => by rw [z] at e2; exact absurd e2 (by decide)
      have n1 : ¬ x2 = 1 := fun z => by rw [z] at e2; exact absurd e2 (by decide)
      have n2 : ¬ x2 = 2 := fun z => by rw [z] at e2; exact absurd e2 (by decide)
      have n3 : ¬ x2 = 3 := fun z => by rw [z] at e2; exact absurd e2 (by decide)
      have n4 : ¬ x2 = 4 := fun z => by rw [z] at e2; exact absurd e2 (by decide)
      simp only [e2, Bool.false_eq_true, n0, n1, n2, n3, n4, if_false]
      (repeat' split) <;> first | exact ⟨trivial, rfl⟩ | simp_all
    · simp only [e2, if_true, nn_nI (show j < 2 ^ 31 by omega)]
      rcases j with _ | _ | _ | _ | _ | j
      · exact ⟨trivial, rfl⟩
      · exact ⟨trivial, rfl⟩
      · exact ⟨trivial, rfl⟩
      · exact ⟨trivial, rfl⟩
      · exact ⟨trivial, rfl⟩
      · omega
theorem qC_couo {M : gM} {V : vV} {lf : Nat → Nat} (h : Ac M V lf) (x1 : Int32) : s_X12_count M x1 ∧ f_X12_count M x1 = a_cou V (rdI M 63 0 0 0) (rdI M 0 0 0 0) x1 := by
  obtain ⟨a1, a2⟩ := X7_lost h.c h.2.2
  obtain ⟨b1, b2⟩ := X7_dead h.c h.2.2
  simp only [s_X12_count, f_X12_count, a1, a2, b1, b2, h.c.1.1, h.c.1.2.1, h.c.1.2.2.1, h.c.1.2.2.2.1, h.c.1.2.2.2.2, a_cou, and_true, ite_self, and_self]
theorem qC_holo {M : gM} {V : vV} {lf : Nat → Nat} (h : Ac M V lf) (x1 x2 : Int32) : s_X12_holders M x1 x2 ∧ (f_X12_holders M x1 x2).1 = a_hol V lf x1 x2 := by
  have h8 := h.2.2.T.2
  simp only [s_X12_holders, f_X12_holders, bnd, bndP, sX7_isT, fX7_isT h.c h.2.2, sDay.1, fDay.1, true_and, bz_0, a_hol]
  rcases isP_cases (x := x1) (n := vT V) (by omega) with e | ⟨t, ht, rfl, e⟩
  · simp [e]
  · cases e2 : isD x2
    · simp [e]
    · obtain ⟨a1, a2, -⟩ := X1_hon h.c h.2.2 ht x2
      simp only [e, Bool.true_eq_false, if_false, if_true, a1, a2, nn_nI (show t < 2 ^ 31 by omega), and_self]
theorem qC_movo {M : gM} {V : vV} {lf : Nat → Nat} (h : Ac M V lf) (x1 x2 : Int32) : s_X12_moves M x1 x2 ∧ (f_X12_moves M x1 x2).1 = a_mov V lf x1 x2 := by
  have h8 := h.2.2.T.2
  simp only [s_X12_moves, f_X12_moves, bnd, bndP, sX7_isT, fX7_isT h.c h.2.2, true_and, bz_0, a_mov]
  rcases isP_cases (x := x1) (n := vT V) (by omega) with e | ⟨t, ht, rfl, e⟩
  · simp [e]
  · have k : ∀ (u v : Int32 × gM), (if x2 < 0 then u else if x2 ≤ 1 then v else u) = if isB x2 2 = true then v else u := fun u v => isB_ite (a := 1) (by omega)
    have k2 : ∀ (u v : Prop), (if x2 < 0 then u else if x2 ≤ 1 then v else u) = if isB x2 2 = true then v else u := fun u v => isB_ite (a := 1) (by omega)
    obtain ⟨a1, a2, a3⟩ := X1_goOn h.c h.2.2 ht 9999
    simp only [e, Bool.true_eq_false, if_false, if_true, k, k2, a1, a2.2.2.2.1, a2.2.2.2.2, sO2, fO2_d (vrun_lm h.2.2), true_and, nn_nI (show t < 2 ^ 31 by omega)]
    cases isB x2 2
    · simp
    · by_cases z : x2 = 0 <;> simp [z]
theorem qC_weao {M : gM} {V : vV} {lf : Nat → Nat} (h : Ac M V lf) (x1 : Int32) : s_X12_wealth M x1 ∧ (f_X12_wealth M x1).1 = a_wea V lf x1 := by
  have h10 := h.2.2.P.2
  simp only [s_X12_wealth, f_X12_wealth, bnd, bndP, sPC, fPC h.c h.2.2, sHol, true_and, bz_0, a_wea]
  by_cases z : x1 = -1 ∨ isB x1 (vP V) = true
  · have z2 : (decide (x1 = -1) || isB x1 (vP V)) = true := by
      rcases z with z | z <;> simp [z]
    obtain ⟨e1, e2⟩ := fHol (M := M) h10 z
    obtain ⟨a1, a2⟩ := X1_wealth h.c h.2.2 e2
    simp only [z2, z, Bool.true_eq_false, if_false, if_true, e1, a1, a2, and_self]
  · have z2 : (decide (x1 = -1) || isB x1 (vP V)) = false := by
      cases hb : isB x1 (vP V)
      · simp; exact fun y => z (Or.inl y)
      · exact absurd (Or.inr hb) z
    simp only [z2, z, if_false, if_true, and_self]
theorem qC_eveo {M : gM} {V : vV} {lf : Nat → Nat} (h : Ac M V lf) (x1 : Int32) : s_X12_ever M x1 ∧ (f_X12_ever M x1).1 = a_eve V lf x1 := by
  have h10 := h.2.2.P.2
  have h8 := h.2.2.T.2
  simp only [s_X12_ever, f_X12_ever, sX7_isP, fX7_isP h.c h.2.2, true_and, bz_0, a_eve]
  rcases isP_cases (x := x1) (n := vP V) (by omega) with e | ⟨p, hp, rfl, e⟩
  · simp [e]
  · simp only [e, Bool.true_eq_false, if_false, if_true, nn_nI (show p < 2 ^ 31 by omega)]
    refine lp (fun n t (s : gM × Int32) => f_X12_ever_17 (nI p) n s.1 s.2 (nI t)) (fun n t s => s_X12_ever_17 (nI p) n s.1 s.2 (nI t)) (fun t s => CV s.1 V lf ∧ s.2 = bo (fun t => bt (vrun V lf t 9999).2.2.1 p) t) (fun z => z.1 = a_evb V lf (fun S => S.2.2.1) p) (vT V) ?_ ?_ FU 0 (M, 0) (Nat.zero_le _) (by rw [FU_eq]; omega) ⟨h.c, rfl⟩
    · rintro n t ⟨N, x⟩ ht ⟨cN, hx⟩ ih
      have cN : CV N V lf := cN
      have hx : x = bo (fun t => bt (vrun V lf t 9999).2.2.1 p) t := hx
      have hN := cN.T h.2.2
      obtain ⟨a1, a2, a3⟩ := X1_goOn cN h.2.2 ht 9999
      have o := o_X1_goOn N (nI t) 9999
      simp only [s_X12_ever_17, f_X12_ever_17, bnd, bndP, hN, if_neg (nI_ge ht (by omega)), a1, a2.2.1, b_read _ (show p < 32 by omega), p1, true_and]
      exact ih (_, _) ⟨cN.off o (by decide), by rw [hx]; rfl⟩
    · rintro n ⟨N, x⟩ ⟨cN, hx⟩
      have cN : CV N V lf := cN
      have hN := cN.T h.2.2
      simp only [s_X12_ever_17, f_X12_ever_17, hN, if_pos (nI_le (Nat.le_refl (vT V)) (by omega))]
      exact ⟨trivial, hx⟩
theorem qC_gaio {M : gM} {V : vV} {lf : Nat → Nat} (h : Ac M V lf) (x1 x2 : Int32) : s_X12_gain M x1 x2 ∧ (f_X12_gain M x1 x2).1 = a_gai V lf x1 x2 ∧ CV (f_X12_gain M x1 x2).2 V lf := by
  have h10 := h.2.2.P.2
  have h12 := h.2.2.A.2
  simp only [s_X12_gain, f_X12_gain, bnd, bndP, sX7_isP, fX7_isP h.c h.2.2, sX7_isA, fX7_isA h.c h.2.2, true_and, bz_0, a_gai]
  rcases isP_cases (x := x1) (n := vP V) (by omega) with e | ⟨p, hp, rfl, e⟩
  · simp only [e, if_true, Bool.false_eq_true, if_false, true_and]; exact h.c
  · rcases isP_cases (x := x2) (n := vA V) (by omega) with e2 | ⟨q, hq, rfl, e2⟩
    · simp only [e, e2, if_true, Bool.false_eq_true, Bool.true_eq_false, if_false, true_and]; exact h.c
    · obtain ⟨a1, a2⟩ := X1_wealth h.c h.2.2 (show p < 11 by omega)
      have o := o_X1_wealthOf M (nI p)
      obtain ⟨b1, b2, b3⟩ := X1_wout (h.c.off o (by decide)) h.2.2 (show p < 11 by omega) hq
      simp only [e, e2, Bool.true_eq_false, if_false, if_true, a1, a2, b1, b2, nn_nI (show p < 2 ^ 31 by omega), nn_nI (show q < 2 ^ 31 by omega), true_and, and_true]
      exact ⟨rfl, b3⟩
theorem qC_agao {M : gM} {V : vV} {lf : Nat → Nat} (h : Ac M V lf) (x1 x2 : Int32) : s_X12_against M x1 x2 ∧ ((f_X12_against M x1 x2).1 = a_aga V lf x1 x2 ∧ CV (f_X12_against M x1 x2).2 V lf) := by
  have h10 := h.2.2.P.2
  have h12 := h.2.2.A.2
  have k : ∀ (u v : Int32 × gM), (if x2 < 0 then u else if x2 ≤ 1 then v else u) = if isB x2 2 = true then v else u := fun u v => isB_ite (a := 1) (by omega)
  have k2 : ∀ (u v : Prop), (if x2 < 0 then u else if x2 ≤ 1 then v else u) = if isB x2 2 = true then v else u := fun u v => isB_ite (a := 1) (by omega)
  simp only [s_X12_against, f_X12_against, bnd, bndP, sX7_isP, fX7_isP h.c h.2.2, true_and, bz_0, a_aga, k, k2]
  rcases isP_cases (x := x1) (n := vP V) (by omega) with e | ⟨p, hp, rfl, e⟩
  · simp only [e, if_true, Bool.false_eq_true, if_false, true_and]; exact h.c
  · cases e2 : isB x2 2
    · simp only [e, if_true, Bool.false_eq_true, Bool.true_eq_false, if_false, true_and]; exact h.c
    · obtain ⟨a1, a2⟩ := X1_wealth h.c h.2.2 (show p < 11 by omega)
      have o := o_X1_wealthOf M (nI p)
      simp only [e, Bool.true_eq_false, if_false, if_true, a1, a2, nn_nI (show p < 2 ^ 31 by omega), true_and]
      have c2 := h.c.off o (by decide)
      generalize (f_X1_wealthOf M (nI p)).2 = N0 at *
      refine lp (fun n q (s : gM × Int32 × Int32) => f_X12_against_41 (nI p) x2 (lN (vwl V lf p (vT V))).toInt32 n s.1 s.2.1 s.2.2 (nI q)) (fun n q s => s_X12_against_41 (nI p) x2 (lN (vwl V lf p (vT V))).toInt32 n s.1 s.2.1 s.2.2 (nI q)) (fun q s => CV s.1 V lf ∧ s.2 = vag V lf p q) (fun z => z.1 = (if x2 = 0 ∨ (vag V lf p (vA V)).1 = -2 then (vag V lf p (vA V)).1 else (vag V lf p (vA V)).2) ∧ CV z.2 V lf) (vA V) ?_ ?_ FU 0 (N0, -2, 0) (Nat.zero_le _) (by rw [FU_eq]; omega) ⟨c2, rfl⟩
      · rintro n q ⟨N, x, y⟩ hq ⟨cN, hx⟩ ih
        have cN : CV N V lf := cN
        have hx : (x, y) = vag V lf p q := hx
        have hN := cN.A h.2.2
        obtain ⟨b1, b2, b3⟩ := X1_wout cN h.2.2 (show p < 11 by omega) hq
        have gv : (lN (vwl V lf p (vT V))).toInt32 - (lN (vwl (vset V (34 + q) 1) lf p (vT V))).toInt32 = vgn V lf p q := rfl
        have st : vag V lf p (q + 1) = if vgn V lf p q < (vag V lf p q).2 then (nI q, vgn V lf p q) else vag V lf p q := rfl
        rw [← hx] at st
        simp only [s_X12_against_41, f_X12_against_41, bnd, bndP, hN, if_neg (nI_ge hq (by omega)), b1, b2, gv, p1, true_and]
        by_cases z : y ≤ vgn V lf p q
        · simp only [z, if_true]
          exact ih (_, x, y) ⟨b3, by rw [st, if_neg (i_nlt.mpr z)]⟩
        · simp only [z, if_false]
          exact ih (_, nI q, vgn V lf p q) ⟨b3, by rw [st, if_pos (i_nle.mp z)]⟩
      · rintro n ⟨N, x, y⟩ ⟨cN, hx⟩
        have cN : CV N V lf := cN
        have hx : (x, y) = vag V lf p (vA V) := hx
        have hN := cN.A h.2.2
        rw [← hx]
        simp only [s_X12_against_41, f_X12_against_41, s_X12_against_99, f_X12_against_99, hN, if_pos (nI_le (Nat.le_refl (vA V)) (by omega))]
        by_cases z1 : x2 = 0
        · simp only [z1, if_true, true_or, true_and]; exact cN
        · by_cases z2 : x = -2
          · simp only [z1, z2, if_true, if_false, or_true, true_and]; exact cN
          · simp only [z1, z2, if_false, or_self, true_and]; exact cN
theorem qC_keyo {M : gM} {V : vV} {lf : Nat → Nat} (h : Ac M V lf) (x1 : Int32) : s_X12_key M x1 ∧ ((f_X12_key M x1).1 = a_key V lf x1 ∧ CV (f_X12_key M x1).2 V lf) := by
  have h12 := h.2.2.A.2
  have h8 := h.2.2.T.2
  have k : ∀ (u v : Int32 × gM), (if x1 < 0 then u else if x1 ≤ 1 then v else u) = if isB x1 2 = true then v else u := fun u v => isB_ite (a := 1) (by omega)
  have k2 : ∀ (u v : Prop), (if x1 < 0 then u else if x1 ≤ 1 then v else u) = if isB x1 2 = true then v else u := fun u v => isB_ite (a := 1) (by omega)
  simp only [s_X12_key, f_X12_key, k, k2, a_key]
  cases e2 : isB x1 2
  · simp only [Bool.false_eq_true, if_false, true_and]; exact h.c
  · simp only [if_true]
    refine lp (fun n q (s : gM × Int32 × Int32) => f_X12_key_20 x1 n s.1 s.2.1 s.2.2 (nI q)) (fun n q s => s_X12_key_20 x1 n s.1 s.2.1 s.2.2 (nI q)) (fun q s => CV s.1 V lf ∧ s.2 = (kyA (vky V lf q), kyB (vky V lf q))) (fun z => z.1 = (if x1 = 0 then kyA (vky V lf (vA V)) else kyB (vky V lf (vA V))) ∧ CV z.2 V lf) (vA V) ?_ ?_ FU 0 (M, -2, -2) (Nat.zero_le _) (by rw [FU_eq]; omega) ⟨h.c, rfl⟩
    · rintro n q ⟨N, s⟩ hq ⟨cN, hs⟩ ih
      have cN : CV N V lf := cN
      have hs : s = (kyA (vky V lf q), kyB (vky V lf q)) := hs
      subst hs
      have hN := cN.A h.2.2
      obtain ⟨b1, b2, b3⟩ := X1_other cN h.2.2 hq
      have vl := vot_le (V := V) (lf := lf) (q := q) (vT V)
      simp only [s_X12_key_20, f_X12_key_20, bnd, bndP, hN, if_neg (nI_ge hq (by omega)), b1, b2, p1, true_and]
      cases hv : vky V lf q with
      | none =>
        have z : ¬ nI (vot V lf q (vT V)) ≤ kyB none := by
          show ¬ nI (vot V lf q (vT V)) ≤ -2
          rw [Int32.le_iff_toInt_le, nI_toInt (by omega)]
          rw [show ((-2 : Int32)).toInt = -2 from by decide]
          omega
        simp only [z, if_false]
        exact ih (_, nI q, nI (vot V lf q (vT V))) ⟨b3, by rw [vky, hv]; rfl⟩
      | some b =>
        have ok := vky_ok q b hv
        have ex : (nI (vot V lf q (vT V)) ≤ kyB (some b)) = (vot V lf q (vT V) ≤ b.2) := propext (nI_leI (by omega) (by omega))
        simp only [ex]
        by_cases z : vot V lf q (vT V) ≤ b.2
        · simp only [z, if_true]
          exact ih (_, kyA (some b), kyB (some b)) ⟨b3, by rw [vky, hv]; simp [show ¬ b.2 < vot V lf q (vT V) by omega]⟩
        · simp only [z, if_false]
          exact ih (_, nI q, nI (vot V lf q (vT V))) ⟨b3, by rw [vky, hv]; simp [show b.2 < vot V lf q (vT V) by omega, kyA, kyB]⟩
    · rintro n ⟨N, s⟩ ⟨cN, hs⟩
      have cN : CV N V lf := cN
      have hs : s = (kyA (vky V lf (vA V)), kyB (vky V lf (vA V))) := hs
      subst hs
      have hN := cN.A h.2.2
      simp only [s_X12_key_20, f_X12_key_20, hN, if_pos (nI_le (Nat.le_refl (vA V)) (by omega))]
      by_cases z1 : x1 = 0
      · simp only [z1, if_true, true_and]; exact cN
      · simp only [z1, if_false, true_and]; exact cN
theorem qC_haso {M : gM} {V : vV} {lf : Nat → Nat} (h : Ac M V lf) (x1 x2 x3 x4 : Int32) : s_X12_has M x1 x2 x3 x4 ∧ (f_X12_has M x1 x2 x3 x4).1 = a_has V lf x1 x2 x3 x4 := by
  have h10 := h.2.2.P.2
  have h8 := h.2.2.T.2
  have k : ∀ (u v : Int64 × gM), (if x4 < 0 then u else if x4 ≤ 1 then v else u) = if isB x4 2 = true then v else u := fun u v => isB_ite (a := 1) (by omega)
  have k2 : ∀ (u v : Prop), (if x4 < 0 then u else if x4 ≤ 1 then v else u) = if isB x4 2 = true then v else u := fun u v => isB_ite (a := 1) (by omega)
  simp only [s_X12_has, f_X12_has, bnd, bndP, sPC, fPC h.c h.2.2, sX7_isT, fX7_isT h.c h.2.2, sDay.1, fDay.1, sHol, true_and, bz_0, a_has, k, k2]
  by_cases z : x1 = -1 ∨ isB x1 (vP V) = true
  · have z2 : (decide (x1 = -1) || isB x1 (vP V)) = true := by
      rcases z with z | z <;> simp [z]
    simp only [z2, z, Bool.true_eq_false, if_false, if_true]
    rcases isP_cases (x := x2) (n := vT V) (by omega) with e2 | ⟨t, ht, rfl, e2⟩
    · simp [e2]
    · cases e3 : isD x3
      · simp [e2]
      · cases e4 : isB x4 2
        · simp [e2]
        · obtain ⟨e1, e1b⟩ := fHol (M := f_X1_goOn M (nI t) x3) h10 z
          obtain ⟨a1, a2, a3⟩ := X1_goOn h.c h.2.2 ht x3
          have ik : vp_in (nI (pcN x1)) 11 := vpi e1b
          have Ple := sm_le a3.1 e1b
          have Wle := a3.2.2.1
          have Wpos := a3.2.1
          have w42 : (18 : Nat) ^ 10 < 2 ^ 42 := by decide
          have w63 : (2 : Nat) ^ 42 < 2 ^ 63 := by decide
          obtain ⟨g1, g2⟩ := gd_main (M := f_X1_goOn M (nI t) x3) 42 (vrun V lf t x3).2.1 ((vrun V lf t x3).1 (pcN x1)) FU 0 (by omega) (by omega) (by omega) (by rw [FU_eq]; omega) (by omega)
          have g1 : s_X12_greatestDivisor (f_X1_goOn M (nI t) x3) (lN (vrun V lf t x3).2.1) (lN ((vrun V lf t x3).1 (pcN x1))) := g1
          have g2 : f_X12_greatestDivisor (f_X1_goOn M (nI t) x3) (lN (vrun V lf t x3).2.1) (lN ((vrun V lf t x3).1 (pcN x1))) = lN (Nat.gcd (vrun V lf t x3).2.1 ((vrun V lf t x3).1 (pcN x1))) := g2
          have gp : 0 < Nat.gcd (vrun V lf t x3).2.1 ((vrun V lf t x3).1 (pcN x1)) := Nat.gcd_pos_of_pos_left _ Wpos
          have gl : Nat.gcd (vrun V lf t x3).2.1 ((vrun V lf t x3).1 (pcN x1)) ≤ (vrun V lf t x3).2.1 := Nat.gcd_le_left _ Wpos
          have gz : ¬ lN (Nat.gcd (vrun V lf t x3).2.1 ((vrun V lf t x3).1 (pcN x1))) = 0 := fun q => by have := (lz (by omega)).mp q; omega
          have gt : (0 < lg_cmp (lN (Nat.gcd (vrun V lf t x3).2.1 ((vrun V lf t x3).1 (pcN x1)))) 0) = True := eq_true (by
            rw [lg_cmp_gt, show (0 : Int64) = lN 0 from rfl, pk_lLT (by decide) (by omega)]
            exact gp)
          simp only [e2, Bool.true_eq_false, if_false, if_true, nn_nI (show t < 2 ^ 31 by omega), a1, e1, ik, nn_nI (show pcN x1 < 2 ^ 31 by omega), a2.1.1 _ e1b, a2.1.2, g1, g2, gt, gz, not_false_eq_true, true_and, ite_self]
          rw [pk_lDiv (by omega) gp (by omega), pk_lDiv (by omega) gp (by omega)]
          unfold fN fD
          rw [Nat.gcd_comm ((vrun V lf t x3).1 (pcN x1)) (vrun V lf t x3).2.1]
          by_cases y : x4 = 0 <;> simp [y]
  · have z2 : (decide (x1 = -1) || isB x1 (vP V)) = false := by
      cases hb : isB x1 (vP V)
      · simp; exact fun y => z (Or.inl y)
      · exact absurd (Or.inr hb) z
    simp only [z2, z, if_false, if_true, and_self]
theorem X1_lefto {M : gM} {V : vV} {lf : Nat → Nat} (h : Ac M V lf) {p : Nat} (hp : p < vP V) : s_X1_thingsLeftBy M (nI p) ∧ (f_X1_thingsLeftBy M (nI p)).1 = a_evb V lf (fun S => S.2.2.2.1) p := by
  have h10 := h.2.2.P.2
  have h8 := h.2.2.T.2
  unfold s_X1_thingsLeftBy f_X1_thingsLeftBy
  refine lp (fun n t (s : gM × Int32) => f_X1_thingsLeftBy_4 (nI p) n s.1 s.2 (nI t)) (fun n t s => s_X1_thingsLeftBy_4 (nI p) n s.1 s.2 (nI t)) (fun t s => CV s.1 V lf ∧ s.2 = bo (fun t => bt (vrun V lf t 9999).2.2.2.1 p) t) (fun z => z.1 = a_evb V lf (fun S => S.2.2.2.1) p) (vT V) ?_ ?_ FU 0 (M, 0) (Nat.zero_le _) (by rw [FU_eq]; omega) ⟨h.c, rfl⟩
  · rintro n t ⟨N, x⟩ ht ⟨cN, hx⟩ ih
    have cN : CV N V lf := cN
    have hx : x = bo (fun t => bt (vrun V lf t 9999).2.2.2.1 p) t := hx
    have hN := cN.T h.2.2
    obtain ⟨a1, a2, a3⟩ := X1_goOn cN h.2.2 ht 9999
    have o := o_X1_goOn N (nI t) 9999
    simp only [s_X1_thingsLeftBy_4, f_X1_thingsLeftBy_4, bnd, bndP, hN, if_neg (nI_ge ht (by omega)), a1, a2.2.2.1, b_read _ (show p < 32 by omega), p1, true_and]
    exact ih (_, _) ⟨cN.off o (by decide), by rw [hx]; rfl⟩
  · rintro n ⟨N, x⟩ ⟨cN, hx⟩
    have cN : CV N V lf := cN
    have hN := cN.T h.2.2
    simp only [s_X1_thingsLeftBy_4, f_X1_thingsLeftBy_4, hN, if_pos (nI_le (Nat.le_refl (vT V)) (by omega))]
    exact ⟨trivial, hx⟩
theorem C_de1o {M : gM} {V : vV} {lf : Nat → Nat} (h : Ac M V lf) {x2 : Int32} {o : Option Nat} (m : mortal V o) : s_X12_death_53 M x2 (oJ o) ∧ (f_X12_death_53 M x2 (oJ o)).1 = a_de1 V lf x2 o := by
  have h10 := h.2.2.P.2
  simp only [s_X12_death_53, f_X12_death_53, bnd, bndP, sX7_isP, fX7_isP h.c h.2.2, true_and, bz_0]
  cases o with
  | none =>
    have e : isB (oJ none) (vP V) = false := by show isB (-1) (vP V) = false; unfold isB; exact decide_eq_false fun q => q.1 (by decide)
    simp only [e, if_true, true_and]; rfl
  | some d =>
    obtain ⟨hd, md⟩ := m d rfl
    have e : isB (nI d) (vP V) = true := by rw [isB_nI (by omega) (by omega)]; exact decide_eq_true hd
    have e0 : oJ (some d) = nI d := rfl
    have i10 : vp_in (nI d) 10 := vpi (by omega)
    obtain ⟨a1, a2⟩ := X1_lefto h hd
    have e20 : rdI M 20 0 d 0 = V.2.1 d := by rw [(h.c.2.1 d hd).2.1, mo_ne md]
    simp only [e, Bool.true_eq_false, if_false, e0, i10, a1, a2, nn_nI (show d < 2 ^ 31 by omega), e20, true_and, a_de1]
    by_cases y0 : x2 = 0
    · simp [y0]
    · by_cases y1 : x2 = 1 <;> simp [y0, y1]
theorem C_dko {M : gM} {V : vV} {lf : Nat → Nat} (h : Ac M V lf) {K : Nat} (hK : K < 2 ^ 31) (x2 : Int32) : ∀ (m n i : Nat) (cur : Option Nat), mortal V cur → vrem V cur ≤ m → m < n → i ≤ K →
    s_X12_death_27 M (nI K) x2 n (oJ cur) (nI i) ∧ (f_X12_death_27 M (nI K) x2 n (oJ cur) (nI i)).1 = a_de1 V lf x2 (vdk V (K - i) cur) := by
  intro m
  induction m with
  | zero =>
    intro n i cur mc hr hn hi
    obtain ⟨n, rfl⟩ : ∃ n', n = n' + 1 := ⟨n - 1, by omega⟩
    cases cur with
    | some d => exact absurd hr (by simp [vrem])
    | none =>
      rw [vdk_n]
      simp only [s_X12_death_27, f_X12_death_27, show (oJ none = -1) = True from eq_true rfl, if_true, ite_self]
      exact C_de1o h mc
  | succ m ih =>
    intro n i cur mc hr hn hi
    obtain ⟨n, rfl⟩ : ∃ n', n = n' + 1 := ⟨n - 1, by omega⟩
    by_cases e : i = K
    · subst e
      rw [Nat.sub_self, vdk]
      simp only [s_X12_death_27, f_X12_death_27, if_pos (nI_le (Nat.le_refl i) hK)]
      exact C_de1o h mc
    · cases cur with
      | none =>
        rw [vdk_n]
        simp only [s_X12_death_27, f_X12_death_27, show (oJ none = -1) = True from eq_true rfl, if_true, ite_self]
        exact C_de1o h mc
      | some d =>
        obtain ⟨hd, md⟩ := mc d rfl
        have h10 := h.2.2.P.2
        have e1 : (oJ (some d) = -1) = False := eq_false (nI_ne (show d < 2 ^ 31 by omega)).2
        obtain ⟨n1, n2⟩ := X7_db h.c h.2.2 mc
        rw [show K - i = (K - (i + 1)) + 1 by omega, vdk]
        simp only [s_X12_death_27, f_X12_death_27, if_neg (nI_ge (show i < K by omega) hK), e1, if_false, n1, n2, p1, true_and]
        exact ih n (i + 1) _ (vnd_mortal _) (by have := vrem_s (V := V) (d := d); omega) (by omega) (by omega)
theorem qC_deao {M : gM} {V : vV} {lf : Nat → Nat} (h : Ac M V lf) (x1 x2 : Int32) : s_X12_death M x1 x2 ∧ (f_X12_death M x1 x2).1 = a_dea V lf x1 x2 := by
  have k : ∀ (u v : Int32 × gM), (if x2 < 0 then u else if x2 ≤ 2 then v else u) = if isB x2 3 = true then v else u := fun u v => isB_ite (a := 2) (by omega)
  have k2 : ∀ (u v : Prop), (if x2 < 0 then u else if x2 ≤ 2 then v else u) = if isB x2 3 = true then v else u := fun u v => isB_ite (a := 2) (by omega)
  simp only [s_X12_death, f_X12_death, bnd, bndP, k, k2, a_dea]
  by_cases z : x1 < 0
  · simp only [z, if_true, and_self]
  · obtain ⟨K, hK, rfl⟩ := nI_of z
    simp only [z, if_false]
    cases e : isB x2 3
    · simp only [Bool.false_eq_true, if_false, and_self]
    · obtain ⟨n1, n2⟩ := X7_db (last := none) h.c h.2.2 (fun l hl => by cases hl)
      have n1 : s_X7_deathBehind M 0 (-1) := n1
      have n2 : f_X7_deathBehind M 0 (-1) = oJ (vnd V none) := n2
      simp only [if_true, n1, n2, true_and, nn_nI hK]
      have := C_dko h hK x2 10 FU 0 (vnd V none) (vnd_mortal _) (vrem_0 h.2.2) (by rw [FU_eq]; omega) (Nat.zero_le _)
      rw [Nat.sub_zero] at this
      exact this
theorem qC_wpao {M : gM} {V : vV} {lf : Nat → Nat} (h : Ac M V lf) (x1 x2 x3 : Int32) : s_X12_wouldPaper M x1 x2 x3 ∧ ((f_X12_wouldPaper M x1 x2 x3).1 = a_wpa V lf x1 x2 x3 ∧ CV (f_X12_wouldPaper M x1 x2 x3).2 V lf) := by
  have h12 := h.2.2.A.2
  have h8 := h.2.2.T.2
  have k : ∀ (u v : Int32 × gM), (if x2 < 0 then u else if 2 < x2 then u else v) = if isB x2 3 = true then v else u := fun u v => isB_ite2 (a := 2) (by omega)
  have k2 : ∀ (u v : Prop), (if x2 < 0 then u else if 2 < x2 then u else v) = if isB x2 3 = true then v else u := fun u v => isB_ite2 (a := 2) (by omega)
  simp only [s_X12_wouldPaper, f_X12_wouldPaper, s_X12_wouldPaper_108, f_X12_wouldPaper_108, bnd, bndP, k, k2, sX7_isA, fX7_isA h.c h.2.2, sX7_isT, fX7_isT h.c h.2.2, true_and, bz_0, a_wpa]
  rcases isP_cases (x := x1) (n := vA V) (by omega) with e | ⟨q, hq, rfl, e⟩
  · simp only [e, if_true, Bool.false_eq_true, if_false, true_and]; exact h.c
  · rcases isP_cases (x := x2) (n := 3) (by omega) with e2 | ⟨j, hj, rfl, e2⟩
    · simp only [e, e2, if_true, Bool.false_eq_true, Bool.true_eq_false, if_false, true_and]; exact h.c
    · rcases isP_cases (x := x3) (n := vT V) (by omega) with e3 | ⟨t, ht, rfl, e3⟩
      · simp only [e, e2, e3, if_true, Bool.false_eq_true, Bool.true_eq_false, if_false, true_and]; exact h.c
      · have i12 : vp_in (nI q) 12 := vpi (by omega)
        obtain ⟨-, -, -, -, -, -, -, -, -, e33, e34⟩ := (h.c.2.2.2.1 q hq).1
        have gb : gB (V.2.1 (34 + q)) := gb01 (h.2.2.2.2.2.1 q hq).1.2.2.2.2.2.2.2.2.1
        simp only [e, e2, e3, Bool.true_eq_false, if_false, if_true, nn_nI (show q < 2 ^ 31 by omega), nn_nI (show t < 2 ^ 31 by omega), i12, e33, e34, gb, true_and, and_true]
        rcases j with _ | _ | _ | j
        · have c2 := h.c.cop h.2.2 hq 0
          have h2 := wf_cop h.2.2 hq v04
          obtain ⟨a1, a2, a3⟩ := X1_hon c2 h2 ht 9999
          have c3 := a3.cop h2 hq (V.2.1 (10 + q))
          rw [vset_back] at c3
          have c4 := c3.bak h.2.2 hq (V.2.1 (34 + q))
          rw [vset_id] at c4
          exact ⟨a1, a2, c4⟩
        · have c2 := h.c.cop h.2.2 hq (-2)
          have h2 := wf_cop h.2.2 hq (v := -2) (Or.inl rfl)
          obtain ⟨a1, a2, a3⟩ := X1_hon c2 h2 ht 9999
          have c3 := a3.cop h2 hq (V.2.1 (10 + q))
          rw [vset_back] at c3
          have c4 := c3.bak h.2.2 hq (V.2.1 (34 + q))
          rw [vset_id] at c4
          exact ⟨a1, a2, c4⟩
        · have c2 := h.c.bak h.2.2 hq 1
          have h2 := wf_bak h.2.2 hq b01
          obtain ⟨a1, a2, a3⟩ := X1_hon c2 h2 ht 9999
          have c3 := a3.cop h2 hq ((vset V (34 + q) 1).2.1 (10 + q))
          rw [vset_id, vset_ne (by omega)] at c3
          have c4 := c3.bak h2 hq (V.2.1 (34 + q))
          rw [vset_back] at c4
          exact ⟨a1, a2, c4⟩
        · omega
theorem qC_wdio {M : gM} {V : vV} {lf : Nat → Nat} (h : Ac M V lf) (x1 x2 x3 : Int32) : s_X12_wouldDie M x1 x2 x3 ∧ ((f_X12_wouldDie M x1 x2 x3).1 = a_wdi V lf x1 x2 x3 ∧ CV (f_X12_wouldDie M x1 x2 x3).2 V lf) := by
  have h10 := h.2.2.P.2
  have h8 := h.2.2.T.2
  have sN : s_X12_isDayOrNever M x2 := by
    unfold s_X12_isDayOrNever s_X12_isDayOrNever_12
    split
    · trivial
    · refine ⟨sDay.1, ?_⟩
      split <;> trivial
  have fNv : f_X12_isDayOrNever M x2 = bz (decide (x2 = -1) || isD x2) := by
    unfold f_X12_isDayOrNever f_X12_isDayOrNever_12
    rw [fDay.1]
    by_cases z : x2 = -1
    · rw [if_pos z]; simp [z, bz]
    · rw [if_neg z]
      cases isD x2 <;> simp [z, bz]
  simp only [s_X12_wouldDie, f_X12_wouldDie, bnd, bndP, sX7_isP, fX7_isP h.c h.2.2, sX7_isT, fX7_isT h.c h.2.2, sN, fNv, true_and, bz_0, a_wdi]
  rcases isP_cases (x := x1) (n := vP V) (by omega) with e | ⟨p, hp, rfl, e⟩
  · simp only [e, if_true, Bool.false_eq_true, if_false, true_and]; exact h.c
  · by_cases z : x2 = -1 ∨ isD x2 = true
    · have z2 : (decide (x2 = -1) || isD x2) = true := by
        rcases z with z | z <;> simp [z]
      simp only [e, z, z2, if_true, Bool.true_eq_false, if_false]
      rcases isP_cases (x := x3) (n := vT V) (by omega) with e3 | ⟨t, ht, rfl, e3⟩
      · simp only [e3, if_true, Bool.false_eq_true, if_false, true_and]; exact h.c
      · have vv : (if x2 = -1 then (-2 : Int32) else x2) = -2 ∨ dOK (if x2 = -1 then (-2 : Int32) else x2) := by
          by_cases y : x2 = -1
          · rw [if_pos y]; exact Or.inl rfl
          · rw [if_neg y]; exact Or.inr (isD_t (z.resolve_left y))
        have mv : mo (if x2 = -1 then (-2 : Int32) else x2) = x2 := by
          by_cases y : x2 = -1
          · rw [if_pos y, y]; rfl
          · rw [if_neg y]
            exact mo_ne fun q => by
              have := isD_t (z.resolve_left y)
              rw [q] at this
              exact absurd this.1 (by decide)
        obtain ⟨a1, a2, a3⟩ := X1_dying h.c h.2.2 hp ht vv
        rw [mv] at a1 a2 a3
        simp only [e3, Bool.true_eq_false, if_false, if_true, a1, a2, nn_nI (show p < 2 ^ 31 by omega), nn_nI (show t < 2 ^ 31 by omega), true_and]
        exact a3
    · have z2 : (decide (x2 = -1) || isD x2) = false := by
        cases hb : isD x2
        · simp; exact fun y => z (Or.inl y)
        · exact absurd (Or.inr hb) z
      simp only [e, z, z2, if_true, Bool.true_eq_false, if_false, true_and]; exact h.c
theorem qC_kino {M : gM} {V : vV} {lf : Nat → Nat} (h : Ac M V lf) (x1 x2 : Int32) : s_X12_kin M x1 x2 ∧ f_X12_kin M x1 x2 = a_kin V x1 x2 := by
  have h10 := h.2.2.P.2
  simp only [s_X12_kin, f_X12_kin, sX7_isP, fX7_isP h.c h.2.2, true_and, bz_0, a_kin]
  rcases isP_cases (x := x1) (n := vP V) (by omega) with e | ⟨a, ha, rfl, e⟩
  · simp [e]
  · rcases isP_cases (x := x2) (n := vP V) (by omega) with e2 | ⟨b, hb, rfl, e2⟩
    · simp [e, e2]
    · simp only [e, e2, Bool.true_eq_false, if_false, if_true, nn_nI (show a < 2 ^ 31 by omega), nn_nI (show b < 2 ^ 31 by omega)]
      refine lp (fun n k (s : Int32) => f_X12_kin_31 M (nI b) n s (nI k)) (fun n k s => s_X12_kin_31 M (nI b) n s (nI k)) (fun k s => s = vks V a k ∧ vkr V a b (10 - k) k = vkr V a b 10 0) (fun z => z = vkr V a b 10 0) 10 ?_ ?_ FU 0 _ (Nat.zero_le _) (by rw [FU_eq]; omega) ⟨rfl, rfl⟩
      · rintro n k s hk ⟨hs, hI⟩ ih
        have n10 : ¬ (10 : Int32) ≤ nI k := nI_ge (b := 10) hk (by decide)
        obtain ⟨a1, a2⟩ := X7_kin h.c h.2.2 (vks_b h10 ha k)
        rw [show 10 - k = (10 - (k + 1)) + 1 by omega, vkr] at hI
        simp only [s_X12_kin_31, f_X12_kin_31, bnd, bndP, if_neg n10, hs, b_read _ (show b < 32 by omega), a1, a2, p1, true_and, bz_0]
        cases z : bt (vks V a k) b
        · rw [if_neg (by rw [z]; simp)] at hI
          simp only [if_true]
          exact ih _ ⟨rfl, hI⟩
        · rw [if_pos z] at hI
          simp only [Bool.true_eq_false, if_false]
          exact ⟨trivial, hI⟩
      · rintro n s ⟨hs, hI⟩
        simp only [s_X12_kin_31, f_X12_kin_31, if_pos (show (10 : Int32) ≤ nI 10 by decide)]
        rw [Nat.sub_self, vkr] at hI
        exact ⟨trivial, hI⟩
theorem qM_whyo {M : gM} {V : vV} {lf : Nat → Nat} {M0 : gM} (h : Am M0 M V lf) (x1 x2 : Int32) : s_X13_why M x1 x2 ∧ (f_X13_why M x1 x2).1 = a_why V x1 x2 := by
  have h1 := h.thr 0
  clear h
  simp only [s_X13_why, f_X13_why, s_X13_why_30, f_X13_why_30, bnd, bndP]
  generalize wrI M 67 0 0 0 0 = M1 at *
  obtain ⟨c, rfl, w⟩ := h1
  have h12 := w.A.2
  have h8 := w.T.2
  simp only [s_isA, f_isA w, s_isT, f_isT w, true_and, bz_0, a_why]
  rcases isP_cases (x := x1) (n := vA (mV M1)) (by omega) with e | ⟨j, hj, rfl, e⟩
  · simp [e]
  · rcases isP_cases (x := x2) (n := vT (mV M1)) (by omega) with e2 | ⟨t, ht, rfl, e2⟩
    · simp [e, e2]
    · obtain ⟨a1, a2⟩ := X13_why w hj ht
      simp only [e, e2, Bool.true_eq_false, if_false, if_true, a1, a2, nn_nI (show j < 2 ^ 31 by omega), nn_nI (show t < 2 ^ 31 by omega), true_and]
theorem qM_sbyo {M : gM} {V : vV} {lf : Nat → Nat} {M0 : gM} (h : Am M0 M V lf) (x1 x2 : Int32) : s_X13_struckBy M x1 x2 ∧ (f_X13_struckBy M x1 x2).1 = a_sby V x1 x2 := by
  have h1 := h.thr 0
  clear h
  simp only [s_X13_struckBy, f_X13_struckBy, s_X13_struckBy_30, f_X13_struckBy_30, bnd, bndP]
  generalize wrI M 67 0 0 0 0 = M1 at *
  obtain ⟨c, rfl, w⟩ := h1
  have h12 := w.A.2
  have h8 := w.T.2
  simp only [s_isA, f_isA w, s_isT, f_isT w, true_and, bz_0, a_sby]
  rcases isP_cases (x := x1) (n := vA (mV M1)) (by omega) with e | ⟨j, hj, rfl, e⟩
  · simp [e]
  · rcases isP_cases (x := x2) (n := vT (mV M1)) (by omega) with e2 | ⟨t, ht, rfl, e2⟩
    · simp [e, e2]
    · obtain ⟨a1, a2⟩ := X13_struck w hj ht
      simp only [e, e2, Bool.true_eq_false, if_false, if_true, a1, a2, nn_nI (show j < 2 ^ 31 by omega), nn_nI (show t < 2 ^ 31 by omega), true_and]
theorem qM_formo {M : gM} {V : vV} {lf : Nat → Nat} {M0 : gM} (h : Am M0 M V lf) (x1 x2 : Int32) : s_X13_form M x1 x2 ∧ (f_X13_form M x1 x2).1 = a_form V x1 x2 := by
  have h1 := h.thr 0
  clear h
  simp only [s_X13_form, f_X13_form, bnd, bndP]
  generalize wrI M 67 0 0 0 0 = M1 at *
  obtain ⟨c, rfl, w⟩ := h1
  have h12 := w.A.2
  simp only [s_isA, f_isA w, true_and, bz_0, a_form]
  rcases isP_cases (x := x1) (n := vA (mV M1)) (by omega) with e | ⟨j, hj, rfl, e⟩
  · simp [e]
  · have k := fun (u v : Int32 × gM) => isB_ite (x := x2) (a := 1) (by omega) (u := u) (v := v)
    have k2 := fun (u v : Prop) => isB_ite (x := x2) (a := 1) (by omega) (u := u) (v := v)
    have k : ∀ (u v : Int32 × gM), (if x2 < 0 then u else if x2 ≤ 1 then v else u) = if isB x2 2 = true then v else u := k
    have k2 : ∀ (u v : Prop), (if x2 < 0 then u else if x2 ≤ 1 then v else u) = if isB x2 2 = true then v else u := k2
    simp only [e, Bool.true_eq_false, if_false, if_true, k, k2]
    rcases isP_cases (x := x2) (n := 2) (by omega) with e2 | ⟨t, ht, rfl, e2⟩
    · simp [e2]
    · obtain ⟨a1, a2⟩ := X13_form w hj (vpi ht)
      simp only [e2, if_true, a1, a2, true_and, bz_0, nn_nI (show j < 2 ^ 31 by omega)]
      cases hf : vform (mV M1) j (nn (nI t)) <;> simp [bz]
theorem qM_heirso {M : gM} {V : vV} {lf : Nat → Nat} {M0 : gM} (h : Am M0 M V lf) (x1 : Int32) : s_X13_heirs M x1 ∧ (f_X13_heirs M x1).1 = a_heirs V x1 := by
  have h1 := h.thr 0
  clear h
  simp only [s_X13_heirs, f_X13_heirs, bnd, bndP]
  generalize wrI M 67 0 0 0 0 = M1 at *
  obtain ⟨c, rfl, w⟩ := h1
  have h10 := w.P.2
  simp only [s_isP, f_isP w, true_and, bz_0, a_heirs]
  rcases isP_cases (x := x1) (n := vP (mV M1)) (by omega) with e | ⟨j, hj, rfl, e⟩
  · simp [e]
  · obtain ⟨a1, a2⟩ := X13_heirs w hj
    simp only [e, Bool.true_eq_false, if_false, if_true, nn_nI (show j < 2 ^ 31 by omega), f_dies (show j < 65 by omega), s_dies (show j < 65 by omega), a1, a2, true_and]
    by_cases m : (mV M1).2.1 j = -2
    · simp [m]
    · simp [m]
theorem qM_tako {M : gM} {V : vV} {lf : Nat → Nat} {M0 : gM} (h : Am M0 M V lf) (x1 x2 : Int32) : (s_X13_taker M x1 x2 ∧ (f_X13_taker M x1 x2).1 = a_tak V lf Prod.fst x1 x2) ∧ (s_X13_takerBy_ M x1 x2 ∧ (f_X13_takerBy_ M x1 x2).1 = a_tak V lf Prod.snd x1 x2) := by
  have h1 := h.thr 0
  clear h
  simp only [s_X13_taker, f_X13_taker, s_X13_takerBy_, f_X13_takerBy_, bnd, bndP]
  generalize wrI M 67 0 0 0 0 = M1 at *
  have F := h1.F
  obtain ⟨c, rfl, w⟩ := h1
  have h10 := w.P.2
  have h8 := w.T.2
  simp only [s_isP, f_isP w, s_isT, f_isT w, true_and, bz_0, a_tak]
  rcases isP_cases (x := x1) (n := vP (mV M1)) (by omega) with e | ⟨j, hj, rfl, e⟩
  · simp [e]
  · rcases isP_cases (x := x2) (n := vT (mV M1)) (by omega) with e2 | ⟨t, ht, rfl, e2⟩
    · simp [e, e2]
    · obtain ⟨b1, b2, b3⟩ := X13_lays (M := M1) w hj ht F rfl
      simp only [e, e2, Bool.true_eq_false, if_false, if_true, nn_nI (show j < 2 ^ 31 by omega), nn_nI (show t < 2 ^ 31 by omega), f_dies (show j < 65 by omega), s_dies (show j < 65 by omega), b1, b2, b3, true_and]
      by_cases m : (mV M1).2.1 j = -2 <;> simp [m]
theorem qM_cnto {M : gM} {V : vV} {lf : Nat → Nat} {M0 : gM} (h : Am M0 M V lf) (x1 x2 x3 : Int32) : s_X13_counting M x1 x2 x3 ∧ (f_X13_counting M x1 x2 x3).1 = a_cnt V x1 x2 x3 := by
  have h1 := h.thr 0
  clear h
  simp only [s_X13_counting, f_X13_counting, s_X13_counting_35, f_X13_counting_35, bnd, bndP]
  generalize wrI M 67 0 0 0 0 = M1 at *
  obtain ⟨c, rfl, w⟩ := h1
  have h10 := w.P.2
  have h8 := w.T.2
  simp only [s_isP, f_isP w, s_isT, f_isT w, true_and, bz_0, a_cnt]
  rcases isP_cases (x := x1) (n := vP (mV M1)) (by omega) with e | ⟨j, hj, rfl, e⟩
  · simp [e]
  · rcases isP_cases (x := x2) (n := vT (mV M1)) (by omega) with e2 | ⟨t, ht, rfl, e2⟩
    · simp [e, e2]
    · simp only [e, e2, Bool.true_eq_false, if_false, if_true]
      by_cases z : x3 < 0
      · simp only [z, if_true, and_self]
      · obtain ⟨k, hk, rfl⟩ := nI_of z
        obtain ⟨a1, a2⟩ := X13_at w (m := j) (k := k) (by omega) ht hk
        simp only [z, if_false, a1, a2, true_and, nn_nI (show j < 2 ^ 31 by omega), nn_nI (show t < 2 ^ 31 by omega), nn_nI hk]
theorem qM_namo {M : gM} {V : vV} {lf : Nat → Nat} {M0 : gM} (h : Am M0 M V lf) (x1 x2 : Int32) : s_X13_naming M x1 x2 ∧ (f_X13_naming M x1 x2).1 = a_nam V x1 x2 := by
  have h1 := h.thr 0
  clear h
  simp only [s_X13_naming, f_X13_naming, bnd, bndP]
  generalize wrI M 67 0 0 0 0 = M1 at *
  obtain ⟨c, rfl, w⟩ := h1
  have h10 := w.P.2
  have h12 := w.A.2
  have i0 : vp_in (2 : Int32) 502 := vpi (k := 2) (by omega)
  simp only [s_isP, f_isP w, true_and, bz_0, a_nam]
  rcases isP_cases (x := x1) (n := vP (mV M1)) (by omega) with e | ⟨j, hj, rfl, e⟩
  · simp [e]
  · rcases isP_cases (x := x2) (n := vP (mV M1)) (by omega) with e2 | ⟨p, hp, rfl, e2⟩
    · simp [e, e2]
    · have hN := mA w
      simp only [e, e2, Bool.true_eq_false, if_false, if_true, nn_nI (show p < 2 ^ 31 by omega)]
      refine lp (fun n k (s : Int32) => f_X13_naming_28 M1 (nI j) (nI p) n s (nI k)) (fun n k s => s_X13_naming_28 M1 (nI j) (nI p) n s (nI k)) (fun k s => s = bo (fun q => decide ((mV M1).1 (58 + 7 * q) = nI j) && vnm (mV M1) q p) k) (fun z => z.1 = bo (fun q => decide ((mV M1).1 (58 + 7 * q) = nI j) && vnm (mV M1) q p) (vA (mV M1))) (vA (mV M1)) ?_ ?_ FU 0 0 (Nat.zero_le _) (by rw [FU_eq]; omega) rfl
      · intro n k s hk hI ih
        obtain ⟨a1, a2⟩ := X13_named w hk
        simp only [s_X13_naming_28, f_X13_naming_28, bnd, bndP, hN, if_neg (nI_ge hk (by omega)), fof0 (show k < 12 by omega), sof0 (show k < 12 by omega), i0, a1, b_read _ (show p < 32 by omega), a2 p (by omega), p1, true_and]
        by_cases z : (mV M1).1 (58 + 7 * k) = nI j
        · simp only [z, if_true]
          exact ih _ (by rw [hI, bo]; simp [z])
        · simp only [z, if_false]
          exact ih s (by rw [hI]; exact bo_f (by omega) (by simp [z]))
      · intro n s hI
        simp only [s_X13_naming_28, f_X13_naming_28, hN, if_pos (nI_le (Nat.le_refl (vA (mV M1))) (by omega))]
        exact ⟨⟨i0, trivial⟩, hI⟩
theorem qM_seeo {M : gM} {V : vV} {lf : Nat → Nat} {M0 : gM} (h : Am M0 M V lf) (x1 x2 x3 : Int32) : s_X13_sees M x1 x2 x3 ∧ (f_X13_sees M x1 x2 x3).1 = a_see V x1 x2 x3 := by
  have h1 := h.thr 0
  clear h
  simp only [s_X13_sees, f_X13_sees, bnd, bndP]
  generalize wrI M 67 0 0 0 0 = M1 at *
  obtain ⟨c, rfl, w⟩ := h1
  have h10 := w.P.2
  have h12 := w.A.2
  simp only [s_isP, f_isP w, s_isA, f_isA w, sDay.2, fDay.2, true_and, bz_0, a_see]
  rcases isP_cases (x := x1) (n := vP (mV M1)) (by omega) with e | ⟨p, hp, rfl, e⟩
  · simp [e]
  · rcases isP_cases (x := x2) (n := vA (mV M1)) (by omega) with e2 | ⟨q, hq, rfl, e2⟩
    · simp [e, e2]
    · cases e3 : isD x3
      · simp [e, e2]
      · obtain ⟨m1, m2⟩ := wmk w hq
        obtain ⟨a1, a2⟩ := X13_heirs w m2
        obtain ⟨g1, g2⟩ := X13_named w hq
        have i22 : vp_in ((22 : Int32) + nI q) 65 := inN 22 rfl (by omega) (by decide)
        simp only [e, e2, Bool.true_eq_false, if_false, if_true, nn_nI (show p < 2 ^ 31 by omega), nn_nI (show q < 2 ^ 31 by omega), f_lives (show p < 65 by omega), s_lives (show p < 65 by omega), fof0 (show q < 12 by omega), sof0 (show q < 12 by omega), m1, f_lives (show vmk (mV M1) q < 65 by omega), s_lives (show vmk (mV M1) q < 65 by omega), a1, a2, g1, i22, ix22 (show q < 1000 by omega), x92, b_read _ (show p < 32 by omega), b_or, g2 p (by omega), true_and, bz_0]
        cases l1 : vliv (mV M1) p x3
        · simp
        · simp only [Bool.true_eq_false, if_false, if_true]
          cases l2 : vliv (mV M1) (vmk (mV M1) q) x3
          · simp only [if_true, true_and, Bool.false_eq_true, if_false]
            cases b1 : bt (vheirs (mV M1) (vmk (mV M1) q)) p <;> cases b2 : bt ((mV M1).2.1 (22 + q)) p <;> cases b3 : vnm (mV M1) q p <;> simp
          · simp only [Bool.true_eq_false, if_false, if_true]
            by_cases z : nI p = nI (vmk (mV M1) q) <;> simp [z]
theorem qM_maro {M : gM} {V : vV} {lf : Nat → Nat} {M0 : gM} (h : Am M0 M V lf) (x1 : Int32) : s_X13_margin M x1 ∧ (f_X13_margin M x1).1 = a_mar V x1 := by
  have h1 := h.thr 0
  clear h
  simp only [s_X13_margin, f_X13_margin, bnd, bndP]
  generalize wrI M 67 0 0 0 0 = M1 at *
  obtain ⟨c, rfl, w⟩ := h1
  have h12 := w.A.2
  simp only [s_isA, f_isA w, true_and, bz_0, a_mar]
  rcases isP_cases (x := x1) (n := vA (mV M1)) (by omega) with e | ⟨q, hq, rfl, e⟩
  · simp [e]
  · have j0 : vp_in (0 : Int32) 2 := vpi (k := 0) (by omega)
    have k4 : vp_in (4 : Int32) 502 := vpi (k := 4) (by omega)
    have k9 : vp_in (9 : Int32) 502 := vpi (k := 9) (by omega)
    obtain ⟨a1, a2⟩ := X13_lived w hq
    obtain ⟨b1, b2⟩ := X13_form w hq j0
    obtain ⟨d1, d2⟩ := X13_form w hq b01
    have n4 : nn (4 : Int32) = 4 := rfl
    have n9 : nn (9 : Int32) = 9 := rfl
    have b2 : f_X13_hasForm M1 (nI q) 0 = bz (vform (mV M1) q 0) := b2
    have d2 : f_X13_hasForm M1 (nI q) 1 = bz (vform (mV M1) q 1) := d2
    have i3 := fhas (M := M1) (l := 0) 1 rfl j0 (by omega)
    have i4 := shas (M := M1) (l := 0) 1 rfl j0 (by omega)
    have i5 := fhas (M := M1) (l := 1) 1 rfl b01 (by omega)
    have i6 := shas (M := M1) (l := 1) 1 rfl b01 (by omega)
    have i3 : f_X13_has M1 0 1 = bz (decide ((mV M1).1 5 = 1)) := i3
    have i5 : f_X13_has M1 1 1 = bz (decide ((mV M1).1 10 = 1)) := i5
    have i4 : s_X13_has M1 0 1 := i4
    have i6 : s_X13_has M1 1 1 := i6
    have w0 := vpe (w.2.2.2.2.2 0 (by omega)).1 (by decide)
    have w1 := vpe (w.2.2.2.2.2 1 (by omega)).1 (by decide)
    have L0 : (mV M1).1 4 = nI (nn ((mV M1).1 4)) := w0.1
    have L1 : (mV M1).1 9 = nI (nn ((mV M1).1 9)) := w1.1
    have w0 : nn ((mV M1).1 4) < 5 := w0.2
    have w1 : nn ((mV M1).1 9) < 5 := w1.2
    have mle : Nat.min (nn ((mV M1).1 4)) (nn ((mV M1).1 9)) ≤ nn ((mV M1).1 4) := Nat.min_le_left _ _
    have cl := vlc_le w q
    have V0 : vform (mV M1) q 0 = (decide (nn ((mV M1).1 4) ≤ vlc (mV M1) q) || vhand (mV M1) q 0) := by
      unfold vform
      rw [show (mV M1).1 (4 + 5 * 0) = (mV M1).1 4 from rfl, L0, nn_nI (show nn ((mV M1).1 4) < 2 ^ 31 by omega)]
      congr 1
      exact decide_eq_decide.mpr (nI_leI (by omega) (by omega))
    have V1 : vform (mV M1) q 1 = (decide (nn ((mV M1).1 9) ≤ vlc (mV M1) q) || vhand (mV M1) q 1) := by
      unfold vform
      rw [show (mV M1).1 (4 + 5 * 1) = (mV M1).1 9 from rfl, L1, nn_nI (show nn ((mV M1).1 9) < 2 ^ 31 by omega)]
      congr 1
      exact decide_eq_decide.mpr (nI_leI (by omega) (by omega))
    have H0 : vhand (mV M1) q 0 = (decide ((mV M1).1 (58 + 7 * q + 4) = 1) && decide ((mV M1).1 5 = 1)) := rfl
    have H1 : vhand (mV M1) q 1 = (decide ((mV M1).1 (58 + 7 * q + 4) = 1) && decide ((mV M1).1 10 = 1)) := rfl
    have M4 : rdI M1 88 0 0 4 = nI (nn ((mV M1).1 4)) := L0
    have M9 : rdI M1 88 0 0 9 = nI (nn ((mV M1).1 9)) := L1
    simp only [e, Bool.true_eq_false, if_false, if_true, nn_nI (show q < 2 ^ 31 by omega), s_X13_margin_36, f_X13_margin_36, s_X13_margin_88, f_X13_margin_88, bnd, bndP, b1, b2, d1, d2, n4, n9, M4, M9, mn_nI (show nn ((mV M1).1 4) < 2 ^ 31 by omega) (show nn ((mV M1).1 9) < 2 ^ 31 by omega), k4, k9, fof4 (show q < 12 by omega), sof4 (show q < 12 by omega), i3, i4, i5, i6, a1, a2, true_and, bz_0, V0, V1, decide_eq_false_iff_not]
    generalize hm : Nat.min (nn ((mV M1).1 4)) (nn ((mV M1).1 9)) = m at *
    have hm0 : (nI m = 0) = (nn ((mV M1).1 4) = 0 ∨ nn ((mV M1).1 9) = 0) := propext (by
      rw [show (0 : Int32) = nI 0 from rfl, nI_eq (by omega) (by omega), ← hm]
      constructor
      · intro z
        rcases Nat.le_total (nn ((mV M1).1 4)) (nn ((mV M1).1 9)) with y | y
        · rw [show Nat.min (nn ((mV M1).1 4)) (nn ((mV M1).1 9)) = nn ((mV M1).1 4) from Nat.min_eq_left y] at z; exact Or.inl z
        · rw [show Nat.min (nn ((mV M1).1 4)) (nn ((mV M1).1 9)) = nn ((mV M1).1 9) from Nat.min_eq_right y] at z; exact Or.inr z
      · rintro (z | z)
        · rw [z]; exact Nat.zero_min _
        · rw [z]; exact Nat.min_zero _)
    have hmle : m ≤ vlc (mV M1) q ↔ (nn ((mV M1).1 4) ≤ vlc (mV M1) q ∨ nn ((mV M1).1 9) ≤ vlc (mV M1) q) := by
      rw [← hm]
      rcases Nat.le_total (nn ((mV M1).1 4)) (nn ((mV M1).1 9)) with y | y
      · rw [show Nat.min (nn ((mV M1).1 4)) (nn ((mV M1).1 9)) = nn ((mV M1).1 4) from Nat.min_eq_left y]; omega
      · rw [show Nat.min (nn ((mV M1).1 4)) (nn ((mV M1).1 9)) = nn ((mV M1).1 9) from Nat.min_eq_right y]; omega
    simp only [hm0, hmle]
    by_cases z0 : nn ((mV M1).1 4) = 0
    · simp [z0]
    · by_cases z1 : nn ((mV M1).1 9) = 0
      · simp [z1]
      · by_cases o : (mV M1).1 (58 + 7 * q + 4) = 1 <;> by_cases y5 : (mV M1).1 5 = 1 <;> by_cases y10 : (mV M1).1 10 = 1 <;> by_cases y4 : nn ((mV M1).1 4) ≤ vlc (mV M1) q <;> by_cases y9 : nn ((mV M1).1 9) ≤ vlc (mV M1) q <;> simp [z0, z1, H0, H1, o, y5, y10, y4, y9]
theorem qM_thio {M : gM} {V : vV} {lf : Nat → Nat} {M0 : gM} (h : Am M0 M V lf) (x1 x2 : Int32) : s_X13_thing M x1 x2 ∧ (f_X13_thing M x1 x2).1 = a_thi V x1 x2 := by
  have h1 := h.thr 0
  clear h
  simp only [s_X13_thing, f_X13_thing, s_X13_thing_38, f_X13_thing_38, bnd, bndP]
  generalize wrI M 67 0 0 0 0 = M1 at *
  obtain ⟨c, rfl, w⟩ := h1
  have h8 := w.T.2
  simp only [s_isT, f_isT w, true_and, bz_0, a_thi]
  rcases isP_cases (x := x1) (n := vT (mV M1)) (by omega) with e | ⟨t, ht, rfl, e⟩
  · simp [e]
  · have k : ∀ (u v : Int32 × gM), (if x2 < 0 then u else if 2 < x2 then u else v) = if isB x2 3 = true then v else u := fun u v => isB_ite2 (a := 2) (by omega)
    have k2 : ∀ (u v : Prop), (if x2 < 0 then u else if 2 < x2 then u else v) = if isB x2 3 = true then v else u := fun u v => isB_ite2 (a := 2) (by omega)
    simp only [e, Bool.true_eq_false, if_false, if_true, k, k2]
    rcases isP_cases (x := x2) (n := 3) (by omega) with e2 | ⟨j, hj, rfl, e2⟩
    · simp [e2]
    · have i1 : vp_in (nI (34 + 3 * t + j)) 502 := vpi (by omega)
      simp only [e2, if_true, e34, nI_add, nn_nI (show 34 + 3 * t + j < 2 ^ 31 by omega), nn_nI (show t < 2 ^ 31 by omega), nn_nI (show j < 2 ^ 31 by omega), i1, x88, and_self]
theorem qM_lano {M : gM} {V : vV} {lf : Nat → Nat} {M0 : gM} (h : Am M0 M V lf) (x1 x2 : Int32) : s_X13_land M x1 x2 ∧ (f_X13_land M x1 x2).1 = a_lan V x1 x2 := by
  have h1 := h.thr 0
  clear h
  simp only [s_X13_land, f_X13_land, s_X13_land_14, f_X13_land_14, s_X13_land_38, f_X13_land_38, bnd, bndP]
  generalize wrI M 67 0 0 0 0 = M1 at *
  obtain ⟨c, rfl, w⟩ := h1
  have k : ∀ (u v : Int32 × gM), (if x2 < 0 then u else if 4 < x2 then u else v) = if isB x2 5 = true then v else u := fun u v => isB_ite2 (a := 4) (by omega)
  have k2 : ∀ (u v : Prop), (if x2 < 0 then u else if 4 < x2 then u else v) = if isB x2 5 = true then v else u := fun u v => isB_ite2 (a := 4) (by omega)
  simp only [k, k2, a_lan]
  rcases isP_cases (x := x1) (n := 2) (by omega) with e | ⟨l, hl, rfl, e⟩
  · have n0 : ¬ x1 = 0 := fun z => by rw [z] at e; exact absurd e (by decide)
    have n1 : ¬ x1 = 1 := fun z => by rw [z] at e; exact absurd e (by decide)
    simp [e, n0, n1]
  · have main : (if isB x2 5 = true then vp_in (4 + 5 * nI l + x2) 502 ∧ True else True) ∧ (if isB x2 5 = true then (rdI M1 88 0 0 (nn (4 + 5 * nI l + x2)), M1) else (-1, M1)).1 = (if isB x2 5 = true then (mV M1).1 (4 + 5 * nn (nI l) + nn x2) else -1) := by
      rcases isP_cases (x := x2) (n := 5) (by omega) with e2 | ⟨j, hj, rfl, e2⟩
      · simp [e2]
      · have i1 : vp_in (nI (4 + 5 * l + j)) 502 := vpi (by omega)
        simp only [e2, if_true, e4, nI_add, nn_nI (show 4 + 5 * l + j < 2 ^ 31 by omega), nn_nI (show l < 2 ^ 31 by omega), nn_nI (show j < 2 ^ 31 by omega), i1, x88, and_self]
    rw [if_pos e]
    rcases l with _ | _ | l
    · exact main
    · exact main
    · omega
theorem qM_givo {M : gM} {V : vV} {lf : Nat → Nat} {M0 : gM} (h : Am M0 M V lf) (x1 x2 x3 : Int32) : s_X13_give M x1 x2 x3 ∧ (f_X13_give M x1 x2 x3).1 = a_giv V x1 x2 x3 := by
  have h1 := h.thr 0
  clear h
  simp only [s_X13_give, f_X13_give, bnd, bndP]
  generalize wrI M 67 0 0 0 0 = M1 at *
  obtain ⟨c, rfl, w⟩ := h1
  have h12 := w.A.2
  simp only [s_isA, f_isA w, true_and, bz_0, a_giv]
  rcases isP_cases (x := x1) (n := vA (mV M1)) (by omega) with e | ⟨q, hq, rfl, e⟩
  · simp [e]
  · have hG := wG w hq
    have k : ∀ (u v : Int32 × gM), (if x3 < 0 then u else if x3 ≤ 4 then v else u) = if isB x3 5 = true then v else u := fun u v => isB_ite (a := 4) (by omega)
    have k2 : ∀ (u v : Prop), (if x3 < 0 then u else if x3 ≤ 4 then v else u) = if isB x3 5 = true then v else u := fun u v => isB_ite (a := 4) (by omega)
    simp only [e, Bool.true_eq_false, if_false, if_true, k, k2, fof5 (show q < 12 by omega), sof5 (show q < 12 by omega), hG.1, nn_nI (show q < 2 ^ 31 by omega), true_and]
    by_cases z : x2 < 0
    · simp [z]
    · obtain ⟨n, hn, rfl⟩ := nI_of z
      simp only [z, if_false]
      rcases isP_cases (x := x3) (n := 5) (by omega) with e3 | ⟨j, hj, rfl, e3⟩
      · simp [e3]
      · simp only [e3, if_true, isB_nI hn (show vG (mV M1) q < 2 ^ 31 by omega), nn_nI hn, nn_nI (show j < 2 ^ 31 by omega)]
        by_cases y : n < vG (mV M1) q
        · have gb : gi q n 0 + 4 < 502 := by unfold gi; omega
          have ej : gi q n 0 + j = gi q n j := gip rfl
          have i1 : vp_in (nI (gi q n j)) 502 := vpi (by rw [← ej]; omega)
          simp only [y, decide_true, if_true, if_neg (nI_ge y (by omega)), e142, nI_add, ej, nn_nI (show gi q n j < 2 ^ 31 by rw [← ej]; omega), i1, x88, and_self]
        · have l2 : nI (vG (mV M1) q) ≤ nI n := nI_le (by omega) hn
          simp [y, l2]
theorem qM_pero {M : gM} {V : vV} {lf : Nat → Nat} {M0 : gM} (h : Am M0 M V lf) (x1 x2 : Int32) : s_X13_person M x1 x2 ∧ (rdI (f_X13_person M x1 x2).2 67 0 0 0, (f_X13_person M x1 x2).1) = a_per V x1 x2 := by
  have h1 := h.thr 0
  have t0 : rdI (wrI M 67 0 0 0 0) 67 0 0 0 = 0 := by rw [rwI, if_pos (by simp)]
  clear h
  simp only [s_X13_person, f_X13_person, bnd, bndP]
  generalize wrI M 67 0 0 0 0 = M1 at *
  obtain ⟨c, rfl, w⟩ := h1
  have h10 := w.P.2
  have t1 : ∀ v, rdI (wrI M1 67 0 0 0 v) 67 0 0 0 = v := fun v => by rw [rwI, if_pos (by simp)]
  simp only [s_isP, f_isP w, true_and, bz_0, a_per]
  rcases isP_cases (x := x1) (n := vP (mV M1)) (by omega) with e | ⟨p, hp, rfl, e⟩
  · simp [e, t1]
  · have i14 : vp_in ((14 : Int32) + nI p) 502 := inN 14 rfl (by omega) (by decide)
    have i24 : vp_in ((24 : Int32) + nI p) 502 := inN 24 rfl (by omega) (by decide)
    obtain ⟨a1, a2⟩ := X13_children w (show p < 32 by omega)
    obtain ⟨b1, b2⟩ := X13_wed w p 9999
    simp only [e, Bool.true_eq_false, if_false, if_true, nn_nI (show p < 2 ^ 31 by omega), i14, i24, ix14 (show p < 1000 by omega), ix24 (show p < 1000 by omega), x88, f_dies (show p < 65 by omega), s_dies (show p < 65 by omega), a1, a2, b1, b2, true_and, and_true]
    (repeat' split) <;> first | exact ⟨trivial, by rw [t0]⟩ | exact ⟨trivial, by rw [t1]⟩ | simp_all
theorem qM_papo {M : gM} {V : vV} {lf : Nat → Nat} {M0 : gM} (h : Am M0 M V lf) (x1 x2 : Int32) : s_X13_paper M x1 x2 ∧ (rdI (f_X13_paper M x1 x2).2 67 0 0 0, (f_X13_paper M x1 x2).1) = a_pap V x1 x2 := by
  have h1 := h.thr 0
  have t0 : rdI (wrI M 67 0 0 0 0) 67 0 0 0 = 0 := by rw [rwI, if_pos (by simp)]
  clear h
  simp only [s_X13_paper, f_X13_paper, s_X13_paper_76, f_X13_paper_76, bnd, bndP]
  generalize wrI M 67 0 0 0 0 = M1 at *
  obtain ⟨c, rfl, w⟩ := h1
  have h12 := w.A.2
  have t1 : ∀ v, rdI (wrI M1 67 0 0 0 v) 67 0 0 0 = v := fun v => by rw [rwI, if_pos (by simp)]
  simp only [s_isA, f_isA w, true_and, bz_0, a_pap]
  rcases isP_cases (x := x1) (n := vA (mV M1)) (by omega) with e | ⟨q, hq, rfl, e⟩
  · simp [e, t1]
  · have i10 : vp_in ((10 : Int32) + nI q) 65 := inN 10 rfl (by omega) (by decide)
    have i22 : vp_in ((22 : Int32) + nI q) 65 := inN 22 rfl (by omega) (by decide)
    have i34 : vp_in ((34 : Int32) + nI q) 65 := inN 34 rfl (by omega) (by decide)
    rcases isP_cases (x := x2) (n := 5) (by omega) with e2 | ⟨j, hj, rfl, e2⟩
    · have n0 : ¬ x2 = 0 := fun z => by rw [z] at e2; exact absurd e2 (by decide)
      have n1 : ¬ x2 = 1 := fun z => by rw [z] at e2; exact absurd e2 (by decide)
      have n2 : ¬ x2 = 2 := fun z => by rw [z] at e2; exact absurd e2 (by decide)
      have n3 : ¬ x2 = 3 := fun z => by rw [z] at e2; exact absurd e2 (by decide)
      have n4 : ¬ x2 = 4 := fun z => by rw [z] at e2; exact absurd e2 (by decide)
      simp only [e, e2, Bool.true_eq_false, Bool.false_eq_true, n0, n1, n2, n3, n4, if_false, if_true, nn_nI (show q < 2 ^ 31 by omega), i10, i22, i34, ix10 (show q < 1000 by omega), ix22 (show q < 1000 by omega), ix34 (show q < 1000 by omega), x92, fof5 (show q < 12 by omega), sof5 (show q < 12 by omega), fof6 (show q < 12 by omega), sof6 (show q < 12 by omega), true_and, and_true]
      (repeat' split) <;> first | exact ⟨trivial, by rw [t0]⟩ | exact ⟨trivial, by rw [t1]⟩ | simp_all
    · have v := fof (M := M1) (q := q) (x := nI j) j rfl (by omega) (by omega)
      have s := sof (M := M1) (q := q) (x := nI j) j rfl (by omega) (by omega)
      simp only [e, e2, Bool.true_eq_false, if_false, if_true, v, s, nn_nI (show q < 2 ^ 31 by omega), nn_nI (show j < 2 ^ 31 by omega)]
      have fin : (rdI M1 67 0 0 0, (mV M1).1 (58 + 7 * q + j)) = (0, (mV M1).1 (58 + 7 * q + j)) := by rw [t0]
      rcases j with _ | _ | _ | _ | _ | j
      · exact ⟨⟨trivial, trivial⟩, fin⟩
      · exact ⟨⟨trivial, trivial⟩, fin⟩
      · exact ⟨⟨trivial, trivial⟩, fin⟩
      · exact ⟨⟨trivial, trivial⟩, fin⟩
      · exact ⟨⟨trivial, trivial⟩, fin⟩
      · omega
theorem qM_couo {M : gM} {V : vV} {lf : Nat → Nat} {M0 : gM} (h : Am M0 M V lf) (x1 : Int32) : s_X13_count M x1 ∧ (f_X13_count M x1).1 = a_cou V (rdI M 69 0 0 0) (rdI M 68 0 0 0) x1 := by
  have h1 := h.thr 0
  have e69 : rdI (wrI M 67 0 0 0 0) 69 0 0 0 = rdI M 69 0 0 0 := by rw [rwI, if_neg (by omega)]
  have e68 : rdI (wrI M 67 0 0 0 0) 68 0 0 0 = rdI M 68 0 0 0 := by rw [rwI, if_neg (by omega)]
  clear h
  simp only [s_X13_count, f_X13_count, bnd, bndP]
  rw [← e69, ← e68]
  generalize wrI M 67 0 0 0 0 = M1 at *
  obtain ⟨c, rfl, w⟩ := h1
  obtain ⟨a1, a2⟩ := X13_lost w
  obtain ⟨b1, b2⟩ := X13_dead w
  have i0 : vp_in (0 : Int32) 502 := vpi (k := 0) (by omega)
  have i1 : vp_in (1 : Int32) 502 := vpi (k := 1) (by omega)
  have i2 : vp_in (2 : Int32) 502 := vpi (k := 2) (by omega)
  have i3 : vp_in (3 : Int32) 502 := vpi (k := 3) (by omega)
  have i64 : vp_in (64 : Int32) 65 := vpi (k := 64) (by omega)
  have n0 : nn (0 : Int32) = 0 := rfl
  have n1 : nn (1 : Int32) = 1 := rfl
  have n2 : nn (2 : Int32) = 2 := rfl
  have n3 : nn (3 : Int32) = 3 := rfl
  have n64 : nn (64 : Int32) = 64 := rfl
  simp only [a1, a2, b1, b2, i0, i1, i2, i3, i64, n0, n1, n2, n3, n64, x88, x92, a_cou, and_true, ite_self, true_and]
  repeat' split
  all_goals first | rfl | simp_all
theorem qM_holo {M : gM} {V : vV} {lf : Nat → Nat} {M0 : gM} (h : Am M0 M V lf) (x1 x2 : Int32) : s_X13_holders M x1 x2 ∧ (f_X13_holders M x1 x2).1 = a_hol V lf x1 x2 := by
  have h1 := h.thr 0
  clear h
  simp only [s_X13_holders, f_X13_holders, s_X13_holders_29, f_X13_holders_29, bnd, bndP]
  generalize wrI M 67 0 0 0 0 = M1 at *
  have F := h1.F
  obtain ⟨c, rfl, w⟩ := h1
  have h8 := w.T.2
  simp only [s_isT, f_isT w, sDay.2, fDay.2, true_and, bz_0, a_hol]
  rcases isP_cases (x := x1) (n := vT (mV M1)) (by omega) with e | ⟨t, ht, rfl, e⟩
  · simp [e]
  · cases e2 : isD x2
    · simp [e]
    · obtain ⟨a1, a2, -⟩ := X13_hin (M := M1) w F rfl ht x2 (vrun_ok w (wf_lf F) ht x2)
      simp only [e, Bool.true_eq_false, if_false, if_true, a1, a2, nn_nI (show t < 2 ^ 31 by omega), and_self]
theorem qM_movo {M : gM} {V : vV} {lf : Nat → Nat} {M0 : gM} (h : Am M0 M V lf) (x1 x2 : Int32) : s_X13_moves M x1 x2 ∧ (f_X13_moves M x1 x2).1 = a_mov V lf x1 x2 := by
  have h1 := h.thr 0
  clear h
  simp only [s_X13_moves, f_X13_moves, bnd, bndP]
  generalize wrI M 67 0 0 0 0 = M1 at *
  have F := h1.F
  obtain ⟨c, rfl, w⟩ := h1
  have h8 := w.T.2
  simp only [s_isT, f_isT w, true_and, bz_0, a_mov]
  rcases isP_cases (x := x1) (n := vT (mV M1)) (by omega) with e | ⟨t, ht, rfl, e⟩
  · simp [e]
  · have k : ∀ (u v : Int32 × gM), (if x2 < 0 then u else if x2 ≤ 1 then v else u) = if isB x2 2 = true then v else u := fun u v => isB_ite (a := 1) (by omega)
    have k2 : ∀ (u v : Prop), (if x2 < 0 then u else if x2 ≤ 1 then v else u) = if isB x2 2 = true then v else u := fun u v => isB_ite (a := 1) (by omega)
    obtain ⟨a1, a2⟩ := X13_parts (M := M1) w F rfl ht 9999
    simp only [e, Bool.true_eq_false, if_false, if_true, k, k2, a1, a2.2.2.2.1, a2.2.2.2.2, true_and, nn_nI (show t < 2 ^ 31 by omega)]
    cases isB x2 2
    · simp
    · by_cases z : x2 = 0 <;> simp [z]
theorem qM_weao {M : gM} {V : vV} {lf : Nat → Nat} {M0 : gM} (h : Am M0 M V lf) (x1 : Int32) : s_X13_wealth M x1 ∧ (f_X13_wealth M x1).1 = a_wea V lf x1 := by
  have h1 := h.thr 0
  clear h
  simp only [s_X13_wealth, f_X13_wealth, s_X13_wealth_21, f_X13_wealth_21, bnd, bndP]
  generalize wrI M 67 0 0 0 0 = M1 at *
  have F := h1.F
  obtain ⟨c, rfl, w⟩ := h1
  have h10 := w.P.2
  simp only [s_isP, f_isP w, true_and, bz_0, a_wea]
  by_cases z : x1 = -1
  · obtain ⟨a1, a2⟩ := X13_wealth (M := M1) w F rfl (show 10 < 11 by omega)
    have a1 : s_X13_wealthOf M1 10 := a1
    have a2 : (f_X13_wealthOf M1 10).1 = (lN (vwl (mV M1) lf 10 (vT (mV M1)))).toInt32 := a2
    have ep : pcN x1 = 10 := if_pos z
    rw [ep]
    simp only [z, if_true, true_or, a1, a2, and_self]
  · rcases isP_cases (x := x1) (n := vP (mV M1)) (by omega) with e | ⟨p, hp, rfl, e⟩
    · simp [z, e]
    · obtain ⟨a1, a2⟩ := X13_wealth (M := M1) w F rfl (show p < 11 by omega)
      have ep : pcN (nI p) = p := by unfold pcN; rw [if_neg z, nn_nI (by omega)]
      rw [ep]
      simp only [z, e, if_false, if_true, or_true, Bool.true_eq_false, a1, a2, and_self]
theorem qM_eveo {M : gM} {V : vV} {lf : Nat → Nat} {M0 : gM} (h : Am M0 M V lf) (x1 : Int32) : s_X13_ever M x1 ∧ (f_X13_ever M x1).1 = a_eve V lf x1 := by
  have h1 := h.thr 0
  clear h
  simp only [s_X13_ever, f_X13_ever, bnd, bndP]
  generalize wrI M 67 0 0 0 0 = M1 at *
  have F := h1.F
  obtain ⟨c, hV, w⟩ := h1
  have w1 : WF (mV M1) := by rw [hV]; exact w
  have h10 := w.P.2
  have h8 := w.T.2
  have i0 : vp_in (1 : Int32) 502 := vpi (k := 1) (by omega)
  have fP := f_isP w1 x1
  rw [hV] at fP
  simp only [s_isP, fP, true_and, bz_0, a_eve]
  rcases isP_cases (x := x1) (n := vP V) (by omega) with e | ⟨p, hp, rfl, e⟩
  · simp [e]
  · simp only [e, Bool.true_eq_false, if_false, if_true, nn_nI (show p < 2 ^ 31 by omega)]
    refine lp (fun n t (s : gM × Int32) => f_X13_ever_19 (nI p) n s.1 s.2 (nI t)) (fun n t s => s_X13_ever_19 (nI p) n s.1 s.2 (nI t)) (fun t s => mV s.1 = V ∧ s.2 = bo (fun t => bt (vrun V lf t 9999).2.2.1 p) t) (fun z => z.1 = a_evb V lf (fun S => S.2.2.1) p) (vT V) ?_ ?_ FU 0 (M1, 0) (Nat.zero_le _) (by rw [FU_eq]; omega) ⟨hV, rfl⟩
    · rintro n t ⟨N, x⟩ ht ⟨cN, hx⟩ ih
      have cN : mV N = V := cN
      have hx : x = bo (fun t => bt (vrun V lf t 9999).2.2.1 p) t := hx
      have hN := mT (M := N) (by rw [cN]; exact w)
      rw [cN] at hN
      obtain ⟨a1, a2⟩ := X13_parts (M := N) w F cN ht 9999
      have o9 : mV (f_X13_laysParts N (nI t) 9999) = V := by rw [mV_off (o_X13_laysParts N (nI t) 9999) (by decide), cN]
      simp only [s_X13_ever_19, f_X13_ever_19, bnd, bndP, hN, if_neg (nI_ge ht (by omega)), i0, a1, a2.2.1, b_read _ (show p < 32 by omega), p1, true_and]
      exact ih (f_X13_laysParts N (nI t) 9999, _) ⟨o9, by rw [hx]; rfl⟩
    · rintro n ⟨N, x⟩ ⟨cN, hx⟩
      have cN : mV N = V := cN
      have hN := mT (M := N) (by rw [cN]; exact w)
      rw [cN] at hN
      simp only [s_X13_ever_19, f_X13_ever_19, hN, if_pos (nI_le (Nat.le_refl (vT V)) (by omega))]
      exact ⟨⟨i0, trivial⟩, hx⟩
theorem qM_gaio {M : gM} {V : vV} {lf : Nat → Nat} {M0 : gM} (h : Am M0 M V lf) (x1 x2 : Int32) : s_X13_gain M x1 x2 ∧ (f_X13_gain M x1 x2).1 = a_gai V lf x1 x2 ∧ mV (f_X13_gain M x1 x2).2 = V := by
  have h1 := h.thr 0
  clear h
  simp only [s_X13_gain, f_X13_gain, s_X13_gain_30, f_X13_gain_30, bnd, bndP]
  generalize wrI M 67 0 0 0 0 = M1 at *
  have F := h1.F
  obtain ⟨c, rfl, w⟩ := h1
  have h10 := w.P.2
  have h12 := w.A.2
  simp only [s_isP, f_isP w, s_isA, f_isA w, true_and, bz_0, a_gai]
  rcases isP_cases (x := x1) (n := vP (mV M1)) (by omega) with e | ⟨p, hp, rfl, e⟩
  · simp [e]
  · rcases isP_cases (x := x2) (n := vA (mV M1)) (by omega) with e2 | ⟨q, hq, rfl, e2⟩
    · simp [e, e2]
    · obtain ⟨a1, a2, a3⟩ := X13_gain (M := M1) w F rfl (show p < 11 by omega) hq
      simp only [e, e2, Bool.true_eq_false, if_false, if_true, a1, a2, a3, nn_nI (show p < 2 ^ 31 by omega), nn_nI (show q < 2 ^ 31 by omega), true_and, and_true]
      rfl
theorem qM_agao {M : gM} {V : vV} {lf : Nat → Nat} {M0 : gM} (h : Am M0 M V lf) (x1 x2 : Int32) : s_X13_against M x1 x2 ∧ ((f_X13_against M x1 x2).1 = a_aga V lf x1 x2 ∧ mV (f_X13_against M x1 x2).2 = V) := by
  have h1 := h.thr 0
  clear h
  have k : ∀ (u v : Int32 × gM), (if x2 < 0 then u else if x2 ≤ 1 then v else u) = if isB x2 2 = true then v else u := fun u v => isB_ite (a := 1) (by omega)
  have k2 : ∀ (u v : Prop), (if x2 < 0 then u else if x2 ≤ 1 then v else u) = if isB x2 2 = true then v else u := fun u v => isB_ite (a := 1) (by omega)
  simp only [s_X13_against, f_X13_against, bnd, bndP, k, k2]
  generalize wrI M 67 0 0 0 0 = M1 at *
  have F := h1.F
  obtain ⟨c, hV, w⟩ := h1
  have w1 : WF (mV M1) := by rw [hV]; exact w
  have h10 := w.P.2
  have h12 := w.A.2
  have i0 : vp_in (2 : Int32) 502 := vpi (k := 2) (by omega)
  have fP := f_isP w1 x1
  rw [hV] at fP
  simp only [s_isP, fP, true_and, bz_0, a_aga]
  rcases isP_cases (x := x1) (n := vP V) (by omega) with e | ⟨p, hp, rfl, e⟩
  · simp only [e, if_true, Bool.false_eq_true, if_false, true_and]; exact hV
  · cases e2 : isB x2 2
    · simp only [e, if_true, Bool.false_eq_true, Bool.true_eq_false, if_false, true_and]; exact hV
    · simp only [e, Bool.true_eq_false, if_false, if_true, nn_nI (show p < 2 ^ 31 by omega)]
      refine lp (fun n q (s : gM × Int32 × Int32) => f_X13_against_33 (nI p) x2 n s.1 s.2.1 s.2.2 (nI q)) (fun n q s => s_X13_against_33 (nI p) x2 n s.1 s.2.1 s.2.2 (nI q)) (fun q s => mV s.1 = V ∧ s.2 = vag V lf p q) (fun z => z.1 = (if x2 = 0 ∨ (vag V lf p (vA V)).1 = -2 then (vag V lf p (vA V)).1 else (vag V lf p (vA V)).2) ∧ mV z.2 = V) (vA V) ?_ ?_ FU 0 (M1, -2, 0) (Nat.zero_le _) (by rw [FU_eq]; omega) ⟨hV, rfl⟩
      · rintro n q ⟨N, x, y⟩ hq ⟨cN, hx⟩ ih
        have cN : mV N = V := cN
        have hx : (x, y) = vag V lf p q := hx
        have hN := mA (M := N) (by rw [cN]; exact w)
        rw [cN] at hN
        obtain ⟨b1, b2, b3⟩ := X13_gain (M := N) w F cN (show p < 11 by omega) hq
        have gv : (lN (vwl V lf p (vT V))).toInt32 - (lN (vwl (vset V (34 + q) 1) lf p (vT V))).toInt32 = vgn V lf p q := rfl
        have st : vag V lf p (q + 1) = if vgn V lf p q < (vag V lf p q).2 then (nI q, vgn V lf p q) else vag V lf p q := rfl
        rw [← hx] at st
        simp only [s_X13_against_33, f_X13_against_33, bnd, bndP, hN, if_neg (nI_ge hq (by omega)), i0, b1, b2, gv, p1, true_and]
        by_cases z : vgn V lf p q < y
        · simp only [z, if_true]
          exact ih (_, nI q, vgn V lf p q) ⟨b3, by rw [st, if_pos z]⟩
        · simp only [z, if_false]
          exact ih (_, x, y) ⟨b3, by rw [st, if_neg z]⟩
      · rintro n ⟨N, x, y⟩ ⟨cN, hx⟩
        have cN : mV N = V := cN
        have hx : (x, y) = vag V lf p (vA V) := hx
        have hN := mA (M := N) (by rw [cN]; exact w)
        rw [cN] at hN
        rw [← hx]
        simp only [s_X13_against_33, f_X13_against_33, s_X13_against_86, f_X13_against_86, hN, i0, if_pos (nI_le (Nat.le_refl (vA V)) (by omega)), true_and]
        by_cases z1 : x2 = 0
        · by_cases z2 : x = -2
          · simp only [z1, z2, if_true, true_or, true_and]; exact cN
          · simp only [z1, z2, if_true, if_false, true_or, true_and]; exact cN
        · by_cases z2 : x = -2
          · simp only [z1, z2, if_true, or_true, true_and]; exact cN
          · simp only [z1, z2, if_false, or_self, true_and]; exact cN
theorem qM_keyo {M : gM} {V : vV} {lf : Nat → Nat} {M0 : gM} (h : Am M0 M V lf) (x1 : Int32) : s_X13_key M x1 ∧ ((f_X13_key M x1).1 = a_key V lf x1 ∧ mV (f_X13_key M x1).2 = V) := by
  have h1 := h.thr 0
  clear h
  have k : ∀ (u v : Int32 × gM), (if x1 < 0 then u else if x1 ≤ 1 then v else u) = if isB x1 2 = true then v else u := fun u v => isB_ite (a := 1) (by omega)
  have k2 : ∀ (u v : Prop), (if x1 < 0 then u else if x1 ≤ 1 then v else u) = if isB x1 2 = true then v else u := fun u v => isB_ite (a := 1) (by omega)
  simp only [s_X13_key, f_X13_key, bnd, bndP, k, k2, a_key]
  generalize wrI M 67 0 0 0 0 = M1 at *
  have F := h1.F
  obtain ⟨c, hV, w⟩ := h1
  have h12 := w.A.2
  have h8 := w.T.2
  have i0 : vp_in (2 : Int32) 502 := vpi (k := 2) (by omega)
  cases e2 : isB x1 2
  · simp only [Bool.false_eq_true, if_false, true_and]; exact hV
  · simp only [if_true]
    refine lp (fun n q (s : gM × Int32 × Int32) => f_X13_key_24 x1 n s.1 s.2.1 s.2.2 (nI q)) (fun n q s => s_X13_key_24 x1 n s.1 s.2.1 s.2.2 (nI q)) (fun q s => mV s.1 = V ∧ s.2.1 = kyA (vky V lf q) ∧ s.2.2 = (if vky V lf q = none then -1 else kyB (vky V lf q))) (fun z => z.1 = (if x1 = 0 then kyA (vky V lf (vA V)) else kyB (vky V lf (vA V))) ∧ mV z.2 = V) (vA V) ?_ ?_ FU 0 (M1, -2, -1) (Nat.zero_le _) (by rw [FU_eq]; omega) ⟨hV, rfl, rfl⟩
    · rintro n q ⟨N, x, y⟩ hq ⟨cN, hx, hy⟩ ih
      have cN : mV N = V := cN
      have hx : x = kyA (vky V lf q) := hx
      have hy : y = (if vky V lf q = none then -1 else kyB (vky V lf q)) := hy
      have hN := mA (M := N) (by rw [cN]; exact w)
      rw [cN] at hN
      obtain ⟨b1, b2, b3⟩ := X13_other (M := N) w F cN hq
      have vl := vot_le (V := V) (lf := lf) (q := q) (vT V)
      simp only [s_X13_key_24, f_X13_key_24, bnd, bndP, hN, if_neg (nI_ge hq (by omega)), i0, b1, b2, p1, true_and]
      cases hv : vky V lf q with
      | none =>
        rw [hv] at hx hy
        have z : y < nI (vot V lf q (vT V)) := by
          rw [hy]
          show (-1 : Int32) < nI (vot V lf q (vT V))
          rw [Int32.lt_iff_toInt_lt, nI_toInt (by omega)]
          rw [show ((-1 : Int32)).toInt = -1 from by decide]
          omega
        simp only [z, if_true]
        exact ih (_, nI q, nI (vot V lf q (vT V))) ⟨b3, by rw [vky, hv]; rfl, by rw [vky, hv]; rfl⟩
      | some b =>
        rw [hv] at hx hy
        have ok := vky_ok q b hv
        have hy : y = nI b.2 := hy
        have ex : (y < nI (vot V lf q (vT V))) = (b.2 < vot V lf q (vT V)) := by rw [hy]; exact propext (nI_ltI (by omega) (by omega))
        simp only [ex]
        by_cases z : b.2 < vot V lf q (vT V)
        · simp only [z, if_true]
          exact ih (_, nI q, nI (vot V lf q (vT V))) ⟨b3, by rw [vky, hv]; simp [z, kyA], by rw [vky, hv]; simp [z, kyB]⟩
        · simp only [z, if_false]
          exact ih (_, x, y) ⟨b3, by rw [vky, hv]; simp [z]; exact hx, by rw [vky, hv]; simp [z]; exact hy⟩
    · rintro n ⟨N, x, y⟩ ⟨cN, hx, hy⟩
      have cN : mV N = V := cN
      have hx : x = kyA (vky V lf (vA V)) := hx
      have hy : y = (if vky V lf (vA V) = none then -1 else kyB (vky V lf (vA V))) := hy
      have hN := mA (M := N) (by rw [cN]; exact w)
      rw [cN] at hN
      simp only [s_X13_key_24, f_X13_key_24, s_X13_key_74, f_X13_key_74, hN, i0, if_pos (nI_le (Nat.le_refl (vA V)) (by omega)), true_and]
      cases hv : vky V lf (vA V) with
      | none =>
        rw [hv] at hx hy
        have hx : x = -2 := hx
        simp only [hx, if_true, true_and]
        refine ⟨?_, cN⟩
        split <;> rfl
      | some b =>
        rw [hv] at hx hy
        have ok := vky_ok _ b hv
        have hx : x = nI b.1 := hx
        have hy : y = nI b.2 := hy
        have n2 : ¬ nI b.1 = -2 := (nI_ne (by omega)).1
        simp only [hx, hy, n2, if_false]
        by_cases z1 : x1 = 0
        · simp only [z1, if_true, true_and]; exact ⟨rfl, cN⟩
        · simp only [z1, if_false, true_and]; exact ⟨rfl, cN⟩
theorem qM_haso {M : gM} {V : vV} {lf : Nat → Nat} {M0 : gM} (h : Am M0 M V lf) (x1 x2 x3 x4 : Int32) : s_X13_has_ M x1 x2 x3 x4 ∧ (f_X13_has_ M x1 x2 x3 x4).1 = a_has V lf x1 x2 x3 x4 := by
  have h1 := h.thr 0
  clear h
  have k : ∀ (u v : Int64 × gM), (if x4 < 0 then u else if x4 ≤ 1 then v else u) = if isB x4 2 = true then v else u := fun u v => isB_ite (a := 1) (by omega)
  have k2 : ∀ (u v : Prop), (if x4 < 0 then u else if x4 ≤ 1 then v else u) = if isB x4 2 = true then v else u := fun u v => isB_ite (a := 1) (by omega)
  simp only [s_X13_has_, f_X13_has_, s_X13_has__18, f_X13_has__18, s_X13_has__65, f_X13_has__65, bnd, bndP, k, k2]
  generalize wrI M 67 0 0 0 0 = M1 at *
  have F := h1.F
  obtain ⟨c, rfl, w⟩ := h1
  have h10 := w.P.2
  have h8 := w.T.2
  simp only [s_isP, f_isP w, s_isT, f_isT w, sDay.2, fDay.2, true_and, bz_0, a_has]
  rcases isP_cases (x := x2) (n := vT (mV M1)) (by omega) with e2 | ⟨t, ht, rfl, e2⟩
  · by_cases z : x1 = -1
    · simp [z, e2]
    · cases e : isB x1 (vP (mV M1)) <;> simp [z, e2]
  · cases e3 : isD x3
    · by_cases z : x1 = -1
      · simp [z, e2]
      · cases e : isB x1 (vP (mV M1)) <;> simp [z, e2]
    · cases e4 : isB x4 2
      · by_cases z : x1 = -1
        · simp [z, e2]
        · cases e : isB x1 (vP (mV M1)) <;> simp [z, e2]
      · obtain ⟨a1, a2⟩ := X13_parts (M := M1) w F rfl ht x3
        have f10 := a2.1 10 (by omega)
        have i10 : vp_in (10 : Int32) 11 := vpi (k := 10) (by omega)
        have n10 : nn (10 : Int32) = 10 := rfl
        by_cases z : x1 = -1
        · have ep : pcN x1 = 10 := if_pos z
          rw [ep]
          simp only [z, e2, a1, Bool.true_eq_false, if_true, if_false, true_or, n10, f10.1, f10.2, i10, nn_nI (show t < 2 ^ 31 by omega), true_and, ite_self]
          by_cases y : x4 = 0 <;> simp [y]
        · rcases isP_cases (x := x1) (n := vP (mV M1)) (by omega) with e | ⟨p, hp, rfl, e⟩
          · simp [z, e]
          · have fp := a2.1 p (by omega)
            have ip : vp_in (nI p) 11 := vpi (by omega)
            have ep : pcN (nI p) = p := by unfold pcN; rw [if_neg z, nn_nI (by omega)]
            rw [ep]
            simp only [z, e, e2, a1, Bool.true_eq_false, if_true, if_false, or_true, nn_nI (show p < 2 ^ 31 by omega), fp.1, fp.2, ip, nn_nI (show t < 2 ^ 31 by omega), true_and, ite_self]
            by_cases y : x4 = 0 <;> simp [y]
theorem X13_lefto {M : gM} {V : vV} {lf : Nat → Nat} {M0 : gM} (h : Am M0 M V lf) {p : Nat} (hp : p < vP V) : s_X13_death_106 (nI p) FU M 0 0 ∧ (f_X13_death_106 (nI p) FU M 0 0).1 = a_evb V lf (fun S => S.2.2.2.1) p := by
  have F := h.F
  obtain ⟨c, hV, w⟩ := h
  have h10 := w.P.2
  have h8 := w.T.2
  have i0 : vp_in (1 : Int32) 502 := vpi (k := 1) (by omega)
  refine lp (fun n t (s : gM × Int32) => f_X13_death_106 (nI p) n s.1 s.2 (nI t)) (fun n t s => s_X13_death_106 (nI p) n s.1 s.2 (nI t)) (fun t s => mV s.1 = V ∧ s.2 = bo (fun t => bt (vrun V lf t 9999).2.2.2.1 p) t) (fun z => z.1 = a_evb V lf (fun S => S.2.2.2.1) p) (vT V) ?_ ?_ FU 0 (M, 0) (Nat.zero_le _) (by rw [FU_eq]; omega) ⟨hV, rfl⟩
  · rintro n t ⟨N, x⟩ ht ⟨cN, hx⟩ ih
    have cN : mV N = V := cN
    have hx : x = bo (fun t => bt (vrun V lf t 9999).2.2.2.1 p) t := hx
    have hN := mT (M := N) (by rw [cN]; exact w)
    rw [cN] at hN
    obtain ⟨a1, a2⟩ := X13_parts (M := N) w F cN ht 9999
    have o9 : mV (f_X13_laysParts N (nI t) 9999) = V := by rw [mV_off (o_X13_laysParts N (nI t) 9999) (by decide), cN]
    simp only [s_X13_death_106, f_X13_death_106, bnd, bndP, hN, if_neg (nI_ge ht (by omega)), i0, a1, a2.2.2.1, b_read _ (show p < 32 by omega), p1, true_and]
    exact ih (f_X13_laysParts N (nI t) 9999, _) ⟨o9, by rw [hx]; rfl⟩
  · rintro n ⟨N, x⟩ ⟨cN, hx⟩
    have cN : mV N = V := cN
    have hN := mT (M := N) (by rw [cN]; exact w)
    rw [cN] at hN
    simp only [s_X13_death_106, f_X13_death_106, hN, if_pos (nI_le (Nat.le_refl (vT V)) (by omega))]
    exact ⟨⟨i0, trivial⟩, hx⟩
theorem M_de1o {M : gM} {V : vV} {lf : Nat → Nat} {M0 : gM} (h : Am M0 M V lf) {x2 : Int32} (hx : isB x2 3 = true) {o : Option Nat} (m : mortal V o) : s_X13_death_70 M x2 (oJ o) ∧ (f_X13_death_70 M x2 (oJ o)).1 = a_de1 V lf x2 o := by
  have h10 := h.2.2.P.2
  simp only [s_X13_death_70, f_X13_death_70]
  cases o with
  | none => simp only [show (oJ none = -1) = True from eq_true rfl, if_true, true_and]; rfl
  | some d =>
    obtain ⟨hd, md⟩ := m d rfl
    have e1 : (nI d = -1) = False := eq_false (nI_ne (show d < 2 ^ 31 by omega)).2
    have e0 : oJ (some d) = nI d := rfl
    obtain ⟨a1, a2⟩ := X13_lefto h hd
    have fd : f_X13_diesOn M (nI d) = V.2.1 d := by rw [f_dies (by omega), h.2.1]
    simp only [e0, e1, if_false, a1, a2, fd, s_dies (show d < 65 by omega), true_and, a_de1]
    obtain ⟨j, hj, rfl⟩ := isB_t (by decide) hx
    rcases j with _ | _ | _ | j
    · exact ⟨trivial, rfl⟩
    · exact ⟨trivial, rfl⟩
    · exact ⟨trivial, a2⟩
    · omega
theorem M_dko {M : gM} {V : vV} {lf : Nat → Nat} {M0 : gM} (h : Am M0 M V lf) {K : Nat} (hK : K < 2 ^ 31) {x2 : Int32} (hx : isB x2 3 = true) : ∀ (m n i : Nat) (done : Int32) (last : Option Nat), mortal V last → dn V last done → vrem V (vnd V last) ≤ m → m < n → i ≤ K →
    s_X13_death_35 M (nI K) x2 n done (oJ (vnd V last)) (nI i) ∧ (f_X13_death_35 M (nI K) x2 n done (oJ (vnd V last)) (nI i)).1 = a_de1 V lf x2 (vdk V (K - i) (vnd V last)) := by
  intro m
  induction m with
  | zero =>
    intro n i done last ml hd hr hn hi
    obtain ⟨n, rfl⟩ : ∃ n', n = n' + 1 := ⟨n - 1, by omega⟩
    have mc := vnd_mortal (V := V) last
    cases hv : vnd V last with
    | some d => rw [hv] at hr; exact absurd hr (by simp [vrem])
    | none =>
      rw [hv] at mc
      rw [vdk_n]
      simp only [s_X13_death_35, f_X13_death_35, show (oJ none = -1) = True from eq_true rfl, if_true, ite_self]
      exact M_de1o h hx mc
  | succ m ih =>
    intro n i done last ml hd hr hn hi
    obtain ⟨n, rfl⟩ : ∃ n', n = n' + 1 := ⟨n - 1, by omega⟩
    have mc := vnd_mortal (V := V) last
    by_cases e : i = K
    · subst e
      rw [Nat.sub_self, vdk]
      simp only [s_X13_death_35, f_X13_death_35, if_pos (nI_le (Nat.le_refl i) hK)]
      exact M_de1o h hx mc
    · cases hv : vnd V last with
      | none =>
        rw [hv] at mc
        rw [vdk_n]
        simp only [s_X13_death_35, f_X13_death_35, show (oJ none = -1) = True from eq_true rfl, if_true, ite_self]
        exact M_de1o h hx mc
      | some d =>
        rw [hv] at mc hr
        obtain ⟨hd1, md⟩ := mc d rfl
        have h10 := h.2.2.P.2
        have e0 : oJ (some d) = nI d := rfl
        have e1 : (nI d = -1) = False := eq_false (nI_ne (show d < 2 ^ 31 by omega)).2
        have hd2 := dn_s h.2.2 ml hd hv
        have nx := X13_next (M := M) (by rw [h.2.1]; exact h.2.2) (last := some d) (day := 9999) (by rw [h.2.1]; exact hd2)
        rw [h.2.1, vcur_all h.2.2 (vnd_mortal _)] at nx
        rw [show K - i = (K - (i + 1)) + 1 by omega, vdk]
        simp only [s_X13_death_35, f_X13_death_35, bnd, bndP, if_neg (nI_ge (show i < K by omega) hK), e0, e1, if_false, nx.1, nx.2, p1, true_and]
        exact ih n (i + 1) _ (some d) mc hd2 (by have := vrem_s (V := V) (d := d); omega) (by omega) (by omega)
theorem qM_deao {M : gM} {V : vV} {lf : Nat → Nat} {M0 : gM} (h : Am M0 M V lf) (x1 x2 : Int32) : s_X13_death M x1 x2 ∧ (f_X13_death M x1 x2).1 = a_dea V lf x1 x2 := by
  have h1 := h.thr 0
  clear h
  have k : ∀ (u v : Int32 × gM), (if x2 < 0 then u else if x2 ≤ 2 then v else u) = if isB x2 3 = true then v else u := fun u v => isB_ite (a := 2) (by omega)
  have k2 : ∀ (u v : Prop), (if x2 < 0 then u else if x2 ≤ 2 then v else u) = if isB x2 3 = true then v else u := fun u v => isB_ite (a := 2) (by omega)
  simp only [s_X13_death, f_X13_death, bnd, bndP, k, k2, a_dea]
  generalize wrI M 67 0 0 0 0 = M1 at *
  by_cases z : x1 < 0
  · simp only [z, if_true, and_self]
  · obtain ⟨K, hK, rfl⟩ := nI_of z
    simp only [z, if_false]
    cases e : isB x2 3
    · simp only [Bool.false_eq_true, if_false, and_self]
    · have nx := X13_next (M := M1) (by rw [h1.2.1]; exact h1.2.2) (last := none) (done := 0) (day := 9999) (by rw [h1.2.1]; exact dn_0)
      rw [h1.2.1, vcur_all h1.2.2 (vnd_mortal _)] at nx
      simp only [if_true, nx.1, nx.2, true_and, nn_nI hK]
      have := M_dko h1 hK e 10 FU 0 0 none (fun l hl => by cases hl) dn_0 (vrem_0 h1.2.2) (by rw [FU_eq]; omega) (Nat.zero_le _)
      rw [Nat.sub_zero] at this
      exact this
theorem qM_wpao {M : gM} {V : vV} {lf : Nat → Nat} {M0 : gM} (h : Am M0 M V lf) (x1 x2 x3 : Int32) : s_X13_wouldPaper M x1 x2 x3 ∧ ((f_X13_wouldPaper M x1 x2 x3).1 = a_wpa V lf x1 x2 x3 ∧ mV (f_X13_wouldPaper M x1 x2 x3).2 = V) := by
  have h1 := h.thr 0
  clear h
  have k : ∀ (u v : Int32 × gM), (if x2 < 0 then u else if 2 < x2 then u else v) = if isB x2 3 = true then v else u := fun u v => isB_ite2 (a := 2) (by omega)
  have k2 : ∀ (u v : Prop), (if x2 < 0 then u else if 2 < x2 then u else v) = if isB x2 3 = true then v else u := fun u v => isB_ite2 (a := 2) (by omega)
  simp only [s_X13_wouldPaper, f_X13_wouldPaper, s_X13_wouldPaper_65, f_X13_wouldPaper_65, bnd, bndP, k, k2, a_wpa]
  generalize wrI M 67 0 0 0 0 = M1 at *
  have F := h1.F
  obtain ⟨c, rfl, w⟩ := h1
  have h12 := w.A.2
  have h8 := w.T.2
  simp only [s_isA, f_isA w, s_isT, f_isT w, true_and, bz_0]
  rcases isP_cases (x := x1) (n := vA (mV M1)) (by omega) with e | ⟨q, hq, rfl, e⟩
  · simp [e]
  · rcases isP_cases (x := x2) (n := 3) (by omega) with e2 | ⟨j, hj, rfl, e2⟩
    · simp [e, e2]
    · rcases isP_cases (x := x3) (n := vT (mV M1)) (by omega) with e3 | ⟨t, ht, rfl, e3⟩
      · simp [e, e2, e3]
      · simp only [e, e2, e3, Bool.true_eq_false, if_false, if_true, nn_nI (show q < 2 ^ 31 by omega), nn_nI (show t < 2 ^ 31 by omega), and_true]
        rcases (show j = 0 ∨ j = 1 ∨ j = 2 by omega) with rfl | rfl | rfl
        · obtain ⟨a1, a2, a3⟩ := X13_would (M := M1) w F rfl (e10n q) (by omega) ht (wf_cop w hq v04)
          simp only [show (nI 0 = 2) = False from by decide, show (nI 0 = 0) = True from by decide, if_true, if_false, vwp]
          exact ⟨a1, a2, a3⟩
        · obtain ⟨a1, a2, a3⟩ := X13_would (M := M1) w F rfl (e10n q) (by omega) ht (wf_cop w hq (v := -2) (Or.inl rfl))
          simp only [show (nI 1 = 2) = False from by decide, show (nI 1 = 0) = False from by decide, if_false, vwp]
          exact ⟨a1, a2, a3⟩
        · obtain ⟨a1, a2, a3⟩ := X13_would (M := M1) w F rfl (e34n q) (by omega) ht (wf_bak w hq b01)
          simp only [show (nI 2 = 2) = True from by decide, if_true, vwp]
          exact ⟨a1, a2, a3⟩
theorem qM_wdio {M : gM} {V : vV} {lf : Nat → Nat} {M0 : gM} (h : Am M0 M V lf) (x1 x2 x3 : Int32) : s_X13_wouldDie M x1 x2 x3 ∧ ((f_X13_wouldDie M x1 x2 x3).1 = a_wdi V lf x1 x2 x3 ∧ mV (f_X13_wouldDie M x1 x2 x3).2 = V) := by
  have h1 := h.thr 0
  clear h
  simp only [s_X13_wouldDie, f_X13_wouldDie, s_X13_wouldDie_25, f_X13_wouldDie_25, bnd, bndP, a_wdi]
  generalize wrI M 67 0 0 0 0 = M1 at *
  have F := h1.F
  obtain ⟨c, rfl, w⟩ := h1
  have h10 := w.P.2
  have h8 := w.T.2
  simp only [s_isP, f_isP w, s_isT, f_isT w, sDay.2, fDay.2, true_and, bz_0]
  rcases isP_cases (x := x1) (n := vP (mV M1)) (by omega) with e | ⟨p, hp, rfl, e⟩
  · simp [e]
  · rcases isP_cases (x := x3) (n := vT (mV M1)) (by omega) with e3 | ⟨t, ht, rfl, e3⟩
    · by_cases y : x2 = -1
      · simp [e, e3, y]
      · cases hb : isD x2 <;> simp [e, e3, y]
    · by_cases y : x2 = -1
      · obtain ⟨a1, a2, a3⟩ := X13_would (M := M1) w F rfl (e0n p) (by omega) ht (wf_die w hp (v := -2) (Or.inl rfl))
        simp only [e, e3, y, Bool.true_eq_false, if_false, if_true, true_or, nn_nI (show p < 2 ^ 31 by omega), nn_nI (show t < 2 ^ 31 by omega), and_true]
        exact ⟨a1, a2, a3⟩
      · cases hb : isD x2
        · simp [e, y]
        · obtain ⟨a1, a2, a3⟩ := X13_would (M := M1) w F rfl (e0n p) (by omega) ht (wf_die w hp (v := x2) (Or.inr (isD_t hb)))
          simp only [e, e3, y, Bool.true_eq_false, if_false, if_true, or_true, nn_nI (show p < 2 ^ 31 by omega), nn_nI (show t < 2 ^ 31 by omega), and_true]
          exact ⟨a1, a2, a3⟩
theorem qM_kino {M : gM} {V : vV} {lf : Nat → Nat} {M0 : gM} (h : Am M0 M V lf) (x1 x2 : Int32) : s_X13_kin M x1 x2 ∧ (f_X13_kin M x1 x2).1 = a_kin V x1 x2 := by
  have h1 := h.thr 0
  clear h
  simp only [s_X13_kin, f_X13_kin, bnd, bndP]
  generalize wrI M 67 0 0 0 0 = M1 at *
  obtain ⟨c, rfl, w⟩ := h1
  have h10 := w.P.2
  simp only [s_isP, f_isP w, true_and, bz_0, a_kin]
  rcases isP_cases (x := x1) (n := vP (mV M1)) (by omega) with e | ⟨a, ha, rfl, e⟩
  · simp [e]
  · rcases isP_cases (x := x2) (n := vP (mV M1)) (by omega) with e2 | ⟨b, hb, rfl, e2⟩
    · simp [e, e2]
    · simp only [e, e2, Bool.true_eq_false, if_false, if_true, nn_nI (show a < 2 ^ 31 by omega), nn_nI (show b < 2 ^ 31 by omega)]
      rw [← vkr_11 h10 ha hb]
      refine lp (fun n k (s : Int32) => f_X13_kin_30 M1 (nI b) n s (nI k)) (fun n k s => s_X13_kin_30 M1 (nI b) n s (nI k)) (fun k s => s = vks (mV M1) a k ∧ vkr (mV M1) a b (11 - k) k = vkr (mV M1) a b 11 0) (fun z => z.1 = vkr (mV M1) a b 11 0) 11 ?_ ?_ FU 0 _ (Nat.zero_le _) (by rw [FU_eq]; omega) ⟨rfl, rfl⟩
      · rintro n k s hk ⟨hs, hI⟩ ih
        have n10 : ¬ (10 : Int32) < nI k := nI_nlt (a := 10) (by omega) (by decide)
        obtain ⟨a1, a2⟩ := X13_kin w (vks_b h10 ha k)
        rw [show 11 - k = (11 - (k + 1)) + 1 by omega, vkr] at hI
        simp only [s_X13_kin_30, f_X13_kin_30, if_neg n10, hs, b_read _ (show b < 32 by omega), a1, a2, p1, true_and, bz_1]
        cases z : bt (vks (mV M1) a k) b
        · rw [if_neg (by rw [z]; simp)] at hI
          simp only [Bool.false_eq_true, if_false]
          exact ih _ ⟨rfl, hI⟩
        · rw [if_pos z] at hI
          simp only [if_true]
          exact ⟨trivial, hI⟩
      · rintro n s ⟨hs, hI⟩
        simp only [s_X13_kin_30, f_X13_kin_30, if_pos (show (10 : Int32) < nI 11 by decide)]
        rw [Nat.sub_self, vkr] at hI
        exact ⟨trivial, hI⟩
end
