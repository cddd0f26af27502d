set_option linter.all false
noncomputable section
-- ===== has =====
theorem gd_0 {M : gM} {a n : Nat} {x : Int32} : s_X12_greatestDivisor_9 M (n + 1) (lN a) (lN 0) x ∧ f_X12_greatestDivisor_9 M (n + 1) (lN a) (lN 0) x = lN a := by
  have e : (lg_cmp (lN 0) 0 ≤ 0) = True := eq_true (by decide)
  simp only [s_X12_greatestDivisor_9, f_X12_greatestDivisor_9, e, if_true, ite_self, and_self]
theorem gd_s {M : gM} {a b n c : Nat} (ha : a < 2 ^ 63) (hb : b < 2 ^ 63) (h0 : 0 < b) (hc : c < 100) : (s_X12_greatestDivisor_9 M n (lN b) (lN (a % b)) (nI (c + 1)) → s_X12_greatestDivisor_9 M (n + 1) (lN a) (lN b) (nI c)) ∧ f_X12_greatestDivisor_9 M (n + 1) (lN a) (lN b) (nI c) = f_X12_greatestDivisor_9 M n (lN b) (lN (a % b)) (nI (c + 1)) := by
  have nz : ¬ lN b = 0 := fun q => by have := (lz hb).mp q; omega
  have e : ¬ lg_cmp (lN b) 0 ≤ 0 := fun q => by
    rw [lg_cmp_le, show (0 : Int64) = lN 0 from rfl, pk_lLE hb (by decide)] at q
    omega
  have n100 : ¬ (100 : Int32) ≤ nI c := nI_ge (b := 100) hc (by decide)
  simp only [s_X12_greatestDivisor_9, f_X12_greatestDivisor_9, if_neg e, if_neg n100, pk_lRem ha h0 hb, p1]
  exact ⟨fun h => ⟨nz, h⟩, trivial⟩
theorem gd_main {M : gM} : ∀ (k a b n c : Nat), a < 2 ^ 63 → b < 2 ^ 63 → b < 2 ^ k → 2 * k + 1 ≤ n → c + 2 * k < 100 → s_X12_greatestDivisor_9 M n (lN a) (lN b) (nI c) ∧ f_X12_greatestDivisor_9 M n (lN a) (lN b) (nI c) = lN (Nat.gcd a b) := by
  intro k
  induction k with
  | zero =>
    intro a b n c ha hb hk hn hc
    obtain rfl : b = 0 := by omega
    obtain ⟨m, rfl⟩ : ∃ m, n = m + 1 := ⟨n - 1, by omega⟩
    rw [Nat.gcd_zero_right]
    exact gd_0
  | succ k ih =>
    intro a b n c ha hb hk hn hc
    obtain ⟨m, rfl⟩ : ∃ m, n = m + 1 + 1 := ⟨n - 2, by omega⟩
    rcases Nat.eq_zero_or_pos b with z | h0
    · subst z
      rw [Nat.gcd_zero_right]
      exact gd_0
    · have c1 := gd_s (M := M) (n := m + 1) (c := c) ha hb h0 (by omega)
      have l1 := Nat.mod_lt a h0
      rcases Nat.eq_zero_or_pos (a % b) with z | h1
      · rw [z] at c1
        have c0 := gd_0 (M := M) (a := b) (n := m) (x := nI (c + 1))
        rw [gcd_step a h0, z, Nat.gcd_zero_right, c1.2]
        exact ⟨c1.1 c0.1, c0.2⟩
      · have c2 := gd_s (M := M) (n := m) (c := c + 1) hb (show a % b < 2 ^ 63 by omega) h1 (by omega)
        have l2 := Nat.mod_lt b h1
        have hm := half_mod h0 h1
        have c3 := ih (a % b) (b % (a % b)) m (c + 1 + 1) (by omega) (by omega) (by rw [Nat.pow_succ] at hk; omega) (by omega) (by omega)
        rw [gcd_step a h0, gcd_step b h1, c1.2, c2.2]
        exact ⟨c1.1 (c2.1 c3.1), c3.2⟩
def a_has (V : vV) (lf : Nat → Nat) (x1 x2 x3 x4 : Int32) : Int64 := if x1 = -1 ∨ isB x1 (vP V) = true then (if isB x2 (vT V) = true then (if isD x3 = true then (if isB x4 2 = true then (if x4 = 0 then lN (fN ((vrun V lf (nn x2) x3).1 (pcN x1)) (vrun V lf (nn x2) x3).2.1) else lN (fD ((vrun V lf (nn x2) x3).1 (pcN x1)) (vrun V lf (nn x2) x3).2.1)) else -1) else -1) else -1) else -1
theorem qC_has {M : gM} {V : vV} {lf : Nat → Nat} (h : At M V lf) (x1 x2 x3 x4 : Int32) : s_X12_has M x1 x2 x3 x4 ∧ (f_X12_has M x1 x2 x3 x4).1 = a_has V lf x1 x2 x3 x4 := by
  have h10 := h.2.2.P.2
  have h8 := h.2.2.T.2
  have k : ∀ (u v : Int64 × gM), (if x4 < 0 then u else if x4 ≤ 1 then v else u) = if isB x4 2 = true then v else u := fun u v => isB_ite (a := 1) (by omega)
  have k2 : ∀ (u v : Prop), (if x4 < 0 then u else if x4 ≤ 1 then v else u) = if isB x4 2 = true then v else u := fun u v => isB_ite (a := 1) (by omega)
  simp only [s_X12_has, f_X12_has, bnd, bndP, sPC, fPC h.c h.2.2, sX7_isT, fX7_isT h.c h.2.2, sDay.1, fDay.1, sHol, true_and, bz_0, a_has, k, k2]
  by_cases z : x1 = -1 ∨ isB x1 (vP V) = true
  · have z2 : (decide (x1 = -1) || isB x1 (vP V)) = true := by
      rcases z with z | z <;> simp [z]
    simp only [z2, z, Bool.true_eq_false, if_false, if_true]
    rcases isP_cases (x := x2) (n := vT V) (by omega) with e2 | ⟨t, ht, rfl, e2⟩
    · simp [e2]
    · cases e3 : isD x3
      · simp [e2]
      · cases e4 : isB x4 2
        · simp [e2]
        · obtain ⟨e1, e1b⟩ := fHol (M := f_X1_goOn M (nI t) x3) h10 z
          obtain ⟨a1, a2, a3⟩ := X1_goOn h.c h.2.2 ht x3
          have ik : vp_in (nI (pcN x1)) 11 := vpi e1b
          have Ple := sm_le a3.1 e1b
          have Wle := a3.2.2.1
          have Wpos := a3.2.1
          have w42 : (18 : Nat) ^ 10 < 2 ^ 42 := by decide
          have w63 : (2 : Nat) ^ 42 < 2 ^ 63 := by decide
          obtain ⟨g1, g2⟩ := gd_main (M := f_X1_goOn M (nI t) x3) 42 (vrun V lf t x3).2.1 ((vrun V lf t x3).1 (pcN x1)) FU 0 (by omega) (by omega) (by omega) (by rw [FU_eq]; omega) (by omega)
          have g1 : s_X12_greatestDivisor (f_X1_goOn M (nI t) x3) (lN (vrun V lf t x3).2.1) (lN ((vrun V lf t x3).1 (pcN x1))) := g1
          have g2 : f_X12_greatestDivisor (f_X1_goOn M (nI t) x3) (lN (vrun V lf t x3).2.1) (lN ((vrun V lf t x3).1 (pcN x1))) = lN (Nat.gcd (vrun V lf t x3).2.1 ((vrun V lf t x3).1 (pcN x1))) := g2
          have gp : 0 < Nat.gcd (vrun V lf t x3).2.1 ((vrun V lf t x3).1 (pcN x1)) := Nat.gcd_pos_of_pos_left _ Wpos
          have gl : Nat.gcd (vrun V lf t x3).2.1 ((vrun V lf t x3).1 (pcN x1)) ≤ (vrun V lf t x3).2.1 := Nat.gcd_le_left _ Wpos
          have gz : ¬ lN (Nat.gcd (vrun V lf t x3).2.1 ((vrun V lf t x3).1 (pcN x1))) = 0 := fun q => by have := (lz (by omega)).mp q; omega
          have gt : (0 < lg_cmp (lN (Nat.gcd (vrun V lf t x3).2.1 ((vrun V lf t x3).1 (pcN x1)))) 0) = True := eq_true (by
            rw [lg_cmp_gt, show (0 : Int64) = lN 0 from rfl, pk_lLT (by decide) (by omega)]
            exact gp)
          simp only [e2, Bool.true_eq_false, if_false, if_true, nn_nI (show t < 2 ^ 31 by omega), a1, e1, ik, nn_nI (show pcN x1 < 2 ^ 31 by omega), a2.1.1 _ e1b, a2.1.2, g1, g2, gt, gz, not_false_eq_true, true_and, ite_self]
          rw [pk_lDiv (by omega) gp (by omega), pk_lDiv (by omega) gp (by omega)]
          unfold fN fD
          rw [Nat.gcd_comm ((vrun V lf t x3).1 (pcN x1)) (vrun V lf t x3).2.1]
          by_cases y : x4 = 0 <;> simp [y]
  · have z2 : (decide (x1 = -1) || isB x1 (vP V)) = false := by
      cases hb : isB x1 (vP V)
      · simp; exact fun y => z (Or.inl y)
      · exact absurd (Or.inr hb) z
    simp only [z2, z, if_false, if_true, and_self]
theorem qM_has {M : gM} {V : vV} {lf : Nat → Nat} (h : At M V lf) (x1 x2 x3 x4 : Int32) : s_X13_has_ M x1 x2 x3 x4 ∧ (f_X13_has_ M x1 x2 x3 x4).1 = a_has V lf x1 x2 x3 x4 := by
  have h1 := h.thr 0
  clear h
  have k : ∀ (u v : Int64 × gM), (if x4 < 0 then u else if x4 ≤ 1 then v else u) = if isB x4 2 = true then v else u := fun u v => isB_ite (a := 1) (by omega)
  have k2 : ∀ (u v : Prop), (if x4 < 0 then u else if x4 ≤ 1 then v else u) = if isB x4 2 = true then v else u := fun u v => isB_ite (a := 1) (by omega)
  simp only [s_X13_has_, f_X13_has_, s_X13_has__18, f_X13_has__18, s_X13_has__65, f_X13_has__65, bnd, bndP, k, k2]
  generalize wrI M 67 0 0 0 0 = M1 at *
  have F := h1.F
  obtain ⟨c, rfl, w⟩ := h1
  have h10 := w.P.2
  have h8 := w.T.2
  simp only [s_isP, f_isP w, s_isT, f_isT w, sDay.2, fDay.2, true_and, bz_0, a_has]
  rcases isP_cases (x := x2) (n := vT (mV M1)) (by omega) with e2 | ⟨t, ht, rfl, e2⟩
  · by_cases z : x1 = -1
    · simp [z, e2]
    · cases e : isB x1 (vP (mV M1)) <;> simp [z, e2]
  · cases e3 : isD x3
    · by_cases z : x1 = -1
      · simp [z, e2]
      · cases e : isB x1 (vP (mV M1)) <;> simp [z, e2]
    · cases e4 : isB x4 2
      · by_cases z : x1 = -1
        · simp [z, e2]
        · cases e : isB x1 (vP (mV M1)) <;> simp [z, e2]
      · obtain ⟨a1, a2⟩ := X13_parts (M := M1) w F rfl ht x3
        have f10 := a2.1 10 (by omega)
        have i10 : vp_in (10 : Int32) 11 := vpi (k := 10) (by omega)
        have n10 : nn (10 : Int32) = 10 := rfl
        by_cases z : x1 = -1
        · have ep : pcN x1 = 10 := if_pos z
          rw [ep]
          simp only [z, e2, a1, Bool.true_eq_false, if_true, if_false, true_or, n10, f10.1, f10.2, i10, nn_nI (show t < 2 ^ 31 by omega), true_and, ite_self]
          by_cases y : x4 = 0 <;> simp [y]
        · rcases isP_cases (x := x1) (n := vP (mV M1)) (by omega) with e | ⟨p, hp, rfl, e⟩
          · simp [z, e]
          · have fp := a2.1 p (by omega)
            have ip : vp_in (nI p) 11 := vpi (by omega)
            have ep : pcN (nI p) = p := by unfold pcN; rw [if_neg z, nn_nI (by omega)]
            rw [ep]
            simp only [z, e, e2, a1, Bool.true_eq_false, if_true, if_false, or_true, nn_nI (show p < 2 ^ 31 by omega), fp.1, fp.2, ip, nn_nI (show t < 2 ^ 31 by omega), true_and, ite_self]
            by_cases y : x4 = 0 <;> simp [y]
-- ===== death =====
def vdk (V : vV) : Nat → Option Nat → Option Nat
  | 0, cur => cur
  | _ + 1, none => none
  | j + 1, some d => vdk V j (vnd V (some d))
theorem vdk_n {V : vV} : ∀ j, vdk V j none = none := by
  intro j
  cases j <;> rw [vdk]
def vrem (V : vV) : Option Nat → Nat
  | none => 0
  | some d => fb_ct (vcm V (some d)) (vP V) + 1
theorem vrem_s {V : vV} {d : Nat} : vrem V (vnd V (some d)) < vrem V (some d) := by
  cases h : vnd V (some d) with
  | none => exact Nat.succ_pos _
  | some b =>
    have := ct_dn h
    show fb_ct (vcm V (some b)) (vP V) + 1 < fb_ct (vcm V (some d)) (vP V) + 1
    omega
theorem vrem_0 {V : vV} (h : WF V) : vrem V (vnd V none) ≤ 10 := by
  have h10 := h.P.2
  cases hv : vnd V none with
  | none => exact Nat.zero_le _
  | some b =>
    have := ct_dn hv
    have := fb_ct_le (vcm V none) (vP V)
    show fb_ct (vcm V (some b)) (vP V) + 1 ≤ 10
    omega
theorem vdk_m {V : vV} : ∀ j cur, mortal V cur → mortal V (vdk V j cur) := by
  intro j
  induction j with
  | zero => intro cur h; rw [vdk]; exact h
  | succ j ih =>
    intro cur h
    cases cur with
    | none => rw [vdk]; exact h
    | some d => rw [vdk]; exact ih _ (vnd_mortal _)
theorem vcur_all {V : vV} (h : WF V) {o : Option Nat} (m : mortal V o) : vcur V 9999 o = oJ o := by
  cases o with
  | none => rfl
  | some b =>
    obtain ⟨hb, mb⟩ := m b rfl
    exact if_pos (((h.2.1 b hb).2.1).resolve_left mb).2
def a_dea (V : vV) (lf : Nat → Nat) (x1 x2 : Int32) : Int32 := if x1 < 0 then -1 else if isB x2 3 = true then (match vdk V (nn x1) (vnd V none) with
  | none => -2
  | some d => if x2 = 0 then nI d else if x2 = 1 then V.2.1 d else a_evb V lf (fun S => S.2.2.2.1) d) else -1
theorem X1_left {M : gM} {V : vV} {lf : Nat → Nat} (h : At M V lf) {p : Nat} (hp : p < vP V) : s_X1_thingsLeftBy M (nI p) ∧ (f_X1_thingsLeftBy M (nI p)).1 = a_evb V lf (fun S => S.2.2.2.1) p := by
  have h10 := h.2.2.P.2
  have h8 := h.2.2.T.2
  unfold s_X1_thingsLeftBy f_X1_thingsLeftBy
  refine lp (fun n t (s : gM × Int32) => f_X1_thingsLeftBy_4 (nI p) n s.1 s.2 (nI t)) (fun n t s => s_X1_thingsLeftBy_4 (nI p) n s.1 s.2 (nI t)) (fun t s => CV s.1 V lf ∧ s.2 = bo (fun t => bt (vrun V lf t 9999).2.2.2.1 p) t) (fun z => z.1 = a_evb V lf (fun S => S.2.2.2.1) p) (vT V) ?_ ?_ FU 0 (M, 0) (Nat.zero_le _) (by rw [FU_eq]; omega) ⟨h.c, rfl⟩
  · rintro n t ⟨N, x⟩ ht ⟨cN, hx⟩ ih
    have cN : CV N V lf := cN
    have hx : x = bo (fun t => bt (vrun V lf t 9999).2.2.2.1 p) t := hx
    have hN := cN.T h.2.2
    obtain ⟨a1, a2, a3⟩ := X1_goOn cN h.2.2 ht 9999
    have o := o_X1_goOn N (nI t) 9999
    simp only [s_X1_thingsLeftBy_4, f_X1_thingsLeftBy_4, bnd, bndP, hN, if_neg (nI_ge ht (by omega)), a1, a2.2.2.1, b_read _ (show p < 32 by omega), p1, true_and]
    exact ih (_, _) ⟨cN.off o (by decide), by rw [hx]; rfl⟩
  · rintro n ⟨N, x⟩ ⟨cN, hx⟩
    have cN : CV N V lf := cN
    have hN := cN.T h.2.2
    simp only [s_X1_thingsLeftBy_4, f_X1_thingsLeftBy_4, hN, if_pos (nI_le (Nat.le_refl (vT V)) (by omega))]
    exact ⟨trivial, hx⟩
theorem X13_left {M : gM} {V : vV} {lf : Nat → Nat} (h : At M V lf) {p : Nat} (hp : p < vP V) : s_X13_death_106 (nI p) FU M 0 0 ∧ (f_X13_death_106 (nI p) FU M 0 0).1 = a_evb V lf (fun S => S.2.2.2.1) p := by
  have F := h.F
  obtain ⟨c, hV, w⟩ := h
  have h10 := w.P.2
  have h8 := w.T.2
  have i0 : vp_in (1 : Int32) 502 := vpi (k := 1) (by omega)
  refine lp (fun n t (s : gM × Int32) => f_X13_death_106 (nI p) n s.1 s.2 (nI t)) (fun n t s => s_X13_death_106 (nI p) n s.1 s.2 (nI t)) (fun t s => mV s.1 = V ∧ s.2 = bo (fun t => bt (vrun V lf t 9999).2.2.2.1 p) t) (fun z => z.1 = a_evb V lf (fun S => S.2.2.2.1) p) (vT V) ?_ ?_ FU 0 (M, 0) (Nat.zero_le _) (by rw [FU_eq]; omega) ⟨hV, rfl⟩
  · rintro n t ⟨N, x⟩ ht ⟨cN, hx⟩ ih
    have cN : mV N = V := cN
    have hx : x = bo (fun t => bt (vrun V lf t 9999).2.2.2.1 p) t := hx
    have hN := mT (M := N) (by rw [cN]; exact w)
    rw [cN] at hN
    obtain ⟨a1, a2⟩ := X13_parts (M := N) w F cN ht 9999
    have o9 : mV (f_X13_laysParts N (nI t) 9999) = V := by rw [mV_off (o_X13_laysParts N (nI t) 9999) (by decide), cN]
    simp only [s_X13_death_106, f_X13_death_106, bnd, bndP, hN, if_neg (nI_ge ht (by omega)), i0, a1, a2.2.2.1, b_read _ (show p < 32 by omega), p1, true_and]
    exact ih (f_X13_laysParts N (nI t) 9999, _) ⟨o9, by rw [hx]; rfl⟩
  · rintro n ⟨N, x⟩ ⟨cN, hx⟩
    have cN : mV N = V := cN
    have hN := mT (M := N) (by rw [cN]; exact w)
    rw [cN] at hN
    simp only [s_X13_death_106, f_X13_death_106, hN, if_pos (nI_le (Nat.le_refl (vT V)) (by omega))]
    exact ⟨⟨i0, trivial⟩, hx⟩
def a_de1 (V : vV) (lf : Nat → Nat) (x2 : Int32) (o : Option Nat) : Int32 := match o with
  | none => -2
  | some d => if x2 = 0 then nI d else if x2 = 1 then V.2.1 d else a_evb V lf (fun S => S.2.2.2.1) d
theorem C_de1 {M : gM} {V : vV} {lf : Nat → Nat} (h : At M V lf) {x2 : Int32} {o : Option Nat} (m : mortal V o) : s_X12_death_53 M x2 (oJ o) ∧ (f_X12_death_53 M x2 (oJ o)).1 = a_de1 V lf x2 o := by
  have h10 := h.2.2.P.2
  simp only [s_X12_death_53, f_X12_death_53, bnd, bndP, sX7_isP, fX7_isP h.c h.2.2, true_and, bz_0]
  cases o with
  | none =>
    have e : isB (oJ none) (vP V) = false := by show isB (-1) (vP V) = false; unfold isB; exact decide_eq_false fun q => q.1 (by decide)
    simp only [e, if_true, true_and]; rfl
  | some d =>
    obtain ⟨hd, md⟩ := m d rfl
    have e : isB (nI d) (vP V) = true := by rw [isB_nI (by omega) (by omega)]; exact decide_eq_true hd
    have e0 : oJ (some d) = nI d := rfl
    have i10 : vp_in (nI d) 10 := vpi (by omega)
    obtain ⟨a1, a2⟩ := X1_left h hd
    have e20 : rdI M 20 0 d 0 = V.2.1 d := by rw [(h.c.2.1 d hd).2.1, mo_ne md]
    simp only [e, Bool.true_eq_false, if_false, e0, i10, a1, a2, nn_nI (show d < 2 ^ 31 by omega), e20, true_and, a_de1]
    by_cases y0 : x2 = 0
    · simp [y0]
    · by_cases y1 : x2 = 1 <;> simp [y0, y1]
theorem M_de1 {M : gM} {V : vV} {lf : Nat → Nat} (h : At M V lf) {x2 : Int32} (hx : isB x2 3 = true) {o : Option Nat} (m : mortal V o) : s_X13_death_70 M x2 (oJ o) ∧ (f_X13_death_70 M x2 (oJ o)).1 = a_de1 V lf x2 o := by
  have h10 := h.2.2.P.2
  simp only [s_X13_death_70, f_X13_death_70]
  cases o with
  | none => simp only [show (oJ none = -1) = True from eq_true rfl, if_true, true_and]; rfl
  | some d =>
    obtain ⟨hd, md⟩ := m d rfl
    have e1 : (nI d = -1) = False := eq_false (nI_ne (show d < 2 ^ 31 by omega)).2
    have e0 : oJ (some d) = nI d := rfl
    obtain ⟨a1, a2⟩ := X13_left h hd
    have fd : f_X13_diesOn M (nI d) = V.2.1 d := by rw [f_dies (by omega), h.2.1]
    simp only [e0, e1, if_false, a1, a2, fd, s_dies (show d < 65 by omega), true_and, a_de1]
    obtain ⟨j, hj, rfl⟩ := isB_t (by decide) hx
    rcases j with _ | _ | _ | j
    · exact ⟨trivial, rfl⟩
    · exact ⟨trivial, rfl⟩
    · exact ⟨trivial, a2⟩
    · omega
theorem C_dk {M : gM} {V : vV} {lf : Nat → Nat} (h : At M V lf) {K : Nat} (hK : K < 2 ^ 31) (x2 : Int32) : ∀ (m n i : Nat) (cur : Option Nat), mortal V cur → vrem V cur ≤ m → m < n → i ≤ K →
    s_X12_death_27 M (nI K) x2 n (oJ cur) (nI i) ∧ (f_X12_death_27 M (nI K) x2 n (oJ cur) (nI i)).1 = a_de1 V lf x2 (vdk V (K - i) cur) := by
  intro m
  induction m with
  | zero =>
    intro n i cur mc hr hn hi
    obtain ⟨n, rfl⟩ : ∃ n', n = n' + 1 := ⟨n - 1, by omega⟩
    cases cur with
    | some d => exact absurd hr (by simp [vrem])
    | none =>
      rw [vdk_n]
      simp only [s_X12_death_27, f_X12_death_27, show (oJ none = -1) = True from eq_true rfl, if_true, ite_self]
      exact C_de1 h mc
  | succ m ih =>
    intro n i cur mc hr hn hi
    obtain ⟨n, rfl⟩ : ∃ n', n = n' + 1 := ⟨n - 1, by omega⟩
    by_cases e : i = K
    · subst e
      rw [Nat.sub_self, vdk]
      simp only [s_X12_death_27, f_X12_death_27, if_pos (nI_le (Nat.le_refl i) hK)]
      exact C_de1 h mc
    · cases cur with
      | none =>
        rw [vdk_n]
        simp only [s_X12_death_27, f_X12_death_27, show (oJ none = -1) = True from eq_true rfl, if_true, ite_self]
        exact C_de1 h mc
      | some d =>
        obtain ⟨hd, md⟩ := mc d rfl
        have h10 := h.2.2.P.2
        have e1 : (oJ (some d) = -1) = False := eq_false (nI_ne (show d < 2 ^ 31 by omega)).2
        obtain ⟨n1, n2⟩ := X7_db h.c h.2.2 mc
        rw [show K - i = (K - (i + 1)) + 1 by omega, vdk]
        simp only [s_X12_death_27, f_X12_death_27, if_neg (nI_ge (show i < K by omega) hK), e1, if_false, n1, n2, p1, true_and]
        exact ih n (i + 1) _ (vnd_mortal _) (by have := vrem_s (V := V) (d := d); omega) (by omega) (by omega)
theorem M_dk {M : gM} {V : vV} {lf : Nat → Nat} (h : At M V lf) {K : Nat} (hK : K < 2 ^ 31) {x2 : Int32} (hx : isB x2 3 = true) : ∀ (m n i : Nat) (done : Int32) (last : Option Nat), mortal V last → dn V last done → vrem V (vnd V last) ≤ m → m < n → i ≤ K →
    s_X13_death_35 M (nI K) x2 n done (oJ (vnd V last)) (nI i) ∧ (f_X13_death_35 M (nI K) x2 n done (oJ (vnd V last)) (nI i)).1 = a_de1 V lf x2 (vdk V (K - i) (vnd V last)) := by
  intro m
  induction m with
  | zero =>
    intro n i done last ml hd hr hn hi
    obtain ⟨n, rfl⟩ : ∃ n', n = n' + 1 := ⟨n - 1, by omega⟩
    have mc := vnd_mortal (V := V) last
    cases hv : vnd V last with
    | some d => rw [hv] at hr; exact absurd hr (by simp [vrem])
    | none =>
      rw [hv] at mc
      rw [vdk_n]
      simp only [s_X13_death_35, f_X13_death_35, show (oJ none = -1) = True from eq_true rfl, if_true, ite_self]
      exact M_de1 h hx mc
  | succ m ih =>
    intro n i done last ml hd hr hn hi
    obtain ⟨n, rfl⟩ : ∃ n', n = n' + 1 := ⟨n - 1, by omega⟩
    have mc := vnd_mortal (V := V) last
    by_cases e : i = K
    · subst e
      rw [Nat.sub_self, vdk]
      simp only [s_X13_death_35, f_X13_death_35, if_pos (nI_le (Nat.le_refl i) hK)]
      exact M_de1 h hx mc
    · cases hv : vnd V last with
      | none =>
        rw [hv] at mc
        rw [vdk_n]
        simp only [s_X13_death_35, f_X13_death_35, show (oJ none = -1) = True from eq_true rfl, if_true, ite_self]
        exact M_de1 h hx mc
      | some d =>
        rw [hv] at mc hr
        obtain ⟨hd1, md⟩ := mc d rfl
        have h10 := h.2.2.P.2
        have e0 : oJ (some d) = nI d := rfl
        have e1 : (nI d = -1) = False := eq_false (nI_ne (show d < 2 ^ 31 by omega)).2
        have hd2 := dn_s h.2.2 ml hd hv
        have nx := X13_next (M := M) (by rw [h.2.1]; exact h.2.2) (last := some d) (day := 9999) (by rw [h.2.1]; exact hd2)
        rw [h.2.1, vcur_all h.2.2 (vnd_mortal _)] at nx
        rw [show K - i = (K - (i + 1)) + 1 by omega, vdk]
        simp only [s_X13_death_35, f_X13_death_35, bnd, bndP, if_neg (nI_ge (show i < K by omega) hK), e0, e1, if_false, nx.1, nx.2, p1, true_and]
        exact ih n (i + 1) _ (some d) mc hd2 (by have := vrem_s (V := V) (d := d); omega) (by omega) (by omega)
theorem qC_dea {M : gM} {V : vV} {lf : Nat → Nat} (h : At M V lf) (x1 x2 : Int32) : s_X12_death M x1 x2 ∧ (f_X12_death M x1 x2).1 = a_dea V lf x1 x2 := by
  have k : ∀ (u v : Int32 × gM), (if x2 < 0 then u else if x2 ≤ 2 then v else u) = if isB x2 3 = true then v else u := fun u v => isB_ite (a := 2) (by omega)
  have k2 : ∀ (u v : Prop), (if x2 < 0 then u else if x2 ≤ 2 then v else u) = if isB x2 3 = true then v else u := fun u v => isB_ite (a := 2) (by omega)
  simp only [s_X12_death, f_X12_death, bnd, bndP, k, k2, a_dea]
  by_cases z : x1 < 0
  · simp only [z, if_true, and_self]
  · obtain ⟨K, hK, rfl⟩ := nI_of z
    simp only [z, if_false]
    cases e : isB x2 3
    · simp only [Bool.false_eq_true, if_false, and_self]
    · obtain ⟨n1, n2⟩ := X7_db (last := none) h.c h.2.2 (fun l hl => by cases hl)
      have n1 : s_X7_deathBehind M 0 (-1) := n1
      have n2 : f_X7_deathBehind M 0 (-1) = oJ (vnd V none) := n2
      simp only [if_true, n1, n2, true_and, nn_nI hK]
      have := C_dk h hK x2 10 FU 0 (vnd V none) (vnd_mortal _) (vrem_0 h.2.2) (by rw [FU_eq]; omega) (Nat.zero_le _)
      rw [Nat.sub_zero] at this
      exact this
theorem qM_dea {M : gM} {V : vV} {lf : Nat → Nat} (h : At M V lf) (x1 x2 : Int32) : s_X13_death M x1 x2 ∧ (f_X13_death M x1 x2).1 = a_dea V lf x1 x2 := by
  have h1 := h.thr 0
  clear h
  have k : ∀ (u v : Int32 × gM), (if x2 < 0 then u else if x2 ≤ 2 then v else u) = if isB x2 3 = true then v else u := fun u v => isB_ite (a := 2) (by omega)
  have k2 : ∀ (u v : Prop), (if x2 < 0 then u else if x2 ≤ 2 then v else u) = if isB x2 3 = true then v else u := fun u v => isB_ite (a := 2) (by omega)
  simp only [s_X13_death, f_X13_death, bnd, bndP, k, k2, a_dea]
  generalize wrI M 67 0 0 0 0 = M1 at *
  by_cases z : x1 < 0
  · simp only [z, if_true, and_self]
  · obtain ⟨K, hK, rfl⟩ := nI_of z
    simp only [z, if_false]
    cases e : isB x2 3
    · simp only [Bool.false_eq_true, if_false, and_self]
    · have nx := X13_next (M := M1) (by rw [h1.2.1]; exact h1.2.2) (last := none) (done := 0) (day := 9999) (by rw [h1.2.1]; exact dn_0)
      rw [h1.2.1, vcur_all h1.2.2 (vnd_mortal _)] at nx
      simp only [if_true, nx.1, nx.2, true_and, nn_nI hK]
      have := M_dk h1 hK e 10 FU 0 0 none (fun l hl => by cases hl) dn_0 (vrem_0 h1.2.2) (by rw [FU_eq]; omega) (Nat.zero_le _)
      rw [Nat.sub_zero] at this
      exact this
-- ===== what would be =====
theorem vset_id {V : vV} {k : Nat} : vset V k (V.2.1 k) = V := by
  unfold vset
  refine Prod.ext rfl (Prod.ext ?_ rfl)
  funext i
  show (if i = k then V.2.1 k else V.2.1 i) = V.2.1 i
  by_cases e : i = k
  · rw [if_pos e, e]
  · rw [if_neg e]
def vwp (V : vV) (q : Nat) (x2 : Int32) : vV := if x2 = 2 then vset V (34 + q) 1 else if x2 = 0 then vset V (10 + q) 0 else vset V (10 + q) (-2)
def a_wpa (V : vV) (lf : Nat → Nat) (x1 x2 x3 : Int32) : Int32 := if isB x1 (vA V) = true then (if isB x2 3 = true then (if isB x3 (vT V) = true then vhold (vrun (vwp V (nn x1) x2) lf (nn x3) 9999).1 else -1) else -1) else -1
theorem v04 : (0 : Int32) = -2 ∨ vp_in (0 : Int32) 4 := Or.inr (vpi (k := 0) (by omega))
theorem qC_wpa {M : gM} {V : vV} {lf : Nat → Nat} (h : At M V lf) (x1 x2 x3 : Int32) : s_X12_wouldPaper M x1 x2 x3 ∧ ((f_X12_wouldPaper M x1 x2 x3).1 = a_wpa V lf x1 x2 x3 ∧ CV (f_X12_wouldPaper M x1 x2 x3).2 V lf) := by
  have h12 := h.2.2.A.2
  have h8 := h.2.2.T.2
  have k : ∀ (u v : Int32 × gM), (if x2 < 0 then u else if 2 < x2 then u else v) = if isB x2 3 = true then v else u := fun u v => isB_ite2 (a := 2) (by omega)
  have k2 : ∀ (u v : Prop), (if x2 < 0 then u else if 2 < x2 then u else v) = if isB x2 3 = true then v else u := fun u v => isB_ite2 (a := 2) (by omega)
  simp only [s_X12_wouldPaper, f_X12_wouldPaper, s_X12_wouldPaper_108, f_X12_wouldPaper_108, bnd, bndP, k, k2, sX7_isA, fX7_isA h.c h.2.2, sX7_isT, fX7_isT h.c h.2.2, true_and, bz_0, a_wpa]
  rcases isP_cases (x := x1) (n := vA V) (by omega) with e | ⟨q, hq, rfl, e⟩
  · simp only [e, if_true, Bool.false_eq_true, if_false, true_and]; exact h.c
  · rcases isP_cases (x := x2) (n := 3) (by omega) with e2 | ⟨j, hj, rfl, e2⟩
    · simp only [e, e2, if_true, Bool.false_eq_true, Bool.true_eq_false, if_false, true_and]; exact h.c
    · rcases isP_cases (x := x3) (n := vT V) (by omega) with e3 | ⟨t, ht, rfl, e3⟩
      · simp only [e, e2, e3, if_true, Bool.false_eq_true, Bool.true_eq_false, if_false, true_and]; exact h.c
      · have i12 : vp_in (nI q) 12 := vpi (by omega)
        obtain ⟨-, -, -, -, -, -, -, -, -, e33, e34⟩ := (h.c.2.2.2.1 q hq).1
        have gb : gB (V.2.1 (34 + q)) := gb01 (h.2.2.2.2.2.1 q hq).1.2.2.2.2.2.2.2.2.1
        simp only [e, e2, e3, Bool.true_eq_false, if_false, if_true, nn_nI (show q < 2 ^ 31 by omega), nn_nI (show t < 2 ^ 31 by omega), i12, e33, e34, gb, true_and, and_true]
        rcases j with _ | _ | _ | j
        · have c2 := h.c.cop h.2.2 hq 0
          have h2 := wf_cop h.2.2 hq v04
          obtain ⟨a1, a2, a3⟩ := X1_hon c2 h2 ht 9999
          have c3 := a3.cop h2 hq (V.2.1 (10 + q))
          rw [vset_back] at c3
          have c4 := c3.bak h.2.2 hq (V.2.1 (34 + q))
          rw [vset_id] at c4
          exact ⟨a1, a2, c4⟩
        · have c2 := h.c.cop h.2.2 hq (-2)
          have h2 := wf_cop h.2.2 hq (v := -2) (Or.inl rfl)
          obtain ⟨a1, a2, a3⟩ := X1_hon c2 h2 ht 9999
          have c3 := a3.cop h2 hq (V.2.1 (10 + q))
          rw [vset_back] at c3
          have c4 := c3.bak h.2.2 hq (V.2.1 (34 + q))
          rw [vset_id] at c4
          exact ⟨a1, a2, c4⟩
        · have c2 := h.c.bak h.2.2 hq 1
          have h2 := wf_bak h.2.2 hq b01
          obtain ⟨a1, a2, a3⟩ := X1_hon c2 h2 ht 9999
          have c3 := a3.cop h2 hq ((vset V (34 + q) 1).2.1 (10 + q))
          rw [vset_id, vset_ne (by omega)] at c3
          have c4 := c3.bak h2 hq (V.2.1 (34 + q))
          rw [vset_back] at c4
          exact ⟨a1, a2, c4⟩
        · omega
theorem qM_wpa {M : gM} {V : vV} {lf : Nat → Nat} (h : At M V lf) (x1 x2 x3 : Int32) : s_X13_wouldPaper M x1 x2 x3 ∧ ((f_X13_wouldPaper M x1 x2 x3).1 = a_wpa V lf x1 x2 x3 ∧ mV (f_X13_wouldPaper M x1 x2 x3).2 = V) := by
  have h1 := h.thr 0
  clear h
  have k : ∀ (u v : Int32 × gM), (if x2 < 0 then u else if 2 < x2 then u else v) = if isB x2 3 = true then v else u := fun u v => isB_ite2 (a := 2) (by omega)
  have k2 : ∀ (u v : Prop), (if x2 < 0 then u else if 2 < x2 then u else v) = if isB x2 3 = true then v else u := fun u v => isB_ite2 (a := 2) (by omega)
  simp only [s_X13_wouldPaper, f_X13_wouldPaper, s_X13_wouldPaper_65, f_X13_wouldPaper_65, bnd, bndP, k, k2, a_wpa]
  generalize wrI M 67 0 0 0 0 = M1 at *
  have F := h1.F
  obtain ⟨c, rfl, w⟩ := h1
  have h12 := w.A.2
  have h8 := w.T.2
  simp only [s_isA, f_isA w, s_isT, f_isT w, true_and, bz_0]
  rcases isP_cases (x := x1) (n := vA (mV M1)) (by omega) with e | ⟨q, hq, rfl, e⟩
  · simp [e]
  · rcases isP_cases (x := x2) (n := 3) (by omega) with e2 | ⟨j, hj, rfl, e2⟩
    · simp [e, e2]
    · rcases isP_cases (x := x3) (n := vT (mV M1)) (by omega) with e3 | ⟨t, ht, rfl, e3⟩
      · simp [e, e2, e3]
      · simp only [e, e2, e3, Bool.true_eq_false, if_false, if_true, nn_nI (show q < 2 ^ 31 by omega), nn_nI (show t < 2 ^ 31 by omega), and_true]
        rcases (show j = 0 ∨ j = 1 ∨ j = 2 by omega) with rfl | rfl | rfl
        · obtain ⟨a1, a2, a3⟩ := X13_would (M := M1) w F rfl (e10n q) (by omega) ht (wf_cop w hq v04)
          simp only [show (nI 0 = 2) = False from by decide, show (nI 0 = 0) = True from by decide, if_true, if_false, vwp]
          exact ⟨a1, a2, a3⟩
        · obtain ⟨a1, a2, a3⟩ := X13_would (M := M1) w F rfl (e10n q) (by omega) ht (wf_cop w hq (v := -2) (Or.inl rfl))
          simp only [show (nI 1 = 2) = False from by decide, show (nI 1 = 0) = False from by decide, if_false, vwp]
          exact ⟨a1, a2, a3⟩
        · obtain ⟨a1, a2, a3⟩ := X13_would (M := M1) w F rfl (e34n q) (by omega) ht (wf_bak w hq b01)
          simp only [show (nI 2 = 2) = True from by decide, if_true, vwp]
          exact ⟨a1, a2, a3⟩
def a_wdi (V : vV) (lf : Nat → Nat) (x1 x2 x3 : Int32) : Int32 := if isB x1 (vP V) = true then (if x2 = -1 ∨ isD x2 = true then (if isB x3 (vT V) = true then vhold (vrun (vset V (nn x1) (if x2 = -1 then -2 else x2)) lf (nn x3) 9999).1 else -1) else -1) else -1
theorem isD_t {x : Int32} (h : isD x = true) : dOK x := of_decide_eq_true (p := 0 ≤ x ∧ x ≤ 9999) h
theorem qC_wdi {M : gM} {V : vV} {lf : Nat → Nat} (h : At M V lf) (x1 x2 x3 : Int32) : s_X12_wouldDie M x1 x2 x3 ∧ ((f_X12_wouldDie M x1 x2 x3).1 = a_wdi V lf x1 x2 x3 ∧ CV (f_X12_wouldDie M x1 x2 x3).2 V lf) := by
  have h10 := h.2.2.P.2
  have h8 := h.2.2.T.2
  have sN : s_X12_isDayOrNever M x2 := by
    unfold s_X12_isDayOrNever s_X12_isDayOrNever_12
    split
    · trivial
    · refine ⟨sDay.1, ?_⟩
      split <;> trivial
  have fNv : f_X12_isDayOrNever M x2 = bz (decide (x2 = -1) || isD x2) := by
    unfold f_X12_isDayOrNever f_X12_isDayOrNever_12
    rw [fDay.1]
    by_cases z : x2 = -1
    · rw [if_pos z]; simp [z, bz]
    · rw [if_neg z]
      cases isD x2 <;> simp [z, bz]
  simp only [s_X12_wouldDie, f_X12_wouldDie, bnd, bndP, sX7_isP, fX7_isP h.c h.2.2, sX7_isT, fX7_isT h.c h.2.2, sN, fNv, true_and, bz_0, a_wdi]
  rcases isP_cases (x := x1) (n := vP V) (by omega) with e | ⟨p, hp, rfl, e⟩
  · simp only [e, if_true, Bool.false_eq_true, if_false, true_and]; exact h.c
  · by_cases z : x2 = -1 ∨ isD x2 = true
    · have z2 : (decide (x2 = -1) || isD x2) = true := by
        rcases z with z | z <;> simp [z]
      simp only [e, z, z2, if_true, Bool.true_eq_false, if_false]
      rcases isP_cases (x := x3) (n := vT V) (by omega) with e3 | ⟨t, ht, rfl, e3⟩
      · simp only [e3, if_true, Bool.false_eq_true, if_false, true_and]; exact h.c
      · have vv : (if x2 = -1 then (-2 : Int32) else x2) = -2 ∨ dOK (if x2 = -1 then (-2 : Int32) else x2) := by
          by_cases y : x2 = -1
          · rw [if_pos y]; exact Or.inl rfl
          · rw [if_neg y]; exact Or.inr (isD_t (z.resolve_left y))
        have mv : mo (if x2 = -1 then (-2 : Int32) else x2) = x2 := by
          by_cases y : x2 = -1
          · rw [if_pos y, y]; rfl
          · rw [if_neg y]
            exact mo_ne fun q => by
              have := isD_t (z.resolve_left y)
              rw [q] at this
              exact absurd this.1 (by decide)
        obtain ⟨a1, a2, a3⟩ := X1_dying h.c h.2.2 hp ht vv
        rw [mv] at a1 a2 a3
        simp only [e3, Bool.true_eq_false, if_false, if_true, a1, a2, nn_nI (show p < 2 ^ 31 by omega), nn_nI (show t < 2 ^ 31 by omega), true_and]
        exact a3
    · have z2 : (decide (x2 = -1) || isD x2) = false := by
        cases hb : isD x2
        · simp; exact fun y => z (Or.inl y)
        · exact absurd (Or.inr hb) z
      simp only [e, z, z2, if_true, Bool.true_eq_false, if_false, true_and]; exact h.c
theorem qM_wdi {M : gM} {V : vV} {lf : Nat → Nat} (h : At M V lf) (x1 x2 x3 : Int32) : s_X13_wouldDie M x1 x2 x3 ∧ ((f_X13_wouldDie M x1 x2 x3).1 = a_wdi V lf x1 x2 x3 ∧ mV (f_X13_wouldDie M x1 x2 x3).2 = V) := by
  have h1 := h.thr 0
  clear h
  simp only [s_X13_wouldDie, f_X13_wouldDie, s_X13_wouldDie_25, f_X13_wouldDie_25, bnd, bndP, a_wdi]
  generalize wrI M 67 0 0 0 0 = M1 at *
  have F := h1.F
  obtain ⟨c, rfl, w⟩ := h1
  have h10 := w.P.2
  have h8 := w.T.2
  simp only [s_isP, f_isP w, s_isT, f_isT w, sDay.2, fDay.2, true_and, bz_0]
  rcases isP_cases (x := x1) (n := vP (mV M1)) (by omega) with e | ⟨p, hp, rfl, e⟩
  · simp [e]
  · rcases isP_cases (x := x3) (n := vT (mV M1)) (by omega) with e3 | ⟨t, ht, rfl, e3⟩
    · by_cases y : x2 = -1
      · simp [e, e3, y]
      · cases hb : isD x2 <;> simp [e, e3, y]
    · by_cases y : x2 = -1
      · obtain ⟨a1, a2, a3⟩ := X13_would (M := M1) w F rfl (e0n p) (by omega) ht (wf_die w hp (v := -2) (Or.inl rfl))
        simp only [e, e3, y, Bool.true_eq_false, if_false, if_true, true_or, nn_nI (show p < 2 ^ 31 by omega), nn_nI (show t < 2 ^ 31 by omega), and_true]
        exact ⟨a1, a2, a3⟩
      · cases hb : isD x2
        · simp [e, y]
        · obtain ⟨a1, a2, a3⟩ := X13_would (M := M1) w F rfl (e0n p) (by omega) ht (wf_die w hp (v := x2) (Or.inr (isD_t hb)))
          simp only [e, e3, y, Bool.true_eq_false, if_false, if_true, or_true, nn_nI (show p < 2 ^ 31 by omega), nn_nI (show t < 2 ^ 31 by omega), and_true]
          exact ⟨a1, a2, a3⟩
end
