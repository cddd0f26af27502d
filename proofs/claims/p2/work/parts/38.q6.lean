set_option linter.all false
noncomputable section
-- ===== holders, moves, wealth, ever =====
def a_hol (V : vV) (lf : Nat → Nat) (x1 x2 : Int32) : Int32 := if isB x1 (vT V) = true then (if isD x2 = true then vhold (vrun V lf (nn x1) x2).1 else -1) else -1
theorem qC_hol {M : gM} {V : vV} {lf : Nat → Nat} (h : At M V lf) (x1 x2 : Int32) : s_X12_holders M x1 x2 ∧ (f_X12_holders M x1 x2).1 = a_hol V lf x1 x2 := by
  have h8 := h.2.2.T.2
  simp only [s_X12_holders, f_X12_holders, bnd, bndP, sX7_isT, fX7_isT h.c h.2.2, sDay.1, fDay.1, true_and, bz_0, a_hol]
  rcases isP_cases (x := x1) (n := vT V) (by omega) with e | ⟨t, ht, rfl, e⟩
  · simp [e]
  · cases e2 : isD x2
    · simp [e]
    · obtain ⟨a1, a2, -⟩ := X1_hon h.c h.2.2 ht x2
      simp only [e, Bool.true_eq_false, if_false, if_true, a1, a2, nn_nI (show t < 2 ^ 31 by omega), and_self]
theorem qM_hol {M : gM} {V : vV} {lf : Nat → Nat} (h : At M V lf) (x1 x2 : Int32) : s_X13_holders M x1 x2 ∧ (f_X13_holders M x1 x2).1 = a_hol V lf x1 x2 := by
  have h1 := h.thr 0
  clear h
  simp only [s_X13_holders, f_X13_holders, s_X13_holders_29, f_X13_holders_29, bnd, bndP]
  generalize wrI M 67 0 0 0 0 = M1 at *
  have F := h1.F
  obtain ⟨c, rfl, w⟩ := h1
  have h8 := w.T.2
  simp only [s_isT, f_isT w, sDay.2, fDay.2, true_and, bz_0, a_hol]
  rcases isP_cases (x := x1) (n := vT (mV M1)) (by omega) with e | ⟨t, ht, rfl, e⟩
  · simp [e]
  · cases e2 : isD x2
    · simp [e]
    · obtain ⟨a1, a2, -⟩ := X13_hin (M := M1) w F rfl ht x2 (vrun_ok w (wf_lf F) ht x2)
      simp only [e, Bool.true_eq_false, if_false, if_true, a1, a2, nn_nI (show t < 2 ^ 31 by omega), and_self]
def a_mov (V : vV) (lf : Nat → Nat) (x1 x2 : Int32) : Int32 := if isB x1 (vT V) = true then (if isB x2 2 = true then (if x2 = 0 then (vrun V lf (nn x1) 9999).2.2.2.2.1 else (vrun V lf (nn x1) 9999).2.2.2.2.2) else -1) else -1
theorem vgo_lm {V : vV} (h : WF V) {lf : Nat → Nat} {t : Nat} {day : Int32} : ∀ n cur S, mortal V cur → (S.2.2.2.2.2 = -2 ∨ dOK S.2.2.2.2.2) → ((vgo V lf t day n cur S).2.2.2.2.2 = -2 ∨ dOK (vgo V lf t day n cur S).2.2.2.2.2) := by
  intro n
  induction n with
  | zero => intro cur S _ o; rw [vgo]; exact o
  | succ n ih =>
    intro cur S mc o
    cases cur with
    | none => rw [vgo]; exact o
    | some d =>
      obtain ⟨hd, md⟩ := mc d rfl
      rw [vgo]
      refine ih _ _ (vnd_mortal _) ?_
      split
      · exact (h.2.1 d hd).2.1
      · exact o
theorem vrun_lm {V : vV} (h : WF V) {lf : Nat → Nat} {t : Nat} {day : Int32} : (vrun V lf t day).2.2.2.2.2 = -2 ∨ dOK (vrun V lf t day).2.2.2.2.2 := vgo_lm h 10 _ _ (vnd_mortal none) (Or.inl rfl)
theorem qC_mov {M : gM} {V : vV} {lf : Nat → Nat} (h : At M V lf) (x1 x2 : Int32) : s_X12_moves M x1 x2 ∧ (f_X12_moves M x1 x2).1 = a_mov V lf x1 x2 := by
  have h8 := h.2.2.T.2
  simp only [s_X12_moves, f_X12_moves, bnd, bndP, sX7_isT, fX7_isT h.c h.2.2, true_and, bz_0, a_mov]
  rcases isP_cases (x := x1) (n := vT V) (by omega) with e | ⟨t, ht, rfl, e⟩
  · simp [e]
  · have k : ∀ (u v : Int32 × gM), (if x2 < 0 then u else if x2 ≤ 1 then v else u) = if isB x2 2 = true then v else u := fun u v => isB_ite (a := 1) (by omega)
    have k2 : ∀ (u v : Prop), (if x2 < 0 then u else if x2 ≤ 1 then v else u) = if isB x2 2 = true then v else u := fun u v => isB_ite (a := 1) (by omega)
    obtain ⟨a1, a2, a3⟩ := X1_goOn h.c h.2.2 ht 9999
    simp only [e, Bool.true_eq_false, if_false, if_true, k, k2, a1, a2.2.2.2.1, a2.2.2.2.2, sO2, fO2_d (vrun_lm h.2.2), true_and, nn_nI (show t < 2 ^ 31 by omega)]
    cases isB x2 2
    · simp
    · by_cases z : x2 = 0 <;> simp [z]
theorem qM_mov {M : gM} {V : vV} {lf : Nat → Nat} (h : At M V lf) (x1 x2 : Int32) : s_X13_moves M x1 x2 ∧ (f_X13_moves M x1 x2).1 = a_mov V lf x1 x2 := by
  have h1 := h.thr 0
  clear h
  simp only [s_X13_moves, f_X13_moves, bnd, bndP]
  generalize wrI M 67 0 0 0 0 = M1 at *
  have F := h1.F
  obtain ⟨c, rfl, w⟩ := h1
  have h8 := w.T.2
  simp only [s_isT, f_isT w, true_and, bz_0, a_mov]
  rcases isP_cases (x := x1) (n := vT (mV M1)) (by omega) with e | ⟨t, ht, rfl, e⟩
  · simp [e]
  · have k : ∀ (u v : Int32 × gM), (if x2 < 0 then u else if x2 ≤ 1 then v else u) = if isB x2 2 = true then v else u := fun u v => isB_ite (a := 1) (by omega)
    have k2 : ∀ (u v : Prop), (if x2 < 0 then u else if x2 ≤ 1 then v else u) = if isB x2 2 = true then v else u := fun u v => isB_ite (a := 1) (by omega)
    obtain ⟨a1, a2⟩ := X13_parts (M := M1) w F rfl ht 9999
    simp only [e, Bool.true_eq_false, if_false, if_true, k, k2, a1, a2.2.2.2.1, a2.2.2.2.2, true_and, nn_nI (show t < 2 ^ 31 by omega)]
    cases isB x2 2
    · simp
    · by_cases z : x2 = 0 <;> simp [z]
theorem sHol {M : gM} {x : Int32} : s_X12_holder M x := by unfold s_X12_holder; split <;> trivial
theorem sPC {M : gM} {x : Int32} : s_X12_isPersonOrCrown M x := by
  unfold s_X12_isPersonOrCrown s_X12_isPersonOrCrown_16
  split
  · trivial
  · refine ⟨sX7_isP, ?_⟩
    split <;> trivial
/-- the person or the crown, by number -/
def pcN (x : Int32) : Nat := if x = -1 then 10 else nn x
theorem fHol {M : gM} {V : vV} (h10 : vP V ≤ 10) {x : Int32} (hx : x = -1 ∨ isB x (vP V) = true) : f_X12_holder M x = nI (pcN x) ∧ pcN x < 11 := by
  unfold f_X12_holder pcN
  by_cases z : x = -1
  · rw [if_pos z, if_pos z]; exact ⟨rfl, by omega⟩
  · rw [if_neg z, if_neg z]
    obtain ⟨j, hj, e⟩ := isB_t (by omega) (hx.resolve_left z)
    rw [e, nn_nI (by omega)]
    exact ⟨rfl, by omega⟩
theorem fPC {M : gM} {V : vV} {lf : Nat → Nat} (c : CV M V lf) (h : WF V) (x : Int32) : f_X12_isPersonOrCrown M x = bz (decide (x = -1) || isB x (vP V)) := by
  unfold f_X12_isPersonOrCrown f_X12_isPersonOrCrown_16
  rw [fX7_isP c h]
  by_cases z : x = -1
  · rw [if_pos z]; simp [z, bz]
  · rw [if_neg z]
    cases isB x (vP V) <;> simp [z, bz]
def a_wea (V : vV) (lf : Nat → Nat) (x1 : Int32) : Int32 := if x1 = -1 ∨ isB x1 (vP V) = true then (lN (vwl V lf (pcN x1) (vT V))).toInt32 else -2
theorem qC_wea {M : gM} {V : vV} {lf : Nat → Nat} (h : At M V lf) (x1 : Int32) : s_X12_wealth M x1 ∧ (f_X12_wealth M x1).1 = a_wea V lf x1 := by
  have h10 := h.2.2.P.2
  simp only [s_X12_wealth, f_X12_wealth, bnd, bndP, sPC, fPC h.c h.2.2, sHol, true_and, bz_0, a_wea]
  by_cases z : x1 = -1 ∨ isB x1 (vP V) = true
  · have z2 : (decide (x1 = -1) || isB x1 (vP V)) = true := by
      rcases z with z | z <;> simp [z]
    obtain ⟨e1, e2⟩ := fHol (M := M) h10 z
    obtain ⟨a1, a2⟩ := X1_wealth h.c h.2.2 e2
    simp only [z2, z, Bool.true_eq_false, if_false, if_true, e1, a1, a2, and_self]
  · have z2 : (decide (x1 = -1) || isB x1 (vP V)) = false := by
      cases hb : isB x1 (vP V)
      · simp; exact fun y => z (Or.inl y)
      · exact absurd (Or.inr hb) z
    simp only [z2, z, if_false, if_true, and_self]
theorem qM_wea {M : gM} {V : vV} {lf : Nat → Nat} (h : At M V lf) (x1 : Int32) : s_X13_wealth M x1 ∧ (f_X13_wealth M x1).1 = a_wea V lf x1 := by
  have h1 := h.thr 0
  clear h
  simp only [s_X13_wealth, f_X13_wealth, s_X13_wealth_21, f_X13_wealth_21, bnd, bndP]
  generalize wrI M 67 0 0 0 0 = M1 at *
  have F := h1.F
  obtain ⟨c, rfl, w⟩ := h1
  have h10 := w.P.2
  simp only [s_isP, f_isP w, true_and, bz_0, a_wea]
  by_cases z : x1 = -1
  · obtain ⟨a1, a2⟩ := X13_wealth (M := M1) w F rfl (show 10 < 11 by omega)
    have a1 : s_X13_wealthOf M1 10 := a1
    have a2 : (f_X13_wealthOf M1 10).1 = (lN (vwl (mV M1) lf 10 (vT (mV M1)))).toInt32 := a2
    have ep : pcN x1 = 10 := if_pos z
    rw [ep]
    simp only [z, if_true, true_or, a1, a2, and_self]
  · rcases isP_cases (x := x1) (n := vP (mV M1)) (by omega) with e | ⟨p, hp, rfl, e⟩
    · simp [z, e]
    · obtain ⟨a1, a2⟩ := X13_wealth (M := M1) w F rfl (show p < 11 by omega)
      have ep : pcN (nI p) = p := by unfold pcN; rw [if_neg z, nn_nI (by omega)]
      rw [ep]
      simp only [z, e, if_false, if_true, or_true, Bool.true_eq_false, a1, a2, and_self]
-- bits over things
def a_evb (V : vV) (lf : Nat → Nat) (w : vS → Int32) (p : Nat) : Int32 := bo (fun t => bt (w (vrun V lf t 9999)) p) (vT V)
def a_eve (V : vV) (lf : Nat → Nat) (x1 : Int32) : Int32 := if isB x1 (vP V) = true then a_evb V lf (fun S => S.2.2.1) (nn x1) else -1
theorem qC_eve {M : gM} {V : vV} {lf : Nat → Nat} (h : At M V lf) (x1 : Int32) : s_X12_ever M x1 ∧ (f_X12_ever M x1).1 = a_eve V lf x1 := by
  have h10 := h.2.2.P.2
  have h8 := h.2.2.T.2
  simp only [s_X12_ever, f_X12_ever, sX7_isP, fX7_isP h.c h.2.2, true_and, bz_0, a_eve]
  rcases isP_cases (x := x1) (n := vP V) (by omega) with e | ⟨p, hp, rfl, e⟩
  · simp [e]
  · simp only [e, Bool.true_eq_false, if_false, if_true, nn_nI (show p < 2 ^ 31 by omega)]
    refine lp (fun n t (s : gM × Int32) => f_X12_ever_17 (nI p) n s.1 s.2 (nI t)) (fun n t s => s_X12_ever_17 (nI p) n s.1 s.2 (nI t)) (fun t s => CV s.1 V lf ∧ s.2 = bo (fun t => bt (vrun V lf t 9999).2.2.1 p) t) (fun z => z.1 = a_evb V lf (fun S => S.2.2.1) p) (vT V) ?_ ?_ FU 0 (M, 0) (Nat.zero_le _) (by rw [FU_eq]; omega) ⟨h.c, rfl⟩
    · rintro n t ⟨N, x⟩ ht ⟨cN, hx⟩ ih
      have cN : CV N V lf := cN
      have hx : x = bo (fun t => bt (vrun V lf t 9999).2.2.1 p) t := hx
      have hN := cN.T h.2.2
      obtain ⟨a1, a2, a3⟩ := X1_goOn cN h.2.2 ht 9999
      have o := o_X1_goOn N (nI t) 9999
      simp only [s_X12_ever_17, f_X12_ever_17, bnd, bndP, hN, if_neg (nI_ge ht (by omega)), a1, a2.2.1, b_read _ (show p < 32 by omega), p1, true_and]
      exact ih (_, _) ⟨cN.off o (by decide), by rw [hx]; rfl⟩
    · rintro n ⟨N, x⟩ ⟨cN, hx⟩
      have cN : CV N V lf := cN
      have hN := cN.T h.2.2
      simp only [s_X12_ever_17, f_X12_ever_17, hN, if_pos (nI_le (Nat.le_refl (vT V)) (by omega))]
      exact ⟨trivial, hx⟩
theorem qM_eve {M : gM} {V : vV} {lf : Nat → Nat} (h : At M V lf) (x1 : Int32) : s_X13_ever M x1 ∧ (f_X13_ever M x1).1 = a_eve V lf x1 := by
  have h1 := h.thr 0
  clear h
  simp only [s_X13_ever, f_X13_ever, bnd, bndP]
  generalize wrI M 67 0 0 0 0 = M1 at *
  have F := h1.F
  obtain ⟨c, hV, w⟩ := h1
  have w1 : WF (mV M1) := by rw [hV]; exact w
  have h10 := w.P.2
  have h8 := w.T.2
  have i0 : vp_in (1 : Int32) 502 := vpi (k := 1) (by omega)
  have fP := f_isP w1 x1
  rw [hV] at fP
  simp only [s_isP, fP, true_and, bz_0, a_eve]
  rcases isP_cases (x := x1) (n := vP V) (by omega) with e | ⟨p, hp, rfl, e⟩
  · simp [e]
  · simp only [e, Bool.true_eq_false, if_false, if_true, nn_nI (show p < 2 ^ 31 by omega)]
    refine lp (fun n t (s : gM × Int32) => f_X13_ever_19 (nI p) n s.1 s.2 (nI t)) (fun n t s => s_X13_ever_19 (nI p) n s.1 s.2 (nI t)) (fun t s => mV s.1 = V ∧ s.2 = bo (fun t => bt (vrun V lf t 9999).2.2.1 p) t) (fun z => z.1 = a_evb V lf (fun S => S.2.2.1) p) (vT V) ?_ ?_ FU 0 (M1, 0) (Nat.zero_le _) (by rw [FU_eq]; omega) ⟨hV, rfl⟩
    · rintro n t ⟨N, x⟩ ht ⟨cN, hx⟩ ih
      have cN : mV N = V := cN
      have hx : x = bo (fun t => bt (vrun V lf t 9999).2.2.1 p) t := hx
      have hN := mT (M := N) (by rw [cN]; exact w)
      rw [cN] at hN
      obtain ⟨a1, a2⟩ := X13_parts (M := N) w F cN ht 9999
      have o9 : mV (f_X13_laysParts N (nI t) 9999) = V := by rw [mV_off (o_X13_laysParts N (nI t) 9999) (by decide), cN]
      simp only [s_X13_ever_19, f_X13_ever_19, bnd, bndP, hN, if_neg (nI_ge ht (by omega)), i0, a1, a2.2.1, b_read _ (show p < 32 by omega), p1, true_and]
      exact ih (f_X13_laysParts N (nI t) 9999, _) ⟨o9, by rw [hx]; rfl⟩
    · rintro n ⟨N, x⟩ ⟨cN, hx⟩
      have cN : mV N = V := cN
      have hN := mT (M := N) (by rw [cN]; exact w)
      rw [cN] at hN
      simp only [s_X13_ever_19, f_X13_ever_19, hN, if_pos (nI_le (Nat.le_refl (vT V)) (by omega))]
      exact ⟨⟨i0, trivial⟩, hx⟩
-- gain, against, key, what would be
def vgn (V : vV) (lf : Nat → Nat) (k q : Nat) : Int32 := (lN (vwl V lf k (vT V))).toInt32 - (lN (vwl (vset V (34 + q) 1) lf k (vT V))).toInt32
def a_gai (V : vV) (lf : Nat → Nat) (x1 x2 : Int32) : Int32 := if isB x1 (vP V) = true then (if isB x2 (vA V) = true then vgn V lf (nn x1) (nn x2) else -1000000) else -1000000
theorem qC_gai {M : gM} {V : vV} {lf : Nat → Nat} (h : At M V lf) (x1 x2 : Int32) : s_X12_gain M x1 x2 ∧ (f_X12_gain M x1 x2).1 = a_gai V lf x1 x2 ∧ CV (f_X12_gain M x1 x2).2 V lf := by
  have h10 := h.2.2.P.2
  have h12 := h.2.2.A.2
  simp only [s_X12_gain, f_X12_gain, bnd, bndP, sX7_isP, fX7_isP h.c h.2.2, sX7_isA, fX7_isA h.c h.2.2, true_and, bz_0, a_gai]
  rcases isP_cases (x := x1) (n := vP V) (by omega) with e | ⟨p, hp, rfl, e⟩
  · simp only [e, if_true, Bool.false_eq_true, if_false, true_and]; exact h.c
  · rcases isP_cases (x := x2) (n := vA V) (by omega) with e2 | ⟨q, hq, rfl, e2⟩
    · simp only [e, e2, if_true, Bool.false_eq_true, Bool.true_eq_false, if_false, true_and]; exact h.c
    · obtain ⟨a1, a2⟩ := X1_wealth h.c h.2.2 (show p < 11 by omega)
      have o := o_X1_wealthOf M (nI p)
      obtain ⟨b1, b2, b3⟩ := X1_wout (h.c.off o (by decide)) h.2.2 (show p < 11 by omega) hq
      simp only [e, e2, Bool.true_eq_false, if_false, if_true, a1, a2, b1, b2, nn_nI (show p < 2 ^ 31 by omega), nn_nI (show q < 2 ^ 31 by omega), true_and, and_true]
      exact ⟨rfl, b3⟩
theorem qM_gai {M : gM} {V : vV} {lf : Nat → Nat} (h : At M V lf) (x1 x2 : Int32) : s_X13_gain M x1 x2 ∧ (f_X13_gain M x1 x2).1 = a_gai V lf x1 x2 ∧ mV (f_X13_gain M x1 x2).2 = V := by
  have h1 := h.thr 0
  clear h
  simp only [s_X13_gain, f_X13_gain, s_X13_gain_30, f_X13_gain_30, bnd, bndP]
  generalize wrI M 67 0 0 0 0 = M1 at *
  have F := h1.F
  obtain ⟨c, rfl, w⟩ := h1
  have h10 := w.P.2
  have h12 := w.A.2
  simp only [s_isP, f_isP w, s_isA, f_isA w, true_and, bz_0, a_gai]
  rcases isP_cases (x := x1) (n := vP (mV M1)) (by omega) with e | ⟨p, hp, rfl, e⟩
  · simp [e]
  · rcases isP_cases (x := x2) (n := vA (mV M1)) (by omega) with e2 | ⟨q, hq, rfl, e2⟩
    · simp [e, e2]
    · obtain ⟨a1, a2, a3⟩ := X13_gain (M := M1) w F rfl (show p < 11 by omega) hq
      simp only [e, e2, Bool.true_eq_false, if_false, if_true, a1, a2, a3, nn_nI (show p < 2 ^ 31 by omega), nn_nI (show q < 2 ^ 31 by omega), true_and, and_true]
      rfl
def vag (V : vV) (lf : Nat → Nat) (k : Nat) : Nat → Int32 × Int32
  | 0 => (-2, 0)
  | q + 1 => if vgn V lf k q < (vag V lf k q).2 then (nI q, vgn V lf k q) else vag V lf k q
def a_aga (V : vV) (lf : Nat → Nat) (x1 x2 : Int32) : Int32 := if isB x1 (vP V) = true then (if isB x2 2 = true then (if x2 = 0 ∨ (vag V lf (nn x1) (vA V)).1 = -2 then (vag V lf (nn x1) (vA V)).1 else (vag V lf (nn x1) (vA V)).2) else -1) else -1
theorem qC_aga {M : gM} {V : vV} {lf : Nat → Nat} (h : At M V lf) (x1 x2 : Int32) : s_X12_against M x1 x2 ∧ ((f_X12_against M x1 x2).1 = a_aga V lf x1 x2 ∧ CV (f_X12_against M x1 x2).2 V lf) := by
  have h10 := h.2.2.P.2
  have h12 := h.2.2.A.2
  have k : ∀ (u v : Int32 × gM), (if x2 < 0 then u else if x2 ≤ 1 then v else u) = if isB x2 2 = true then v else u := fun u v => isB_ite (a := 1) (by omega)
  have k2 : ∀ (u v : Prop), (if x2 < 0 then u else if x2 ≤ 1 then v else u) = if isB x2 2 = true then v else u := fun u v => isB_ite (a := 1) (by omega)
  simp only [s_X12_against, f_X12_against, bnd, bndP, sX7_isP, fX7_isP h.c h.2.2, true_and, bz_0, a_aga, k, k2]
  rcases isP_cases (x := x1) (n := vP V) (by omega) with e | ⟨p, hp, rfl, e⟩
  · simp only [e, if_true, Bool.false_eq_true, if_false, true_and]; exact h.c
  · cases e2 : isB x2 2
    · simp only [e, if_true, Bool.false_eq_true, Bool.true_eq_false, if_false, true_and]; exact h.c
    · obtain ⟨a1, a2⟩ := X1_wealth h.c h.2.2 (show p < 11 by omega)
      have o := o_X1_wealthOf M (nI p)
      simp only [e, Bool.true_eq_false, if_false, if_true, a1, a2, nn_nI (show p < 2 ^ 31 by omega), true_and]
      have c2 := h.c.off o (by decide)
      generalize (f_X1_wealthOf M (nI p)).2 = N0 at *
      refine lp (fun n q (s : gM × Int32 × Int32) => f_X12_against_41 (nI p) x2 (lN (vwl V lf p (vT V))).toInt32 n s.1 s.2.1 s.2.2 (nI q)) (fun n q s => s_X12_against_41 (nI p) x2 (lN (vwl V lf p (vT V))).toInt32 n s.1 s.2.1 s.2.2 (nI q)) (fun q s => CV s.1 V lf ∧ s.2 = vag V lf p q) (fun z => z.1 = (if x2 = 0 ∨ (vag V lf p (vA V)).1 = -2 then (vag V lf p (vA V)).1 else (vag V lf p (vA V)).2) ∧ CV z.2 V lf) (vA V) ?_ ?_ FU 0 (N0, -2, 0) (Nat.zero_le _) (by rw [FU_eq]; omega) ⟨c2, rfl⟩
      · rintro n q ⟨N, x, y⟩ hq ⟨cN, hx⟩ ih
        have cN : CV N V lf := cN
        have hx : (x, y) = vag V lf p q := hx
        have hN := cN.A h.2.2
        obtain ⟨b1, b2, b3⟩ := X1_wout cN h.2.2 (show p < 11 by omega) hq
        have gv : (lN (vwl V lf p (vT V))).toInt32 - (lN (vwl (vset V (34 + q) 1) lf p (vT V))).toInt32 = vgn V lf p q := rfl
        have st : vag V lf p (q + 1) = if vgn V lf p q < (vag V lf p q).2 then (nI q, vgn V lf p q) else vag V lf p q := rfl
        rw [← hx] at st
        simp only [s_X12_against_41, f_X12_against_41, bnd, bndP, hN, if_neg (nI_ge hq (by omega)), b1, b2, gv, p1, true_and]
        by_cases z : y ≤ vgn V lf p q
        · simp only [z, if_true]
          exact ih (_, x, y) ⟨b3, by rw [st, if_neg (i_nlt.mpr z)]⟩
        · simp only [z, if_false]
          exact ih (_, nI q, vgn V lf p q) ⟨b3, by rw [st, if_pos (i_nle.mp z)]⟩
      · rintro n ⟨N, x, y⟩ ⟨cN, hx⟩
        have cN : CV N V lf := cN
        have hx : (x, y) = vag V lf p (vA V) := hx
        have hN := cN.A h.2.2
        rw [← hx]
        simp only [s_X12_against_41, f_X12_against_41, s_X12_against_99, f_X12_against_99, hN, if_pos (nI_le (Nat.le_refl (vA V)) (by omega))]
        by_cases z1 : x2 = 0
        · simp only [z1, if_true, true_or, true_and]; exact cN
        · by_cases z2 : x = -2
          · simp only [z1, z2, if_true, if_false, or_true, true_and]; exact cN
          · simp only [z1, z2, if_false, or_self, true_and]; exact cN
theorem qM_aga {M : gM} {V : vV} {lf : Nat → Nat} (h : At M V lf) (x1 x2 : Int32) : s_X13_against M x1 x2 ∧ ((f_X13_against M x1 x2).1 = a_aga V lf x1 x2 ∧ mV (f_X13_against M x1 x2).2 = V) := by
  have h1 := h.thr 0
  clear h
  have k : ∀ (u v : Int32 × gM), (if x2 < 0 then u else if x2 ≤ 1 then v else u) = if isB x2 2 = true then v else u := fun u v => isB_ite (a := 1) (by omega)
  have k2 : ∀ (u v : Prop), (if x2 < 0 then u else if x2 ≤ 1 then v else u) = if isB x2 2 = true then v else u := fun u v => isB_ite (a := 1) (by omega)
  simp only [s_X13_against, f_X13_against, bnd, bndP, k, k2]
  generalize wrI M 67 0 0 0 0 = M1 at *
  have F := h1.F
  obtain ⟨c, hV, w⟩ := h1
  have w1 : WF (mV M1) := by rw [hV]; exact w
  have h10 := w.P.2
  have h12 := w.A.2
  have i0 : vp_in (2 : Int32) 502 := vpi (k := 2) (by omega)
  have fP := f_isP w1 x1
  rw [hV] at fP
  simp only [s_isP, fP, true_and, bz_0, a_aga]
  rcases isP_cases (x := x1) (n := vP V) (by omega) with e | ⟨p, hp, rfl, e⟩
  · simp only [e, if_true, Bool.false_eq_true, if_false, true_and]; exact hV
  · cases e2 : isB x2 2
    · simp only [e, if_true, Bool.false_eq_true, Bool.true_eq_false, if_false, true_and]; exact hV
    · simp only [e, Bool.true_eq_false, if_false, if_true, nn_nI (show p < 2 ^ 31 by omega)]
      refine lp (fun n q (s : gM × Int32 × Int32) => f_X13_against_33 (nI p) x2 n s.1 s.2.1 s.2.2 (nI q)) (fun n q s => s_X13_against_33 (nI p) x2 n s.1 s.2.1 s.2.2 (nI q)) (fun q s => mV s.1 = V ∧ s.2 = vag V lf p q) (fun z => z.1 = (if x2 = 0 ∨ (vag V lf p (vA V)).1 = -2 then (vag V lf p (vA V)).1 else (vag V lf p (vA V)).2) ∧ mV z.2 = V) (vA V) ?_ ?_ FU 0 (M1, -2, 0) (Nat.zero_le _) (by rw [FU_eq]; omega) ⟨hV, rfl⟩
      · rintro n q ⟨N, x, y⟩ hq ⟨cN, hx⟩ ih
        have cN : mV N = V := cN
        have hx : (x, y) = vag V lf p q := hx
        have hN := mA (M := N) (by rw [cN]; exact w)
        rw [cN] at hN
        obtain ⟨b1, b2, b3⟩ := X13_gain (M := N) w F cN (show p < 11 by omega) hq
        have gv : (lN (vwl V lf p (vT V))).toInt32 - (lN (vwl (vset V (34 + q) 1) lf p (vT V))).toInt32 = vgn V lf p q := rfl
        have st : vag V lf p (q + 1) = if vgn V lf p q < (vag V lf p q).2 then (nI q, vgn V lf p q) else vag V lf p q := rfl
        rw [← hx] at st
        simp only [s_X13_against_33, f_X13_against_33, bnd, bndP, hN, if_neg (nI_ge hq (by omega)), i0, b1, b2, gv, p1, true_and]
        by_cases z : vgn V lf p q < y
        · simp only [z, if_true]
          exact ih (_, nI q, vgn V lf p q) ⟨b3, by rw [st, if_pos z]⟩
        · simp only [z, if_false]
          exact ih (_, x, y) ⟨b3, by rw [st, if_neg z]⟩
      · rintro n ⟨N, x, y⟩ ⟨cN, hx⟩
        have cN : mV N = V := cN
        have hx : (x, y) = vag V lf p (vA V) := hx
        have hN := mA (M := N) (by rw [cN]; exact w)
        rw [cN] at hN
        rw [← hx]
        simp only [s_X13_against_33, f_X13_against_33, s_X13_against_86, f_X13_against_86, hN, i0, if_pos (nI_le (Nat.le_refl (vA V)) (by omega)), true_and]
        by_cases z1 : x2 = 0
        · by_cases z2 : x = -2
          · simp only [z1, z2, if_true, true_or, true_and]; exact cN
          · simp only [z1, z2, if_true, if_false, true_or, true_and]; exact cN
        · by_cases z2 : x = -2
          · simp only [z1, z2, if_true, or_true, true_and]; exact cN
          · simp only [z1, z2, if_false, or_self, true_and]; exact cN
def vky (V : vV) (lf : Nat → Nat) : Nat → Option (Nat × Nat)
  | 0 => none
  | q + 1 => match vky V lf q with
    | none => some (q, vot V lf q (vT V))
    | some b => if b.2 < vot V lf q (vT V) then some (q, vot V lf q (vT V)) else some b
def kyA (o : Option (Nat × Nat)) : Int32 := match o with
  | none => -2
  | some b => nI b.1
def kyB (o : Option (Nat × Nat)) : Int32 := match o with
  | none => -2
  | some b => nI b.2
theorem vky_ok {V : vV} {lf : Nat → Nat} : ∀ n b, vky V lf n = some b → b.1 < n ∧ b.2 ≤ vT V := by
  intro n
  induction n with
  | zero => intro b hb; cases hb
  | succ n ih =>
    intro b hb
    rw [vky] at hb
    cases hv : vky V lf n with
    | none =>
      rw [hv] at hb
      cases hb
      exact ⟨Nat.lt_succ_self n, vot_le _⟩
    | some b0 =>
      rw [hv] at hb
      have i := ih b0 hv
      by_cases z : b0.2 < vot V lf n (vT V)
      · have hb : some (n, vot V lf n (vT V)) = some b := by simpa [z] using hb
        cases hb
        exact ⟨Nat.lt_succ_self n, vot_le _⟩
      · have hb : some b0 = some b := by simpa [z] using hb
        cases hb
        exact ⟨by omega, i.2⟩
def a_key (V : vV) (lf : Nat → Nat) (x1 : Int32) : Int32 := if isB x1 2 = true then (if x1 = 0 then kyA (vky V lf (vA V)) else kyB (vky V lf (vA V))) else -1
theorem qC_key {M : gM} {V : vV} {lf : Nat → Nat} (h : At M V lf) (x1 : Int32) : s_X12_key M x1 ∧ ((f_X12_key M x1).1 = a_key V lf x1 ∧ CV (f_X12_key M x1).2 V lf) := by
  have h12 := h.2.2.A.2
  have h8 := h.2.2.T.2
  have k : ∀ (u v : Int32 × gM), (if x1 < 0 then u else if x1 ≤ 1 then v else u) = if isB x1 2 = true then v else u := fun u v => isB_ite (a := 1) (by omega)
  have k2 : ∀ (u v : Prop), (if x1 < 0 then u else if x1 ≤ 1 then v else u) = if isB x1 2 = true then v else u := fun u v => isB_ite (a := 1) (by omega)
  simp only [s_X12_key, f_X12_key, k, k2, a_key]
  cases e2 : isB x1 2
  · simp only [Bool.false_eq_true, if_false, true_and]; exact h.c
  · simp only [if_true]
    refine lp (fun n q (s : gM × Int32 × Int32) => f_X12_key_20 x1 n s.1 s.2.1 s.2.2 (nI q)) (fun n q s => s_X12_key_20 x1 n s.1 s.2.1 s.2.2 (nI q)) (fun q s => CV s.1 V lf ∧ s.2 = (kyA (vky V lf q), kyB (vky V lf q))) (fun z => z.1 = (if x1 = 0 then kyA (vky V lf (vA V)) else kyB (vky V lf (vA V))) ∧ CV z.2 V lf) (vA V) ?_ ?_ FU 0 (M, -2, -2) (Nat.zero_le _) (by rw [FU_eq]; omega) ⟨h.c, rfl⟩
    · rintro n q ⟨N, s⟩ hq ⟨cN, hs⟩ ih
      have cN : CV N V lf := cN
      have hs : s = (kyA (vky V lf q), kyB (vky V lf q)) := hs
      subst hs
      have hN := cN.A h.2.2
      obtain ⟨b1, b2, b3⟩ := X1_other cN h.2.2 hq
      have vl := vot_le (V := V) (lf := lf) (q := q) (vT V)
      simp only [s_X12_key_20, f_X12_key_20, bnd, bndP, hN, if_neg (nI_ge hq (by omega)), b1, b2, p1, true_and]
      cases hv : vky V lf q with
      | none =>
        have z : ¬ nI (vot V lf q (vT V)) ≤ kyB none := by
          show ¬ nI (vot V lf q (vT V)) ≤ -2
          rw [Int32.le_iff_toInt_le, nI_toInt (by omega)]
          rw [show ((-2 : Int32)).toInt = -2 from by decide]
          omega
        simp only [z, if_false]
        exact ih (_, nI q, nI (vot V lf q (vT V))) ⟨b3, by rw [vky, hv]; rfl⟩
      | some b =>
        have ok := vky_ok q b hv
        have ex : (nI (vot V lf q (vT V)) ≤ kyB (some b)) = (vot V lf q (vT V) ≤ b.2) := propext (nI_leI (by omega) (by omega))
        simp only [ex]
        by_cases z : vot V lf q (vT V) ≤ b.2
        · simp only [z, if_true]
          exact ih (_, kyA (some b), kyB (some b)) ⟨b3, by rw [vky, hv]; simp [show ¬ b.2 < vot V lf q (vT V) by omega]⟩
        · simp only [z, if_false]
          exact ih (_, nI q, nI (vot V lf q (vT V))) ⟨b3, by rw [vky, hv]; simp [show b.2 < vot V lf q (vT V) by omega, kyA, kyB]⟩
    · rintro n ⟨N, s⟩ ⟨cN, hs⟩
      have cN : CV N V lf := cN
      have hs : s = (kyA (vky V lf (vA V)), kyB (vky V lf (vA V))) := hs
      subst hs
      have hN := cN.A h.2.2
      simp only [s_X12_key_20, f_X12_key_20, hN, if_pos (nI_le (Nat.le_refl (vA V)) (by omega))]
      by_cases z1 : x1 = 0
      · simp only [z1, if_true, true_and]; exact cN
      · simp only [z1, if_false, true_and]; exact cN
theorem qM_key {M : gM} {V : vV} {lf : Nat → Nat} (h : At M V lf) (x1 : Int32) : s_X13_key M x1 ∧ ((f_X13_key M x1).1 = a_key V lf x1 ∧ mV (f_X13_key M x1).2 = V) := by
  have h1 := h.thr 0
  clear h
  have k : ∀ (u v : Int32 × gM), (if x1 < 0 then u else if x1 ≤ 1 then v else u) = if isB x1 2 = true then v else u := fun u v => isB_ite (a := 1) (by omega)
  have k2 : ∀ (u v : Prop), (if x1 < 0 then u else if x1 ≤ 1 then v else u) = if isB x1 2 = true then v else u := fun u v => isB_ite (a := 1) (by omega)
  simp only [s_X13_key, f_X13_key, bnd, bndP, k, k2, a_key]
  generalize wrI M 67 0 0 0 0 = M1 at *
  have F := h1.F
  obtain ⟨c, hV, w⟩ := h1
  have h12 := w.A.2
  have h8 := w.T.2
  have i0 : vp_in (2 : Int32) 502 := vpi (k := 2) (by omega)
  cases e2 : isB x1 2
  · simp only [Bool.false_eq_true, if_false, true_and]; exact hV
  · simp only [if_true]
    refine lp (fun n q (s : gM × Int32 × Int32) => f_X13_key_24 x1 n s.1 s.2.1 s.2.2 (nI q)) (fun n q s => s_X13_key_24 x1 n s.1 s.2.1 s.2.2 (nI q)) (fun q s => mV s.1 = V ∧ s.2.1 = kyA (vky V lf q) ∧ s.2.2 = (if vky V lf q = none then -1 else kyB (vky V lf q))) (fun z => z.1 = (if x1 = 0 then kyA (vky V lf (vA V)) else kyB (vky V lf (vA V))) ∧ mV z.2 = V) (vA V) ?_ ?_ FU 0 (M1, -2, -1) (Nat.zero_le _) (by rw [FU_eq]; omega) ⟨hV, rfl, rfl⟩
    · rintro n q ⟨N, x, y⟩ hq ⟨cN, hx, hy⟩ ih
      have cN : mV N = V := cN
      have hx : x = kyA (vky V lf q) := hx
      have hy : y = (if vky V lf q = none then -1 else kyB (vky V lf q)) := hy
      have hN := mA (M := N) (by rw [cN]; exact w)
      rw [cN] at hN
      obtain ⟨b1, b2, b3⟩ := X13_other (M := N) w F cN hq
      have vl := vot_le (V := V) (lf := lf) (q := q) (vT V)
      simp only [s_X13_key_24, f_X13_key_24, bnd, bndP, hN, if_neg (nI_ge hq (by omega)), i0, b1, b2, p1, true_and]
      cases hv : vky V lf q with
      | none =>
        rw [hv] at hx hy
        have z : y < nI (vot V lf q (vT V)) := by
          rw [hy]
          show (-1 : Int32) < nI (vot V lf q (vT V))
          rw [Int32.lt_iff_toInt_lt, nI_toInt (by omega)]
          rw [show ((-1 : Int32)).toInt = -1 from by decide]
          omega
        simp only [z, if_true]
        exact ih (_, nI q, nI (vot V lf q (vT V))) ⟨b3, by rw [vky, hv]; rfl, by rw [vky, hv]; rfl⟩
      | some b =>
        rw [hv] at hx hy
        have ok := vky_ok q b hv
        have hy : y = nI b.2 := hy
        have ex : (y < nI (vot V lf q (vT V))) = (b.2 < vot V lf q (vT V)) := by rw [hy]; exact propext (nI_ltI (by omega) (by omega))
        simp only [ex]
        by_cases z : b.2 < vot V lf q (vT V)
        · simp only [z, if_true]
          exact ih (_, nI q, nI (vot V lf q (vT V))) ⟨b3, by rw [vky, hv]; simp [z, kyA], by rw [vky, hv]; simp [z, kyB]⟩
        · simp only [z, if_false]
          exact ih (_, x, y) ⟨b3, by rw [vky, hv]; simp [z]; exact hx, by rw [vky, hv]; simp [z]; exact hy⟩
    · rintro n ⟨N, x, y⟩ ⟨cN, hx, hy⟩
      have cN : mV N = V := cN
      have hx : x = kyA (vky V lf (vA V)) := hx
      have hy : y = (if vky V lf (vA V) = none then -1 else kyB (vky V lf (vA V))) := hy
      have hN := mA (M := N) (by rw [cN]; exact w)
      rw [cN] at hN
      simp only [s_X13_key_24, f_X13_key_24, s_X13_key_74, f_X13_key_74, hN, i0, if_pos (nI_le (Nat.le_refl (vA V)) (by omega)), true_and]
      cases hv : vky V lf (vA V) with
      | none =>
        rw [hv] at hx hy
        have hx : x = -2 := hx
        simp only [hx, if_true, true_and]
        refine ⟨?_, cN⟩
        split <;> rfl
      | some b =>
        rw [hv] at hx hy
        have ok := vky_ok _ b hv
        have hx : x = nI b.1 := hx
        have hy : y = nI b.2 := hy
        have n2 : ¬ nI b.1 = -2 := (nI_ne (by omega)).1
        simp only [hx, hy, n2, if_false]
        by_cases z1 : x1 = 0
        · simp only [z1, if_true, true_and]; exact ⟨rfl, cN⟩
        · simp only [z1, if_false, true_and]; exact ⟨rfl, cN⟩
end
