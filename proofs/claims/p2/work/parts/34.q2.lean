set_option linter.all false
noncomputable section
theorem wf_lf {V : vV} {M : gM} {lf : Nat → Nat} (F : cvF M V lf) : ∀ i, i < vA V → lf i < vA V := fun i hi => (F.1 i hi).1
theorem b01 : vp_in (1 : Int32) 2 := vpi (k := 1) (by omega)
theorem gb01 {x : Int32} (h : vp_in x 2) : gB x := vp01 h
-- ===== without a paper =====
theorem X1_wout {M : gM} {V : vV} {lf : Nat → Nat} (c : CV M V lf) (h : WF V) {k q : Nat} (hk : k < 11) (hq : q < vA V) :
    s_X1_wealthWithout M (nI k) (nI q) ∧ (f_X1_wealthWithout M (nI k) (nI q)).1 = (lN (vwl (vset V (34 + q) 1) lf k (vT V))).toInt32 ∧ CV (f_X1_wealthWithout M (nI k) (nI q)).2 V lf := by
  have h12 := h.A.2
  have i1 : vp_in (nI q) 12 := vpi (by omega)
  have c2 := c.bak h hq 1
  have h2 := wf_bak h hq b01
  obtain ⟨a1, a2⟩ := X1_wealth c2 h2 hk
  have o := o_X1_wealthOf (wrI M 34 0 q 0 1) (nI k)
  have c3 := c2.off o (by decide)
  have r34 : rdI M 34 0 q 0 = V.2.1 (34 + q) := (c.2.2.2.1 q hq).1.2.2.2.2.2.2.2.2.2.2
  have gb : gB (V.2.1 (34 + q)) := gb01 (h.2.2.2.1 q hq).1.2.2.2.2.2.2.2.2.1
  simp only [s_X1_wealthWithout, f_X1_wealthWithout, bnd, bndP, i1, nn_nI (show q < 2 ^ 31 by omega), a1, a2, r34, gb, true_and]
  have c4 := c3.bak h2 hq (V.2.1 (34 + q))
  rw [vset_back] at c4
  exact ⟨rfl, c4⟩
theorem X13_gain {V : vV} {lf : Nat → Nat} (h : WF V) {M0 M : gM} (F : cvF M0 V lf) (hV : mV M = V) {k q : Nat} (hk : k < 11) (hq : q < vA V) :
    s_X13_gainOf M (nI k) (nI q) ∧ (f_X13_gainOf M (nI k) (nI q)).1 = (lN (vwl V lf k (vT V))).toInt32 - (lN (vwl (vset V (34 + q) 1) lf k (vT V))).toInt32 ∧ mV (f_X13_gainOf M (nI k) (nI q)).2 = V := by
  have h12 := h.A.2
  have i1 : vp_in ((34 : Int32) + nI q) 65 := inN 34 rfl (by omega) (by decide)
  obtain ⟨a1, a2⟩ := X13_wealth h F hV hk
  have o := o_X13_wealthOf M (nI k)
  have e2 : mV (f_X13_wealthOf M (nI k)).2 = V := by rw [mV_off o (by decide), hV]
  have r92 : rdI (f_X13_wealthOf M (nI k)).2 92 0 0 (34 + q) = V.2.1 (34 + q) := by rw [x92, e2]
  have e3 := mV_set e2 (k := 34 + q) (v := 1)
  have h2 := wf_bak h hq b01
  obtain ⟨b1, b2⟩ := X13_wealth (M := wrI (f_X13_wealthOf M (nI k)).2 92 0 0 (34 + q) 1) h2 (M0 := M0) F e3 hk
  have o3 := o_X13_wealthOf (wrI (f_X13_wealthOf M (nI k)).2 92 0 0 (34 + q) 1) (nI k)
  have e4 : mV (f_X13_wealthOf (wrI (f_X13_wealthOf M (nI k)).2 92 0 0 (34 + q) 1) (nI k)).2 = vset V (34 + q) 1 := by rw [mV_off o3 (by decide), e3]
  simp only [s_X13_gainOf, f_X13_gainOf, bnd, bndP, i1, ix34 (show q < 1000 by omega), a1, a2, r92, b1, b2, true_and]
  have e5 := mV_set e4 (k := 34 + q) (v := V.2.1 (34 + q))
  rw [vset_back] at e5
  exact ⟨rfl, e5⟩
-- what would be
theorem X13_would {V : vV} {lf : Nat → Nat} (h : WF V) {M0 M : gM} (F : cvF M0 V lf) (hV : mV M = V) {k t : Nat} {x1 v : Int32} (hx : x1 = nI k) (hk : k < 46) (ht : t < vT V) (h2 : WF (vset V k v)) :
    s_X13_wouldBe M x1 v (nI t) ∧ (f_X13_wouldBe M x1 v (nI t)).1 = vhold (vrun (vset V k v) lf t 9999).1 ∧ mV (f_X13_wouldBe M x1 v (nI t)).2 = V := by
  subst hx
  have i1 : vp_in (nI k) 65 := vpi (by omega)
  have e3 := mV_set hV (k := k) (v := v)
  have r92 : rdI M 92 0 0 k = V.2.1 k := by rw [x92, hV]
  obtain ⟨b1, b2, b3⟩ := X13_hin (M := wrI M 92 0 0 k v) h2 (M0 := M0) F e3 ht 9999 (vrun_ok h2 (wf_lf F) ht 9999)
  simp only [s_X13_wouldBe, f_X13_wouldBe, bnd, bndP, i1, nn_nI (show k < 2 ^ 31 by omega), r92, b1, b2, true_and]
  have e5 := mV_set b3 (k := k) (v := V.2.1 k)
  rw [vset_back] at e5
  exact e5
theorem X1_dying {M : gM} {V : vV} {lf : Nat → Nat} (c : CV M V lf) (h : WF V) {p t : Nat} (hp : p < vP V) (ht : t < vT V) {v : Int32} (hv : v = -2 ∨ dOK v) :
    s_X1_holdersIfDying M (nI p) (mo v) (nI t) ∧ (f_X1_holdersIfDying M (nI p) (mo v) (nI t)).1 = vhold (vrun (vset V p v) lf t 9999).1 ∧ CV (f_X1_holdersIfDying M (nI p) (mo v) (nI t)).2 V lf := by
  have h10 := h.P.2
  have i1 : vp_in (nI p) 10 := vpi (by omega)
  have c2 := c.die h hp v
  have h2 := wf_die h hp hv
  obtain ⟨a1, a2, a3⟩ := X1_hon c2 h2 ht 9999
  have r20 : rdI M 20 0 p 0 = mo (V.2.1 p) := (c.2.1 p hp).2.1
  simp only [s_X1_holdersIfDying, f_X1_holdersIfDying, bnd, bndP, i1, nn_nI (show p < 2 ^ 31 by omega), a1, a2, r20, true_and]
  have c4 := a3.die h2 hp (V.2.1 p)
  rw [vset_back] at c4
  exact c4
-- how many things have other holders
def vot (V : vV) (lf : Nat → Nat) (q : Nat) : Nat → Nat
  | 0 => 0
  | t + 1 => vot V lf q t + (if vhold (vrun V lf t 9999).1 = vhold (vrun (vset V (34 + q) 1) lf t 9999).1 then 0 else 1)
theorem vot_le {V : vV} {lf : Nat → Nat} {q : Nat} : ∀ n, vot V lf q n ≤ n := by
  intro n
  induction n with
  | zero => exact Nat.le_refl 0
  | succ n ih => rw [vot]; split <;> omega
theorem X1_other {M : gM} {V : vV} {lf : Nat → Nat} (c : CV M V lf) (h : WF V) {q : Nat} (hq : q < vA V) :
    s_X1_thingsOtherWithout M (nI q) ∧ ((f_X1_thingsOtherWithout M (nI q)).1 = nI (vot V lf q (vT V)) ∧ CV (f_X1_thingsOtherWithout M (nI q)).2 V lf) := by
  have h12 := h.A.2
  have h8 := h.T.2
  have i1 : vp_in (nI q) 12 := vpi (by omega)
  have h2 := wf_bak h hq b01
  have r34 : rdI M 34 0 q 0 = V.2.1 (34 + q) := (c.2.2.2.1 q hq).1.2.2.2.2.2.2.2.2.2.2
  have gb : gB (V.2.1 (34 + q)) := gb01 (h.2.2.2.1 q hq).1.2.2.2.2.2.2.2.2.1
  simp only [s_X1_thingsOtherWithout, f_X1_thingsOtherWithout, i1, nn_nI (show q < 2 ^ 31 by omega), r34, true_and]
  refine lp (fun n t (s : gM × Int32) => f_X1_thingsOtherWithout_21 q (V.2.1 (34 + q)) n s.1 s.2 (nI t)) (fun n t s => s_X1_thingsOtherWithout_21 q (V.2.1 (34 + q)) n s.1 s.2 (nI t)) (fun t s => CV s.1 V lf ∧ s.2 = nI (vot V lf q t)) (fun z => z.1 = nI (vot V lf q (vT V)) ∧ CV z.2 V lf) (vT V) ?_ ?_ FU 0 (M, 0) (Nat.zero_le _) (by rw [FU_eq]; omega) ⟨c, rfl⟩
  · rintro n t ⟨N, x⟩ ht ⟨cN, hx⟩ ih
    have cN : CV N V lf := cN
    have hx : x = nI (vot V lf q t) := hx
    subst hx
    have hN := cN.T h
    obtain ⟨a1, a2, a3⟩ := X1_hon cN h ht 9999
    have c5 := a3.bak h hq 1
    obtain ⟨b1, b2, b3⟩ := X1_hon c5 h2 ht 9999
    have c10 := b3.bak h2 hq (V.2.1 (34 + q))
    rw [vset_back] at c10
    simp only [s_X1_thingsOtherWithout_21, f_X1_thingsOtherWithout_21, s_X1_thingsOtherWithout_70, f_X1_thingsOtherWithout_70, bnd, bndP, hN, if_neg (nI_ge ht (by omega)), a1, a2, b1, b2, gb, p1, p0, true_and]
    have ev : vot V lf q (t + 1) = vot V lf q t + (if vhold (vrun V lf t 9999).1 = vhold (vrun (vset V (34 + q) 1) lf t 9999).1 then 0 else 1) := rfl
    by_cases e : vhold (vrun (vset V (34 + q) 1) lf t 9999).1 = vhold (vrun V lf t 9999).1
    · rw [if_pos e.symm] at ev
      rw [if_pos e, if_pos e]
      exact ih (_, nI (vot V lf q t)) ⟨c10, by rw [ev]; rfl⟩
    · rw [if_neg (fun z => e z.symm)] at ev
      rw [if_neg e, if_neg e]
      exact ih (_, nI (vot V lf q t + 1)) ⟨c10, by rw [ev]⟩
  · rintro n ⟨N, x⟩ ⟨cN, hx⟩
    have cN : CV N V lf := cN
    have hN := cN.T h
    simp only [s_X1_thingsOtherWithout_21, f_X1_thingsOtherWithout_21, hN, if_pos (nI_le (Nat.le_refl (vT V)) (by omega))]
    exact ⟨trivial, hx, cN⟩
theorem e34n (q : Nat) : (34 : Int32) + nI q = nI (34 + q) := nI_add 34 q
theorem e10n (q : Nat) : (10 : Int32) + nI q = nI (10 + q) := nI_add 10 q
theorem e0n (q : Nat) : (0 : Int32) + nI q = nI q := by rw [show (0 : Int32) + nI q = nI (0 + q) from nI_add 0 q, Nat.zero_add]
theorem X13_other {V : vV} {lf : Nat → Nat} (h : WF V) {M0 M : gM} (F : cvF M0 V lf) (hV : mV M = V) {q : Nat} (hq : q < vA V) :
    s_X13_others M (nI q) ∧ ((f_X13_others M (nI q)).1 = nI (vot V lf q (vT V)) ∧ mV (f_X13_others M (nI q)).2 = V) := by
  have h12 := h.A.2
  have h8 := h.T.2
  have i0 : vp_in (1 : Int32) 502 := vpi (k := 1) (by omega)
  have h2 := wf_bak h hq b01
  unfold s_X13_others f_X13_others
  refine lp (fun n t (s : gM × Int32) => f_X13_others_4 (nI q) n s.1 s.2 (nI t)) (fun n t s => s_X13_others_4 (nI q) n s.1 s.2 (nI t)) (fun t s => mV s.1 = V ∧ s.2 = nI (vot V lf q t)) (fun z => z.1 = nI (vot V lf q (vT V)) ∧ mV z.2 = V) (vT V) ?_ ?_ FU 0 (M, 0) (Nat.zero_le _) (by rw [FU_eq]; omega) ⟨hV, rfl⟩
  · rintro n t ⟨N, x⟩ ht ⟨cN, hx⟩ ih
    have cN : mV N = V := cN
    have hx : x = nI (vot V lf q t) := hx
    subst hx
    have hN := mT (M := N) (by rw [cN]; exact h)
    rw [cN] at hN
    obtain ⟨a1, a2, a3⟩ := X13_hin h F cN ht 9999 (vrun_ok h (wf_lf F) ht 9999)
    obtain ⟨b1, b2, b3⟩ := X13_would (v := 1) h F a3 (e34n q) (by omega) ht h2
    simp only [s_X13_others_4, f_X13_others_4, bnd, bndP, hN, if_neg (nI_ge ht (by omega)), i0, a1, a2, b1, b2, p1, p0, true_and]
    have ev : vot V lf q (t + 1) = vot V lf q t + (if vhold (vrun V lf t 9999).1 = vhold (vrun (vset V (34 + q) 1) lf t 9999).1 then 0 else 1) := rfl
    by_cases e : vhold (vrun V lf t 9999).1 = vhold (vrun (vset V (34 + q) 1) lf t 9999).1
    · rw [if_pos e] at ev
      rw [if_pos e, if_pos e]
      exact ih (_, nI (vot V lf q t)) ⟨b3, by rw [ev]; rfl⟩
    · rw [if_neg e] at ev
      rw [if_neg e, if_neg e]
      exact ih (_, nI (vot V lf q t + 1)) ⟨b3, by rw [ev]⟩
  · rintro n ⟨N, x⟩ ⟨cN, hx⟩
    have cN : mV N = V := cN
    have hN := mT (M := N) (by rw [cN]; exact h)
    rw [cN] at hN
    simp only [s_X13_others_4, f_X13_others_4, hN, if_pos (nI_le (Nat.le_refl (vT V)) (by omega))]
    exact ⟨⟨i0, trivial⟩, hx, cN⟩
-- ===== the answers, both =====
/-- what a question leaves: the told memory, the reference's rows, all else that lasts -/
def KG : List Nat := [0, 1, 2, 3, 62, 63, 64, 65, 66, 68, 69, 78, 79, 87, 94]
def Kp (M N : gM) : Prop := ∀ g, g ∈ KG → ∀ a b c, rdI N g a b c = rdI M g a b c
theorem Kp.tr {M N O : gM} (h : Kp M N) (k : Kp N O) : Kp M O := fun g hg a b c => (k g hg a b c).trans (h g hg a b c)
theorem Kp.off {M N : gM} {W : List Nat} (o : offW W M N) (k : W.all (fun g => !KG.contains g) = true) : Kp M N := fun g hg a b c => (o g a b c fun q => by
  have := List.all_eq_true.mp k g q
  rw [List.contains_iff_mem.mpr hg] at this
  cases this).1
def At (M : gM) (V : vV) (lf : Nat → Nat) : Prop := CV M V lf ∧ mV M = V ∧ WF V
theorem At.off {M N : gM} {V : vV} {lf : Nat → Nat} {W : List Nat} (h : At M V lf) (o : offW W M N) (k1 : W.all (fun g => Nat.blt g 4 || Nat.blt 40 g) = true) (k2 : W.all (fun g => g != 88 && g != 90 && g != 92) = true) : At N V lf :=
  ⟨h.1.off o k1, by rw [mV_off o k2]; exact h.2.1, h.2.2⟩
theorem At.thr {M : gM} {V : vV} {lf : Nat → Nat} (h : At M V lf) (v : Int32) : At (wrI M 67 0 0 0 v) V lf := ⟨h.1.wr (Or.inl (by omega)), by rw [mV_wr (by omega)]; exact h.2.1, h.2.2⟩
theorem Kp.thr {M : gM} {v : Int32} : Kp M (wrI M 67 0 0 0 v) := fun g hg a b c => by
  rw [rwI, if_neg]
  intro q
  rw [q.1] at hg
  revert hg
  decide
theorem isP_cases {x : Int32} {n : Nat} (hn : n < 2 ^ 31) : isB x n = false ∨ ∃ j, j < n ∧ x = nI j ∧ isB (nI j) n = true := by
  cases h : isB x n
  · exact Or.inl rfl
  · obtain ⟨j, hj, e⟩ := isB_t hn h
    exact Or.inr ⟨j, hj, e, by rw [← e]; exact h⟩
theorem sDay {M : gM} {x : Int32} : s_X12_isDay M x ∧ s_X13_isDay M x := by
  unfold s_X12_isDay s_X12_isDay_15 s_X13_isDay s_X13_isDay_15
  constructor <;> (repeat' split) <;> trivial
def isD (x : Int32) : Bool := decide (0 ≤ x ∧ x ≤ 9999)
theorem fDay {M : gM} {x : Int32} : f_X12_isDay M x = bz (isD x) ∧ f_X13_isDay M x = bz (isD x) := by
  unfold f_X12_isDay f_X12_isDay_15 f_X13_isDay f_X13_isDay_15 isD
  rw [bz_d]
  by_cases a : x < 0
  · have : ¬ (0 ≤ x ∧ x ≤ 9999) := fun z => (i_nle.mpr a) z.1
    simp [a, this]
  · by_cases b : 9999 < x
    · have : ¬ (0 ≤ x ∧ x ≤ 9999) := fun z => (i_nle.mpr b) z.2
      simp [a, b, this]
    · have : (0 ≤ x ∧ x ≤ 9999) := ⟨i_nlt.mp a, i_nlt.mp b⟩
      simp [a, b, this]
theorem sO2 {M : gM} {x : Int32} : s_X12_orMinusTwo M x := by unfold s_X12_orMinusTwo; split <;> trivial
theorem fO2_m {M : gM} {V : vV} {x : Int32} (h : whoOK V x) (hn : vP V < 2 ^ 31) : f_X12_orMinusTwo M (mo x) = x := by
  unfold f_X12_orMinusTwo
  rcases h with rfl | h
  · rfl
  · obtain ⟨j, hj, rfl⟩ := vp_in_of h hn
    rw [mo_ne (nI_ne (by omega)).1, if_pos (nI_pos' (by omega))]
theorem fO2_n {M : gM} {x : Int32} {n : Nat} (h : x = -2 ∨ vp_in x n) (hn : n < 2 ^ 31) : f_X12_orMinusTwo M (mo x) = x := by
  unfold f_X12_orMinusTwo
  rcases h with rfl | h
  · rfl
  · obtain ⟨j, hj, rfl⟩ := vp_in_of h hn
    rw [mo_ne (nI_ne (by omega)).1, if_pos (nI_pos' (by omega))]
theorem fO2_d {M : gM} {x : Int32} (h : x = -2 ∨ dOK x) : f_X12_orMinusTwo M (mo x) = x := by
  unfold f_X12_orMinusTwo
  rcases h with rfl | h
  · rfl
  · rw [mo_ne (fun q => by rw [q] at h; exact absurd h.1 (by decide)), if_pos h.1]
end
