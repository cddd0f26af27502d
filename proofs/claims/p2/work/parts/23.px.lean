set_option linter.all false
noncomputable section
-- ===== the reference's small reads =====
theorem x88 {M : gM} (i : Nat) : rdI M 88 0 0 i = (mV M).1 i := rfl
theorem x92 {M : gM} (i : Nat) : rdI M 92 0 0 i = (mV M).2.1 i := rfl
theorem x90 {M : gM} (i : Nat) : rdI M 90 0 0 i = (mV M).2.2 i := rfl
theorem fof {M : gM} {q : Nat} (a : Nat) {x : Int32} (hx : x = nI a) (hq : q < 12) (ha : a < 7) : f_X13_of M (nI q) x = (mV M).1 (58 + 7 * q + a) := by
  subst hx
  unfold f_X13_of
  rw [e58, nI_add, nn_nI (by omega)]
  rfl
theorem sof {M : gM} {q : Nat} (a : Nat) {x : Int32} (hx : x = nI a) (hq : q < 12) (ha : a < 7) : s_X13_of M (nI q) x := by
  subst hx
  refine ⟨?_, trivial⟩
  rw [e58, nI_add]
  exact vpi (by omega)
theorem fof0 {M : gM} {q : Nat} (hq : q < 12) : f_X13_of M (nI q) 0 = (mV M).1 (58 + 7 * q) := fof 0 rfl hq (by omega)
theorem fof1 {M : gM} {q : Nat} (hq : q < 12) : f_X13_of M (nI q) 1 = (mV M).1 (58 + 7 * q + 1) := fof 1 rfl hq (by omega)
theorem fof2 {M : gM} {q : Nat} (hq : q < 12) : f_X13_of M (nI q) 2 = (mV M).1 (58 + 7 * q + 2) := fof 2 rfl hq (by omega)
theorem fof3 {M : gM} {q : Nat} (hq : q < 12) : f_X13_of M (nI q) 3 = (mV M).1 (58 + 7 * q + 3) := fof 3 rfl hq (by omega)
theorem fof4 {M : gM} {q : Nat} (hq : q < 12) : f_X13_of M (nI q) 4 = (mV M).1 (58 + 7 * q + 4) := fof 4 rfl hq (by omega)
theorem fof5 {M : gM} {q : Nat} (hq : q < 12) : f_X13_of M (nI q) 5 = (mV M).1 (58 + 7 * q + 5) := fof 5 rfl hq (by omega)
theorem fof6 {M : gM} {q : Nat} (hq : q < 12) : f_X13_of M (nI q) 6 = (mV M).1 (58 + 7 * q + 6) := fof 6 rfl hq (by omega)
theorem sof0 {M : gM} {q : Nat} (hq : q < 12) : s_X13_of M (nI q) 0 := sof 0 rfl hq (by omega)
theorem sof1 {M : gM} {q : Nat} (hq : q < 12) : s_X13_of M (nI q) 1 := sof 1 rfl hq (by omega)
theorem sof2 {M : gM} {q : Nat} (hq : q < 12) : s_X13_of M (nI q) 2 := sof 2 rfl hq (by omega)
theorem sof3 {M : gM} {q : Nat} (hq : q < 12) : s_X13_of M (nI q) 3 := sof 3 rfl hq (by omega)
theorem sof4 {M : gM} {q : Nat} (hq : q < 12) : s_X13_of M (nI q) 4 := sof 4 rfl hq (by omega)
theorem sof5 {M : gM} {q : Nat} (hq : q < 12) : s_X13_of M (nI q) 5 := sof 5 rfl hq (by omega)
theorem sof6 {M : gM} {q : Nat} (hq : q < 12) : s_X13_of M (nI q) 6 := sof 6 rfl hq (by omega)
theorem flnd {M : gM} {t : Nat} (ht : t < 8) : f_X13_landOf M (nI t) = (mV M).1 (34 + 3 * t + 1) := by
  unfold f_X13_landOf
  rw [e34, p1, nn_nI (by omega)]
  rfl
theorem slnd {M : gM} {t : Nat} (ht : t < 8) : s_X13_landOf M (nI t) := by
  refine ⟨?_, trivial⟩
  rw [e34, p1]
  exact vpi (by omega)
theorem fhas {M : gM} {l : Int32} (a : Nat) {x : Int32} (hx : x = nI a) (hl : vp_in l 2) (ha : a < 5) : f_X13_has M l x = bz (decide ((mV M).1 (4 + 5 * nn l + a) = 1)) := by
  subst hx
  have hv := vpe hl (by decide)
  unfold f_X13_has
  rw [hv.1, e4, nI_add, nn_nI (show nn l < 2 ^ 31 by omega), nn_nI (by omega), bz_d]
  rfl
theorem shas {M : gM} {l : Int32} (a : Nat) {x : Int32} (hx : x = nI a) (hl : vp_in l 2) (ha : a < 5) : s_X13_has M l x := by
  subst hx
  have hv := vpe hl (by decide)
  unfold s_X13_has
  rw [hv.1, e4, nI_add]
  refine ⟨vpi (by omega), ?_⟩
  split <;> trivial
-- ===== numbers out of the view =====
def vmk (V : vV) (q : Nat) : Nat := nn (V.1 (58 + 7 * q))
def vld (V : vV) (q : Nat) : Nat := nn (V.1 (58 + 7 * q + 2))
def vlt (V : vV) (t : Nat) : Nat := nn (V.1 (34 + 3 * t + 1))
theorem wmk {V : vV} (h : WF V) {q : Nat} (hq : q < vA V) : V.1 (58 + 7 * q) = nI (vmk V q) ∧ vmk V q < vP V := vpe (h.2.2.2.1 q hq).1.1 (by have := h.P.2; omega)
theorem wld {V : vV} (h : WF V) {q : Nat} (hq : q < vA V) : V.1 (58 + 7 * q + 2) = nI (vld V q) ∧ vld V q < 2 := vpe (h.2.2.2.1 q hq).1.2.2.1 (by decide)
theorem wlt {V : vV} (h : WF V) {t : Nat} (ht : t < vT V) : V.1 (34 + 3 * t + 1) = nI (vlt V t) ∧ vlt V t < 2 := vpe (h.2.2.1 t ht).2.1 (by decide)
-- ===== witnesses who lived =====
def vlc (V : vV) (q : Nat) : Nat := fb_ct (fun p => bt (V.2.1 (22 + q)) p && vliv V p (V.1 (58 + 7 * q + 1))) (vP V)
theorem vlc_le {V : vV} (h : WF V) (q : Nat) : vlc V q ≤ 10 := Nat.le_trans (fb_ct_le _ _) h.P.2
theorem X4_lived {M : gM} {V : vV} {lf : Nat → Nat} (c : CV M V lf) (h : WF V) {q : Nat} (hq : q < vA V) : s_X4_witnessesWhoLived M q ∧ f_X4_witnessesWhoLived M q = nI (vlc V q) := by
  have h10 := h.P.2
  obtain ⟨e25, e26, e27, e28, e29, e35, e32, e30, e31, e33, e34'⟩ := (c.2.2.2.1 q hq).1
  obtain ⟨a1, a2⟩ := X7_living c h (V.1 (58 + 7 * q + 1))
  unfold s_X4_witnessesWhoLived f_X4_witnessesWhoLived
  rw [e26, e30, a2, and_bo (by omega), pb_cnt (by omega)]
  exact ⟨⟨a1, s_bit, trivial⟩, rfl⟩
theorem X13_lived {M : gM} (h : WF (mV M)) {q : Nat} (hq : q < vA (mV M)) : s_X13_living M (nI q) ∧ f_X13_living M (nI q) = nI (vlc (mV M) q) := by
  have hN := mP h
  have h10 := h.P.2
  have h12 := h.A.2
  unfold s_X13_living f_X13_living
  refine lp (fun n k (s : Int32) => f_X13_living_4 M (nI q) n s (nI k)) (fun n k s => s_X13_living_4 M (nI q) n s (nI k)) (fun k s => s = nI (fb_ct (fun p => bt ((mV M).2.1 (22 + q)) p && vliv (mV M) p ((mV M).1 (58 + 7 * q + 1))) k)) (fun z => z = nI (vlc (mV M) q)) (vP (mV M)) ?_ ?_ FU 0 0 (Nat.zero_le _) (by rw [FU_eq]; omega) rfl
  · intro n k s hk hI ih
    have i0 : vp_in (0 : Int32) 502 := vpi (k := 0) (by omega)
    have i1 : vp_in ((22 : Int32) + nI q) 65 := inN 22 rfl (by omega) (by decide)
    simp only [s_X13_living_4, f_X13_living_4, s_X13_living_50, f_X13_living_50, hN, if_neg (nI_ge hk (by omega)), ix22 (show q < 1000 by omega), x92, fof1 (show q < 12 by omega), sof1 (show q < 12 by omega), f_lives (show k < 65 by omega), s_lives (show k < 65 by omega), p1, p0, b_read _ (show k < 32 by omega), bz_0, bz_1, i0, i1, true_and]
    have st := fb_ct_succ (fun p => bt ((mV M).2.1 (22 + q)) p && vliv (mV M) p ((mV M).1 (58 + 7 * q + 1))) k
    cases hb : bt ((mV M).2.1 (22 + q)) k
    · have := ih s (by rw [hI, st]; simp [hb])
      simp only [Bool.false_eq_true, if_false]
      rw [hI, p0]; rw [hI] at this; exact this
    · cases hv : vliv (mV M) k ((mV M).1 (58 + 7 * q + 1))
      · have := ih s (by rw [hI, st]; simp [hb, hv])
        simp only [if_true]
        rw [hI, p0]; rw [hI] at this; exact this
      · have := ih (s + 1) (by rw [hI, st]; simp [hb, hv, p1])
        simp only [if_true, Bool.true_eq_false, if_false]
        exact this
  · intro n s hI
    have i0 : vp_in (0 : Int32) 502 := vpi (k := 0) (by omega)
    simp only [s_X13_living_4, f_X13_living_4, hN, if_pos (nI_le (Nat.le_refl (vP (mV M))) (by omega))]
    exact ⟨⟨i0, trivial⟩, hI⟩
-- ===== forms =====
def vhand (V : vV) (q l : Nat) : Bool := decide (V.1 (58 + 7 * q + 4) = 1) && decide (V.1 (4 + 5 * l + 1) = 1)
def vform (V : vV) (q l : Nat) : Bool := decide (V.1 (4 + 5 * l) ≤ nI (vlc V q)) || vhand V q l
theorem X4_hand {M : gM} {V : vV} {lf : Nat → Nat} (c : CV M V lf) (h : WF V) {q : Nat} (hq : q < vA V) {l : Nat} (hl : l < 2) : s_X4_hasFormByHand M q (nI l) ∧ f_X4_hasFormByHand M q (nI l) = bz (vhand V q l) := by
  obtain ⟨e25, e26, e27, e28, e29, e35, e32, e30, e31, e33, e34'⟩ := (c.2.2.2.1 q hq).1
  obtain ⟨d14, d15, d16, d17, d18⟩ := c.2.2.2.2.2.1 l hl
  have w1 := vp01 (h.2.2.2.1 q hq).1.2.2.2.2.1
  have w2 := vp01 (h.2.2.2.2.2 l hl).2.1
  have i1 : vp_in (nI l) 2 := vpi hl
  simp only [s_X4_hasFormByHand, f_X4_hasFormByHand, s_X4_hasFormByHand_26, f_X4_hasFormByHand_26, e29, nn_nI (show l < 2 ^ 31 by omega), d15, i1, true_and, vhand]
  rcases w1 with w1 | w1 <;> rcases w2 with w2 | w2 <;> simp [w1, w2, o1, o2, bz]
theorem X4_form {M : gM} {V : vV} {lf : Nat → Nat} (c : CV M V lf) (h : WF V) {q : Nat} (hq : q < vA V) {l : Nat} (hl : l < 2) : s_X4_hasForm M q (nI l) (nI (vlc V q)) ∧ f_X4_hasForm M q (nI l) (nI (vlc V q)) = bz (vform V q l) := by
  obtain ⟨d14, d15, d16, d17, d18⟩ := c.2.2.2.2.2.1 l hl
  have i1 : vp_in (nI l) 2 := vpi hl
  obtain ⟨a1, a2⟩ := X4_hand c h hq hl
  simp only [s_X4_hasForm, f_X4_hasForm, s_X4_hasForm_25, f_X4_hasForm_25, nn_nI (show l < 2 ^ 31 by omega), d14, i1, true_and, a1, a2, bz_0, vform]
  by_cases q1 : V.1 (4 + 5 * l) ≤ nI (vlc V q)
  · simp [q1, bz]
  · cases hh : vhand V q l <;> simp [q1, bz]
theorem X13_form {M : gM} (h : WF (mV M)) {q : Nat} (hq : q < vA (mV M)) {l : Int32} (hl : vp_in l 2) : s_X13_hasForm M (nI q) l ∧ f_X13_hasForm M (nI q) l = bz (vform (mV M) q (nn l)) := by
  have h12 := h.A.2
  have hv := vpe hl (by decide)
  obtain ⟨a1, a2⟩ := X13_lived h hq
  have i1 : vp_in ((4 : Int32) + 5 * l) 502 := by rw [hv.1, e4]; exact vpi (by omega)
  have i2 : nn ((4 : Int32) + 5 * l) = 4 + 5 * nn l := by rw [hv.1, e4, nn_nI (show nn l < 2 ^ 31 by omega), nn_nI (by omega)]
  have i3 := fhas (M := M) 1 rfl hl (by omega)
  have i4 := shas (M := M) 1 rfl hl (by omega)
  rw [show nI 1 = 1 from rfl] at i3 i4
  simp only [s_X13_hasForm, f_X13_hasForm, s_X13_hasForm_37, f_X13_hasForm_37, s_X13_hasForm_41, f_X13_hasForm_41, a1, a2, i1, i2, i3, i4, x88, fof4 (show q < 12 by omega), sof4 (show q < 12 by omega), true_and, bz_0, vform, vhand]
  by_cases q1 : (mV M).1 (4 + 5 * nn l) ≤ nI (vlc (mV M) q)
  · simp [q1, bz]
  · by_cases q2 : (mV M).1 (58 + 7 * q + 4) = 1
    · by_cases q3 : (mV M).1 (4 + 5 * nn l + 1) = 1 <;> simp [q1, q2, q3, bz]
    · simp [q1, q2, bz]
-- ===== why not good =====
def vprov (V : vV) (q : Nat) : Bool := decide (V.2.1 (10 + q) = -2) || (decide (V.2.1 (10 + q) ≠ 0) && decide (V.1 (4 + 5 * vld V q + 3) = 1))
def vlack (V : vV) (q t : Nat) : Int32 :=
  if V.2.1 (34 + q) = 1 then 7
  else if V.2.1 (vmk V q) = -2 then 1
  else if V.1 (58 + 7 * q + 1) < V.2.1 (vmk V q) then
    if vprov V q = true then
      if (vform V q (vld V q) || vform V q (vlt V t)) = true then 0 else 4
    else 3
  else 2
theorem sX5_lost {M : gM} {r q : Nat} : s_X5_isLost M r q := by
  unfold s_X5_isLost
  split <;> trivial
theorem fX5_lost {M : gM} {V : vV} {lf : Nat → Nat} (c : CV M V lf) (h : WF V) {q : Nat} (hq : q < vA V) : f_X5_isLost M 0 q = bz (decide (V.2.1 (10 + q) ≠ -2)) := by
  have e := (c.2.2.2.1 q hq).1.2.2.2.2.2.2.2.2.2.1
  have w := (h.2.2.2.1 q hq).1.2.2.2.2.2.2.2.1
  unfold f_X5_isLost
  rw [e, bz_d]
  rcases w with w | w
  · rw [w]; rfl
  · have := vp_ne w (by decide)
    rw [mo_ne this.1, if_neg this.2, if_pos this.1]
theorem X4_lack {M : gM} {V : vV} {lf : Nat → Nat} (c : CV M V lf) (h : WF V) {q : Nat} (hq : q < vA V) {t : Nat} (ht : t < vT V) : s_X4_whyNotGood M q (V.1 (34 + 3 * t + 1)) (nI (vlc V q)) ∧ f_X4_whyNotGood M q (V.1 (34 + 3 * t + 1)) (nI (vlc V q)) = vlack V q t := by
  have h10 := h.P.2
  obtain ⟨e25, e26, e27, e28, e29, e35, e32, e30, e31, e33, e34'⟩ := (c.2.2.2.1 q hq).1
  obtain ⟨m1, m2⟩ := wmk h hq
  obtain ⟨l1, l2⟩ := wld h hq
  obtain ⟨t1, t2⟩ := wlt h ht
  obtain ⟨f1, f2⟩ := X4_form c h hq l2
  obtain ⟨g1, g2⟩ := X4_form c h hq t2
  obtain ⟨d14, d15, d16, d17, d18⟩ := c.2.2.2.2.2.1 _ l2
  have wl := vp01 (h.2.2.2.2.2 _ l2).2.2.2.1
  have ed := (c.2.1 _ m2).2.1
  have wd := (h.2.1 _ m2).2.1
  have wb := vp01 (h.2.2.2.1 q hq).1.2.2.2.2.2.2.2.2.1
  have wc := (h.2.2.2.1 q hq).1.2.2.2.2.2.2.2.1
  have i1 : vp_in (nI (vmk V q)) 10 := vpi (by omega)
  have i2 : vp_in (nI (vld V q)) 2 := vpi l2
  simp only [s_X4_whyNotGood, f_X4_whyNotGood, s_X4_whyNotGood_80, f_X4_whyNotGood_80, s_X4_whyNotGood_103, f_X4_whyNotGood_103, bnd, bndP, e25, e26, e27, e33, e34', m1, l1, t1, nn_nI (show vmk V q < 2 ^ 31 by omega), nn_nI (show vld V q < 2 ^ 31 by omega), ed, d17, sX5_lost, fX5_lost c h hq, f1, f2, g1, g2, i1, i2, true_and, bz_0, vlack, vprov]
  rcases wb with wb | wb
  · rw [wb]
    simp only [if_true, o2, if_false]
    by_cases z : V.2.1 (vmk V q) = -2
    · rw [if_pos ((mo_m1 wd).mpr z), if_pos ((mo_m1 wd).mpr z), if_pos z]
      exact ⟨trivial, rfl⟩
    · rw [if_neg (fun y => z ((mo_m1 wd).mp y)), if_neg (fun y => z ((mo_m1 wd).mp y)), if_neg z, mo_ne z]
      by_cases y : V.1 (58 + 7 * q + 1) < V.2.1 (vmk V q)
      · simp only [y, if_true]
        rcases wc with wc | wc
        · cases hf : vform V q (vld V q) <;> cases hg : vform V q (vlt V t) <;> simp [wc]
        · have wn := vp_ne wc (by decide)
          rw [mo_ne wn.1]
          by_cases u : V.2.1 (10 + q) = 0
          · simp [u]
          · rcases wl with wl | wl
            · cases hf : vform V q (vld V q) <;> cases hg : vform V q (vlt V t) <;> simp [wn.1, u, wl]
            · cases hf : vform V q (vld V q) <;> cases hg : vform V q (vlt V t) <;> simp [wn.1, u, wl]
      · simp only [y, if_false]
        exact ⟨trivial, trivial⟩
  · rw [wb]
    simp only [if_true, o1, if_false]
    exact ⟨trivial, trivial⟩
theorem X13_proved {M : gM} (h : WF (mV M)) {q : Nat} (hq : q < vA (mV M)) : s_X13_isProved M (nI q) ∧ f_X13_isProved M (nI q) = bz (vprov (mV M) q) := by
  have h12 := h.A.2
  have wl := (h.2.2.2.1 q hq).1.2.2.1
  have wc := (h.2.2.2.1 q hq).1.2.2.2.2.2.2.2.1
  have i1 : vp_in ((10 : Int32) + nI q) 65 := inN 10 rfl (by omega) (by decide)
  have i3 := fhas (M := M) 3 rfl wl (by omega)
  have i4 := shas (M := M) 3 rfl wl (by omega)
  rw [show nI 3 = 3 from rfl] at i3 i4
  simp only [s_X13_isProved, f_X13_isProved, s_X13_isProved_40, f_X13_isProved_40, s_X13_isProved_44, f_X13_isProved_44, ix10 (show q < 1000 by omega), x92, fof2 (show q < 12 by omega), sof2 (show q < 12 by omega), i1, i3, i4, true_and, bz_0, vprov, vld]
  rcases wc with wc | wc
  · simp [wc, bz]
  · have wn := vp_ne wc (by decide)
    obtain ⟨j, hj, ej⟩ := vp_in_of wc (by decide)
    by_cases u : (mV M).2.1 (10 + q) = 0
    · simp [wn.1, u, bz]
    · have u2 : ¬ (mV M).2.1 (10 + q) ≤ 0 := by
        rw [ej]
        rw [ej] at u
        exact nI_nle (by rcases j with _ | j; exact absurd rfl u; omega) (by omega)
      by_cases v : (mV M).1 (4 + 5 * nn ((mV M).1 (58 + 7 * q + 2)) + 3) = 1 <;> simp [wn.1, u, u2, v, bz]
theorem X13_lack {M : gM} (h : WF (mV M)) {q : Nat} (hq : q < vA (mV M)) {t : Nat} (ht : t < vT (mV M)) : s_X13_lacks M (nI q) (nI t) ∧ f_X13_lacks M (nI q) (nI t) = vlack (mV M) q t := by
  have h12 := h.A.2
  have h8 := h.T.2
  have h10 := h.P.2
  obtain ⟨m1, m2⟩ := wmk h hq
  have wl := (h.2.2.2.1 q hq).1.2.2.1
  have wt := (h.2.2.1 t ht).2.1
  obtain ⟨f1, f2⟩ := X13_form h hq wl
  obtain ⟨g1, g2⟩ := X13_form h hq wt
  obtain ⟨b1, b2⟩ := X13_proved h hq
  have i1 : vp_in ((34 : Int32) + nI q) 65 := inN 34 rfl (by omega) (by decide)
  simp only [s_X13_lacks, f_X13_lacks, s_X13_lacks_84, f_X13_lacks_84, bnd, bndP, ix34 (show q < 1000 by omega), x92, fof0 (show q < 12 by omega), sof0 (show q < 12 by omega), fof1 (show q < 12 by omega), sof1 (show q < 12 by omega), fof2 (show q < 12 by omega), sof2 (show q < 12 by omega), flnd (show t < 8 by omega), slnd (show t < 8 by omega), m1, f_dies (show vmk (mV M) q < 65 by omega), s_dies (show vmk (mV M) q < 65 by omega), f1, f2, g1, g2, b1, b2, i1, true_and, bz_0, vlack]
  by_cases a : (mV M).2.1 (34 + q) = 1
  · simp [a]
  · by_cases z : (mV M).2.1 (vmk (mV M) q) = -2
    · simp [a, z]
    · by_cases y : (mV M).1 (58 + 7 * q + 1) < (mV M).2.1 (vmk (mV M) q)
      · cases hp : vprov (mV M) q
        · simp [a, z, y]
        · have e1 : nn ((mV M).1 (58 + 7 * q + 2)) = vld (mV M) q := rfl
          have e2 : nn ((mV M).1 (34 + 3 * t + 1)) = vlt (mV M) t := rfl
          rw [e1, e2]
          cases hf : vform (mV M) q (vld (mV M) q) <;> cases hg : vform (mV M) q (vlt (mV M) t) <;> simp [a, z, y]
      · simp [a, z, y]
end
