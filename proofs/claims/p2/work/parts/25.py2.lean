set_option linter.all false
noncomputable section
theorem nZ_b (b : Bool) : nZ (bz b) = bz b := by cases b <;> decide
theorem CV.wr {M : gM} {V : vV} {lf : Nat → Nat} {g a b x : Nat} {v : Int32} (c : CV M V lf) (hg : 40 < g ∨ a ≠ 0) : CV (wrI M g a b x v) V lf := c.same fun g' b' c' h1 h2 => by
  rw [rwI]
  exact if_neg fun q => by
    rcases hg with z | z
    · omega
    · exact z q.2.1.symm
theorem CV.wrJ {M : gM} {V : vV} {lf : Nat → Nat} {g a b x : Nat} {v : Int64} (c : CV M V lf) : CV (wrJ M g a b x v) V lf := c.same fun g' b' c' h1 h2 => rfl
-- ===== broken =====
def vbk (V : vV) (q k : Nat) : Bool := (decide (V.2.1 (46 + 3 * k) = V.1 (58 + 7 * q)) || decide (V.2.1 (46 + 3 * k + 1) = V.1 (58 + 7 * q))) && decide (V.1 (58 + 7 * q + 1) < V.2.1 (46 + 3 * k + 2)) && decide (V.2.1 (46 + 3 * k + 2) < V.2.1 (vmk V q))
def vex (P : Nat → Bool) : Nat → Bool
  | 0 => false
  | n + 1 => vex P n || P n
theorem vex_t {P : Nat → Bool} {n k : Nat} (h : k < n) (hp : P k = true) : vex P n = true := by
  induction n with
  | zero => omega
  | succ n ih =>
    rw [vex]
    by_cases e : k = n
    · subst e; rw [hp, Bool.or_true]
    · rw [ih (by omega), Bool.true_or]
theorem vex_cong {P Q : Nat → Bool} : ∀ {n : Nat}, (∀ k, k < n → P k = Q k) → vex P n = vex Q n := by
  intro n
  induction n with
  | zero => intro _; rfl
  | succ n ih => intro h; rw [vex, vex, ih (fun k hk => h k (by omega)), h n (by omega)]
theorem vex_f {P : Nat → Bool} {n : Nat} (h : ∀ k, k < n → P k = false) : vex P n = false := by
  induction n with
  | zero => rfl
  | succ n ih => rw [vex, ih (fun k hk => h k (by omega)), h n (by omega)]; rfl
def vbrk (V : vV) (q : Nat) : Bool := vex (vbk V q) (vN V) && decide (V.1 (4 + 5 * vld V q + 2) = 1)
theorem X7_wwb {M : gM} {V : vV} {lf : Nat → Nat} (c : CV M V lf) (h : WF V) {q : Nat} (hq : q < vA V) : s_X7_wasWedBetween M 0 (V.1 (58 + 7 * q)) (V.1 (58 + 7 * q + 1)) (V.2.1 (vmk V q)) ∧ f_X7_wasWedBetween M 0 (V.1 (58 + 7 * q)) (V.1 (58 + 7 * q + 1)) (V.2.1 (vmk V q)) = bz (vex (vbk V q) (vN V)) := by
  have hN := c.N h
  have h6 := h.N.2
  unfold s_X7_wasWedBetween f_X7_wasWedBetween
  refine lp (fun n k (s : Unit) => f_X7_wasWedBetween_3 M 0 (V.1 (58 + 7 * q)) (V.1 (58 + 7 * q + 1)) (V.2.1 (vmk V q)) n (nI k)) (fun n k s => s_X7_wasWedBetween_3 M 0 (V.1 (58 + 7 * q)) (V.1 (58 + 7 * q + 1)) (V.2.1 (vmk V q)) n (nI k)) (fun k s => ∀ j, j < k → vbk V q j = false) (fun z => z = bz (vex (vbk V q) (vN V))) (vN V) ?_ ?_ FU 0 () (Nat.zero_le _) (by rw [FU_eq]; omega) (fun j hj => absurd hj (Nat.not_lt_zero _))
  · intro n k s hk hI ih
    obtain ⟨e1, e2, e3⟩ := c.2.2.2.2.1 k hk
    have i6 : vp_in (nI k) 6 := vpi (by omega)
    have nxt := fun (q2 : vbk V q k = false) => ih () (fun j hj => by
      by_cases e : j = k
      · subst e; exact q2
      · exact hI j (by omega))
    simp only [s_X7_wasWedBetween_3, f_X7_wasWedBetween_3, s_X7_wasWedBetween_34, f_X7_wasWedBetween_34, s_X7_wasWedBetween_39, f_X7_wasWedBetween_39, hN, if_neg (nI_ge hk (by omega)), nn_nI (show k < 2 ^ 31 by omega), e1, e2, e3, p1, o1, i6, true_and, if_true, if_false]
    by_cases b : V.2.1 (46 + 3 * k + 2) ≤ V.1 (58 + 7 * q + 1)
    · have nx := nxt (by unfold vbk; simp only [decide_eq_false (i_nlt.mpr b)]; simp)
      by_cases a : V.2.1 (46 + 3 * k) = V.1 (58 + 7 * q)
      · simp only [a, b, if_true]; exact nx
      · by_cases a2 : V.2.1 (46 + 3 * k + 1) = V.1 (58 + 7 * q)
        · simp only [a, a2, b, if_true, if_false]; exact nx
        · simp only [a, a2, if_false]; exact nx
    · by_cases e : V.2.1 (vmk V q) ≤ V.2.1 (46 + 3 * k + 2)
      · have nx := nxt (by unfold vbk; simp only [decide_eq_false (i_nlt.mpr e)]; simp)
        by_cases a : V.2.1 (46 + 3 * k) = V.1 (58 + 7 * q)
        · simp only [a, b, e, if_true, if_false]; exact nx
        · by_cases a2 : V.2.1 (46 + 3 * k + 1) = V.1 (58 + 7 * q)
          · simp only [a, a2, b, e, if_true, if_false]; exact nx
          · simp only [a, a2, if_false]; exact nx
      · by_cases a : V.2.1 (46 + 3 * k) = V.1 (58 + 7 * q)
        · have ok : vbk V q k = true := by unfold vbk; simp only [a, i_nle.mp b, i_nle.mp e, decide_true, Bool.and_self, Bool.true_or]
          simp only [a, b, e, if_true, if_false]
          exact ⟨trivial, by rw [vex_t hk ok]; rfl⟩
        · by_cases a2 : V.2.1 (46 + 3 * k + 1) = V.1 (58 + 7 * q)
          · have ok : vbk V q k = true := by unfold vbk; simp only [a2, i_nle.mp b, i_nle.mp e, decide_true, Bool.and_self, Bool.or_true]
            simp only [a, a2, b, e, if_true, if_false]
            exact ⟨trivial, by rw [vex_t hk ok]; rfl⟩
          · simp only [a, a2, if_false]; exact nxt (by unfold vbk; simp [a, a2])
  · intro n s hI
    simp only [s_X7_wasWedBetween_3, f_X7_wasWedBetween_3, hN, if_pos (nI_le (Nat.le_refl (vN V)) (by omega))]
    exact ⟨trivial, by rw [vex_f hI]; rfl⟩
theorem X4_broken {M : gM} {V : vV} {lf : Nat → Nat} (c : CV M V lf) (h : WF V) {q : Nat} (hq : q < vA V) (hd : V.2.1 (vmk V q) ≠ -2) : s_X4_isBroken M q ∧ f_X4_isBroken M q = bz (vbrk V q) := by
  have h10 := h.P.2
  obtain ⟨e25, e26, e27, e28, e29, e35, e32, e30, e31, e33, e34'⟩ := (c.2.2.2.1 q hq).1
  obtain ⟨m1, m2⟩ := wmk h hq
  obtain ⟨l1, l2⟩ := wld h hq
  obtain ⟨d14, d15, d16, d17, d18⟩ := c.2.2.2.2.2.1 _ l2
  have wl := vp01 (h.2.2.2.2.2 _ l2).2.2.1
  have ed := (c.2.1 _ m2).2.1
  obtain ⟨a1, a2⟩ := X7_wwb c h hq
  have i1 : vp_in (V.1 (58 + 7 * q)) 10 := by rw [m1]; exact vpi (by omega)
  have i2 : vp_in (V.1 (58 + 7 * q + 2)) 2 := by rw [l1]; exact vpi l2
  have n1 : nn (V.1 (58 + 7 * q)) = vmk V q := rfl
  have n2 : nn (V.1 (58 + 7 * q + 2)) = vld V q := rfl
  simp only [s_X4_isBroken, f_X4_isBroken, s_X4_isBroken_57, f_X4_isBroken_57, bnd, bndP, e25, e26, e27, n1, n2, ed, mo_ne hd, d16, a1, a2, i1, i2, true_and, bz_0, vbrk]
  rcases wl with wl | wl
  · simp [wl, bz]
  · cases hx : vex (vbk V q) (vN V) <;> simp [wl, o1, bz]
theorem X13_broken {M : gM} (h : WF (mV M)) {q : Nat} (hq : q < vA (mV M)) : s_X13_isBroken M (nI q) ∧ f_X13_isBroken M (nI q) = bz (vbrk (mV M) q) := by
  have hN := mN h
  have h6 := h.N.2
  have h12 := h.A.2
  have h10 := h.P.2
  obtain ⟨m1, m2⟩ := wmk h hq
  have wl := (h.2.2.2.1 q hq).1.2.2.1
  have i3 := fhas (M := M) 2 rfl wl (by omega)
  have i4 := shas (M := M) 2 rfl wl (by omega)
  rw [show nI 2 = 2 from rfl] at i3 i4
  have i0 : vp_in (64 : Int32) 65 := vpi (k := 64) (by omega)
  have main : s_X13_isBroken_12 M (nI q) (f_X13_of M (nI q) 0) FU 0 0 ∧ f_X13_isBroken_12 M (nI q) (f_X13_of M (nI q) 0) FU 0 0 = bz (vbrk (mV M) q) := by
    rw [fof0 (show q < 12 by omega)]
    refine lp (fun n k (s : Int32) => f_X13_isBroken_12 M (nI q) ((mV M).1 (58 + 7 * q)) n s (nI k)) (fun n k s => s_X13_isBroken_12 M (nI q) ((mV M).1 (58 + 7 * q)) n s (nI k)) (fun k s => s = bz (vex (vbk (mV M) q) k)) (fun z => z = bz (vbrk (mV M) q)) (vN (mV M)) ?_ ?_ FU 0 0 (Nat.zero_le _) (by rw [FU_eq]; omega) rfl
    · intro n k s hk hI ih
      have i1 : vp_in (nI (46 + 3 * k)) 65 := vpi (by omega)
      have i2 : vp_in (nI (46 + 3 * k + 1)) 65 := vpi (by omega)
      have i3 : vp_in (nI (46 + 3 * k + 2)) 65 := vpi (by omega)
      have sd : s_X13_diesOn M ((mV M).1 (58 + 7 * q)) := by rw [m1]; exact s_dies (by omega)
      have fd : f_X13_diesOn M ((mV M).1 (58 + 7 * q)) = (mV M).2.1 (vmk (mV M) q) := by
        have := f_dies (M := M) (p := vmk (mV M) q) (by omega)
        rwa [← m1] at this
      have y0 : s ||| 1 = 1 := by rw [hI]; cases vex (vbk (mV M) q) k <;> decide
      simp only [s_X13_isBroken_12, f_X13_isBroken_12, s_X13_isBroken_58, f_X13_isBroken_58, s_X13_isBroken_97, f_X13_isBroken_97, hN, if_neg (nI_ge hk (by omega)), e46, p1, p2, nn_nI (show 46 + 3 * k < 2 ^ 31 by omega), nn_nI (show 46 + 3 * k + 1 < 2 ^ 31 by omega), nn_nI (show 46 + 3 * k + 2 < 2 ^ 31 by omega), x92, fof1 (show q < 12 by omega), sof1 (show q < 12 by omega), sd, fd, or_0, y0, i0, i1, i2, i3, true_and]
      have nxt := fun (q2 : vbk (mV M) q k = false) => ih s (by rw [hI, vex, q2, Bool.or_false])
      have tk := fun (q2 : vbk (mV M) q k = true) => ih 1 (by rw [vex, q2, Bool.or_true]; rfl)
      by_cases b : (mV M).2.1 (46 + 3 * k + 2) ≤ (mV M).1 (58 + 7 * q + 1)
      · have nx := nxt (by unfold vbk; simp only [decide_eq_false (i_nlt.mpr b)]; simp)
        by_cases a : (mV M).2.1 (46 + 3 * k) = (mV M).1 (58 + 7 * q)
        · simp only [a, b, if_true]; exact nx
        · by_cases a2 : (mV M).2.1 (46 + 3 * k + 1) = (mV M).1 (58 + 7 * q)
          · simp only [a, a2, b, if_true, if_false]; exact nx
          · simp only [a, a2, if_false]; exact nx
      · by_cases e : (mV M).2.1 (vmk (mV M) q) ≤ (mV M).2.1 (46 + 3 * k + 2)
        · have nx := nxt (by unfold vbk; simp only [decide_eq_false (i_nlt.mpr e)]; simp)
          by_cases a : (mV M).2.1 (46 + 3 * k) = (mV M).1 (58 + 7 * q)
          · simp only [a, b, e, if_true, if_false]; exact nx
          · by_cases a2 : (mV M).2.1 (46 + 3 * k + 1) = (mV M).1 (58 + 7 * q)
            · simp only [a, a2, b, e, if_true, if_false]; exact nx
            · simp only [a, a2, if_false]; exact nx
        · by_cases a : (mV M).2.1 (46 + 3 * k) = (mV M).1 (58 + 7 * q)
          · have ok : vbk (mV M) q k = true := by unfold vbk; simp only [a, i_nle.mp b, i_nle.mp e, decide_true, Bool.and_self, Bool.true_or]
            simp only [a, b, e, if_true, if_false]
            exact tk ok
          · by_cases a2 : (mV M).2.1 (46 + 3 * k + 1) = (mV M).1 (58 + 7 * q)
            · have ok : vbk (mV M) q k = true := by unfold vbk; simp only [a2, i_nle.mp b, i_nle.mp e, decide_true, Bool.and_self, Bool.or_true]
              simp only [a, a2, b, e, if_true, if_false]
              exact tk ok
            · simp only [a, a2, if_false]; exact nxt (by unfold vbk; simp [a, a2])
    · intro n s hI
      have n2 : nn ((mV M).1 (58 + 7 * q + 2)) = vld (mV M) q := rfl
      simp only [s_X13_isBroken_12, f_X13_isBroken_12, s_X13_isBroken_128, f_X13_isBroken_128, hN, if_pos (nI_le (Nat.le_refl (vN (mV M))) (by omega)), fof2 (show q < 12 by omega), sof2 (show q < 12 by omega), i0, i3, i4, n2, true_and, hI, bz_0, vbrk]
      cases hx : vex (vbk (mV M) q) (vN (mV M))
      · simp [bz]
      · by_cases z : (mV M).1 (4 + 5 * vld (mV M) q + 2) = 1 <;> simp [z, bz]
  refine ⟨?_, ?_⟩
  · unfold s_X13_isBroken
    first | exact ⟨sof0 (by omega), main.1⟩ | exact main.1
  · unfold f_X13_isBroken
    exact main.2
-- ===== why not =====
def vwhy (V : vV) (q t : Nat) : Int32 := if vlack V q t = 0 then (if vstruck V q t = none then (if vbrk V q = true then 6 else 0) else 5) else vlack V q t
theorem vlack_d {V : vV} {q t : Nat} (h : vlack V q t = 0) : V.2.1 (vmk V q) ≠ -2 := fun z => by
  unfold vlack at h
  rw [if_pos z] at h
  split at h <;> exact absurd h (by decide)
theorem X13_why {M : gM} (h : WF (mV M)) {q t : Nat} (hq : q < vA (mV M)) (ht : t < vT (mV M)) : s_X13_whyNot M (nI q) (nI t) ∧ f_X13_whyNot M (nI q) (nI t) = vwhy (mV M) q t := by
  have h12 := h.A.2
  obtain ⟨a1, a2⟩ := X13_lack h hq ht
  obtain ⟨b1, b2⟩ := X13_struck h hq ht
  obtain ⟨d1, d2⟩ := X13_broken h hq
  simp only [s_X13_whyNot, f_X13_whyNot, a1, a2, b1, b2, d1, d2, true_and, oI_n (o := vstruck (mV M) q t) (fun b hb => by have := vstruck_lt hb; omega), bz_0, vwhy]
  by_cases z : vlack (mV M) q t = 0
  · by_cases y : vstruck (mV M) q t = none
    · cases hb : vbrk (mV M) q <;> simp [z, y]
    · simp [z, y]
  · simp [z]
theorem weigh2 {V : vV} {lf : Nat → Nat} (h : WF V) {t : Nat} {M : gM} (c : CV M V lf) (hg : ∀ q, q < vA V → rdI M 53 0 0 q = bz (decide (vlack V q t = 0))) (hw : ∀ q, q < vA V → rdI M 54 0 0 q = vlack V q t) :
    s_X4_weigh_84 FU M 0 ∧ ∀ q, q < vA V → rdI (f_X4_weigh_84 FU M 0) 54 0 0 q = vwhy V q t ∧ rdI (f_X4_weigh_84 FU M 0) 55 0 0 q = mo (oI (vstruck V q t)) := by
  have h12 := h.A.2
  refine lp (fun n k (s : gM) => f_X4_weigh_84 n s (nI k)) (fun n k s => s_X4_weigh_84 n s (nI k)) (fun k s => CV s V lf ∧ (∀ q, q < vA V → rdI s 53 0 0 q = bz (decide (vlack V q t = 0))) ∧ (∀ q, q < k → rdI s 54 0 0 q = vwhy V q t ∧ rdI s 55 0 0 q = mo (oI (vstruck V q t))) ∧ ∀ q, k ≤ q → q < vA V → rdI s 54 0 0 q = vlack V q t) (fun z => ∀ q, q < vA V → rdI z 54 0 0 q = vwhy V q t ∧ rdI z 55 0 0 q = mo (oI (vstruck V q t))) (vA V) ?_ ?_ FU 0 M (Nat.zero_le _) (by rw [FU_eq]; omega) ⟨c, hg, fun q hq => absurd hq (Nat.not_lt_zero _), fun q _ hq => hw q hq⟩
  · intro n k s hk hI ih
    obtain ⟨cs, g1, g2, g3⟩ := hI
    have hN := cs.A h
    have i6 : vp_in (nI k) 12 := vpi (by omega)
    obtain ⟨a1, a2⟩ := X4_strk cs h hk g1
    have cs2 : CV (wrI s 55 0 0 k (mo (oI (vstruck V k t)))) V lf := cs.wr (Or.inl (by omega))
    have r53 : ∀ q, rdI (wrI s 55 0 0 k (mo (oI (vstruck V k t)))) 53 0 0 q = rdI s 53 0 0 q := fun q => by simp [rwI]
    have r54 : ∀ q, rdI (wrI s 55 0 0 k (mo (oI (vstruck V k t)))) 54 0 0 q = rdI s 54 0 0 q := fun q => by simp [rwI]
    have r55 : ∀ q, rdI (wrI s 55 0 0 k (mo (oI (vstruck V k t)))) 55 0 0 q = if q = k then mo (oI (vstruck V k t)) else rdI s 55 0 0 q := fun q => by simp [rwI]
    have mn : mo (oI (vstruck V k t)) = -1 ↔ vstruck V k t = none := by
      cases hv : vstruck V k t with
      | none => exact ⟨fun _ => rfl, fun _ => rfl⟩
      | some b =>
        have hb := vstruck_lt hv
        have := nI_ne (show b < 2 ^ 31 by omega)
        rw [show oI (some b) = nI b from rfl, mo_ne this.1]
        exact ⟨fun z => absurd z this.2, fun z => by cases z⟩
    simp only [s_X4_weigh_84, f_X4_weigh_84, s_X4_weigh_135, f_X4_weigh_135, bnd, bndP, hN, if_neg (nI_ge hk (by omega)), nn_nI (show k < 2 ^ 31 by omega), a1, a2, p1, i6, true_and, r53, r55, g1 k hk, bz_0, decide_eq_false_iff_not, if_true, mn]
    have nx : vwhy V k t = vlack V k t → s_X4_weigh_84 n (wrI s 55 0 0 k (mo (oI (vstruck V k t)))) (nI (k + 1)) ∧ ∀ q, q < vA V → rdI (f_X4_weigh_84 n (wrI s 55 0 0 k (mo (oI (vstruck V k t)))) (nI (k + 1))) 54 0 0 q = vwhy V q t ∧ rdI (f_X4_weigh_84 n (wrI s 55 0 0 k (mo (oI (vstruck V k t)))) (nI (k + 1))) 55 0 0 q = mo (oI (vstruck V q t)) := fun e => ih _ ⟨cs2, fun q hq => by rw [r53]; exact g1 q hq, fun q hq => by
      rw [r54, r55]
      by_cases z : q = k
      · subst z; rw [if_pos rfl, g3 q (Nat.le_refl _) hk]; exact ⟨e.symm, rfl⟩
      · rw [if_neg z]; exact g2 q (by omega), fun q h1 h2 => by rw [r54]; exact g3 q (by omega) h2⟩
    have wr : ∀ v : Int32, vwhy V k t = v → s_X4_weigh_84 n (wrI (wrI s 55 0 0 k (mo (oI (vstruck V k t)))) 54 0 0 k v) (nI (k + 1)) ∧ ∀ q, q < vA V → rdI (f_X4_weigh_84 n (wrI (wrI s 55 0 0 k (mo (oI (vstruck V k t)))) 54 0 0 k v) (nI (k + 1))) 54 0 0 q = vwhy V q t ∧ rdI (f_X4_weigh_84 n (wrI (wrI s 55 0 0 k (mo (oI (vstruck V k t)))) 54 0 0 k v) (nI (k + 1))) 55 0 0 q = mo (oI (vstruck V q t)) := fun v e => by
      have t53 : ∀ q, rdI (wrI (wrI s 55 0 0 k (mo (oI (vstruck V k t)))) 54 0 0 k v) 53 0 0 q = rdI s 53 0 0 q := fun q => by simp [rwI]
      have t54 : ∀ q, rdI (wrI (wrI s 55 0 0 k (mo (oI (vstruck V k t)))) 54 0 0 k v) 54 0 0 q = if q = k then v else rdI s 54 0 0 q := fun q => by simp [rwI]
      have t55 : ∀ q, rdI (wrI (wrI s 55 0 0 k (mo (oI (vstruck V k t)))) 54 0 0 k v) 55 0 0 q = if q = k then mo (oI (vstruck V k t)) else rdI s 55 0 0 q := fun q => by simp [rwI]
      exact ih _ ⟨cs2.wr (Or.inl (by omega)), fun q hq => by rw [t53]; exact g1 q hq, fun q hq => by
        rw [t54, t55]
        by_cases z : q = k
        · subst z; rw [if_pos rfl, if_pos rfl]; exact ⟨e.symm, rfl⟩
        · rw [if_neg z, if_neg z]; exact g2 q (by omega), fun q h1 h2 => by rw [t54, if_neg (by omega)]; exact g3 q (by omega) h2⟩
    by_cases g : vlack V k t = 0
    · by_cases y : vstruck V k t = none
      · obtain ⟨b1, b2⟩ := X4_broken cs2 h hk (vlack_d g)
        simp only [g, y, not_true, if_true, if_false] at nx wr b1 b2 ⊢
        simp only [b1, b2, true_and, bz_0]
        cases hb : vbrk V k
        · simp only [if_true]
          exact nx (by unfold vwhy; simp [g, y, hb])
        · simp only [Bool.true_eq_false, if_false]
          exact wr 6 (by unfold vwhy; simp [g, y, hb])
      · simp only [g, y, not_true, if_true, if_false]
        exact wr 5 (by unfold vwhy; simp [g, y])
    · simp only [g, not_false_eq_true, if_true]
      exact nx (by unfold vwhy; simp [g])
  · intro n s hI
    obtain ⟨cs, g1, g2, g3⟩ := hI
    have hN := cs.A h
    simp only [s_X4_weigh_84, f_X4_weigh_84, hN, if_pos (nI_le (Nat.le_refl (vA V)) (by omega))]
    exact ⟨trivial, g2⟩
theorem X4_weigh {M : gM} {V : vV} {lf : Nat → Nat} (c : CV M V lf) (h : WF V) {t : Nat} (ht : t < vT V) :
    s_X4_weigh M (nI t) ∧ ∀ q, q < vA V → rdI (f_X4_weigh M (nI t)) 54 0 0 q = vwhy V q t ∧ rdI (f_X4_weigh M (nI t)) 55 0 0 q = mo (oI (vstruck V q t)) := by
  have h12 := h.A.2
  have h8 := h.T.2
  have et := (c.2.2.1 t ht).2.1
  have i8 : vp_in (nI t) 8 := vpi (by omega)
  unfold s_X4_weigh f_X4_weigh
  rw [nn_nI (show t < 2 ^ 31 by omega), et]
  have main := lp (fun n k (s : gM) => f_X4_weigh_15 (V.1 (34 + 3 * t + 1)) n s (nI k)) (fun n k s => s_X4_weigh_15 (V.1 (34 + 3 * t + 1)) n s (nI k)) (fun k s => CV s V lf ∧ ∀ q, q < k → rdI s 53 0 0 q = bz (decide (vlack V q t = 0)) ∧ rdI s 54 0 0 q = vlack V q t) (fun z => ∀ q, q < vA V → rdI z 54 0 0 q = vwhy V q t ∧ rdI z 55 0 0 q = mo (oI (vstruck V q t))) (vA V) (by
    intro n k s hk hI ih
    obtain ⟨cs, g1⟩ := hI
    have hN := cs.A h
    have i6 : vp_in (nI k) 12 := vpi (by omega)
    obtain ⟨a1, a2⟩ := X4_lived cs h hk
    obtain ⟨b1, b2⟩ := X4_lack cs h hk ht
    have r54 : rdI (wrI s 54 0 0 k (vlack V k t)) 54 0 0 k = vlack V k t := by simp [rwI]
    simp only [s_X4_weigh_15, f_X4_weigh_15, bnd, bndP, hN, if_neg (nI_ge hk (by omega)), nn_nI (show k < 2 ^ 31 by omega), a1, a2, b1, b2, r54, p1, i6, true_and]
    have wr : ∀ b : Bool, decide (vlack V k t = 0) = b → s_X4_weigh_15 (V.1 (34 + 3 * t + 1)) n (wrI (wrI s 54 0 0 k (vlack V k t)) 53 0 0 k (nZ (bz b))) (nI (k + 1)) ∧ ∀ q, q < vA V → rdI (f_X4_weigh_15 (V.1 (34 + 3 * t + 1)) n (wrI (wrI s 54 0 0 k (vlack V k t)) 53 0 0 k (nZ (bz b))) (nI (k + 1))) 54 0 0 q = vwhy V q t ∧ rdI (f_X4_weigh_15 (V.1 (34 + 3 * t + 1)) n (wrI (wrI s 54 0 0 k (vlack V k t)) 53 0 0 k (nZ (bz b))) (nI (k + 1))) 55 0 0 q = mo (oI (vstruck V q t)) := fun b e => by
      have t53 : ∀ q, rdI (wrI (wrI s 54 0 0 k (vlack V k t)) 53 0 0 k (nZ (bz b))) 53 0 0 q = if q = k then bz b else rdI s 53 0 0 q := fun q => by rw [nZ_b]; simp [rwI]
      have t54 : ∀ q, rdI (wrI (wrI s 54 0 0 k (vlack V k t)) 53 0 0 k (nZ (bz b))) 54 0 0 q = if q = k then vlack V k t else rdI s 54 0 0 q := fun q => by simp [rwI]
      exact ih _ ⟨(cs.wr (Or.inl (by omega))).wr (Or.inl (by omega)), fun q hq => by
        rw [t53, t54]
        by_cases z : q = k
        · subst z; rw [if_pos rfl, if_pos rfl, e]; exact ⟨rfl, rfl⟩
        · rw [if_neg z, if_neg z]; exact g1 q (by omega)⟩
    by_cases g : vlack V k t = 0
    · rw [if_pos g, if_pos g]
      exact wr true (decide_eq_true g)
    · rw [if_neg g, if_neg g]
      exact wr false (decide_eq_false g)) (by
    intro n s hI
    obtain ⟨cs, g1⟩ := hI
    have hN := cs.A h
    simp only [s_X4_weigh_15, f_X4_weigh_15, hN, if_pos (nI_le (Nat.le_refl (vA V)) (by omega))]
    exact weigh2 h cs (fun q hq => (g1 q hq).1) (fun q hq => (g1 q hq).2)) FU 0 M (Nat.zero_le _) (by rw [FU_eq]; omega) ⟨c, fun q hq => absurd hq (Nat.not_lt_zero _)⟩
  exact ⟨⟨i8, main.1⟩, main.2⟩
end
