set_option linter.all false
noncomputable section
theorem wf_genR {V : vV} (w : WF V) {r : Nat → Int32} (rN : vp_in (r 64) 7) (rp : ∀ p, p < vP V → r p = -2 ∨ dOK (r p))
    (ra : ∀ q, q < vA V → (r (10 + q) = -2 ∨ vp_in (r (10 + q)) 4) ∧ vp_in (r (34 + q)) 2 ∧ (∀ i, bt (r (22 + q)) i = true → i < vP V) ∧ fb_ct (bt (r (22 + q))) 10 ≤ 4)
    (rw' : ∀ k, k < nn (r 64) → wfW (rw2 V r) k) : WF (rw2 V r) := by
  obtain ⟨⟨a1, a2, a3, a4⟩, hp, ht, ha, hw, hl⟩ := w
  refine ⟨⟨a1, a2, a3, rN⟩, fun p hp' => ⟨(hp p hp').1, rp p hp', (hp p hp').2.2⟩, ht, fun q hq => ⟨?_, (ha q hq).2⟩, rw', hl⟩
  obtain ⟨b1, b2, b3, b4, b5, b6, b7, b8, b9, b10, b11⟩ := (ha q hq).1
  obtain ⟨c1, c2, c3, c4⟩ := ra q hq
  exact ⟨b1, b2, b3, b4, b5, b6, b7, c1, c2, c3, c4⟩
theorem wf_ra {V : vV} (w : WF V) : ∀ q, q < vA V → (V.2.1 (10 + q) = -2 ∨ vp_in (V.2.1 (10 + q)) 4) ∧ vp_in (V.2.1 (34 + q)) 2 ∧ (∀ i, bt (V.2.1 (22 + q)) i = true → i < vP V) ∧ fb_ct (bt (V.2.1 (22 + q))) 10 ≤ 4 := fun q hq => by
  obtain ⟨b1, b2, b3, b4, b5, b6, b7, b8, b9, b10, b11⟩ := (w.2.2.2.1 q hq).1
  exact ⟨b8, b9, b10, b11⟩
theorem wf_rp {V : vV} (w : WF V) : ∀ p, p < vP V → V.2.1 p = -2 ∨ dOK (V.2.1 p) := fun p hp => (w.2.1 p hp).2.1
-- ===== witness =====
def o_wit (V : vV) (x1 x2 : Int32) : oT := if isB x1 (vA V) = true then (if isB x2 (vP V) = true then (if fb_ct (bt (V.2.1 (22 + nn x1))) 10 = 4 then (-2, none) else if bt (V.2.1 (22 + nn x1)) (nn x2) = true then (-2, none) else if V.1 (58 + 7 * nn x1) = x2 then (-2, none) else
  (nI (fb_ct (bt (V.2.1 (22 + nn x1))) 10 + 1), some ((vset V (22 + nn x1) (V.2.1 (22 + nn x1) ||| (1 <<< (x2 &&& 31)))).2.1, (1, x1, V.2.1 (22 + nn x1))))) else (-1, none)) else (-1, none)
theorem bc10 {M : gM} {x : Int32} {n : Nat} (hn : n ≤ 10) (h : ∀ i, bt x i = true → i < n) : f_J6_bitCount_0f7a4 M x = nI (fb_ct (bt x) 10) := by
  have e : x = bo (bt x) 10 := bo_bt (n := 10) (by omega) (fun i hi => by have := h i hi; omega)
  have := pb_cnt (M := M) (P := bt x) (n := 10) (by omega)
  rw [← e] at this
  exact this
theorem w_new {x : Int32} {j n : Nat} (hj : j < n) (hn : n ≤ 10) (h : ∀ i, bt x i = true → i < n) (hb : bt x j = false) : (∀ i, bt (x ||| (1 <<< (nI j &&& 31))) i = true → i < n) ∧ fb_ct (bt (x ||| (1 <<< (nI j &&& 31)))) 10 = fb_ct (bt x) 10 + 1 := by
  constructor
  · intro i hi
    rcases Nat.lt_or_ge i 32 with q | q
    · rw [b_or, bt_bit (by omega) q, Bool.or_eq_true] at hi
      rcases hi with hi | hi
      · exact h i hi
      · have := of_decide_eq_true hi; omega
    · rw [b_big q] at hi; cases hi
  · have := fb_ct_upd (bt x) true (i := j) (n := 10) (by omega)
    rw [hb] at this
    simp only [Bool.false_eq_true, if_false, if_true, Nat.add_zero] at this
    rw [← this]
    refine fb_ct_cong fun k hk => ?_
    rw [b_or, bt_bit (by omega) (by omega)]
    by_cases z : k = j <;> simp [z]
theorem c4 {c : Nat} (h : c ≤ 4) : ((4 : Int32) ≤ nI c ↔ c = 4) ∧ (nI c = 4 ↔ c = 4) := by
  revert h
  exact (by decide : ∀ c, c < 5 → ((4 : Int32) ≤ nI c ↔ c = 4) ∧ (nI c = 4 ↔ c = 4)) c ∘ Nat.lt_succ_of_le
theorem sWit {M : gM} {q : Nat} {x : Int32} : s_X5_isWitness M 0 q x := by unfold s_X5_isWitness; split <;> trivial
theorem fWit {M : gM} {V : vV} {lf : Nat → Nat} (c : CV M V lf) {q : Nat} (hq : q < vA V) {j : Nat} (hj : j < 32) : f_X5_isWitness M 0 q (nI j) = bz (bt (V.2.1 (22 + q)) j) := by
  unfold f_X5_isWitness
  rw [c.e30 q hq, b_read _ hj]
  cases bt (V.2.1 (22 + q)) j <;> rfl
theorem C_wit {M : gM} {V : vV} {lf : Nat → Nat} {n x : Nat} {E : Nat → hE} (c : CV M V lf) (w : WF V) (h : CH M n x E) (x1 x2 : Int32) : s_X12_witness M x1 x2 ∧ oC (f_X12_witness M x1 x2) V lf n x E (o_wit V x1 x2) := by
  have h12 := w.A.2
  have h10 := w.P.2
  simp only [s_X12_witness, f_X12_witness, bnd, bndP, sX7_isA, fX7_isA c w, sX7_isP, fX7_isP c w, true_and, bz_0, o_wit, s_bit]
  rcases isP_cases (x := x1) (n := vA V) (by omega) with e | ⟨q, hq, rfl, e⟩
  · simp only [e, if_true, Bool.false_eq_true, if_false, true_and]; exact ⟨rfl, c, h⟩
  · rcases isP_cases (x := x2) (n := vP V) (by omega) with e2 | ⟨j, hj, rfl, e2⟩
    · simp only [e, e2, Bool.true_eq_false, if_true, Bool.false_eq_true, if_false, true_and]; exact ⟨rfl, c, h⟩
    · obtain ⟨-, -, hb, hc⟩ := wf_ra w q hq
      have i12 : vp_in (nI q) 12 := vpi (by omega)
      have r30 := c.e30 q hq
      have r25 : rdI M 25 0 q 0 = V.1 (58 + 7 * q) := (c.2.2.2.1 q hq).1.1
      simp only [e, e2, Bool.true_eq_false, if_false, if_true, nn_nI (show q < 2 ^ 31 by omega), nn_nI (show j < 2 ^ 31 by omega), i12, r30, r25, bc10 h10 hb, (c4 hc).1, sWit, fWit c hq (show j < 32 by omega), bz_0, true_and]
      by_cases a : fb_ct (bt (V.2.1 (22 + q))) 10 = 4
      · simp only [a, if_true, true_and]; exact ⟨rfl, c, h⟩
      · by_cases b : bt (V.2.1 (22 + q)) j = true
        · simp only [a, b, Bool.true_eq_false, if_true, if_false, true_and]; exact ⟨rfl, c, h⟩
        · have b' : bt (V.2.1 (22 + q)) j = false := by simpa using b
          by_cases d : V.1 (58 + 7 * q) = nI j
          · simp only [a, b', d, Bool.false_eq_true, if_true, if_false, true_and]; exact ⟨rfl, c, h⟩
          · obtain ⟨a1, a2⟩ := C_keep h 1 (nI q) (V.2.1 (22 + q))
            have c2 := c.off (o_X2_keep M 1 (nI q) (V.2.1 (22 + q))) (by decide)
            have r30' := c2.e30 q hq
            obtain ⟨n1, n2⟩ := w_new hj h10 hb b'
            have bcw : ∀ (M : gM), f_J6_bitCount_0f7a4 M (V.2.1 (22 + q) ||| (1 <<< (nI j &&& 31))) = nI (fb_ct (bt (V.2.1 (22 + q))) 10 + 1) := fun M => by rw [bc10 h10 n1, n2]
            simp only [a, b', d, Bool.false_eq_true, if_true, if_false, a1, r30', show ∀ (N : gM) (v : Int32), rdI (wrI N 30 0 q 0 v) 30 0 q 0 = v from fun N v => by rw [rwI, if_pos ⟨rfl, rfl, rfl, rfl⟩], bcw, true_and]
            refine ⟨rfl, ?_, a2.wr (by omega)⟩
            refine c2.genR (fun g b c' k1 k2 k3 => by rw [rwN (by omega)]) ?_ ?_ ?_ ?_ ?_ ?_
            · rw [rwN (by decide)]
              refine c2.1.2.2.2.2.trans ?_
              show V.2.1 64 = (vset V (22 + q) (V.2.1 (22 + q) ||| (1 <<< (nI j &&& 31)))).2.1 64
              rw [vset_ne (by omega)]
            · intro k hk
              have hk : k < nn ((vset V (22 + q) (V.2.1 (22 + q) ||| (1 <<< (nI j &&& 31)))).2.1 64) := hk
              rw [vset_ne (by omega)] at hk
              have := c2.2.2.2.2.1 k hk
              unfold cvW at this ⊢
              rw [rwN (by decide), rwN (by decide), rwN (by decide)]
              rw [show ∀ i, i ≠ 22 + q → (rw2 V (vset V (22 + q) (V.2.1 (22 + q) ||| (1 <<< (nI j &&& 31)))).2.1).2.1 i = V.2.1 i from fun i hi => if_neg hi, show ∀ i, i ≠ 22 + q → (rw2 V (vset V (22 + q) (V.2.1 (22 + q) ||| (1 <<< (nI j &&& 31)))).2.1).2.1 i = V.2.1 i from fun i hi => if_neg hi, show ∀ i, i ≠ 22 + q → (rw2 V (vset V (22 + q) (V.2.1 (22 + q) ||| (1 <<< (nI j &&& 31)))).2.1).2.1 i = V.2.1 i from fun i hi => if_neg hi]
              · exact this
              all_goals omega
            · intro p hp; rw [rwN (by decide), c2.e20 p hp, vset_ne (by omega)]
            · intro q' hq'
              rw [rwI]
              by_cases y : q' = q
              · subst y; rw [if_pos ⟨rfl, rfl, rfl, rfl⟩, vset_eq]
              · rw [if_neg (by omega), c2.e30 q' hq', vset_ne (by omega)]
            · intro q' hq'; rw [rwN (by decide), c2.e33 q' hq', vset_ne (by omega)]
            · intro q' hq'; rw [rwN (by decide), c2.e34 q' hq', vset_ne (by omega)]
theorem M_wit {M : gM} {V : vV} {n : Nat} {R : Nat → Nat → Int32} (hV : mV M = V) (w : WF V) (h : MH M n R) (x1 x2 : Int32) : s_X13_witness M x1 x2 ∧ oM (f_X13_witness M x1 x2) V n R (o_wit V x1 x2) := by
  have h12 := w.A.2
  have h10 := w.P.2
  have hV1 : mV (wrI M 67 0 0 0 0) = V := by rw [mV_wr (by omega)]; exact hV
  have h1 : MH (wrI M 67 0 0 0 0) n R := h.wr (by omega)
  generalize hM1 : wrI M 67 0 0 0 0 = M1 at *
  have w1 : WF (mV M1) := by rw [hV1]; exact w
  simp only [s_X13_witness, f_X13_witness, s_X13_of, f_X13_of, bnd, bndP, hM1, s_isA, f_isA w1, s_isP, f_isP w1, hV1, true_and, bz_0, o_wit, s_bit]
  rcases isP_cases (x := x1) (n := vA V) (by omega) with e | ⟨q, hq, rfl, e⟩
  · simp only [e, if_true, Bool.false_eq_true, if_false, true_and]; exact ⟨rfl, hV1, h1⟩
  · rcases isP_cases (x := x2) (n := vP V) (by omega) with e2 | ⟨j, hj, rfl, e2⟩
    · simp only [e, e2, Bool.true_eq_false, if_true, Bool.false_eq_true, if_false, true_and]; exact ⟨rfl, hV1, h1⟩
    · obtain ⟨-, -, hb, hc⟩ := wf_ra w q hq
      have i65 : vp_in (nI (22 + q)) 65 := vpi (by omega)
      have i502 : vp_in (nI (58 + 7 * q)) 502 := vpi (by omega)
      simp only [e, e2, Bool.true_eq_false, if_false, if_true, show (22 : Int32) + nI q = nI (22 + q) from nI_add 22 q, e58, p0, nn_nI (show 58 + 7 * q < 2 ^ 31 by omega), nn_nI (show 22 + q < 2 ^ 31 by omega), nn_nI (show q < 2 ^ 31 by omega), nn_nI (show j < 2 ^ 31 by omega), i65, i502, x92, x88, hV1, bc10 h10 hb, (c4 hc).2, b_read _ (show j < 32 by omega), bz_1, true_and]
      by_cases a : fb_ct (bt (V.2.1 (22 + q))) 10 = 4
      · simp only [a, if_true, true_and]; exact ⟨rfl, hV1, h1⟩
      · by_cases b : bt (V.2.1 (22 + q)) j = true
        · simp only [a, b, if_true, if_false, true_and]; exact ⟨rfl, hV1, h1⟩
        · have b' : bt (V.2.1 (22 + q)) j = false := by simpa using b
          by_cases d : V.1 (58 + 7 * q) = nI j
          · simp only [a, b', d, Bool.false_eq_true, if_true, if_false, true_and]; exact ⟨rfl, hV1, h1⟩
          · obtain ⟨n1, n2⟩ := w_new hj h10 hb b'
            obtain ⟨s, g1, g2⟩ := M_puts hV1 h1 (show 22 + q < 65 by omega) (V.2.1 (22 + q) ||| (1 <<< (nI j &&& 31)))
            have ne : V.2.1 (22 + q) ≠ V.2.1 (22 + q) ||| (1 <<< (nI j &&& 31)) := fun z => by rw [← z] at n2; omega
            obtain ⟨b1, b2, b3⟩ := g2 ne
            have bcw : ∀ (M : gM), f_J6_bitCount_0f7a4 M (V.2.1 (22 + q) ||| (1 <<< (nI j &&& 31))) = nI (fb_ct (bt (V.2.1 (22 + q))) 10 + 1) := fun M => by rw [bc10 h10 n1, n2]
            simp only [a, b', d, Bool.false_eq_true, if_true, if_false, s, b2, vset_eq, bcw, true_and, and_true]
            exact ⟨rfl, b2, b3⟩
theorem G_wit {V : vV} (w : WF V) (x1 x2 : Int32) : oG V (o_wit V x1 x2) := by
  have h12 := w.A.2
  have h10 := w.P.2
  unfold o_wit
  rcases isP_cases (x := x1) (n := vA V) (by omega) with e | ⟨q, hq, rfl, e⟩
  · simp only [e, Bool.false_eq_true, if_false]; trivial
  · rcases isP_cases (x := x2) (n := vP V) (by omega) with e2 | ⟨j, hj, rfl, e2⟩
    · simp only [e, e2, Bool.false_eq_true, if_false, if_true]; trivial
    · obtain ⟨-, -, hb, hc⟩ := wf_ra w q hq
      simp only [e, e2, if_true, nn_nI (show q < 2 ^ 31 by omega), nn_nI (show j < 2 ^ 31 by omega)]
      by_cases a : fb_ct (bt (V.2.1 (22 + q))) 10 = 4
      · simp only [a, if_true]; trivial
      · by_cases b : bt (V.2.1 (22 + q)) j = true
        · simp only [a, b, if_true, if_false]; trivial
        · have b' : bt (V.2.1 (22 + q)) j = false := by simpa using b
          by_cases d : V.1 (58 + 7 * q) = nI j
          · simp only [a, b', d, Bool.false_eq_true, if_true, if_false]; trivial
          · obtain ⟨n1, n2⟩ := w_new hj h10 hb b'
            simp only [a, b', d, Bool.false_eq_true, if_false]
            refine ⟨wf_genR w ?_ ?_ ?_ ?_, Or.inr (Or.inl ⟨rfl, q, hq, rfl, rfl, eqX_set⟩)⟩
            · rw [vset_ne (by omega)]; exact w.1.2.2.2
            · intro p hp; rw [vset_ne (by omega)]; exact wf_rp w p hp
            · intro q' hq'
              rw [vset_ne (by omega), vset_ne (by omega)]
              obtain ⟨r1, r2, r3, r4⟩ := wf_ra w q' hq'
              refine ⟨r1, r2, ?_⟩
              by_cases y : q' = q
              · subst y; rw [vset_eq]; exact ⟨n1, by omega⟩
              · rw [vset_ne (by omega)]; exact ⟨r3, r4⟩
            · intro k hk
              rw [vset_ne (by omega)] at hk
              have := w.2.2.2.2.1 k hk
              unfold wfW at this ⊢
              have z : ∀ i, i ≠ 22 + q → (rw2 V (vset V (22 + q) (V.2.1 (22 + q) ||| (1 <<< (nI j &&& 31)))).2.1).2.1 i = V.2.1 i := fun i hi => if_neg hi
              rw [z _ (by omega), z _ (by omega), z _ (by omega)]
              exact this
-- ===== dies =====
def ndv (x : Int32) : Int32 := if x = -1 then -2 else x
def o_die (V : vV) (x1 x2 : Int32) : oT := if isB x1 (vP V) = true then (if x2 = -1 ∨ isD x2 = true then (if V.2.1 (nn x1) = ndv x2 then (0, none) else (1, some ((vset V (nn x1) (ndv x2)).2.1, (3, x1, mo (V.2.1 (nn x1)))))) else (0, none)) else (0, none)
theorem ndv_ok {x : Int32} (h : x = -1 ∨ isD x = true) : (ndv x = -2 ∨ dOK (ndv x)) ∧ mo (ndv x) = x := by
  unfold ndv
  by_cases z : x = -1
  · rw [if_pos z, z]; exact ⟨Or.inl rfl, rfl⟩
  · rw [if_neg z]
    have d := isD_t (h.resolve_left z)
    refine ⟨Or.inr d, mo_ne ?_⟩
    intro q
    rw [q] at d
    exact absurd d.1 (by decide)
theorem mo_inj {x y : Int32} (h : x = -2 ∨ dOK x) (k : y = -2 ∨ dOK y) : mo x = mo y ↔ x = y := by
  have m1 : ¬ dOK (-1) := fun d => absurd d.1 (by decide)
  unfold mo
  by_cases a : x = -2
  · by_cases b : y = -2
    · rw [a, b]; simp
    · rw [if_pos a, if_neg b, a]
      have := k.resolve_left b
      exact ⟨fun q => absurd (q ▸ this) m1, fun q => absurd q.symm b⟩
  · by_cases b : y = -2
    · rw [if_neg a, if_pos b, b]
      have := h.resolve_left a
      exact ⟨fun q => absurd (q ▸ this) m1, fun q => absurd q a⟩
    · rw [if_neg a, if_neg b]
theorem sDon {M : gM} {x : Int32} : s_X12_isDayOrNever M x := by
  unfold s_X12_isDayOrNever s_X12_isDayOrNever_12
  split
  · trivial
  · refine ⟨sDay.1, ?_⟩
    split <;> trivial
theorem fDon {M : gM} {x : Int32} : f_X12_isDayOrNever M x = bz (decide (x = -1) || isD x) := by
  unfold f_X12_isDayOrNever f_X12_isDayOrNever_12
  rw [fDay.1]
  by_cases z : x = -1
  · rw [if_pos z]; simp [z, bz]
  · rw [if_neg z]
    cases isD x <;> simp [z, bz]
theorem C_die {M : gM} {V : vV} {lf : Nat → Nat} {n x : Nat} {E : Nat → hE} (c : CV M V lf) (w : WF V) (h : CH M n x E) (x1 x2 : Int32) : s_X12_dies M x1 x2 ∧ oC (f_X12_dies M x1 x2) V lf n x E (o_die V x1 x2) := by
  have h10 := w.P.2
  simp only [s_X12_dies, f_X12_dies, bnd, bndP, sX7_isP, fX7_isP c w, sDon, fDon, true_and, bz_0, o_die]
  rcases isP_cases (x := x1) (n := vP V) (by omega) with e | ⟨p, hp, rfl, e⟩
  · simp only [e, if_true, Bool.false_eq_true, if_false, true_and]; exact ⟨rfl, c, h⟩
  · by_cases z : x2 = -1 ∨ isD x2 = true
    · have z2 : (decide (x2 = -1) || isD x2) = true := by
        rcases z with z | z <;> simp [z]
      have i10 : vp_in (nI p) 10 := vpi (by omega)
      obtain ⟨k1, k2⟩ := ndv_ok z
      have r20 := c.e20 p hp
      have eq : (mo (V.2.1 p) = x2) = (V.2.1 p = ndv x2) := by
        rw [← mo_inj (wf_rp w p hp) k1, k2]
      obtain ⟨a1, a2⟩ := C_keep h 3 (nI p) (mo (V.2.1 p))
      have c2 := c.off (o_X2_keep M 3 (nI p) (mo (V.2.1 p))) (by decide)
      simp only [e, z, z2, if_true, Bool.true_eq_false, if_false, nn_nI (show p < 2 ^ 31 by omega), i10, r20, eq, a1, true_and]
      by_cases y : V.2.1 p = ndv x2
      · simp only [y, if_true, true_and]; exact ⟨rfl, c, h⟩
      · simp only [y, if_false, true_and]
        have := c2.die w hp (ndv x2)
        rw [k2] at this
        exact ⟨rfl, this, a2.wr (by omega)⟩
    · have z2 : (decide (x2 = -1) || isD x2) = false := by
        cases q : isD x2
        · have : ¬ x2 = -1 := fun k => z (Or.inl k)
          simp [this]
        · exact absurd (Or.inr q) z
      simp only [e, z, z2, if_true, Bool.true_eq_false, if_false, true_and]; exact ⟨rfl, c, h⟩
theorem M_die {M : gM} {V : vV} {n : Nat} {R : Nat → Nat → Int32} (hV : mV M = V) (w : WF V) (h : MH M n R) (x1 x2 : Int32) : s_X13_dies M x1 x2 ∧ oM (f_X13_dies M x1 x2) V n R (o_die V x1 x2) := by
  have h10 := w.P.2
  have hV1 : mV (wrI M 67 0 0 0 0) = V := by rw [mV_wr (by omega)]; exact hV
  have h1 : MH (wrI M 67 0 0 0 0) n R := h.wr (by omega)
  generalize hM1 : wrI M 67 0 0 0 0 = M1 at *
  have w1 : WF (mV M1) := by rw [hV1]; exact w
  have s25 : s_X13_dies_25 M1 x1 x2 = s_X13_dies_40 M1 (0 + x1) (ndv x2) := by unfold s_X13_dies_25 ndv; split <;> rfl
  have f25 : f_X13_dies_25 M1 x1 x2 = f_X13_dies_40 M1 (0 + x1) (ndv x2) := by unfold f_X13_dies_25 ndv; split <;> rfl
  simp only [s_X13_dies, f_X13_dies, s_X13_dies_50, f_X13_dies_50, bnd, bndP, hM1, s_isP, f_isP w1, sDay.2, fDay.2, s25, f25, hV1, true_and, bz_0, o_die]
  rcases isP_cases (x := x1) (n := vP V) (by omega) with e | ⟨p, hp, rfl, e⟩
  · simp only [e, if_true, Bool.false_eq_true, if_false, true_and]; exact ⟨rfl, hV1, h1⟩
  · obtain ⟨s, g1, g2⟩ := M_puts hV1 h1 (show p < 65 by omega) (ndv x2)
    have key : s_X13_dies_40 M1 (0 + nI p) (ndv x2) ∧ oM (f_X13_dies_40 M1 (0 + nI p) (ndv x2)) V n R (if V.2.1 p = ndv x2 then (0, none) else (1, some ((vset V p (ndv x2)).2.1, (3, nI p, mo (V.2.1 p))))) := by
      simp only [s_X13_dies_40, f_X13_dies_40, s_X13_dies_50, f_X13_dies_50, bnd, bndP, e0n, s, true_and]
      by_cases y : V.2.1 p = ndv x2
      · simp only [g1 y, y, if_true, true_and]; exact ⟨rfl, hV1, h1⟩
      · obtain ⟨b1, b2, b3⟩ := g2 y
        simp only [b1, y, if_false, show ((1 : Int32) = 0) = False by decide, true_and]; exact ⟨rfl, b2, b3⟩
    simp only [e, Bool.true_eq_false, if_false, if_true, nn_nI (show p < 2 ^ 31 by omega)]
    by_cases z : x2 = -1
    · simp only [z, true_or, if_true]
      rw [z] at key
      exact key
    · cases q : isD x2
      · simp only [z, q, Bool.false_eq_true, or_self, if_false, if_true, true_and]; exact ⟨rfl, hV1, h1⟩
      · simp only [z, q, or_true, if_false, if_true, Bool.true_eq_false]
        exact key
theorem G_die {V : vV} (w : WF V) (x1 x2 : Int32) : oG V (o_die V x1 x2) := by
  have h10 := w.P.2
  unfold o_die
  rcases isP_cases (x := x1) (n := vP V) (by omega) with e | ⟨p, hp, rfl, e⟩
  · simp only [e, Bool.false_eq_true, if_false]; trivial
  · by_cases z : x2 = -1 ∨ isD x2 = true
    · by_cases y : V.2.1 p = ndv x2
      · simp only [e, z, y, if_true, nn_nI (show p < 2 ^ 31 by omega)]; trivial
      · simp only [e, z, y, if_true, if_false, nn_nI (show p < 2 ^ 31 by omega)]
        exact ⟨wf_die w hp (ndv_ok z).1, Or.inr (Or.inr (Or.inr (Or.inl ⟨rfl, p, hp, rfl, rfl, eqX_set⟩)))⟩
    · simp only [e, z, if_true, if_false]; trivial
-- ===== take back =====
def o_tkb (V : vV) (x1 : Int32) : oT := if isB x1 (vA V) = true then (if V.2.1 (34 + nn x1) = 0 then (1, some ((vset V (34 + nn x1) 1).2.1, (4, x1, 0))) else (0, none)) else (0, none)
theorem C_tkb {M : gM} {V : vV} {lf : Nat → Nat} {n x : Nat} {E : Nat → hE} (c : CV M V lf) (w : WF V) (h : CH M n x E) (x1 : Int32) : s_X12_takeBack M x1 ∧ oC (f_X12_takeBack M x1) V lf n x E (o_tkb V x1) := by
  have h12 := w.A.2
  simp only [s_X12_takeBack, f_X12_takeBack, bnd, bndP, sX7_isA, fX7_isA c w, true_and, bz_0, o_tkb]
  rcases isP_cases (x := x1) (n := vA V) (by omega) with e | ⟨q, hq, rfl, e⟩
  · simp only [e, if_true, Bool.false_eq_true, if_false, true_and]; exact ⟨rfl, c, h⟩
  · have i12 : vp_in (nI q) 12 := vpi (by omega)
    have r34 := c.e34 q hq
    obtain ⟨a1, a2⟩ := C_keep h 4 (nI q) 0
    have c2 := c.off (o_X2_keep M 4 (nI q) 0) (by decide)
    simp only [e, Bool.true_eq_false, if_false, if_true, nn_nI (show q < 2 ^ 31 by omega), i12, r34, a1, true_and]
    by_cases z : V.2.1 (34 + q) = 0
    · simp only [z, if_true, true_and]; exact ⟨rfl, c2.bak w hq 1, a2.wr (by omega)⟩
    · simp only [z, if_false, true_and]; exact ⟨rfl, c, h⟩
theorem M_tkb {M : gM} {V : vV} {n : Nat} {R : Nat → Nat → Int32} (hV : mV M = V) (w : WF V) (h : MH M n R) (x1 : Int32) : s_X13_takeBack M x1 ∧ oM (f_X13_takeBack M x1) V n R (o_tkb V x1) := by
  have h12 := w.A.2
  have hV1 : mV (wrI M 67 0 0 0 0) = V := by rw [mV_wr (by omega)]; exact hV
  have h1 : MH (wrI M 67 0 0 0 0) n R := h.wr (by omega)
  generalize hM1 : wrI M 67 0 0 0 0 = M1 at *
  have w1 : WF (mV M1) := by rw [hV1]; exact w
  simp only [s_X13_takeBack, f_X13_takeBack, s_X13_takeBack_29, f_X13_takeBack_29, bnd, bndP, hM1, s_isA, f_isA w1, hV1, true_and, bz_0, o_tkb]
  rcases isP_cases (x := x1) (n := vA V) (by omega) with e | ⟨q, hq, rfl, e⟩
  · simp only [e, if_true, Bool.false_eq_true, if_false, true_and]; exact ⟨rfl, hV1, h1⟩
  · obtain ⟨s, g1, g2⟩ := M_puts hV1 h1 (show 34 + q < 65 by omega) 1
    have b := gb01 (wf_ra w q hq).2.1
    simp only [e, Bool.true_eq_false, if_false, if_true, nn_nI (show q < 2 ^ 31 by omega), e34n, s, true_and]
    rcases b with b | b
    · obtain ⟨b1, b2, b3⟩ := g2 (by rw [b]; decide)
      simp only [b1, b, if_true, if_false, show ((1 : Int32) = 0) = False by decide, true_and]; exact ⟨rfl, b2, b3⟩
    · simp only [g1 b, b, if_true, if_false, show ((1 : Int32) = 0) = False by decide, true_and]; exact ⟨rfl, hV1, h1⟩
theorem G_tkb {V : vV} (w : WF V) (x1 : Int32) : oG V (o_tkb V x1) := by
  have h12 := w.A.2
  unfold o_tkb
  rcases isP_cases (x := x1) (n := vA V) (by omega) with e | ⟨q, hq, rfl, e⟩
  · simp only [e, Bool.false_eq_true, if_false]; trivial
  · by_cases z : V.2.1 (34 + q) = 0
    · simp only [e, z, if_true, nn_nI (show q < 2 ^ 31 by omega)]
      exact ⟨wf_bak w hq b01, Or.inr (Or.inr (Or.inr (Or.inr ⟨rfl, q, hq, rfl, z, eqX_set⟩)))⟩
    · simp only [e, z, if_true, if_false, nn_nI (show q < 2 ^ 31 by omega)]; trivial
end
