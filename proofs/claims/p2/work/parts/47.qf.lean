set_option linter.all false
noncomputable section
-- ===== weddings =====
def wrow (V : vV) (a b d : Int32) : Nat → Int32 := fun i => if i = 64 then nI (vN V + 1) else if i = 46 + 3 * vN V + 2 then d else if i = 46 + 3 * vN V + 1 then b else if i = 46 + 3 * vN V then a else V.2.1 i
def o_wed (V : vV) (x1 x2 x3 : Int32) : oT := if isB x1 (vP V) = true then (if isB x2 (vP V) = true then (if x1 = x2 then (-1, none) else if isD x3 = true then (if vN V < 6 then (nI (vN V + 1), some (wrow V x1 x2 x3, (2, 0, nI (vN V)))) else (-2, none)) else (-1, none)) else (-1, none)) else (-1, none)
theorem wrow_lo {V : vV} {a b d : Int32} {i : Nat} (h : i < 46 + 3 * vN V) (h6 : vN V ≤ 6) : wrow V a b d i = V.2.1 i := by
  unfold wrow
  rw [if_neg (by omega), if_neg (by omega), if_neg (by omega), if_neg (by omega)]
theorem wrow_64 {V : vV} {a b d : Int32} : wrow V a b d 64 = nI (vN V + 1) := if_pos rfl
theorem wrow_hi {V : vV} {a b d : Int32} {i : Nat} (h : 64 < i) (h6 : vN V < 6) : wrow V a b d i = V.2.1 i := by
  unfold wrow
  rw [if_neg (by omega), if_neg (by omega), if_neg (by omega), if_neg (by omega)]
theorem wrow_0 {V : vV} {a b d : Int32} (h6 : vN V < 6) : wrow V a b d (46 + 3 * vN V) = a := by
  unfold wrow
  rw [if_neg (by omega), if_neg (by omega), if_neg (by omega), if_pos rfl]
theorem wrow_1 {V : vV} {a b d : Int32} (h6 : vN V < 6) : wrow V a b d (46 + 3 * vN V + 1) = b := by
  unfold wrow
  rw [if_neg (by omega), if_neg (by omega), if_pos rfl]
theorem wrow_2 {V : vV} {a b d : Int32} (h6 : vN V < 6) : wrow V a b d (46 + 3 * vN V + 2) = d := by
  unfold wrow
  rw [if_neg (by omega), if_pos rfl]
theorem G_wed {V : vV} (w : WF V) (x1 x2 x3 : Int32) : oG V (o_wed V x1 x2 x3) := by
  have h10 := w.P.2
  have h6 := w.N.2
  unfold o_wed
  rcases isP_cases (x := x1) (n := vP V) (by omega) with e | ⟨p, hp, rfl, e⟩
  · simp only [e, Bool.false_eq_true, if_false]; trivial
  · rcases isP_cases (x := x2) (n := vP V) (by omega) with e2 | ⟨j, hj, rfl, e2⟩
    · simp only [e, e2, Bool.false_eq_true, if_false, if_true]; trivial
    · by_cases a : nI p = nI j
      · simp only [e, e2, a, if_true]; trivial
      · by_cases b : isD x3 = true
        · by_cases c : vN V < 6
          · simp only [e, e2, a, b, c, if_true, if_false]
            refine ⟨wf_genR (r := wrow V (nI p) (nI j) x3) w ?_ ?_ ?_ ?_, Or.inr (Or.inr (Or.inl ⟨rfl, w.N.1.symm, ?_, ?_⟩))⟩
            · rw [wrow_64]; exact vpi (by omega)
            · intro p hp; rw [wrow_lo (by omega) h6]; exact wf_rp w p hp
            · intro q hq
              have h12 := w.A.2
              rw [wrow_lo (by omega) h6, wrow_lo (by omega) h6, wrow_lo (by omega) h6]; exact wf_ra w q hq
            · intro k hk
              rw [wrow_64, nn_nI (by omega)] at hk
              unfold wfW
              show vp_in (wrow V (nI p) (nI j) x3 (46 + 3 * k)) (vP V) ∧ vp_in (wrow V (nI p) (nI j) x3 (46 + 3 * k + 1)) (vP V) ∧ dOK (wrow V (nI p) (nI j) x3 (46 + 3 * k + 2))
              by_cases y : k = vN V
              · subst y
                rw [wrow_0 c, wrow_1 c, wrow_2 c]
                exact ⟨vpi hp, vpi hj, isD_t b⟩
              · rw [wrow_lo (by omega) h6, wrow_lo (by omega) h6, wrow_lo (by omega) h6]
                exact w.2.2.2.2.1 k (by omega)
            · show vN V ≤ nn (wrow V (nI p) (nI j) x3 64)
              rw [wrow_64, nn_nI (by omega)]
              omega
            · intro i hi h
              rcases h with h | h
              · exact wrow_lo h h6
              · exact wrow_hi h c
          · simp only [e, e2, a, b, c, if_true, if_false]; trivial
        · simp only [e, e2, a, b, if_true, if_false]; trivial
theorem C_wed {M : gM} {V : vV} {lf : Nat → Nat} {n x : Nat} {E : Nat → hE} (c : CV M V lf) (w : WF V) (h : CH M n x E) (x1 x2 x3 : Int32) : s_X12_wed M x1 x2 x3 ∧ oC (f_X12_wed M x1 x2 x3) V lf n x E (o_wed V x1 x2 x3) := by
  have h10 := w.P.2
  have h6 := w.N.2
  have hN := c.N w
  simp only [s_X12_wed, f_X12_wed, bnd, bndP, sX7_isP, fX7_isP c w, sDay.1, fDay.1, hN, true_and, bz_0, o_wed]
  rcases isP_cases (x := x1) (n := vP V) (by omega) with e | ⟨p, hp, rfl, e⟩
  · simp only [e, if_true, Bool.false_eq_true, if_false, true_and]; exact ⟨rfl, c, h⟩
  · rcases isP_cases (x := x2) (n := vP V) (by omega) with e2 | ⟨j, hj, rfl, e2⟩
    · simp only [e, e2, Bool.true_eq_false, if_true, Bool.false_eq_true, if_false, true_and]; exact ⟨rfl, c, h⟩
    · by_cases a : nI p = nI j
      · simp only [e, e2, a, if_true, Bool.true_eq_false, if_false, true_and]; exact ⟨rfl, c, h⟩
      · cases b : isD x3
        · simp only [e, e2, a, if_true, Bool.true_eq_false, Bool.false_eq_true, if_false, true_and]; exact ⟨rfl, c, h⟩
        · by_cases d : vN V < 6
          · have l6 : nI (vN V) < 6 := nI_lt (a := vN V) (b := 6) d (by omega)
            obtain ⟨a1, a2⟩ := C_keep h 2 0 (nI (vN V))
            have c2 := c.off (o_X2_keep M 2 0 (nI (vN V))) (by decide)
            have hN2 := c2.N w
            have i6 : vp_in (nI (vN V)) 6 := vpi d
            generalize f_X2_keep M 2 0 (nI (vN V)) = K at *
            have e1 : f_X7_addWedding K 0 (nI p) (nI j) x3 = wrI (wrI (wrI (wrI K 10 0 0 (vN V) (nI p)) 11 0 0 (vN V) (nI j)) 12 0 0 (vN V) x3) 8 0 0 0 (nI (vN V + 1)) := by
              simp only [f_X7_addWedding, bnd, rwN (show (8 : Nat) ≠ 10 by decide), rwN (show (8 : Nat) ≠ 11 by decide), rwN (show (8 : Nat) ≠ 12 by decide), hN2, l6, if_true, nn_nI (show vN V < 2 ^ 31 by omega), p1]
            have s1 : s_X7_addWedding K 0 (nI p) (nI j) x3 := by
              simp only [s_X7_addWedding, bndP, rwN (show (8 : Nat) ≠ 10 by decide), rwN (show (8 : Nat) ≠ 11 by decide), rwN (show (8 : Nat) ≠ 12 by decide), hN2, l6, if_true, nn_nI (show vN V < 2 ^ 31 by omega), i6, true_and]
            simp only [e, e2, a, d, l6, if_true, Bool.true_eq_false, Bool.false_eq_true, if_false, a1, e1, s1, true_and]
            refine ⟨by rw [rwI, if_pos ⟨rfl, rfl, rfl, rfl⟩], ?_, (((a2.wr (by omega)).wr (by omega)).wr (by omega)).wr (by omega)⟩
            refine c2.genR (fun g b c' k1 k2 k3 => by rw [rwN (by omega), rwN (by omega), rwN (by omega), rwN (by omega)]) ?_ ?_ ?_ ?_ ?_ ?_
            · rw [rwI, if_pos ⟨rfl, rfl, rfl, rfl⟩]; exact (wrow_64 (a := nI p) (b := nI j) (d := x3)).symm
            · intro k hk
              have hk : k < nn (wrow V (nI p) (nI j) x3 64) := hk
              rw [wrow_64, nn_nI (by omega)] at hk
              unfold cvW
              show _ = wrow V (nI p) (nI j) x3 (46 + 3 * k) ∧ _ = wrow V (nI p) (nI j) x3 (46 + 3 * k + 1) ∧ _ = wrow V (nI p) (nI j) x3 (46 + 3 * k + 2)
              by_cases y : k = vN V
              · subst y
                rw [wrow_0 d, wrow_1 d, wrow_2 d]
                refine ⟨?_, ?_, ?_⟩
                · rw [rwN (by decide), rwN (by decide), rwN (by decide), rwI, if_pos ⟨rfl, rfl, rfl, rfl⟩]
                · rw [rwN (by decide), rwN (by decide), rwI, if_pos ⟨rfl, rfl, rfl, rfl⟩]
                · rw [rwN (by decide), rwI, if_pos ⟨rfl, rfl, rfl, rfl⟩]
              · rw [wrow_lo (by omega) h6, wrow_lo (by omega) h6, wrow_lo (by omega) h6]
                have := c2.2.2.2.2.1 k (by omega)
                unfold cvW at this
                refine ⟨?_, ?_, ?_⟩
                · rw [rwN (by decide), rwN (by decide), rwN (by decide), rwI, if_neg (by omega)]; exact this.1
                · rw [rwN (by decide), rwN (by decide), rwI, if_neg (by omega), rwN (by decide)]; exact this.2.1
                · rw [rwN (by decide), rwI, if_neg (by omega), rwN (by decide), rwN (by decide)]; exact this.2.2
            · intro p' hp'; show _ = mo (wrow V (nI p) (nI j) x3 p'); rw [wrow_lo (by omega) h6, rwN (by decide), rwN (by decide), rwN (by decide), rwN (by decide)]; exact c2.e20 p' hp'
            · intro q hq
              have h12 := w.A.2
              show _ = wrow V (nI p) (nI j) x3 (22 + q); rw [wrow_lo (by omega) h6, rwN (by decide), rwN (by decide), rwN (by decide), rwN (by decide)]; exact c2.e30 q hq
            · intro q hq
              have h12 := w.A.2
              show _ = mo (wrow V (nI p) (nI j) x3 (10 + q)); rw [wrow_lo (by omega) h6, rwN (by decide), rwN (by decide), rwN (by decide), rwN (by decide)]; exact c2.e33 q hq
            · intro q hq
              have h12 := w.A.2
              show _ = wrow V (nI p) (nI j) x3 (34 + q); rw [wrow_lo (by omega) h6, rwN (by decide), rwN (by decide), rwN (by decide), rwN (by decide)]; exact c2.e34 q hq
          · have l6 : ¬ nI (vN V) < 6 := by rw [show vN V = 6 by omega]; decide
            simp only [e, e2, a, d, l6, if_true, Bool.true_eq_false, if_false, true_and]; exact ⟨rfl, c, h⟩
theorem M_wed {M : gM} {V : vV} {n : Nat} {R : Nat → Nat → Int32} (hV : mV M = V) (w : WF V) (h : MH M n R) (x1 x2 x3 : Int32) : s_X13_wed M x1 x2 x3 ∧ oM (f_X13_wed M x1 x2 x3) V n R (o_wed V x1 x2 x3) := by
  have h10 := w.P.2
  have h6 := w.N.2
  have hV1 : mV (wrI M 67 0 0 0 0) = V := by rw [mV_wr (by omega)]; exact hV
  have h1 : MH (wrI M 67 0 0 0 0) n R := h.wr (by omega)
  generalize hM1 : wrI M 67 0 0 0 0 = M1 at *
  have w1 : WF (mV M1) := by rw [hV1]; exact w
  have hN : rdI M1 92 0 0 (nn 64) = nI (vN V) := by have := mN w1; rw [hV1] at this; exact this
  have i65 : vp_in (64 : Int32) 65 := vpi (k := 64) (by omega)
  simp only [s_X13_wed, f_X13_wed, bnd, bndP, hM1, s_isP, f_isP w1, sDay.2, fDay.2, hV1, hN, i65, true_and, bz_0, o_wed]
  rcases isP_cases (x := x1) (n := vP V) (by omega) with e | ⟨p, hp, rfl, e⟩
  · simp only [e, if_true, Bool.false_eq_true, if_false, true_and]; exact ⟨rfl, hV1, h1⟩
  · rcases isP_cases (x := x2) (n := vP V) (by omega) with e2 | ⟨j, hj, rfl, e2⟩
    · simp only [e, e2, Bool.true_eq_false, if_true, Bool.false_eq_true, if_false, true_and]; exact ⟨rfl, hV1, h1⟩
    · by_cases a : nI p = nI j
      · simp only [e, e2, a, if_true, Bool.true_eq_false, if_false, true_and]; exact ⟨rfl, hV1, h1⟩
      · cases b : isD x3
        · simp only [e, e2, a, if_true, Bool.true_eq_false, Bool.false_eq_true, if_false, true_and]; exact ⟨rfl, hV1, h1⟩
        · by_cases d : vN V < 6
          · have l6 : ¬ nI (vN V) = 6 := fun z => by
              have := congrArg nn z
              rw [nn_nI (by omega), show nn (6 : Int32) = 6 by decide] at this
              omega
            obtain ⟨a1, a2⟩ := M_keeps h1
            have a3 := mV_keeps M1
            rw [hV1] at a2 a3
            generalize f_X13_keeps M1 = K at *
            have hN2 : rdI K 92 0 0 64 = nI (vN V) := by rw [x92, a3]; exact w.N.1
            have n64 : nn (64 : Int32) = 64 := by decide
            have e1 : f_X13_weds_now K (nI p) (nI j) x3 = wrI (wrI (wrI (wrI K 92 0 0 (46 + 3 * vN V) (nI p)) 92 0 0 (46 + 3 * vN V + 1) (nI j)) 92 0 0 (46 + 3 * vN V + 2) x3) 92 0 0 64 (nI (vN V + 1)) := by
              simp only [f_X13_weds_now, bnd, n64, hN2, e46, p1, p2, nn_nI (show 46 + 3 * vN V < 2 ^ 31 by omega), nn_nI (show 46 + 3 * vN V + 1 < 2 ^ 31 by omega), nn_nI (show 46 + 3 * vN V + 2 < 2 ^ 31 by omega)]
              rw [rwI, if_neg (by omega), rwI, if_neg (by omega), rwI, if_neg (by omega), hN2, p1]
            have s1 : s_X13_weds_now K (nI p) (nI j) x3 := by
              have j1 : vp_in (nI (46 + 3 * vN V)) 65 := vpi (by omega)
              have j2 : vp_in (nI (46 + 3 * vN V + 1)) 65 := vpi (by omega)
              have j3 : vp_in (nI (46 + 3 * vN V + 2)) 65 := vpi (by omega)
              simp only [s_X13_weds_now, bndP, n64, hN2, e46, p1, p2, i65, j1, j2, j3, true_and]
            simp only [e, e2, a, d, l6, if_true, Bool.true_eq_false, Bool.false_eq_true, if_false, a1, e1, s1, true_and]
            refine ⟨by rw [show nn 64 = 64 from rfl, rwI, if_pos ⟨rfl, rfl, rfl, rfl⟩], ?_, (((a2.wr (by omega)).wr (by omega)).wr (by omega)).wr (by omega)⟩
            rw [mV_set (mV_set (mV_set (mV_set a3)))]
            rfl
          · have l6 : nI (vN V) = 6 := by rw [show vN V = 6 by omega]; rfl
            simp only [e, e2, a, d, l6, if_true, Bool.true_eq_false, if_false, true_and]; exact ⟨rfl, hV1, h1⟩
-- ===== undo =====
theorem C_undo {M : gM} {V : vV} {lf : Nat → Nat} {n x : Nat} {E : Nat → hE} (c : CV M V lf) (w : WF V) (h : CH M (n + 1) x E) {r0 : Nat → Int32} (w0 : WF (rw2 V r0)) (s : stp V V.2.1 r0 (E n)) :
    s_X12_undo M ∧ (f_X12_undo M).1 = nI n ∧ CV (f_X12_undo M).2 (rw2 V r0) lf ∧ CH (f_X12_undo M).2 n ((x + 15) % 16) E := by
  have h12 := w.A.2
  have h10 := w.P.2
  obtain ⟨h1, h2, h3, h4, h5⟩ := h
  have en := h5 n (by omega)
  rw [show (x + 16 - (n + 1) + n) % 16 = (x + 15) % 16 by omega] at en
  have hy : (x + 15) % 16 < 16 := Nat.mod_lt _ (by omega)
  have i16 : vp_in (nI ((x + 15) % 16)) 16 := vpi hy
  have z0 : ¬ nI (n + 1) = 0 := fun z => by
    have := congrArg nn z
    rw [nn_nI (by omega), show nn (0 : Int32) = 0 by decide] at this
    omega
  have em : nI (n + 1) - 1 = nI n := by rw [← p1]; exact Int32.add_sub_cancel _ _
  have r62 : ∀ v, rdI (wrI (wrI M 62 0 0 0 v) 63 0 0 0 (nI n)) 62 0 0 0 = v := fun v => by rw [rwN (by decide), rwI, if_pos ⟨rfl, rfl, rfl, rfl⟩]
  have rg : ∀ g v k, g ≠ 62 → g ≠ 63 → rdI (wrI (wrI M 62 0 0 0 v) 63 0 0 0 (nI n)) g 0 0 k = rdI M g 0 0 k := fun g v k a b => by rw [rwN b, rwN a]
  simp only [s_X12_undo, f_X12_undo, s_X2_undoLatest, f_X2_undoLatest, bnd, bndP, h1, h2, pv16 x h4, rwN (show (63 : Nat) ≠ 62 by decide), em, if_neg z0, r62, i16, nn_nI (show (x + 15) % 16 < 2 ^ 31 by omega), rg 64 _ _ (by decide) (by decide), rg 65 _ _ (by decide) (by decide), rg 66 _ _ (by decide) (by decide), true_and, and_true]
  have cc : CV (wrI (wrI M 62 0 0 0 (nI ((x + 15) % 16))) 63 0 0 0 (nI n)) V lf := (c.off (offR.wI (W := [62, 63]) (by decide)) (by decide)).off (offR.wI (W := [62, 63]) (by decide)) (by decide)
  have ch : CH (wrI (wrI M 62 0 0 0 (nI ((x + 15) % 16))) 63 0 0 0 (nI n)) n ((x + 15) % 16) E := by
    refine ⟨by rw [rwI, if_pos ⟨rfl, rfl, rfl, rfl⟩], r62 _, by omega, hy, fun j hj => ?_⟩
    rw [rg 64 _ _ (by decide) (by decide), rg 65 _ _ (by decide) (by decide), rg 66 _ _ (by decide) (by decide), h5 j (by omega), show ((x + 15) % 16 + 16 - n + j) % 16 = (x + 16 - (n + 1) + j) % 16 by omega]
  generalize wrI (wrI M 62 0 0 0 (nI ((x + 15) % 16))) 63 0 0 0 (nI n) = N at *
  have k1 : (E n).1 = rdI M 64 0 0 ((x + 15) % 16) := by rw [en]
  have k2 : (E n).2.1 = rdI M 65 0 0 ((x + 15) % 16) := by rw [en]
  have k3 : (E n).2.2 = rdI M 66 0 0 ((x + 15) % 16) := by rw [en]
  have bk : ∀ {k : Nat}, eqX V.2.1 r0 k → vset V k (r0 k) = rw2 V r0 := fun {k} e => by
    unfold vset rw2
    refine Prod.ext rfl (Prod.ext ?_ rfl)
    funext i
    by_cases y : i = k
    · subst y; exact if_pos rfl
    · exact (if_neg y).trans (e i y)
  have n63 : ∀ (g b v), g ≠ 63 → rdI (wrI N g 0 b 0 v) 63 0 0 0 = nI n := fun g b v a => by rw [rwN (fun z => a z.symm)]; exact ch.1
  rcases s with ⟨e1, q, hq, e2, e3, e4⟩ | ⟨e1, q, hq, e2, e3, e4⟩ | ⟨e1, e3, e5, e4⟩ | ⟨e1, p, hp, e2, e3, e4⟩ | ⟨e1, q, hq, e2, e3, e4⟩
  · have i12 : vp_in (nI q) 12 := vpi (by omega)
    simp only [← k1, ← k2, ← k3, e1, e2, e3, if_true, nn_nI (show q < 2 ^ 31 by omega), i12, true_and]
    have := cc.cop w hq (r0 (10 + q))
    rw [bk e4] at this
    exact ⟨n63 33 _ _ (by decide), this, ch.wr (by omega)⟩
  · have i12 : vp_in (nI q) 12 := vpi (by omega)
    simp only [← k1, ← k2, ← k3, e1, e2, e3, if_true, show ((1 : Int32) = 0) = False by decide, if_false, nn_nI (show q < 2 ^ 31 by omega), i12, true_and]
    refine ⟨n63 30 _ _ (by decide), ?_, ch.wr (by omega)⟩
    refine cc.genR (fun g b c' k1 k2 k3 => by rw [rwN (by omega)]) ?_ ?_ ?_ ?_ ?_ ?_
    · rw [rwN (by decide), ← e4 64 (by omega)]; exact cc.1.2.2.2.2
    · intro k hk
      rw [← e4 64 (by omega)] at hk
      have := cc.2.2.2.2.1 k hk
      have b6 := w.N.2
      unfold cvW at this ⊢
      show _ = r0 (46 + 3 * k) ∧ _ = r0 (46 + 3 * k + 1) ∧ _ = r0 (46 + 3 * k + 2)
      rw [rwN (by decide), rwN (by decide), rwN (by decide), ← e4 _ (by omega), ← e4 _ (by omega), ← e4 _ (by omega)]
      exact this
    · intro p' hp'; rw [rwN (by decide), ← e4 _ (by omega)]; exact cc.e20 p' hp'
    · intro q' hq'
      rw [rwI]
      by_cases y : q' = q
      · subst y; rw [if_pos ⟨rfl, rfl, rfl, rfl⟩]
      · rw [if_neg (by omega), ← e4 _ (by omega)]; exact cc.e30 q' hq'
    · intro q' hq'; rw [rwN (by decide), ← e4 _ (by omega)]; exact cc.e33 q' hq'
    · intro q' hq'; rw [rwN (by decide), ← e4 _ (by omega)]; exact cc.e34 q' hq'
  · simp only [← k1, ← k2, ← k3, e1, e3, if_true, show ((2 : Int32) = 0) = False by decide, show ((2 : Int32) = 1) = False by decide, if_false, true_and]
    have b0 : nn (r0 64) ≤ 6 := Nat.le_of_lt_succ (vpe w0.1.2.2.2 (by decide)).2
    refine ⟨n63 8 _ _ (by decide), ?_, ch.wr (by omega)⟩
    refine cc.genR (fun g b c' k1 k2 k3 => by rw [rwN (by omega)]) ?_ ?_ ?_ ?_ ?_ ?_
    · rw [rwI, if_pos ⟨rfl, rfl, rfl, rfl⟩]
    · intro k hk
      have := cc.2.2.2.2.1 k (show k < nn (V.2.1 64) by omega)
      unfold cvW at this ⊢
      show _ = r0 (46 + 3 * k) ∧ _ = r0 (46 + 3 * k + 1) ∧ _ = r0 (46 + 3 * k + 2)
      rw [rwN (by decide), rwN (by decide), rwN (by decide), ← e4 _ (by omega) (by omega), ← e4 _ (by omega) (by omega), ← e4 _ (by omega) (by omega)]
      exact this
    · intro p' hp'; rw [rwN (by decide), ← e4 _ (by omega) (by omega)]; exact cc.e20 p' hp'
    · intro q' hq'; rw [rwN (by decide), ← e4 _ (by omega) (by omega)]; exact cc.e30 q' hq'
    · intro q' hq'; rw [rwN (by decide), ← e4 _ (by omega) (by omega)]; exact cc.e33 q' hq'
    · intro q' hq'; rw [rwN (by decide), ← e4 _ (by omega) (by omega)]; exact cc.e34 q' hq'
  · have i10 : vp_in (nI p) 10 := vpi (by omega)
    simp only [← k1, ← k2, ← k3, e1, e2, e3, if_true, show ((3 : Int32) = 0) = False by decide, show ((3 : Int32) = 1) = False by decide, show ((3 : Int32) = 2) = False by decide, if_false, nn_nI (show p < 2 ^ 31 by omega), i10, true_and]
    have := cc.die w hp (r0 p)
    rw [bk e4] at this
    exact ⟨n63 20 _ _ (by decide), this, ch.wr (by omega)⟩
  · have i12 : vp_in (nI q) 12 := vpi (by omega)
    simp only [← k1, ← k2, ← k3, e1, e2, if_true, show ((4 : Int32) = 0) = False by decide, show ((4 : Int32) = 1) = False by decide, show ((4 : Int32) = 2) = False by decide, show ((4 : Int32) = 3) = False by decide, if_false, nn_nI (show q < 2 ^ 31 by omega), i12, true_and]
    have := cc.bak w hq (r0 (34 + q))
    rw [bk e4, e3] at this
    exact ⟨n63 34 _ _ (by decide), this, ch.wr (by omega)⟩
theorem C_und0 {M : gM} {x : Nat} {E : Nat → hE} (h : CH M 0 x E) : s_X12_undo M ∧ f_X12_undo M = (-1, M) := by
  have e : rdI M 63 0 0 0 = 0 := h.1
  simp only [s_X12_undo, f_X12_undo, e, if_true, true_and]
theorem M_und0 {M : gM} {R : Nat → Nat → Int32} (h : MH M 0 R) : s_X13_undo M ∧ f_X13_undo M = (-1, wrI M 67 0 0 0 0) := by
  have e : rdI (wrI M 67 0 0 0 0) 69 0 0 0 = 0 := by rw [rwN (by decide)]; exact h.1
  simp only [s_X13_undo, f_X13_undo, bnd, bndP, e, if_true, true_and]
theorem M_undo {M : gM} {V : vV} {n : Nat} {R : Nat → Nat → Int32} (hV : mV M = V) (h : MH M (n + 1) R) : s_X13_undo M ∧ (f_X13_undo M).1 = nI n ∧ mV (f_X13_undo M).2 = rw2 V (R n) ∧ MH (f_X13_undo M).2 n R := by
  obtain ⟨h1, h2, h3⟩ := h
  have z0 : ¬ nI (n + 1) = 0 := fun z => by
    have := congrArg nn z
    rw [nn_nI (by omega), show nn (0 : Int32) = 0 by decide] at this
    omega
  have em : nI (n + 1) - 1 = nI n := by rw [← p1]; exact Int32.add_sub_cancel _ _
  have r69 : rdI (wrI M 67 0 0 0 0) 69 0 0 0 = nI (n + 1) := by rw [rwN (by decide)]; exact h1
  have q1 : rdI (wrI (wrI M 67 0 0 0 0) 69 0 0 0 (nI n)) 69 0 0 0 = nI n := by rw [rwI, if_pos ⟨rfl, rfl, rfl, rfl⟩]
  have q2 : ∀ g y, g ≠ 67 → g ≠ 69 → rdI (wrI (wrI M 67 0 0 0 0) 69 0 0 0 (nI n)) g 0 0 y = rdI M g 0 0 y := fun g y a b => by rw [rwN b, rwN a]
  simp only [s_X13_undo, f_X13_undo, bnd, bndP, r69, if_neg z0, em]
  generalize wrI (wrI M 67 0 0 0 0) 69 0 0 0 (nI n) = N at *
  have key : s_X13_undo_26 FU N 0 ∧ ((f_X13_undo_26 FU N 0).1 = nI n ∧ rdI (f_X13_undo_26 FU N 0).2 69 0 0 0 = nI n ∧ (∀ g, g ≠ 92 → ∀ y, rdI (f_X13_undo_26 FU N 0).2 g 0 0 y = rdI N g 0 0 y) ∧ ∀ y, rdI (f_X13_undo_26 FU N 0).2 92 0 0 y = if y < 65 then rdI M 94 0 0 (65 * n + y) else rdI M 92 0 0 y) := by
    refine lp (fun f i (s : gM) => f_X13_undo_26 f s (nI i)) (fun f i s => s_X13_undo_26 f s (nI i))
      (fun i s => (∀ g, g ≠ 92 → ∀ y, rdI s g 0 0 y = rdI N g 0 0 y) ∧ ∀ y, rdI s 92 0 0 y = if y < i then rdI M 94 0 0 (65 * n + y) else rdI M 92 0 0 y)
      (fun z => z.1 = nI n ∧ rdI z.2 69 0 0 0 = nI n ∧ (∀ g, g ≠ 92 → ∀ y, rdI z.2 g 0 0 y = rdI N g 0 0 y) ∧ ∀ y, rdI z.2 92 0 0 y = if y < 65 then rdI M 94 0 0 (65 * n + y) else rdI M 92 0 0 y) 65 ?_ ?_ FU 0 N (Nat.zero_le _) (by rw [FU_eq]; omega) ⟨fun _ _ _ => rfl, fun y => by rw [if_neg (by omega)]; exact q2 92 y (by decide) (by decide)⟩
    · rintro f i s hi ⟨a1, a2⟩ ih
      have g : ¬ (65 : Int32) ≤ nI i := nI_ge (a := i) (b := 65) hi (by omega)
      have e : (65 : Int32) * nI n + nI i = nI (65 * n + i) := by rw [show (65 : Int32) * nI n = nI (65 * n) from pk_mul 65 n, nI_add]
      have e69 : rdI s 69 0 0 0 = nI n := (a1 69 (by decide) 0).trans q1
      simp only [s_X13_undo_26, f_X13_undo_26, bnd, bndP, if_neg g, e69, e, nn_nI (show i < 2 ^ 31 by omega), nn_nI (show 65 * n + i < 2 ^ 31 by omega), p1]
      have := ih (wrI s 92 0 0 i (rdI s 94 0 0 (65 * n + i))) ⟨fun g hg y => by rw [rwN hg]; exact a1 g hg y, fun y => by
        rw [rwI, a2 y, a1 94 (by decide), q2 94 _ (by decide) (by decide)]
        by_cases z : y = i
        · subst z; rw [if_pos ⟨rfl, rfl, rfl, rfl⟩, if_pos (by omega)]
        · rw [if_neg (by omega)]
          by_cases z2 : y < i
          · rw [if_pos z2, if_pos (by omega)]
          · rw [if_neg z2, if_neg (by omega)]⟩
      exact ⟨⟨vpi (by omega), vpi (by omega), this.1⟩, this.2⟩
    · rintro f s ⟨a1, a2⟩
      have g : (65 : Int32) ≤ nI 65 := by decide
      have e69 : rdI s 69 0 0 0 = nI n := (a1 69 (by decide) 0).trans q1
      simp only [s_X13_undo_26, f_X13_undo_26, if_pos g, e69, true_and]
      exact ⟨a1, a2⟩
  obtain ⟨b0, b1, b2, b3, b4⟩ := key
  refine ⟨b0, b1, ?_, b2, by omega, fun j hj i => ?_⟩
  · refine Prod.ext ?_ (Prod.ext ?_ ?_)
    · funext i
      show rdI _ 88 0 0 i = V.1 i
      rw [b3 88 (by decide), q2 88 _ (by decide) (by decide), x88, hV]
    · funext i
      show rdI _ 92 0 0 i = R n i
      rw [b4, h3 n (by omega) i]
    · funext i
      show rdI _ 90 0 0 i = V.2.2 i
      rw [b3 90 (by decide), q2 90 _ (by decide) (by decide), x90, hV]
  · rw [h3 j (by omega) i, b3 94 (by decide), q2 94 _ (by decide) (by decide), b4]
    by_cases z : i < 65
    · rw [if_pos z, if_pos z]
    · rw [if_neg z, if_neg z, if_neg z]
end
