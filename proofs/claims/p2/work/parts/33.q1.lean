set_option linter.all false
noncomputable section
-- ===== one number of what acts change, another one =====
def vset (V : vV) (k : Nat) (v : Int32) : vV := (V.1, fun i => if i = k then v else V.2.1 i, V.2.2)
theorem mV_set {M : gM} {V : vV} (h : mV M = V) {k : Nat} {v : Int32} : mV (wrI M 92 0 0 k v) = vset V k v := by
  subst h
  unfold mV vset
  refine Prod.ext ?_ (Prod.ext ?_ ?_)
  · funext i; dsimp only; rw [rwI, if_neg (by omega)]
  · funext i
    show rdI (wrI M 92 0 0 k v) 92 0 0 i = if i = k then v else rdI M 92 0 0 i
    rw [rwI]
    by_cases e : i = k <;> simp [e]
  · funext i; dsimp only; rw [rwI, if_neg (by omega)]
theorem vset_back {V : vV} {k : Nat} {v : Int32} : vset (vset V k v) k (V.2.1 k) = V := by
  unfold vset
  refine Prod.ext rfl (Prod.ext ?_ rfl)
  funext i
  show (if i = k then V.2.1 k else if i = k then v else V.2.1 i) = V.2.1 i
  by_cases e : i = k
  · rw [if_pos e, e]
  · rw [if_neg e, if_neg e]
theorem vset_ne {V : vV} {k i : Nat} {v : Int32} (h : i ≠ k) : (vset V k v).2.1 i = V.2.1 i := if_neg h
theorem vset_eq {V : vV} {k : Nat} {v : Int32} : (vset V k v).2.1 k = v := if_pos rfl
theorem vset_1 {V : vV} {k : Nat} {v : Int32} : (vset V k v).1 = V.1 := rfl
theorem vset_N {V : vV} {k : Nat} {v : Int32} (h : k < 46) : vN (vset V k v) = vN V := by unfold vN; rw [vset_ne (by omega)]
theorem wf_set {V : vV} (h : WF V) {k : Nat} {v : Int32} (hk : k < 46) (h22 : k < 22 ∨ 34 ≤ k) (h1 : k < 10 → v = -2 ∨ dOK v) (h2 : 10 ≤ k → k < 22 → v = -2 ∨ vp_in v 4) (h3 : 34 ≤ k → vp_in v 2) : WF (vset V k v) := by
  obtain ⟨⟨a1, a2, a3, a4⟩, hp, ht, ha, hw, hl⟩ := h
  have h10 : vP V ≤ 10 := Nat.le_of_lt_succ (vpe a1 (by decide)).2
  have h12 : vA V ≤ 12 := Nat.le_of_lt_succ (vpe a3 (by decide)).2
  refine ⟨⟨a1, a2, a3, by rw [vset_ne (by omega)]; exact a4⟩, fun p hp' => ?_, ht, fun q hq => ⟨?_, (ha q hq).2⟩, fun j hj => ?_, hl⟩
  · have hp' : p < vP V := hp'
    obtain ⟨b1, b2, b3⟩ := hp p hp'
    refine ⟨b1, ?_, b3⟩
    by_cases e : p = k
    · subst e; rw [vset_eq]; exact h1 (by omega)
    · rw [vset_ne e]; exact b2
  · have hq : q < vA V := hq
    obtain ⟨b1, b2, b3, b4, b5, b6, b7, b8, b9, b10, b11⟩ := (ha q hq).1
    refine ⟨b1, b2, b3, b4, b5, b6, b7, ?_, ?_, ?_, ?_⟩
    · by_cases e : 10 + q = k
      · subst e; rw [vset_eq]; exact h2 (by omega) (by omega)
      · rw [vset_ne e]; exact b8
    · by_cases e : 34 + q = k
      · subst e; rw [vset_eq]; exact h3 (by omega)
      · rw [vset_ne e]; exact b9
    · rw [vset_ne (by omega)]; exact b10
    · rw [vset_ne (by omega)]; exact b11
  · have hj : j < vN V := by rw [vset_N hk] at hj; exact hj
    have b := hw j hj
    unfold wfW at b ⊢
    rw [vset_ne (by omega), vset_ne (by omega), vset_ne (by omega)]
    exact b
theorem CV.gen {M N : gM} {V : vV} {lf : Nat → Nat} (c : CV M V lf) {k : Nat} {v : Int32} (hk : k < 46) (h22 : k < 22 ∨ 34 ≤ k) (h12 : vA V ≤ 12) (h10 : vP V ≤ 10)
    (e : ∀ g b c', 4 ≤ g → g ≤ 40 → ¬ (g = 20 ∨ g = 33 ∨ g = 34) → rdI N g 0 b c' = rdI M g 0 b c')
    (e20 : ∀ p, p < vP V → rdI N 20 0 p 0 = mo ((vset V k v).2.1 p)) (e33 : ∀ q, q < vA V → rdI N 33 0 q 0 = mo ((vset V k v).2.1 (10 + q))) (e34 : ∀ q, q < vA V → rdI N 34 0 q 0 = (vset V k v).2.1 (34 + q)) : CV N (vset V k v) lf := by
  obtain ⟨⟨a1, a2, a3, a4, a5⟩, hp, ht, ha, hw, hl, hf⟩ := c
  refine ⟨⟨?_, ?_, ?_, ?_, ?_⟩, fun p hp' => ?_, fun t ht' => ?_, fun q hq => ⟨?_, fun k' hk' => ?_⟩, fun k' hk' => ?_, fun l hl' => ?_, fun i hi => ⟨(hf.1 i hi).1, ?_⟩, hf.2⟩
  · rw [e _ _ _ (by omega) (by omega) (by omega)]; exact a1
  · rw [e _ _ _ (by omega) (by omega) (by omega)]; exact a2
  · rw [e _ _ _ (by omega) (by omega) (by omega)]; exact a3
  · rw [e _ _ _ (by omega) (by omega) (by omega)]; exact a4
  · rw [e _ _ _ (by omega) (by omega) (by omega), vset_ne (by omega)]; exact a5
  · have hp' : p < vP V := hp'
    have b := hp p hp'
    unfold cvP at b ⊢
    rw [e 19 _ _ (by omega) (by omega) (by omega), e 21 _ _ (by omega) (by omega) (by omega)]
    exact ⟨b.1, e20 p hp', b.2.2⟩
  · have b := ht t ht'
    unfold cvT at b ⊢
    rw [e 22 _ _ (by omega) (by omega) (by omega), e 23 _ _ (by omega) (by omega) (by omega), e 24 _ _ (by omega) (by omega) (by omega)]; exact b
  · have hq : q < vA V := hq
    have b := (ha q hq).1
    unfold cvA at b ⊢
    rw [e 25 _ _ (by omega) (by omega) (by omega), e 26 _ _ (by omega) (by omega) (by omega), e 27 _ _ (by omega) (by omega) (by omega), e 28 _ _ (by omega) (by omega) (by omega), e 29 _ _ (by omega) (by omega) (by omega), e 30 _ _ (by omega) (by omega) (by omega), e 31 _ _ (by omega) (by omega) (by omega), e 32 _ _ (by omega) (by omega) (by omega), e 35 _ _ (by omega) (by omega) (by omega)]
    obtain ⟨b1, b2, b3, b4, b5, b6, b7, b8, b9, b10, b11⟩ := b
    exact ⟨b1, b2, b3, b4, b5, b6, b7, by rw [vset_ne (by omega)]; exact b8, b9, e33 q hq, e34 q hq⟩
  · have b := (ha q hq).2 k' hk'
    unfold cvG at b ⊢
    rw [e 36 _ _ (by omega) (by omega) (by omega), e 37 _ _ (by omega) (by omega) (by omega), e 38 _ _ (by omega) (by omega) (by omega), e 39 _ _ (by omega) (by omega) (by omega), e 40 _ _ (by omega) (by omega) (by omega)]; exact b
  · have hk' : k' < vN V := by rw [vset_N hk] at hk'; exact hk'
    have b := hw k' hk'
    unfold cvW at b ⊢
    rw [e 10 _ _ (by omega) (by omega) (by omega), e 11 _ _ (by omega) (by omega) (by omega), e 12 _ _ (by omega) (by omega) (by omega), vset_ne (by omega), vset_ne (by omega), vset_ne (by omega)]; exact b
  · have b := hl l hl'
    unfold cvL at b ⊢
    rw [e 14 _ _ (by omega) (by omega) (by omega), e 15 _ _ (by omega) (by omega) (by omega), e 16 _ _ (by omega) (by omega) (by omega), e 17 _ _ (by omega) (by omega) (by omega), e 18 _ _ (by omega) (by omega) (by omega)]; exact b
  · rw [e _ _ _ (by omega) (by omega) (by omega)]; exact (hf.1 i hi).2
theorem CV.die {M : gM} {V : vV} {lf : Nat → Nat} (c : CV M V lf) (h : WF V) {p : Nat} (hp : p < vP V) (v : Int32) : CV (wrI M 20 0 p 0 (mo v)) (vset V p v) lf := by
  have h10 := h.P.2
  have h12 := h.A.2
  refine c.gen (by omega) (by omega) h12 h10 (fun g b c' a1 a2 a3 => by rw [rwI, if_neg (by omega)]) (fun p' hp' => ?_) (fun q hq => ?_) (fun q hq => ?_)
  · rw [rwI]
    by_cases e : p' = p
    · subst e; rw [if_pos ⟨rfl, rfl, rfl, rfl⟩, vset_eq]
    · rw [if_neg (fun z => e z.2.2.1), vset_ne e]; exact (c.2.1 p' hp').2.1
  · rw [rwI, if_neg (by omega), vset_ne (by omega)]; exact (c.2.2.2.1 q hq).1.2.2.2.2.2.2.2.2.2.1
  · rw [rwI, if_neg (by omega), vset_ne (by omega)]; exact (c.2.2.2.1 q hq).1.2.2.2.2.2.2.2.2.2.2
theorem CV.cop {M : gM} {V : vV} {lf : Nat → Nat} (c : CV M V lf) (h : WF V) {q : Nat} (hq : q < vA V) (v : Int32) : CV (wrI M 33 0 q 0 (mo v)) (vset V (10 + q) v) lf := by
  have h10 := h.P.2
  have h12 := h.A.2
  refine c.gen (by omega) (by omega) h12 h10 (fun g b c' a1 a2 a3 => by rw [rwI, if_neg (by omega)]) (fun p' hp' => ?_) (fun q' hq' => ?_) (fun q' hq' => ?_)
  · rw [rwI, if_neg (by omega), vset_ne (by omega)]; exact (c.2.1 p' hp').2.1
  · rw [rwI]
    by_cases e : q' = q
    · subst e; rw [if_pos ⟨rfl, rfl, rfl, rfl⟩, vset_eq]
    · rw [if_neg (fun z => e z.2.2.1), vset_ne (by omega)]; exact (c.2.2.2.1 q' hq').1.2.2.2.2.2.2.2.2.2.1
  · rw [rwI, if_neg (by omega), vset_ne (by omega)]; exact (c.2.2.2.1 q' hq').1.2.2.2.2.2.2.2.2.2.2
theorem CV.bak {M : gM} {V : vV} {lf : Nat → Nat} (c : CV M V lf) (h : WF V) {q : Nat} (hq : q < vA V) (v : Int32) : CV (wrI M 34 0 q 0 v) (vset V (34 + q) v) lf := by
  have h10 := h.P.2
  have h12 := h.A.2
  refine c.gen (by omega) (by omega) h12 h10 (fun g b c' a1 a2 a3 => by rw [rwI, if_neg (by omega)]) (fun p' hp' => ?_) (fun q' hq' => ?_) (fun q' hq' => ?_)
  · rw [rwI, if_neg (by omega), vset_ne (by omega)]; exact (c.2.1 p' hp').2.1
  · rw [rwI, if_neg (by omega), vset_ne (by omega)]; exact (c.2.2.2.1 q' hq').1.2.2.2.2.2.2.2.2.2.1
  · rw [rwI]
    by_cases e : q' = q
    · subst e; rw [if_pos ⟨rfl, rfl, rfl, rfl⟩, vset_eq]
    · rw [if_neg (fun z => e z.2.2.1), vset_ne (by omega)]; exact (c.2.2.2.1 q' hq').1.2.2.2.2.2.2.2.2.2.2
theorem wf_die {V : vV} (h : WF V) {p : Nat} (hp : p < vP V) {v : Int32} (hv : v = -2 ∨ dOK v) : WF (vset V p v) := by
  have h10 := h.P.2
  exact wf_set h (by omega) (by omega) (fun _ => hv) (fun a => by omega) (fun a => by omega)
theorem wf_cop {V : vV} (h : WF V) {q : Nat} (hq : q < vA V) {v : Int32} (hv : v = -2 ∨ vp_in v 4) : WF (vset V (10 + q) v) := by
  have h12 := h.A.2
  exact wf_set h (by omega) (by omega) (fun _ => by omega) (fun _ _ => hv) (fun a => by omega)
theorem wf_bak {V : vV} (h : WF V) {q : Nat} (hq : q < vA V) {v : Int32} (hv : vp_in v 2) : WF (vset V (34 + q) v) := by
  have h12 := h.A.2
  exact wf_set h (by omega) (by omega) (fun _ => by omega) (fun _ _ => by omega) (fun _ => hv)
-- ===== holders, wealth, bits over things =====
theorem X1_hon {M : gM} {V : vV} {lf : Nat → Nat} (c : CV M V lf) (h : WF V) {t : Nat} (ht : t < vT V) (day : Int32) : s_X1_holdersOn M (nI t) day ∧ (f_X1_holdersOn M (nI t) day).1 = vhold (vrun V lf t day).1 ∧ CV (f_X1_holdersOn M (nI t) day).2 V lf := by
  obtain ⟨a1, a2, a3⟩ := X1_goOn c h ht day
  obtain ⟨b1, b2⟩ := X1_hold a2.1 (fun k hk => ff11 a3.1 (Nat.le_refl 10) a3.2.2.1 hk)
  simp only [s_X1_holdersOn, f_X1_holdersOn, bnd, bndP, a1, b1, b2, true_and]
  exact c.off (o_X1_goOn M (nI t) day) (by decide)
theorem X13_hin {V : vV} {lf : Nat → Nat} (h : WF V) {M0 M : gM} (F : cvF M0 V lf) (hV : mV M = V) {t : Nat} (ht : t < vT V) (day : Int32) (hok : okS 10 (vrun V lf t day)) : s_X13_holdersIn M (nI t) day ∧ (f_X13_holdersIn M (nI t) day).1 = vhold (vrun V lf t day).1 ∧ mV (f_X13_holdersIn M (nI t) day).2 = V := by
  obtain ⟨a1, a2⟩ := X13_parts h F hV ht day
  obtain ⟨b1, b2⟩ := X13_hold a2.1 hok.2.1 (fun k hk => ff11 hok.1 (Nat.le_refl 10) hok.2.2.1 hk)
  simp only [s_X13_holdersIn, f_X13_holdersIn, bnd, bndP, a1, b1, b2, true_and]
  rw [mV_off (o_X13_laysParts M (nI t) day) (by decide)]
  exact hV
theorem vgo_ok {V : vV} (h : WF V) {lf : Nat → Nat} (hl : ∀ i, i < vA V → lf i < vA V) {t : Nat} {day : Int32} : ∀ n k cur S, mortal V cur → okS k S → okS (k + n) (vgo V lf t day n cur S) := by
  intro n
  induction n with
  | zero => intro k cur S _ o; rw [vgo]; exact o
  | succ n ih =>
    intro k cur S mc o
    cases cur with
    | none => rw [vgo]; exact o.mono (by omega)
    | some d =>
      obtain ⟨hd, md⟩ := mc d rfl
      rw [vgo, show k + (n + 1) = (k + 1) + n by omega]
      refine ih (k + 1) _ _ (vnd_mortal _) ?_
      split
      · exact o.step h hl hd md
      · exact o.mono (by omega)
theorem vrun_ok {V : vV} (h : WF V) {lf : Nat → Nat} (hl : ∀ i, i < vA V → lf i < vA V) {t : Nat} (ht : t < vT V) (day : Int32) : okS 10 (vrun V lf t day) := by
  have := vgo_ok h hl (t := t) (day := day) 10 0 (vnd V none) (vS0 V t) (vnd_mortal none) (S0_ok h ht).1
  exact this
def vwor (V : vV) (t : Nat) : Nat := nn (V.1 (34 + 3 * t + 2))
theorem wwor {V : vV} (h : WF V) {t : Nat} (ht : t < vT V) : V.1 (34 + 3 * t + 2) = nI (vwor V t) ∧ vwor V t ≤ 9999 := by
  obtain ⟨-, -, a, b⟩ := h.2.2.1 t ht
  unfold vwor
  obtain ⟨j, hj, e⟩ := nI_of (x := V.1 (34 + 3 * t + 2)) (fun z => by
    rw [Int32.lt_iff_toInt_lt] at z
    rw [Int32.le_iff_toInt_le] at a
    rw [show (1 : Int32).toInt = 1 from rfl] at a
    rw [show (0 : Int32).toInt = 0 from rfl] at z
    omega)
  rw [e] at b ⊢
  rw [nn_nI hj]
  exact ⟨rfl, (nI_leI (b := 9999) hj (by decide)).mp b⟩
def vwl (V : vV) (lf : Nat → Nat) (h : Nat) : Nat → Nat
  | 0 => 0
  | t + 1 => vwl V lf h t + (vrun V lf t 9999).1 h * 100 * vwor V t / (vrun V lf t 9999).2.1
theorem big_ok {P W w : Nat} (h1 : P ≤ W) (h2 : W ≤ 18 ^ 10) (h3 : w ≤ 9999) : P * 100 * w < 2 ^ 63 := by
  have a1 : P * 100 ≤ 18 ^ 10 * 100 := Nat.mul_le_mul_right 100 (Nat.le_trans h1 h2)
  have a2 : P * 100 * w ≤ 18 ^ 10 * 100 * 9999 := Nat.mul_le_mul a1 h3
  have a3 : (18 : Nat) ^ 10 * 100 * 9999 < 2 ^ 63 := by decide
  omega
theorem X1_wealth {M : gM} {V : vV} {lf : Nat → Nat} (c : CV M V lf) (h : WF V) {k : Nat} (hk : k < 11) : s_X1_wealthOf M (nI k) ∧ (f_X1_wealthOf M (nI k)).1 = (lN (vwl V lf k (vT V))).toInt32 := by
  have h8 := h.T.2
  have hl := fun i hi => (c.2.2.2.2.2.2.1 i hi).1
  have ik : vp_in (nI k) 11 := vpi (by omega)
  unfold s_X1_wealthOf f_X1_wealthOf
  refine lp (fun n t (s : gM × Int64) => f_X1_wealthOf_5 (nI k) n s.1 s.2 (nI t)) (fun n t s => s_X1_wealthOf_5 (nI k) n s.1 s.2 (nI t)) (fun t s => CV s.1 V lf ∧ s.2 = lN (vwl V lf k t)) (fun z => z.1 = (lN (vwl V lf k (vT V))).toInt32) (vT V) ?_ ?_ FU 0 (M, 0) (Nat.zero_le _) (by rw [FU_eq]; omega) ⟨c, rfl⟩
  · rintro n t ⟨N, x⟩ ht ⟨cN, hx⟩ ih
    have cN : CV N V lf := cN
    have hx : x = lN (vwl V lf k t) := hx
    subst hx
    have hN := cN.T h
    obtain ⟨a1, a2, a3⟩ := X1_goOn cN h ht 9999
    have o := o_X1_goOn N (nI t) 9999
    have c3 := cN.off o (by decide)
    have i8 : vp_in (nI t) 8 := vpi (by omega)
    have w := wwor h ht
    generalize hM3 : f_X1_goOn N (nI t) 9999 = N3 at *
    have r24 : rdI N3 24 0 t 0 = nI (vwor V t) := by rw [(c3.2.2.1 t ht).2.2, w.1]
    have Wpos := a3.2.1
    have Wle := a3.2.2.1
    have Ple := sm_le a3.1 hk
    have p18 := pow18 (Nat.le_refl 10)
    have nz : ¬ lN (vrun V lf t 9999).2.1 = 0 := fun q => by have := (lz (by omega)).mp q; omega
    have nl : ¬ lg_cmp (lN (vrun V lf t 9999).2.1) 0 ≤ 0 := fun q => by
      rw [lg_cmp_le, show (0 : Int64) = lN 0 from rfl, pk_lLE (by omega) (by decide)] at q
      omega
    have val : lN (vwl V lf k t) + lN ((vrun V lf t 9999).1 k) * 100 * (nI (vwor V t)).toInt64 / lN (vrun V lf t 9999).2.1 = lN (vwl V lf k (t + 1)) := by
      rw [nI_l (by omega), show (100 : Int64) = lN 100 from rfl, lN_mul, lN_mul, pk_lDiv (big_ok Ple Wle w.2) Wpos (by omega), lN_add]
      rfl
    simp only [s_X1_wealthOf_5, f_X1_wealthOf_5, bnd, bndP, hN, if_neg (nI_ge ht (by omega)), hM3, a1, a2.1.2, a2.1.1 k hk, nl, if_false, ik, i8, nz, not_false_eq_true, true_and, nn_nI (show k < 2 ^ 31 by omega), nn_nI (show t < 2 ^ 31 by omega), r24, val, p1]
    exact ih (N3, lN (vwl V lf k (t + 1))) ⟨c3, rfl⟩
  · rintro n ⟨N, x⟩ ⟨cN, hx⟩
    have cN : CV N V lf := cN
    have hN := cN.T h
    simp only [s_X1_wealthOf_5, f_X1_wealthOf_5, hN, if_pos (nI_le (Nat.le_refl (vT V)) (by omega))]
    exact ⟨trivial, congrArg Int64.toInt32 hx⟩
theorem e34_2 (t : Nat) : (34 : Int32) + 3 * nI t + 2 = nI (34 + 3 * t + 2) := by rw [e34, p2]
theorem X13_wealth {V : vV} {lf : Nat → Nat} (h : WF V) {M0 M : gM} (F : cvF M0 V lf) (hV : mV M = V) {k : Nat} (hk : k < 11) : s_X13_wealthOf M (nI k) ∧ (f_X13_wealthOf M (nI k)).1 = (lN (vwl V lf k (vT V))).toInt32 := by
  have h8 := h.T.2
  have hl := fun i hi => (F.1 i hi).1
  have ik : vp_in (nI k) 11 := vpi (by omega)
  have i0 : vp_in (1 : Int32) 502 := vpi (k := 1) (by omega)
  unfold s_X13_wealthOf f_X13_wealthOf
  refine lp (fun n t (s : gM × Int64) => f_X13_wealthOf_5 (nI k) n s.1 s.2 (nI t)) (fun n t s => s_X13_wealthOf_5 (nI k) n s.1 s.2 (nI t)) (fun t s => mV s.1 = V ∧ s.2 = lN (vwl V lf k t)) (fun z => z.1 = (lN (vwl V lf k (vT V))).toInt32) (vT V) ?_ ?_ FU 0 (M, 0) (Nat.zero_le _) (by rw [FU_eq]; omega) ⟨hV, rfl⟩
  · rintro n t ⟨N, x⟩ ht ⟨cN, hx⟩ ih
    have cN : mV N = V := cN
    have hx : x = lN (vwl V lf k t) := hx
    subst hx
    have hN := mT (M := N) (by rw [cN]; exact h)
    rw [cN] at hN
    obtain ⟨a1, a2⟩ := X13_parts (M := N) h F cN ht 9999
    have a3 := vrun_ok h hl ht 9999
    have o := o_X13_laysParts N (nI t) 9999
    have c3 : mV (f_X13_laysParts N (nI t) 9999) = V := by rw [mV_off o (by decide), cN]
    have w := wwor h ht
    generalize hM3 : f_X13_laysParts N (nI t) 9999 = N3 at *
    have i9 : vp_in (nI (34 + 3 * t + 2)) 502 := vpi (by omega)
    have r24 : rdI N3 88 0 0 (34 + 3 * t + 2) = nI (vwor V t) := by rw [x88, c3, w.1]
    have Wpos := a3.2.1
    have Wle := a3.2.2.1
    have Ple := sm_le a3.1 hk
    have p18 := pow18 (Nat.le_refl 10)
    obtain ⟨q1, q2⟩ := a2.1 k hk
    have dpos := red_pos (n := (vrun V lf t 9999).1 k) Wpos
    have dle := red_le (n := (vrun V lf t 9999).1 k) Wpos
    have nle := red_nle (n := (vrun V lf t 9999).1 k) (d := (vrun V lf t 9999).2.1)
    have nz : ¬ lN (fD ((vrun V lf t 9999).1 k) (vrun V lf t 9999).2.1) = 0 := fun q => by have := (lz (by omega)).mp q; omega
    have key : 100 * vwor V t * fN ((vrun V lf t 9999).1 k) (vrun V lf t 9999).2.1 / fD ((vrun V lf t 9999).1 k) (vrun V lf t 9999).2.1 = (vrun V lf t 9999).1 k * 100 * vwor V t / (vrun V lf t 9999).2.1 := by
      unfold fN fD
      have g0 : 0 < Nat.gcd ((vrun V lf t 9999).1 k) (vrun V lf t 9999).2.1 := Nat.gcd_pos_of_pos_right _ Wpos
      obtain ⟨f, hf⟩ := Nat.gcd_dvd_left ((vrun V lf t 9999).1 k) (vrun V lf t 9999).2.1
      obtain ⟨e, he⟩ := Nat.gcd_dvd_right ((vrun V lf t 9999).1 k) (vrun V lf t 9999).2.1
      generalize Nat.gcd ((vrun V lf t 9999).1 k) (vrun V lf t 9999).2.1 = g at *
      rw [hf, he, Nat.mul_div_cancel_left _ g0, Nat.mul_div_cancel_left _ g0, show g * f * 100 * vwor V t = g * (100 * vwor V t * f) by simp only [Nat.mul_assoc, Nat.mul_comm, Nat.mul_left_comm], Nat.mul_div_mul_left _ _ g0]
    have bb : 100 * vwor V t * fN ((vrun V lf t 9999).1 k) (vrun V lf t 9999).2.1 < 2 ^ 63 := by
      have := big_ok (Nat.le_trans nle Ple) Wle w.2
      rw [show 100 * vwor V t * fN ((vrun V lf t 9999).1 k) (vrun V lf t 9999).2.1 = fN ((vrun V lf t 9999).1 k) (vrun V lf t 9999).2.1 * 100 * vwor V t by simp only [Nat.mul_assoc, Nat.mul_comm, Nat.mul_left_comm]]
      exact this
    have val : lN (vwl V lf k t) + 100 * (nI (vwor V t)).toInt64 * lN (fN ((vrun V lf t 9999).1 k) (vrun V lf t 9999).2.1) / lN (fD ((vrun V lf t 9999).1 k) (vrun V lf t 9999).2.1) = lN (vwl V lf k (t + 1)) := by
      rw [nI_l (by omega), show (100 : Int64) = lN 100 from rfl, lN_mul, lN_mul, pk_lDiv bb dpos (by omega), key, lN_add]
      rfl
    simp only [s_X13_wealthOf_5, f_X13_wealthOf_5, bnd, bndP, hN, if_neg (nI_ge ht (by omega)), hM3, a1, e34_2, i9, nn_nI (show 34 + 3 * t + 2 < 2 ^ 31 by omega), r24, ik, i0, nn_nI (show k < 2 ^ 31 by omega), q1, q2, nz, not_false_eq_true, true_and, val, p1]
    exact ih (N3, lN (vwl V lf k (t + 1))) ⟨c3, rfl⟩
  · rintro n ⟨N, x⟩ ⟨cN, hx⟩
    have cN : mV N = V := cN
    have hN := mT (M := N) (by rw [cN]; exact h)
    rw [cN] at hN
    simp only [s_X13_wealthOf_5, f_X13_wealthOf_5, hN, if_pos (nI_le (Nat.le_refl (vT V)) (by omega))]
    exact ⟨⟨i0, trivial⟩, congrArg Int64.toInt32 hx⟩
end
