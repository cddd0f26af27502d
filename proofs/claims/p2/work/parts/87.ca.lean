-- THE CLASS'S PAPER ALONE: SORTED IN; ALL LINES (draft)
set_option linter.all false
noncomputable section
theorem nI_dn (k : Nat) : nI (k + 1) + (-1) = nI k := by rw [← p1, Int32.add_assoc, show (1 : Int32) + (-1) = 0 from by decide, Int32.add_zero]
theorem nI_dm (k : Nat) : nI (k + 1) - 1 = nI k := by rw [← p1]; exact Int32.add_sub_cancel _ _
theorem A_60 {r pl q : Nat} (hq : q < 12) : ∀ m n, m < n → pl + m ≤ q → ∀ M : gM, rdI M 7 r 0 0 = nI q → s_X7_addFilledPaper_60 r (nI pl) n M (nI (pl + m)) ∧ rdI (f_X7_addFilledPaper_60 r (nI pl) n M (nI (pl + m))) 7 r 0 0 = nI (q + 1) ∧ ∀ i, rdI (f_X7_addFilledPaper_60 r (nI pl) n M (nI (pl + m))) 9 r 0 i = if i = pl then nI q else if pl < i ∧ i ≤ pl + m then rdI M 9 r 0 (i - 1) else rdI M 9 r 0 i := by
  intro m
  induction m with
  | zero =>
    intro n hn hm M h7
    obtain ⟨n, rfl⟩ : ∃ y, n = y + 1 := ⟨n - 1, by omega⟩
    have e : nI (pl + 0) ≤ nI pl := nI_le (Nat.le_refl pl) (by omega)
    simp only [s_X7_addFilledPaper_60, f_X7_addFilledPaper_60, if_pos e, bnd, bndP, h7, nn_nI (show pl < 2 ^ 31 by omega), and_true, rwN (show (7 : Nat) ≠ 9 by decide), p1]
    refine ⟨vpi (by omega), rwS, fun i => ?_⟩
    rw [rwN (by decide), rwI]
    by_cases z : i = pl
    · rw [if_pos ⟨rfl, rfl, rfl, z⟩, if_pos z]
    · rw [if_neg (fun y => z y.2.2.2), if_neg z, if_neg (by omega)]
  | succ m ih =>
    intro n hn hm M h7
    obtain ⟨n, rfl⟩ : ∃ y, n = y + 1 := ⟨n - 1, by omega⟩
    have e : ¬ nI (pl + (m + 1)) ≤ nI pl := nI_ge (by omega) (by omega)
    rw [show pl + (m + 1) = (pl + m) + 1 by omega] at e ⊢
    simp only [s_X7_addFilledPaper_60, f_X7_addFilledPaper_60, if_neg e, bnd, bndP, nI_dm, nI_dn, nn_nI (show pl + m < 2 ^ 31 by omega), nn_nI (show pl + m + 1 < 2 ^ 31 by omega)]
    obtain ⟨a1, a2, a3⟩ := ih n (by omega) (by omega) (wrI M 9 r 0 (pl + m + 1) (rdI M 9 r 0 (pl + m))) (by rw [rwN (by decide)]; exact h7)
    refine ⟨⟨vpi (by omega), vpi (by omega), a1⟩, a2, fun i => ?_⟩
    rw [a3]
    by_cases z : i = pl
    · rw [if_pos z, if_pos z]
    · rw [if_neg z, if_neg z]
      by_cases y : pl < i ∧ i ≤ pl + m
      · rw [if_pos y, if_pos (by omega), rwI, if_neg (fun w => absurd w.2.2.2 (by omega))]
      · rw [if_neg y, rwI]
        by_cases x : i = pl + m + 1
        · rw [if_pos ⟨rfl, rfl, rfl, x⟩, if_pos (by omega), x]; rfl
        · rw [if_neg (fun w => x w.2.2.2), if_neg (by omega)]
theorem A_12 {c : gM} {r q : Nat} {lf : Nat → Nat} (hq : q < 12) (e7 : rdI c 7 r 0 0 = nI q) (f1 : ∀ i, i < q → lf i < q ∧ rdI c 9 r 0 i = nI (lf i)) : ∀ m n k, k + m = q → m < n → (∀ i, i < k → rdI c 26 r q 0 < rdI c 26 r (lf i) 0) → ∃ pl, pl ≤ q ∧ (∀ i, i < pl → rdI c 26 r q 0 < rdI c 26 r (lf i) 0) ∧ (pl < q → rdI c 26 r (lf pl) 0 ≤ rdI c 26 r q 0) ∧ f_X7_addFilledPaper_12 c r n (nI k) = f_X7_addFilledPaper_60 r (nI pl) FU c (nI q) ∧ (s_X7_addFilledPaper_60 r (nI pl) FU c (nI q) → s_X7_addFilledPaper_12 c r n (nI k)) := by
  intro m
  induction m with
  | zero =>
    intro n k hk hn hi
    obtain ⟨n, rfl⟩ : ∃ y, n = y + 1 := ⟨n - 1, by omega⟩
    obtain rfl : k = q := by omega
    have e : nI k ≤ nI k := nI_le (Nat.le_refl k) (by omega)
    simp only [s_X7_addFilledPaper_12, f_X7_addFilledPaper_12, e7, if_pos e]
    exact ⟨k, Nat.le_refl k, hi, fun z => absurd z (Nat.lt_irrefl k), rfl, id⟩
  | succ m ih =>
    intro n k hk hn hi
    obtain ⟨n, rfl⟩ : ∃ y, n = y + 1 := ⟨n - 1, by omega⟩
    have e : ¬ nI q ≤ nI k := nI_ge (by omega) (by omega)
    obtain ⟨l1, l2⟩ := f1 k (by omega)
    simp only [s_X7_addFilledPaper_12, f_X7_addFilledPaper_12, e7, if_neg e, nn_nI (show k < 2 ^ 31 by omega), nn_nI (show q < 2 ^ 31 by omega), l2, nn_nI (show lf k < 2 ^ 31 by omega), p1]
    by_cases d : rdI c 26 r (lf k) 0 ≤ rdI c 26 r q 0
    · simp only [if_pos d]
      exact ⟨k, by omega, hi, fun _ => d, rfl, fun s => ⟨vpi (by omega), vpi (by omega), vpi (by omega), s⟩⟩
    · simp only [if_neg d]
      obtain ⟨pl, b1, b2, b3, b4, b5⟩ := ih n (k + 1) (by omega) (by omega) (fun i hi' => by
        by_cases z : i = k
        · rw [z]; exact i_nle.mp d
        · exact hi i (by omega))
      exact ⟨pl, b1, b2, b3, b4, fun s => ⟨vpi (by omega), vpi (by omega), vpi (by omega), b5 s⟩⟩
theorem mPp.wf {r q P T : Nat} {c : gM} (h : mPp r q P T c) (hq : q < 12) (eP : vP (cV r c) = P) (eT : vT (cV r c) = T) (hP : P ≤ 10) (hT : T ≤ 8) : wfA (cV r c) q ∧ ∀ k, k < vG (cV r c) q → wfG (cV r c) q k := by
  obtain ⟨⟨m1, m2, m3, m4⟩, m5, ⟨g, g1, g2, g3⟩, m6, m7, m8, m9⟩ := h
  have up : ∀ {x : Int32}, x = -1 ∨ vp_in x P → om x = -2 ∨ vp_in (om x) P := fun {x} h => by
    rcases h with h | h
    · rw [h]; exact Or.inl rfl
    · obtain ⟨j, hj, rfl⟩ := vp_in_of h (by omega)
      rw [om_ok (nI_le (a := 0) (Nat.zero_le j) (by omega))]
      exact Or.inr h
  have eg : vG (cV r c) q = g := by unfold vG; rw [v_25 hq (by omega), if_neg (by omega), if_pos rfl, g1, nn_nI (by omega)]
  constructor
  · unfold wfA
    rw [v_25' hq, v_25 hq (by omega), v_25 hq (by omega), v_25 hq (by omega), v_25 hq (by omega), v_25 hq (by omega), v_25 hq (by omega), v_33 hq, v_34 hq, v_30 hq, eP]
    refine ⟨m1, m2, m3, m4, m5, ?_, ?_, ?_, ?_, m8, m9⟩
    · rw [if_neg (by omega), if_pos rfl, g1]; exact vpi (by omega)
    · rw [if_pos rfl]; exact up m6
    · rw [m7.1]; exact Or.inl rfl
    · rw [m7.2]; exact vp0 (by omega) (by omega)
  · intro k hk
    rw [eg] at hk
    obtain ⟨b1, b2, b3, b4⟩ := g3 k hk
    unfold wfG
    rw [v_36 hq (by omega) (by omega), v_36 hq (by omega) (by omega), v_36 hq (by omega) (by omega), v_36 hq (by omega) (by omega), v_36 hq (by omega) (by omega), if_pos (by omega), if_pos (by omega), if_pos (by omega), if_neg (by omega), if_neg (by omega), eP, eT]
    refine ⟨b1, b2, ?_, ?_, up b4⟩
    · rcases b3 with ⟨z, -⟩ | ⟨z | z, -⟩
      · show vp_in (rdI c 38 r q k) 3; rw [z]; exact vp0 (by omega) (by omega)
      · show vp_in (rdI c 38 r q k) 3; rw [z]; exact vpi (k := 1) (by omega)
      · show vp_in (rdI c 38 r q k) 3; rw [z]; exact vpi (k := 2) (by omega)
    · rcases b3 with ⟨z, y⟩ | ⟨z, y⟩
      · left
        refine ⟨z, ?_⟩
        show om (rdI c 39 r q k) = -2
        rw [y]; rfl
      · right
        refine ⟨?_, ?_⟩
        · show rdI c 38 r q k ≠ 0
          rcases z with z | z <;> rw [z] <;> decide
        · show vp_in (om (rdI c 39 r q k)) P
          obtain ⟨j, hj, e⟩ := vp_in_of y (by omega)
          rw [e, om_ok (nI_le (a := 0) (Nat.zero_le j) (by omega))]
          exact vpi hj
theorem add_A {r q P T : Nat} {c : gM} (h : CI r c) (eP : vP (cV r c) = P) (eT : vT (cV r c) = T) (eA : vA (cV r c) = q) (hq : q < 12) (m : mPp r q P T c) : s_X7_addFilledPaper c r ∧ CI r (f_X7_addFilledPaper c r) := by
  obtain ⟨w, lf, f1, f2⟩ := h
  rw [eA] at f1 f2
  have hP := w.P.2
  have hT := w.T.2
  have e7 : rdI c 7 r 0 0 = nI q := by rw [← v_7, w.A.1, eA]
  have lt : nI q < 12 := nI_lt (b := 12) hq (by omega)
  have o := o_X7_addFilledPaper c r
  obtain ⟨pl, b1, b2, b3, b4, b5⟩ := A_12 (lf := lf) hq e7 f1 q FU 0 (by omega) (by rw [FU_eq]; omega) (fun i hi => absurd hi (Nat.not_lt_zero i))
  obtain ⟨a1, a2, a3⟩ := A_60 (r := r) (pl := pl) hq (q - pl) FU (by rw [FU_eq]; omega) (by omega) c e7
  rw [show pl + (q - pl) = q by omega] at a1 a2 a3
  have ev : f_X7_addFilledPaper c r = f_X7_addFilledPaper_60 r (nI pl) FU c (nI q) := by
    simp only [f_X7_addFilledPaper, e7, if_pos lt]; exact b4
  refine ⟨?_, ?_⟩
  · simp only [s_X7_addFilledPaper, e7, if_pos lt]; exact b5 a1
  · rw [← ev] at a2 a3
    generalize f_X7_addFilledPaper c r = E at *
    obtain ⟨p1, p2, p3⟩ := x_P w o (by decide)
    obtain ⟨t1, t2, t3⟩ := x_T w o (by decide)
    obtain ⟨w1, w2⟩ := x_W w o (by decide)
    have eA' : vA (cV r E) = q + 1 := by unfold vA; rw [v_7, a2, nn_nI (by omega)]
    have e25 : ∀ q', q' < 12 → ∀ j, j < 7 → (cV r E).1 (58 + 7 * q' + j) = (cV r c).1 (58 + 7 * q' + j) := fun q' h' j hj => by
      rw [v_25 h' hj, v_25 h' hj, o.at' (by simp), o.at' (by split <;> simp <;> omega)]
    have mE : mPp r q P T E := m.eq (fun g x y _ => o.at' (by simp; omega) _ _ _) (fun g k _ x y => o.at' (by simp; omega) _ _ _)
    obtain ⟨y1, y2⟩ := mE.wf hq (p1.trans eP) (t1.trans eT) (by omega) (by omega)
    refine ⟨WF_ext w ⟨p2, t2, by rw [v_7, a2]; exact vpi (by omega), w1⟩ (by omega) (by omega) p3 t3 (fun q' hq' => ?_) (fun q' hq' => ?_) w2 (x_L o (by decide)), fun i => if i = pl then q else if pl < i then lf (i - 1) else lf i, fun i hi => ?_, fun i j hi hj => ?_⟩
    · rw [eA'] at hq'
      by_cases z : q' = q
      · rw [z]; exact Or.inl y1
      · refine Or.inr ⟨by omega, e25 q' (by omega), ?_, ?_, ?_⟩
        · rw [v_33 (by omega), v_33 (by omega), o.at' (by simp)]
        · rw [v_30 (by omega), v_30 (by omega), o.at' (by simp)]
        · rw [v_34 (by omega), v_34 (by omega), o.at' (by simp)]
    · rw [eA'] at hq'
      by_cases z : q' = q
      · rw [z]; exact Or.inl y2
      · refine Or.inr ⟨by omega, e25 q' (by omega) 5 (by omega), fun k j hk hj => ?_⟩
        rw [v_36 (by omega) hk hj, v_36 (by omega) hk hj, o.at' (by simp; omega)]
    · rw [eA'] at hi ⊢
      rw [rpj, a3]
      by_cases z : i = pl
      · simp only [if_pos z]; exact ⟨by omega, trivial⟩
      · simp only [if_neg z]
        by_cases y : pl < i
        · simp only [if_pos y, if_pos (show pl < i ∧ i ≤ q by omega)]
          obtain ⟨l1, l2⟩ := f1 (i - 1) (by omega)
          exact ⟨by omega, l2⟩
        · simp only [if_neg y, if_neg (show ¬ (pl < i ∧ i ≤ q) by omega)]
          obtain ⟨l1, l2⟩ := f1 i (by omega)
          exact ⟨by omega, l2⟩
    · rw [eA'] at hj
      have D : ∀ x, x < 12 → (cV r E).1 (58 + 7 * x + 1) = rdI c 26 r x 0 := fun x hx => by rw [e25 x hx 1 (by omega), v_25 hx (by omega)]; rfl
      have old : ∀ i j, i < j → j < q → rdI c 26 r (lf j) 0 < rdI c 26 r (lf i) 0 ∨ rdI c 26 r (lf j) 0 = rdI c 26 r (lf i) 0 ∧ lf j < lf i := fun i j hi hj => by
        have := f2 i j hi hj
        have x1 := (f1 i (by omega)).1
        have x2 := (f1 j hj).1
        unfold vlater at this
        rw [v_25 (by omega) (by omega), v_25 (by omega) (by omega)] at this
        exact of_decide_eq_true this
      have fin : ∀ x y, x < 12 → y < 12 → (rdI c 26 r y 0 < rdI c 26 r x 0 ∨ rdI c 26 r y 0 = rdI c 26 r x 0 ∧ y < x) → vlater (cV r E) x y = true := fun x y hx hy hh => by
        unfold vlater
        rw [D x hx, D y hy]
        exact decide_eq_true hh
      have l12 : ∀ i, i < q → lf i < 12 := fun i hi => by have := (f1 i hi).1; omega
      show vlater (cV r E) (if i = pl then q else if pl < i then lf (i - 1) else lf i) (if j = pl then q else if pl < j then lf (j - 1) else lf j) = true
      by_cases j1 : j = pl
      · rw [if_pos j1, if_neg (by omega), if_neg (by omega)]
        exact fin _ _ (l12 i (by omega)) hq (Or.inl (b2 i (by omega)))
      · rw [if_neg j1]
        by_cases j2 : pl < j
        · rw [if_pos j2]
          by_cases i1 : i = pl
          · rw [if_pos i1]
            have le := b3 (by omega)
            have le2 : rdI c 26 r (lf (j - 1)) 0 ≤ rdI c 26 r q 0 := by
              by_cases y : j - 1 = pl
              · rw [y]; exact le
              · rcases old pl (j - 1) (by omega) (by omega) with z | z
                · exact Int32.le_trans (Int32.le_of_lt z) le
                · rw [z.1]; exact le
            refine fin _ _ hq (l12 _ (by omega)) ?_
            by_cases y : rdI c 26 r (lf (j - 1)) 0 = rdI c 26 r q 0
            · exact Or.inr ⟨y, (f1 _ (by omega)).1⟩
            · exact Or.inl (by
                rcases Int32.lt_or_le (rdI c 26 r (lf (j - 1)) 0) (rdI c 26 r q 0) with z | z
                · exact z
                · exact absurd (Int32.le_antisymm le2 z) y)
          · rw [if_neg i1]
            by_cases i2 : pl < i
            · rw [if_pos i2]
              exact fin _ _ (l12 _ (by omega)) (l12 _ (by omega)) (old (i - 1) (j - 1) (by omega) (by omega))
            · rw [if_neg i2]
              exact fin _ _ (l12 _ (by omega)) (l12 _ (by omega)) (old i (j - 1) (by omega) (by omega))
        · rw [if_neg j2, if_neg (by omega), if_neg (by omega)]
          exact fin _ _ (l12 _ (by omega)) (l12 _ (by omega)) (old i j hi (by omega))
-- ===== the whole paper =====
theorem C_143 {r q P T : Nat} {c : gM} (h : CP r q P T c) : s_X8_readPaper_143 c r ∧ CT r 0 (f_X8_readPaper_143 c r) := by
  obtain ⟨h1, ⟨e1, e2, e3, e4⟩, h3⟩ := h
  simp only [s_X8_readPaper_143, f_X8_readPaper_143, bnd, bndP]
  by_cases z : rdI c 48 r 0 0 = 0
  · simp only [if_pos z]
    obtain ⟨a1, a2⟩ := add_A h1.2 e1 e2 e3 e4 (h3 z)
    exact ⟨⟨a1, trivial⟩, h1.1.off (o_X7_addFilledPaper c r) (by decide), a2⟩
  · simp only [if_neg z]
    exact ⟨trivial, h1⟩
theorem C_108 {r q P T : Nat} : ∀ m z k : Nat, k + m = 1201 → m < z → ∀ c : gM, CP r q P T c → s_X8_readPaper_108 r q z c (nI k) ∧ CT r 0 (f_X8_readPaper_108 r q z c (nI k)) := by
  intro m
  induction m with
  | zero =>
    intro z k hk hz c h
    obtain ⟨z, rfl⟩ : ∃ y, z = y + 1 := ⟨z - 1, by omega⟩
    have e : (1200 : Int32) < nI k := nI_lt (a := 1200) (b := k) (by omega) (by omega)
    simp only [s_X8_readPaper_108, f_X8_readPaper_108, if_pos e]
    exact C_143 h
  | succ m ih =>
    intro z k hk hz c h
    obtain ⟨z, rfl⟩ : ∃ y, z = y + 1 := ⟨z - 1, by omega⟩
    have hc := h.1.1.comes
    have e : ¬ (1200 : Int32) < nI k := i_nlt.mpr (nI_le (a := k) (b := 1200) (by omega) (by omega))
    simp only [s_X8_readPaper_108, f_X8_readPaper_108, if_neg e, bnd, bndP, p1]
    obtain ⟨n1, n2⟩ := C_143 h
    split
    · split
      · exact ⟨⟨hc.1, hc.2, n1⟩, n2⟩
      · obtain ⟨a1, a2⟩ := C_part h
        obtain ⟨b1, b2⟩ := ih z (k + 1) (by omega) (by omega) _ a2
        exact ⟨⟨hc.1, hc.2, a1, b1⟩, b2⟩
    · exact ⟨n1, n2⟩
theorem CT.slot {r g q k : Nat} {c : gM} {v : Int32} (h : CT r 0 c) (e : rdI c 7 r 0 0 = nI q) (hq : q < 12) (h1 : 25 ≤ g) (h2 : g ≤ 40) : CT r 0 (wrI c g r q k v) ∧ rdI (wrI c g r q k v) 7 r 0 0 = nI q :=
  ⟨⟨h.1.wr (by omega), h.2.slot (by unfold vA; rw [v_7, e, nn_nI (by omega)]; exact Nat.le_refl q) h1 h2⟩, by rw [rwN (by omega)]; exact e⟩
theorem K_pap {r : Nat} {c : gM} (h : CT r 0 c) : s_X8_readPaper c r ∧ CT r 0 (f_X8_readPaper c r) := by
  obtain ⟨e5, h10, -⟩ := h.vP KE.rfl
  have e7 : rdI c 7 r 0 0 = nI (vA (cV r c)) := h.2.1.A.1
  have h12 := h.2.1.A.2
  have h8 := h.2.1.T.2
  obtain ⟨a1, a2, a3, a4⟩ := P_more h (rdI c 7 r 0 0) 12
  simp only [s_X8_readPaper, f_X8_readPaper, bnd, bndP]
  rw [e7] at a1 a2 a3 a4 ⊢
  generalize f_X8_takeOneMore c r (nI (vA (cV r c))) 12 = c1 at *
  by_cases f0 : rdI c1 48 r 0 0 = 0
  · obtain ⟨f1, l⟩ := a4 f0
    have lt := n_lt (by omega) (by omega) (show nI (vA (cV r c)) < nI 12 from l)
    have q7 : rdI c1 7 r 0 0 = nI (vA (cV r c)) := (a3 7 0 0 (by omega) (by omega)).trans e7
    have i5 : ∀ d, CT r 0 d → rdI d 5 r 0 0 = nI (vP (cV r c)) → vP (cV r d) = vP (cV r c) := fun d hd e => by
      show nn (rdI d 5 r 0 0) = _
      rw [e, nn_nI (by omega)]
    generalize vA (cV r c) = A at *
    simp only [if_pos f0, q7, if_pos l, nn_nI (show A < 2 ^ 31 by omega)]
    -- cleared
    have cl : s_X5_clear c1 r A ∧ CT r 0 (f_X5_clear c1 r A) ∧ rdI (f_X5_clear c1 r A) 7 r 0 0 = nI A ∧ rdI (f_X5_clear c1 r A) 29 r A 0 = 0 ∧ rdI (f_X5_clear c1 r A) 30 r A 0 = 0 ∧ rdI (f_X5_clear c1 r A) 32 r A 0 = -1 ∧ rdI (f_X5_clear c1 r A) 33 r A 0 = -1 ∧ rdI (f_X5_clear c1 r A) 34 r A 0 = 0 ∧ rdI (f_X5_clear c1 r A) 35 r A 0 = 0 := by
      refine ⟨trivial, ?_⟩
      simp only [f_X5_clear, bnd]
      obtain ⟨u1, u2⟩ := CT.slot (g := 29) (k := 0) (v := 0) a2 q7 lt (by omega) (by omega)
      obtain ⟨u3, u4⟩ := CT.slot (g := 30) (k := 0) (v := 0) u1 u2 lt (by omega) (by omega)
      obtain ⟨u5, u6⟩ := CT.slot (g := 31) (k := 0) (v := 0) u3 u4 lt (by omega) (by omega)
      obtain ⟨u7, u8⟩ := CT.slot (g := 32) (k := 0) (v := -1) u5 u6 lt (by omega) (by omega)
      obtain ⟨u9, u10⟩ := CT.slot (g := 33) (k := 0) (v := -1) u7 u8 lt (by omega) (by omega)
      obtain ⟨u11, u12⟩ := CT.slot (g := 34) (k := 0) (v := 0) u9 u10 lt (by omega) (by omega)
      obtain ⟨u13, u14⟩ := CT.slot (g := 35) (k := 0) (v := 0) u11 u12 lt (by omega) (by omega)
      refine ⟨u13, u14, ?_, ?_, ?_, ?_, ?_, ?_⟩ <;> simp [rwI]
    have oc := o_X5_clear c1 r A
    have q5 : rdI (f_X5_clear c1 r A) 5 r 0 0 = nI (vP (cV r c)) := by rw [oc.at' (by decide), a3 5 0 0 (by omega) (by omega)]; exact e5
    obtain ⟨s1, t1, t2, r29, r30, r32, r33, r34, r35⟩ := cl
    generalize f_X5_clear c1 r A = c2 at *
    obtain ⟨b1, b2, b3, b4⟩ := P_nw (kd := 2) (n := A) t1 (by omega) (show A ≤ nmL 2 from h12)
    rw [t2]
    generalize f_X8_takeNewName c2 r 2 (nI A) = c3 at *
    obtain ⟨d1, d2, d3, d4, d5⟩ := P_per b2 ((b3 5 0 0 (by omega) (by omega)).trans q5) h10
    generalize f_X8_takePerson c3 r = z1 at *
    obtain ⟨g1, g2⟩ := CT.slot (g := 25) (k := 0) (v := z1.1) d2 (((b3.tr d3) 7 0 0 (by omega) (by omega)).trans t2) lt (by omega) (by omega)
    generalize hc4 : wrI z1.2 25 r A 0 z1.1 = c4 at *
    obtain ⟨i1, i2, i3, -, i5'⟩ := P_num g1 0 9999
    generalize f_X8_takeNumber c4 r 0 9999 = z2 at *
    obtain ⟨j1, j2⟩ := CT.slot (g := 26) (k := 0) (v := z2.1) i2 ((i3 7 0 0 (by omega) (by omega)).trans g2) lt (by omega) (by omega)
    generalize hc5 : wrI z2.2 26 r A 0 z2.1 = c5 at *
    obtain ⟨k1, k2, k3, -, k5⟩ := P_num j1 0 1
    generalize f_X8_takeNumber c5 r 0 1 = z3 at *
    obtain ⟨l1, l2⟩ := CT.slot (g := 27) (k := 0) (v := z3.1) k2 ((k3 7 0 0 (by omega) (by omega)).trans j2) lt (by omega) (by omega)
    generalize hc6 : wrI z3.2 27 r A 0 z3.1 = c6 at *
    obtain ⟨m1, m2, m3, m4, m5⟩ := P_kd l1
    generalize f_X8_takePaperKind c6 r = z4 at *
    obtain ⟨n1, n2⟩ := CT.slot (g := 28) (k := 0) (v := z4.1) m2 ((m3 7 0 0 (by omega) (by omega)).trans l2) lt (by omega) (by omega)
    -- a cell that only the first steps wrote
    have back : ∀ g x, 4 ≤ g → g ≤ 40 → g ≠ 25 → g ≠ 26 → g ≠ 27 → g ≠ 28 → ∀ y, rdI (wrI z4.2 28 r A 0 z4.1) g r x y = rdI c2 g r x y := fun g x h1 h2 n1 n2 n3 n4 y => by
      rw [rwN n4, m3 g x y h1 h2, ← hc6, rwN n3, k3 g x y h1 h2, ← hc5, rwN n2, i3 g x y h1 h2, ← hc4, rwN n1, d3 g x y h1 h2, b3 g x y h1 h2]
    have cp : CP r A (vP (cV r c)) (vT (cV r (wrI z4.2 28 r A 0 z4.1))) (wrI z4.2 28 r A 0 z4.1) := by
      refine ⟨n1, ⟨i5 _ n1 ?_, rfl, ?_, lt⟩, fun f => ?_⟩
      · rw [back 5 0 (by omega) (by omega) (by omega) (by omega) (by omega) (by omega)]; exact q5
      · show nn (rdI (wrI z4.2 28 r A 0 z4.1) 7 r 0 0) = A
        rw [n2, nn_nI (by omega)]
      · rw [rwN (by decide)] at f
        have f3 := m5 f
        rw [← hc6, rwN (by decide)] at f3
        obtain ⟨f4, v3, v4⟩ := k5 f3
        rw [← hc5, rwN (by decide)] at f4
        obtain ⟨f5, v5, v6⟩ := i5' f4
        rw [← hc4, rwN (by decide)] at f5
        obtain ⟨f6, j, hj, ej⟩ := d5 f5
        refine ⟨⟨?_, ?_, ?_, ?_⟩, ?_, ⟨0, ?_, by omega, fun k hk => absurd hk (Nat.not_lt_zero k)⟩, Or.inl ?_, ⟨?_, ?_⟩, ?_, ?_⟩
        · rw [rwN (by decide), m3 25 A 0 (by omega) (by omega), ← hc6, rwN (by decide), k3 25 A 0 (by omega) (by omega), ← hc5, rwN (by decide), i3 25 A 0 (by omega) (by omega), ← hc4, rwS, ej]
          exact vpi hj
        · rw [rwN (by decide), m3 26 A 0 (by omega) (by omega), ← hc6, rwN (by decide), k3 26 A 0 (by omega) (by omega), ← hc5, rwS]
          exact ⟨v5, v6⟩
        · rw [rwN (by decide), m3 27 A 0 (by omega) (by omega), ← hc6, rwS]
          exact n_01 v3 v4
        · rw [rwS]; exact m4
        · rw [back 29 A (by omega) (by omega) (by omega) (by omega) (by omega) (by omega), r29]; exact vp0 (by omega) (by omega)
        · rw [back 35 A (by omega) (by omega) (by omega) (by omega) (by omega) (by omega), r35]; rfl
        · rw [back 32 A (by omega) (by omega) (by omega) (by omega) (by omega) (by omega), r32]
        · rw [back 33 A (by omega) (by omega) (by omega) (by omega) (by omega) (by omega), r33]
        · rw [back 34 A (by omega) (by omega) (by omega) (by omega) (by omega) (by omega), r34]
        · rw [back 30 A (by omega) (by omega) (by omega) (by omega) (by omega) (by omega), r30]
          intro i hi; rw [b_0] at hi; cases hi
        · rw [back 30 A (by omega) (by omega) (by omega) (by omega) (by omega) (by omega), r30]
          rw [show fb_ct (bt 0) 10 = 0 from fb_ct_zero.mpr (fun k _ => b_0 k)]
          omega
    obtain ⟨x1, x2⟩ := C_108 (r := r) (q := A) 1201 FU 0 (by omega) (by rw [FU_eq]; omega) _ cp
    exact ⟨⟨a1, vpi lt, s1, b1, d1, i1, k1, m1, x1⟩, x2⟩
  · simp only [if_neg f0]
    exact ⟨⟨a1, trivial⟩, a2⟩
-- ===== all lines =====
theorem sp_P {c : Prop} [Decidable c] {A B : Prop} (h1 : c → A) (h2 : ¬ c → B) : if c then A else B := by
  by_cases h : c
  · rw [if_pos h]; exact h1 h
  · rw [if_neg h]; exact h2 h
theorem sp_C {r : Nat} {c : Prop} [Decidable c] {x y : gM} (h1 : c → CT r 0 x) (h2 : ¬ c → CT r 0 y) : CT r 0 (if c then x else y) := by
  by_cases h : c
  · rw [if_pos h]; exact h1 h
  · rw [if_neg h]; exact h2 h
theorem C_24 {r : Nat} : ∀ m z k : Nat, k + m = 1201 → m < z → ∀ c : gM, CT r 0 c → s_X8_readAll_24 r z c (nI k) ∧ CT r 0 (f_X8_readAll_24 r z c (nI k)) := by
  intro m
  induction m with
  | zero =>
    intro z k hk hz c h
    obtain ⟨z, rfl⟩ : ∃ y, z = y + 1 := ⟨z - 1, by omega⟩
    have e : (1200 : Int32) < nI k := nI_lt (a := 1200) (b := k) (by omega) (by omega)
    simp only [s_X8_readAll_24, f_X8_readAll_24, if_pos e]
    exact ⟨trivial, h⟩
  | succ m ih =>
    intro z k hk hz c h
    obtain ⟨z, rfl⟩ : ∃ y, z = y + 1 := ⟨z - 1, by omega⟩
    have hc := h.1.comes
    have ho := h.1.ord
    have e : ¬ (1200 : Int32) < nI k := i_nlt.mpr (nI_le (a := k) (b := 1200) (by omega) (by omega))
    simp only [s_X8_readAll_24, f_X8_readAll_24, if_neg e, bnd, bndP, p1]
    have on : ∀ d, CT r 0 d → s_X8_takeSemicolon d r ∧ s_X8_readAll_24 r z (f_X8_takeSemicolon d r) (nI (k + 1)) ∧ CT r 0 (f_X8_readAll_24 r z (f_X8_takeSemicolon d r) (nI (k + 1))) := fun d hd => by
      obtain ⟨u1, u2⟩ := K_semi hd
      obtain ⟨v1, v2⟩ := ih z (k + 1) (by omega) (by omega) _ u2
      exact ⟨u1, v1, v2⟩
    by_cases f0 : rdI c 48 r 0 0 = 0
    · simp only [if_pos f0]
      by_cases f1 : f_X8_comes c r = 25
      · simp only [if_pos f1]
        exact ⟨⟨hc.1, hc.2, trivial⟩, h⟩
      · simp only [if_neg f1]
        have fl : s_X8_fail c r 1 ∧ CT r 0 (f_X8_fail c r 1) := by
          obtain ⟨t1, t2, t3⟩ := T_fail h.1 (v := 1) (by decide)
          exact ⟨t1, h.ke t2 (KE.of (o_X8_fail c r 1) (by decide))⟩
        have one : ∀ (S : Prop) (d : gM), S ∧ CT r 0 d → (S ∧ s_X8_takeSemicolon d r ∧ s_X8_readAll_24 r z (f_X8_takeSemicolon d r) (nI (k + 1))) ∧ CT r 0 (f_X8_readAll_24 r z (f_X8_takeSemicolon d r) (nI (k + 1))) := fun S d hd => by
          obtain ⟨w1, w2, w3⟩ := on d hd.2
          exact ⟨⟨hd.1, w1, w2⟩, w3⟩
        have k1 := one _ _ (K_lnd h)
        have k2 := one _ _ (K_per h)
        have k3 := one _ _ (K_chd h f0 f1)
        have k4 := one _ _ (K_wed h)
        have k5 := one _ _ (K_thg h)
        have k6 := one _ _ (K_pap h)
        have k7 := one _ _ (K_los h)
        have k8 := one _ _ (K_dth h)
        have k9 := one _ _ fl
        refine ⟨⟨hc.1, hc.2, hc.1, hc.2, ho.1, ho.2, ?_⟩, ?_⟩
        · exact sp_P (fun _ => k1.1) (fun _ => sp_P (fun _ => k2.1) (fun _ => sp_P (fun _ => k3.1) (fun _ => sp_P (fun _ => k4.1) (fun _ => sp_P (fun _ => k5.1) (fun _ => sp_P (fun _ => k6.1) (fun _ => sp_P (fun _ => k7.1) (fun _ => sp_P (fun _ => k8.1) (fun _ => k9.1))))))))
        · exact sp_C (fun _ => k1.2) (fun _ => sp_C (fun _ => k2.2) (fun _ => sp_C (fun _ => k3.2) (fun _ => sp_C (fun _ => k4.2) (fun _ => sp_C (fun _ => k5.2) (fun _ => sp_C (fun _ => k6.2) (fun _ => sp_C (fun _ => k7.2) (fun _ => sp_C (fun _ => k8.2) (fun _ => k9.2))))))))
    · simp only [if_neg f0]
      exact ⟨trivial, h⟩
end
