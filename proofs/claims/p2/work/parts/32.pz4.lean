set_option linter.all false
noncomputable section
theorem clS.wrI {M : gM} {S : vS} (f : clS M S) {g a b c : Nat} {v : Int32} (hg : g < 57 ∨ 60 < g) : clS (wrI M g a b c v) S := ⟨f.1, by rw [rwI, if_neg (by omega)]; exact f.2.1, by rw [rwI, if_neg (by omega)]; exact f.2.2.1, by rw [rwI, if_neg (by omega)]; exact f.2.2.2.1, by rw [rwI, if_neg (by omega)]; exact f.2.2.2.2⟩
theorem X1_go {V : vV} {lf : Nat → Nat} (h : WF V) {t : Nat} (ht : t < vT V) (day : Int32) {target : vS} {M : gM} {cur : Option Nat} {S : vS} (c : CV M V lf) (hw : ∀ q, q < vA V → rdI M 54 0 0 q = vwhy V q t) (hm : mortal V cur) (cs : clS M S) (os : okS 0 S) (hv : vgo V lf t day 10 cur S = target) :
    s_X1_goOn_74 (nI t) day FU M (oJ cur) 0 ∧ (clS (f_X1_goOn_74 (nI t) day FU M (oJ cur) 0) target ∧ okS 10 target) := by
  have h8 := h.T.2
  have h10 := h.P.2
  have wt := wlt h ht
  refine lp (fun n k (s : gM × Int32) => f_X1_goOn_74 (nI t) day n s.1 s.2 (nI k)) (fun n k s => s_X1_goOn_74 (nI t) day n s.1 s.2 (nI k)) (fun k s => CV s.1 V lf ∧ (∀ q, q < vA V → rdI s.1 54 0 0 q = vwhy V q t) ∧ ∃ cur S, s.2 = oJ cur ∧ mortal V cur ∧ clS s.1 S ∧ okS k S ∧ vgo V lf t day (10 - k) cur S = target) (fun z => clS z target ∧ okS 10 target) 10 ?_ ?_ FU 0 (M, oJ cur) (Nat.zero_le _) (by rw [FU_eq]; omega) ⟨c, hw, cur, S, rfl, hm, cs, os, hv⟩
  · rintro n k ⟨N, x⟩ hk ⟨cN, wN, cur, S, hx, mc, cS, oS, hv⟩ ih
    have hx : x = oJ cur := hx
    subst hx
    have cN : CV N V lf := cN
    have wN : ∀ q, q < vA V → rdI N 54 0 0 q = vwhy V q t := wN
    have cS : clS N S := cS
    have n10 : ¬ (10 : Int32) ≤ nI k := nI_ge (b := 10) hk (by decide)
    rw [show 10 - k = (10 - (k + 1)) + 1 by omega] at hv
    cases cur with
    | none =>
      have e1 : (oJ none = -1) = True := eq_true rfl
      simp only [s_X1_goOn_74, f_X1_goOn_74, if_neg n10, e1, if_true]
      rw [vgo] at hv
      rw [← hv]
      exact ⟨trivial, cS, oS.mono (by omega)⟩
    | some d =>
      obtain ⟨hd, md⟩ := mc d rfl
      have hl := fun i hi => (cN.2.2.2.2.2.2.1 i hi).1
      have e1 : (nI d = -1) = False := eq_false (nI_ne (show d < 2 ^ 31 by omega)).2
      have e0 : oJ (some d) = nI d := rfl
      have i1 : vp_in (nI d) 10 := vpi (by omega)
      have i2 : vp_in (nI d) 11 := vpi (by omega)
      have i3 : vp_in (nI t) 8 := vpi (by omega)
      have e20 : rdI N 20 0 d 0 = V.2.1 d := by rw [(cN.2.1 d hd).2.1, mo_ne md]
      have pb := ff11 oS.1 (by omega) oS.2.2.1 (show d < 11 by omega)
      have ez : (lg_cmp (lN (S.1 d)) 0 = 0) = (S.1 d = 0) := propext ((lg_cmp_eq _ _).trans (lz pb))
      obtain ⟨n1, n2⟩ := X7_db cN h mc
      rw [e0] at n1 n2
      rw [vgo] at hv
      obtain ⟨t1, t2, t3⟩ := X4_choose cN h (show d < 2 ^ 31 by omega) ht wN
      have o23 := o_X4_chooseTaker N (nI d) (nI t)
      generalize hM23 : f_X4_chooseTaker N (nI d) (nI t) = M23 at *
      have c23 : CV M23 V lf := cN.off o23 (by decide)
      have l23 : cl M23 S.1 S.2.1 := cS.1.off o23 (by decide) (by decide)
      have r23 : rdI M23 23 0 t 0 = V.1 (34 + 3 * t + 1) := (c23.2.2.1 t ht).2.1
      have i4 : vp_in (V.1 (34 + 3 * t + 1)) 2 := by rw [wt.1]; exact vpi wt.2
      have n4 : nn (V.1 (34 + 3 * t + 1)) = vlt V t := rfl
      have r18 : rdI M23 18 0 (vlt V t) 0 = V.1 (4 + 5 * vlt V t + 4) := (c23.2.2.2.2.2.1 _ wt.2).2.2.2.2
      obtain ⟨p1', p2'⟩ := X1_pass c23 h hd md ht l23 t2
      have o27 := o_X1_passOn M23 (nI d) (V.1 (4 + 5 * vlt V t + 4))
      generalize hM27 : f_X1_passOn M23 (nI d) (V.1 (4 + 5 * vlt V t + 4)) = M27 at *
      have c27 : CV M27 V lf := c23.off o27 (by decide)
      have oS2 := oS.step (t := t) h hl hd md
      have q57 : rdI M27 57 0 0 0 = S.2.2.1 := by rw [(o27 57 0 0 0 (by decide)).1, (o23 57 0 0 0 (by decide)).1]; exact cS.2.1
      have q58 : rdI M27 58 0 0 0 = S.2.2.2.1 := by rw [(o27 58 0 0 0 (by decide)).1, (o23 58 0 0 0 (by decide)).1]; exact cS.2.2.1
      have q59 : rdI M27 59 0 0 0 = S.2.2.2.2.1 := by rw [(o27 59 0 0 0 (by decide)).1, (o23 59 0 0 0 (by decide)).1]; exact cS.2.2.2.1
      have w27 : ∀ q, q < vA V → rdI M27 54 0 0 q = vwhy V q t := fun q hq => by rw [(o27 54 0 0 q (by decide)).1, (o23 54 0 0 q (by decide)).1]; exact wN q hq
      obtain ⟨h1, h2⟩ := X1_hold (M := wrI M27 58 0 0 0 (S.2.2.2.1 ||| (1 <<< (nI d &&& 31)))) p2'.wr (fun k hk => ff11 oS2.1 (show _ ≤ 10 by omega) oS2.2.2.1 hk)
      have r57 : rdI (wrI M27 58 0 0 0 (S.2.2.2.1 ||| (1 <<< (nI d &&& 31)))) 57 0 0 0 = S.2.2.1 := by rw [rwI, if_neg (by omega)]; exact q57
      have r59 : rdI (wrI (wrI M27 58 0 0 0 (S.2.2.2.1 ||| (1 <<< (nI d &&& 31)))) 57 0 0 0 (S.2.2.1 ||| vhold (vps V lf t d S.1 S.2.1).1)) 59 0 0 0 = S.2.2.2.2.1 := by rw [rwI, if_neg (by omega), rwI, if_neg (by omega)]; exact q59
      have hm2 := vnd_mortal (V := V) (some d)
      simp only [s_X1_goOn_74, f_X1_goOn_74, s_X1_goOn_195, f_X1_goOn_195, bnd, bndP, if_neg n10, e1, if_false, e0, nn_nI (show d < 2 ^ 31 by omega), nn_nI (show t < 2 ^ 31 by omega), e20, i1, i2, i3, cS.1.1 d (by omega), ez, hM23, t1, r23, i4, n4, r18, hM27, p1', q58, h1, h2, r57, r59, n1, n2, p1, true_and]
      by_cases y : day < V.2.1 d
      · simp only [y, if_true]
        rw [if_neg (fun z => (i_nlt.mpr z.1) y)] at hv
        exact ih (N, oJ (vnd V (some d))) ⟨cN, wN, _, S, rfl, hm2, cS, oS.mono (by omega), hv⟩
      · simp only [y, if_false]
        by_cases z : S.1 d = 0
        · simp only [z, if_true]
          rw [if_neg (fun u => u.2 z)] at hv
          exact ih (N, oJ (vnd V (some d))) ⟨cN, wN, _, S, rfl, hm2, cS, oS.mono (by omega), hv⟩
        · simp only [z, if_false]
          rw [if_pos ⟨i_nlt.mp y, z⟩] at hv
          have cF : CV (wrI (wrI (wrI (wrI M27 58 0 0 0 (S.2.2.2.1 ||| (1 <<< (nI d &&& 31)))) 57 0 0 0 (S.2.2.1 ||| vhold (vps V lf t d S.1 S.2.1).1)) 59 0 0 0 (S.2.2.2.2.1 + 1)) 60 0 0 0 (V.2.1 d)) V lf := (((c27.wr (Or.inl (by omega))).wr (Or.inl (by omega))).wr (Or.inl (by omega))).wr (Or.inl (by omega))
          obtain ⟨m1, m2⟩ := X7_db cF h mc
          rw [e0] at m1 m2
          rw [m2]
          have key := ih (wrI (wrI (wrI (wrI M27 58 0 0 0 (S.2.2.2.1 ||| (1 <<< (nI d &&& 31)))) 57 0 0 0 (S.2.2.1 ||| vhold (vps V lf t d S.1 S.2.1).1)) 59 0 0 0 (S.2.2.2.2.1 + 1)) 60 0 0 0 (V.2.1 d), oJ (vnd V (some d))) ⟨cF, fun q hq => by
            show rdI _ 54 0 0 q = _
            rw [rwI, if_neg (by omega), rwI, if_neg (by omega), rwI, if_neg (by omega), rwI, if_neg (by omega)]; exact w27 q hq, _, vstep V lf t d S, rfl, hm2, ⟨p2', ?_, ?_, ?_, ?_⟩, oS2, hv⟩
          · exact ⟨⟨m1, key.1⟩, key.2⟩
          · show rdI (wrI (wrI (wrI (wrI M27 58 0 0 0 _) 57 0 0 0 _) 59 0 0 0 _) 60 0 0 0 _) 57 0 0 0 = _
            rw [rwI, if_neg (by omega), rwI, if_neg (by omega), rwI, if_pos (by simp)]; rfl
          · show rdI (wrI (wrI (wrI (wrI M27 58 0 0 0 _) 57 0 0 0 _) 59 0 0 0 _) 60 0 0 0 _) 58 0 0 0 = _
            rw [rwI, if_neg (by omega), rwI, if_neg (by omega), rwI, if_neg (by omega), rwI, if_pos (by simp)]; rfl
          · show rdI (wrI (wrI (wrI (wrI M27 58 0 0 0 _) 57 0 0 0 _) 59 0 0 0 _) 60 0 0 0 _) 59 0 0 0 = _
            rw [rwI, if_neg (by omega), rwI, if_pos (by simp)]; rfl
          · show rdI (wrI (wrI (wrI (wrI M27 58 0 0 0 _) 57 0 0 0 _) 59 0 0 0 _) 60 0 0 0 _) 60 0 0 0 = _
            rw [rwI, if_pos (by simp)]
            exact (mo_ne md).symm
  · rintro n ⟨N, x⟩ ⟨cN, wN, cur, S, hx, mc, cS, oS, hv⟩
    simp only [s_X1_goOn_74, f_X1_goOn_74, if_pos (show (10 : Int32) ≤ nI 10 by decide)]
    have e : vgo V lf t day (10 - 10) cur S = S := by rw [Nat.sub_self, vgo]
    rw [e] at hv
    rw [← hv]
    exact ⟨trivial, cS, oS⟩
theorem fill0 {M : gM} : s_J7_fill_d0a16 M 0 ∧ ((∀ h, h < 11 → rdJ (f_J7_fill_d0a16 M 0) 61 0 0 h = 0)) := by
  unfold s_J7_fill_d0a16 f_J7_fill_d0a16
  refine lp (fun n k (s : gM) => f_J7_fill_d0a16_6 0 11 n s (nI k)) (fun n k s => s_J7_fill_d0a16_6 0 11 n s (nI k)) (fun k s => ∀ h, h < k → rdJ s 61 0 0 h = 0) (fun z => ∀ h, h < 11 → rdJ z 61 0 0 h = 0) 11 ?_ ?_ FU 0 M (Nat.zero_le _) (by rw [FU_eq]; omega) (fun h hh => absurd hh (Nat.not_lt_zero _))
  · intro n k s hk hI ih
    have n10 : ¬ (11 : Int32) ≤ nI k := nI_ge (b := 11) hk (by decide)
    have ik : vp_in (nI k) 11 := vpi (by omega)
    simp only [s_J7_fill_d0a16_6, f_J7_fill_d0a16_6, bnd, bndP, if_neg n10, ik, nn_nI (show k < 2 ^ 31 by omega), p1, true_and]
    refine ih _ (fun h hh => ?_)
    rw [rwJ]
    by_cases e : h = k
    · rw [if_pos (by simp [e])]
    · rw [if_neg (by simp [e])]; exact hI h (by omega)
  · intro n s hI
    simp only [s_J7_fill_d0a16_6, f_J7_fill_d0a16_6, if_pos (show (11 : Int32) ≤ nI 11 by decide)]
    exact ⟨trivial, hI⟩
theorem S0_sum {o : Nat} (ho : o < 11) : fb_sm (fun h => if h = o then 1 else 0) 11 = 1 := sm_one 1 ho
theorem S0_ok {V : vV} (h : WF V) {t : Nat} (ht : t < vT V) : okS 0 (vS0 V t) ∧ nn (V.1 (34 + 3 * t)) < 10 ∧ vp_in (V.1 (34 + 3 * t)) 11 := by
  have h10 := h.P.2
  have w := vpe (h.2.2.1 t ht).1 (by omega)
  refine ⟨⟨S0_sum (by omega), Nat.one_pos, Nat.le_refl 1, ?_⟩, by omega, ?_⟩
  · show vhold (vS0 V t).1 ||| vhold (vS0 V t).1 = vhold (vS0 V t).1
    exact b_ext fun i _ => by rw [b_or, Bool.or_self]
  · rw [w.1]; exact vpi (by omega)
theorem X1_goOn {M : gM} {V : vV} {lf : Nat → Nat} (c : CV M V lf) (h : WF V) {t : Nat} (ht : t < vT V) (day : Int32) :
    s_X1_goOn M (nI t) day ∧ (clS (f_X1_goOn M (nI t) day) (vrun V lf t day) ∧ okS 10 (vrun V lf t day)) := by
  have h8 := h.T.2
  have h10 := h.P.2
  obtain ⟨s0, o10, o11⟩ := S0_ok h ht
  obtain ⟨w1, w2⟩ := X4_weigh c h ht
  have o2 := o_X4_weigh M (nI t)
  generalize hM2 : f_X4_weigh M (nI t) = M2 at *
  have c2 : CV M2 V lf := c.off o2 (by decide)
  obtain ⟨f1, f2⟩ := fill0 (M := M2)
  have o4 := o_J7_fill_d0a16 M2 0
  generalize hM4 : f_J7_fill_d0a16 M2 0 = M4 at *
  have c4 : CV M4 V lf := c2.off o4 (by decide)
  have i3 : vp_in (nI t) 8 := vpi (by omega)
  have r22 : rdI M4 22 0 t 0 = V.1 (34 + 3 * t) := (c4.2.2.1 t ht).1
  have r22' : rdI (wrJ M4 56 0 0 0 1) 22 0 t 0 = V.1 (34 + 3 * t) := r22
  have l8 : cl (wrJ (wrJ M4 56 0 0 0 1) 61 0 0 (nn (V.1 (34 + 3 * t))) 1) (vS0 V t).1 (vS0 V t).2.1 := ⟨fun k hk => by
    show _ = lN (if k = nn (V.1 (34 + 3 * t)) then 1 else 0)
    rw [rwJ]
    by_cases e : k = nn (V.1 (34 + 3 * t))
    · rw [if_pos (by simp [e]), if_pos e]; rfl
    · rw [if_neg (by simp [e]), if_neg e, rwJ, if_neg (by simp)]; exact f2 k hk, by
    rw [rwJ, if_neg (by simp), rwJ, if_pos (by simp)]; rfl⟩
  obtain ⟨h1, h2⟩ := X1_hold l8 (fun k hk => ff11 s0.1 (by omega) s0.2.2.1 hk)
  generalize hM8 : wrJ (wrJ M4 56 0 0 0 1) 61 0 0 (nn (V.1 (34 + 3 * t))) 1 = M8 at *
  have c8 : CV M8 V lf := by rw [← hM8]; exact c4.wrJ.wrJ
  have w8 : ∀ q, q < vA V → rdI M8 54 0 0 q = vwhy V q t := fun q hq => by
    rw [← hM8]
    show rdI M4 54 0 0 q = _
    rw [(o4 54 0 0 q (by decide)).1]; exact (w2 q hq).1
  have c13 : CV (wrI (wrI (wrI (wrI M8 57 0 0 0 (vhold (vS0 V t).1)) 58 0 0 0 0) 59 0 0 0 0) 60 0 0 0 (-1)) V lf := (((c8.wr (Or.inl (by omega))).wr (Or.inl (by omega))).wr (Or.inl (by omega))).wr (Or.inl (by omega))
  obtain ⟨n1, n2⟩ := X7_db (last := none) c13 h (fun l hl => by cases hl)
  have n1 : s_X7_deathBehind (wrI (wrI (wrI (wrI M8 57 0 0 0 (vhold (vS0 V t).1)) 58 0 0 0 0) 59 0 0 0 0) 60 0 0 0 (-1)) 0 (-1) := n1
  have n2 : f_X7_deathBehind (wrI (wrI (wrI (wrI M8 57 0 0 0 (vhold (vS0 V t).1)) 58 0 0 0 0) 59 0 0 0 0) 60 0 0 0 (-1)) 0 (-1) = oJ (vnd V none) := n2
  have g := X1_go (lf := lf) h ht day (target := vrun V lf t day) c13 (fun q hq => by
    rw [rwI, if_neg (by omega), rwI, if_neg (by omega), rwI, if_neg (by omega), rwI, if_neg (by omega)]; exact w8 q hq) (vnd_mortal none) (S := vS0 V t) ⟨l8, by
    rw [rwI, if_neg (by omega), rwI, if_neg (by omega), rwI, if_neg (by omega), rwI, if_pos (by simp)]; rfl, by
    rw [rwI, if_neg (by omega), rwI, if_neg (by omega), rwI, if_pos (by simp)]; rfl, by
    rw [rwI, if_neg (by omega), rwI, if_pos (by simp)]; rfl, by
    rw [rwI, if_pos (by simp)]; rfl⟩ s0 rfl
  simp only [s_X1_goOn, f_X1_goOn, bnd, bndP, hM2, w1, hM4, f1, nn_nI (show t < 2 ^ 31 by omega), r22', i3, o11, hM8, h1, h2, n1, n2, true_and]
  exact g
-- ===== the reference =====
theorem mdS.wrI {M : gM} {S : vS} (f : mdS M S) {g a b c : Nat} {v : Int32} (hg : g < 82 ∨ 85 < g) : mdS (wrI M g a b c v) S := ⟨f.1, by rw [rwI, if_neg (by omega)]; exact f.2.1, by rw [rwI, if_neg (by omega)]; exact f.2.2.1, by rw [rwI, if_neg (by omega)]; exact f.2.2.2.1, by rw [rwI, if_neg (by omega)]; exact f.2.2.2.2⟩
theorem vgo_stop {V : vV} {lf : Nat → Nat} {t : Nat} {day : Int32} {S : vS} : ∀ n cur, mortal V cur → (∀ d, cur = some d → day < V.2.1 d) → vgo V lf t day n cur S = S := by
  intro n
  induction n with
  | zero => intro cur _ _; rw [vgo]
  | succ n ih =>
    intro cur hm hc
    cases cur with
    | none => rw [vgo]
    | some d =>
      rw [vgo, if_neg (fun z => (i_nlt.mpr z.1) (hc d rfl))]
      refine ih _ (vnd_mortal _) fun e he => ?_
      obtain ⟨k1, k2, -⟩ := (vnq_spec (vP V)).2 e he
      have : vah V d e = true := by unfold vcm at k2; rw [Bool.and_eq_true] at k2; exact k2.2
      have a1 := vah_iff.mp this
      have a2 := hc d rfl
      unfold vE at a1
      rw [Int32.lt_iff_toInt_lt] at a2 ⊢
      omega
theorem X13_go {V : vV} {lf : Nat → Nat} (h : WF V) {M0 : gM} (F : cvF M0 V lf) {t : Nat} (ht : t < vT V) (day : Int32) : ∀ (m n k : Nat) (M : gM) (done : Int32) (last : Option Nat) (S : vS), fb_ct (vcm V last) (vP V) ≤ m → m < n → m + k ≤ 10 → mortal V last → dn V last done → mV M = V → mdS M S → okS k S →
    s_X13_laysParts_79 (nI t) day n M done (vcur V day (vnd V last)) ∧ (mdS (f_X13_laysParts_79 (nI t) day n M done (vcur V day (vnd V last))) (vgo V lf t day m (vnd V last) S)) := by
  have h8 := h.T.2
  have h10 := h.P.2
  have hl := fun i hi => (F.1 i hi).1
  intro m
  induction m with
  | zero =>
    intro n k M done last S h1 h2 h3 ml hd hV mS oS
    obtain ⟨n, rfl⟩ : ∃ n', n = n' + 1 := ⟨n - 1, by omega⟩
    have e : vnd V last = none := vnq_no (fb_ct_zero.mp (Nat.le_zero.mp h1))
    rw [e]
    have e1 : (vcur V day none = -1) = True := eq_true rfl
    simp only [s_X13_laysParts_79, f_X13_laysParts_79, e1, if_true, vgo]
    exact ⟨trivial, mS⟩
  | succ m ih =>
    intro n k M done last S h1 h2 h3 ml hd hV mS oS
    obtain ⟨n, rfl⟩ : ∃ n', n = n' + 1 := ⟨n - 1, by omega⟩
    cases hv : vnd V last with
    | none =>
      have e1 : (vcur V day none = -1) = True := eq_true rfl
      simp only [s_X13_laysParts_79, f_X13_laysParts_79, e1, if_true, vgo]
      exact ⟨trivial, mS⟩
    | some b =>
      obtain ⟨hb, mb⟩ := vnd_mortal last b hv
      have mbs : mortal V (some b) := fun l hl => by cases hl; exact ⟨hb, mb⟩
      by_cases y : V.2.1 b ≤ day
      · have e0 : vcur V day (some b) = nI b := if_pos y
        have e1 : ¬ nI b = -1 := (nI_ne (by omega)).2
        have i2 : vp_in (nI b) 11 := vpi (by omega)
        have pb := ff11 oS.1 (by omega) oS.2.2.1 (show b < 11 by omega)
        have nl := red_nle (n := S.1 b) (d := S.2.1)
        have ez : (lg_cmp (lN (fN (S.1 b) S.2.1)) 0 ≤ 0) = (S.1 b = 0) := propext (by
          rw [lg_cmp_le, show (0 : Int64) = lN 0 from rfl, pk_lLE (by omega) (by decide), Nat.le_zero]
          exact red_nz oS.2.1)
        have hd2 := dn_s h ml hd hv
        have ct := ct_dn hv
        rw [e0, vgo]
        by_cases z : S.1 b = 0
        · rw [if_neg (fun u => u.2 z)]
          have ez3 : (lg_cmp (lN (fN (S.1 b) S.2.1)) 0 ≤ 0) = True := ez.trans (eq_true z)
          have ez2 : (lg_cmp (lN (fN (S.1 b) S.2.1)) 0 = 0) = True := eq_true ((lg_cmp_eq _ _).mpr ((lz (by omega)).mpr ((red_nz oS.2.1).mpr z)))
          obtain ⟨a1, a2⟩ := X13_hold mS.1 oS.2.1 (fun k hk => ff11 oS.1 (by omega) oS.2.2.1 hk)
          have mS2 : mdS (wrI M 82 0 0 0 S.2.2.1) S := ⟨mS.1, by rw [rwI, if_pos (by simp)], by rw [rwI, if_neg (by omega)]; exact mS.2.2.1, by rw [rwI, if_neg (by omega)]; exact mS.2.2.2.1, by rw [rwI, if_neg (by omega)]; exact mS.2.2.2.2⟩
          have hV2 : mV (wrI M 82 0 0 0 S.2.2.1) = V := by rw [mV_wr (by omega), hV]
          have nx := X13_next (M := wrI M 82 0 0 0 S.2.2.1) (by rw [hV2]; exact h) (last := some b) (day := day) (by rw [hV2]; exact hd2)
          rw [hV2] at nx
          simp only [s_X13_laysParts_79, f_X13_laysParts_79, s_X13_laysParts_130, f_X13_laysParts_130, s_X13_goesOn, f_X13_goesOn, bnd, bndP, if_neg e1, i2, nn_nI (show b < 2 ^ 31 by omega), (mS.1 b (by omega)).1, ez3, ez2, if_true, a1, a2, mS.2.1, oS.2.2.2, nx.1, nx.2, true_and]
          exact ih n (k + 1) _ _ (some b) S (by omega) (by omega) (by omega) mbs hd2 hV2 mS2 (oS.mono (by omega))
        · rw [if_pos ⟨y, z⟩]
          have M21 : mdS (wrI (wrI (wrI M 83 0 0 0 (S.2.2.2.2.1 + 1)) 84 0 0 0 (V.2.1 b)) 85 0 0 0 (S.2.2.2.1 ||| (1 <<< (nI b &&& 31)))) (S.1, S.2.1, S.2.2.1, S.2.2.2.1 ||| (1 <<< (nI b &&& 31)), S.2.2.2.2.1 + 1, V.2.1 b) := ⟨mS.1, by rw [rwI, if_neg (by omega), rwI, if_neg (by omega), rwI, if_neg (by omega)]; exact mS.2.1, by rw [rwI, if_pos (by simp)], by rw [rwI, if_neg (by omega), rwI, if_neg (by omega), rwI, if_pos (by simp)], by rw [rwI, if_neg (by omega), rwI, if_pos (by simp)]⟩
          have hV18 : mV (wrI M 83 0 0 0 (S.2.2.2.2.1 + 1)) = V := by rw [mV_wr (by omega), hV]
          have hV21 : mV (wrI (wrI (wrI M 83 0 0 0 (S.2.2.2.2.1 + 1)) 84 0 0 0 (V.2.1 b)) 85 0 0 0 (S.2.2.2.1 ||| (1 <<< (nI b &&& 31)))) = V := by rw [mV_wr (by omega), mV_wr (by omega), hV18]
          have fd : f_X13_diesOn (wrI M 83 0 0 0 (S.2.2.2.2.1 + 1)) (nI b) = V.2.1 b := by rw [f_dies (by omega), hV18]
          have r85 : rdI (wrI (wrI M 83 0 0 0 (S.2.2.2.2.1 + 1)) 84 0 0 0 (V.2.1 b)) 85 0 0 0 = S.2.2.2.1 := by rw [rwI, if_neg (by omega), rwI, if_neg (by omega)]; exact mS.2.2.1
          have p18 := pow18 (show k ≤ 10 by omega)
          have lW := oS.2.2.1
          obtain ⟨g1, g2⟩ := X13_goes (M := wrI (wrI (wrI M 83 0 0 0 (S.2.2.2.2.1 + 1)) 84 0 0 0 (V.2.1 b)) 85 0 0 0 (S.2.2.2.1 ||| (1 <<< (nI b &&& 31)))) h F hV21 hb mb ht M21.1 oS.1 oS.2.1 (by show S.2.1 * 18 < 2 ^ 63; have := Nat.mul_le_mul_right 18 lW; omega) z
          have o23 := o_X13_goesOn (wrI (wrI (wrI M 83 0 0 0 (S.2.2.2.2.1 + 1)) 84 0 0 0 (V.2.1 b)) 85 0 0 0 (S.2.2.2.1 ||| (1 <<< (nI b &&& 31)))) (nI b) (nI t)
          have q82 := M21.2.1
          have q85 := M21.2.2.1
          have q83 := M21.2.2.2.1
          have q84 := M21.2.2.2.2
          generalize hM21 : wrI (wrI (wrI M 83 0 0 0 (S.2.2.2.2.1 + 1)) 84 0 0 0 (V.2.1 b)) 85 0 0 0 (S.2.2.2.1 ||| (1 <<< (nI b &&& 31))) = N21 at *
          generalize hM23 : f_X13_goesOn N21 (nI b) (nI t) = N23 at *
          have oS2 := oS.step (t := t) h hl hb mb
          obtain ⟨a1, a2⟩ := X13_hold g2 oS2.2.1 (fun k' hk => ff11 oS2.1 (show _ ≤ 10 by omega) oS2.2.2.1 hk)
          have e82 : rdI N23 82 0 0 0 = S.2.2.1 := by rw [(o23 82 0 0 0 (by decide)).1]; exact q82
          have hV25 : mV (wrI N23 82 0 0 0 (S.2.2.1 ||| vhold (vps V lf t b S.1 S.2.1).1)) = V := by rw [mV_wr (by omega), mV_off o23 (by decide), hV21]
          have nx := X13_next (M := wrI N23 82 0 0 0 (S.2.2.1 ||| vhold (vps V lf t b S.1 S.2.1).1)) (by rw [hV25]; exact h) (last := some b) (day := day) (by rw [hV25]; exact hd2)
          rw [hV25] at nx
          have mS2 : mdS (wrI N23 82 0 0 0 (S.2.2.1 ||| vhold (vps V lf t b S.1 S.2.1).1)) (vstep V lf t b S) := ⟨g2, by rw [rwI, if_pos (by simp)]; rfl, by rw [rwI, if_neg (by omega), (o23 85 0 0 0 (by decide)).1]; exact q85, by rw [rwI, if_neg (by omega), (o23 83 0 0 0 (by decide)).1]; exact q83, by rw [rwI, if_neg (by omega), (o23 84 0 0 0 (by decide)).1]; exact q84⟩
          simp only [s_X13_laysParts_79, f_X13_laysParts_79, s_X13_laysParts_130, f_X13_laysParts_130, bnd, bndP, if_neg e1, i2, nn_nI (show b < 2 ^ 31 by omega), (mS.1 b (by omega)).1, ez, z, if_false, mS.2.2.2.1, fd, s_dies (show b < 65 by omega), r85, hM21, hM23, g1, a1, a2, e82, nx.1, nx.2, true_and]
          exact ih n (k + 1) _ _ (some b) _ (by omega) (by omega) (by omega) mbs hd2 hV25 mS2 oS2
      · have e1 : (vcur V day (some b) = -1) = True := eq_true (if_neg y)
        have st := vgo_stop (lf := lf) (t := t) (day := day) (S := S) (m + 1) (some b) mbs (fun d hd => by cases hd; exact i_nle.mp y)
        rw [st]
        simp only [s_X13_laysParts_79, f_X13_laysParts_79, e1, if_true]
        exact ⟨trivial, mS⟩
theorem X13_parts {V : vV} {lf : Nat → Nat} (h : WF V) {M0 M : gM} (F : cvF M0 V lf) (hV : mV M = V) {t : Nat} (ht : t < vT V) (day : Int32) :
    s_X13_laysParts M (nI t) day ∧ mdS (f_X13_laysParts M (nI t) day) (vrun V lf t day) := by
  have h8 := h.T.2
  have h10 := h.P.2
  obtain ⟨s0, o10, o11⟩ := S0_ok h ht
  unfold s_X13_laysParts f_X13_laysParts
  refine lp (fun n k (s : gM) => f_X13_laysParts_2 (nI t) day n s (nI k)) (fun n k s => s_X13_laysParts_2 (nI t) day n s (nI k)) (fun k s => mV s = V ∧ ∀ h, h < k → rdJ s 97 0 0 h = 0 ∧ rdJ s 98 0 0 h = 1) (fun z => mdS z (vrun V lf t day)) 11 ?_ ?_ FU 0 M (Nat.zero_le _) (by rw [FU_eq]; omega) ⟨hV, fun h hh => absurd hh (Nat.not_lt_zero _)⟩
  · rintro n k s hk ⟨hs, hI⟩ ih
    have n10 : ¬ (10 : Int32) < nI k := nI_nlt (a := 10) (by omega) (by decide)
    have ik : vp_in (nI k) 11 := vpi (by omega)
    simp only [s_X13_laysParts_2, f_X13_laysParts_2, bnd, bndP, if_neg n10, ik, nn_nI (show k < 2 ^ 31 by omega), p1, true_and]
    refine ih _ ⟨by rw [mV_wrJ, mV_wrJ, hs], fun h hh => ?_⟩
    by_cases e : h = k
    · subst e
      exact ⟨by rw [rwJ, if_neg (by simp), rwJ, if_pos (by simp)], by rw [rwJ, if_pos (by simp)]⟩
    · exact ⟨by rw [rwJ, if_neg (by simp), rwJ, if_neg (by simp [e])]; exact (hI h (by omega)).1, by rw [rwJ, if_neg (by simp [e]), rwJ, if_neg (by simp)]; exact (hI h (by omega)).2⟩
  · rintro n s ⟨hs, hI⟩
    have i1 : vp_in (nI (34 + 3 * t)) 502 := vpi (by omega)
    have r88 : rdI s 88 0 0 (34 + 3 * t) = V.1 (34 + 3 * t) := by rw [x88, hs]
    have f4 : fr (wrJ s 97 0 0 (nn (V.1 (34 + 3 * t))) 1) (vS0 V t).1 (vS0 V t).2.1 := fun k hk => by
      show _ = lN (fN (if k = nn (V.1 (34 + 3 * t)) then 1 else 0) 1) ∧ _ = lN (fD (if k = nn (V.1 (34 + 3 * t)) then 1 else 0) 1)
      refine ⟨?_, ?_⟩
      · by_cases e : k = nn (V.1 (34 + 3 * t))
        · simp only [rwJ, e, and_self, if_true]; rfl
        · simp only [rwJ, e, and_false, if_false]; exact (hI k hk).1
      · have : rdJ (wrJ s 97 0 0 (nn (V.1 (34 + 3 * t))) 1) 98 0 0 k = rdJ s 98 0 0 k := by rw [rwJ]; exact if_neg (by omega)
        rw [this, (hI k hk).2]
        by_cases e : k = nn (V.1 (34 + 3 * t))
        · rw [if_pos e]; rfl
        · rw [if_neg e]; rfl
    have hV4 : mV (wrJ s 97 0 0 (nn (V.1 (34 + 3 * t))) 1) = V := by rw [mV_wrJ, hs]
    obtain ⟨a1, a2⟩ := X13_hold f4 s0.2.1 (fun k hk => ff11 s0.1 (by omega) s0.2.2.1 hk)
    generalize hM4 : wrJ s 97 0 0 (nn (V.1 (34 + 3 * t))) 1 = N4 at *
    have hV9 : mV (wrI (wrI (wrI (wrI N4 82 0 0 0 (vhold (vS0 V t).1)) 83 0 0 0 0) 84 0 0 0 (-2)) 85 0 0 0 0) = V := by rw [mV_wr (by omega), mV_wr (by omega), mV_wr (by omega), mV_wr (by omega), hV4]
    have m9 : mdS (wrI (wrI (wrI (wrI N4 82 0 0 0 (vhold (vS0 V t).1)) 83 0 0 0 0) 84 0 0 0 (-2)) 85 0 0 0 0) (vS0 V t) := ⟨f4, by
      rw [rwI, if_neg (by omega), rwI, if_neg (by omega), rwI, if_neg (by omega), rwI, if_pos (by simp)]; rfl, by
      rw [rwI, if_pos (by simp)]; rfl, by
      rw [rwI, if_neg (by omega), rwI, if_neg (by omega), rwI, if_pos (by simp)]; rfl, by
      rw [rwI, if_neg (by omega), rwI, if_pos (by simp)]; rfl⟩
    have nx := X13_next (M := wrI (wrI (wrI (wrI N4 82 0 0 0 (vhold (vS0 V t).1)) 83 0 0 0 0) 84 0 0 0 (-2)) 85 0 0 0 0) (by rw [hV9]; exact h) (last := none) (done := 0) (day := day) dn_0
    rw [hV9] at nx
    simp only [s_X13_laysParts_2, f_X13_laysParts_2, bnd, bndP, if_pos (show (10 : Int32) < nI 11 by decide), e34, i1, nn_nI (show 34 + 3 * t < 2 ^ 31 by omega), r88, o11, hM4, a1, a2, nx.1, nx.2, true_and]
    exact X13_go h F ht day 10 FU 0 _ 0 none _ (Nat.le_trans (fb_ct_le _ _) h10) (by rw [FU_eq]; omega) (by omega) (fun l hl => by cases hl) dn_0 hV9 m9 s0
end
