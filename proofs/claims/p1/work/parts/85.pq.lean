set_option linter.all false
noncomputable section
theorem At.step {M : gM} {V : vV} {lf : Nat → Nat} (h : At M V lf) {N : gM} (c : CV N V lf) {W : List Nat} (o : offW W M N) (k2 : W.all (fun g => g != 88 && g != 90 && g != 92) = true) : At N V lf := ⟨c, by rw [mV_off o k2]; exact h.2.1, h.2.2⟩
def pTr : gM → Prop := fun _ => True
theorem p1_2 {M : gM} {V : vV} {lf : Nat → Nat} (h1 : rdI M 1 0 0 0 = rdI M 78 0 0 0) (h2 : rdI M 2 0 0 0 = rdI M 79 0 0 0) (a b c d e : Int32) : sL_2 M a b c d e pTr := by
  unfold sL_2
  refine ⟨?_, ?_, ?_, trivial⟩
  · unfold s_X12_fault; split <;> first | trivial | (split <;> trivial)
  · simp only [s_X13_fault, bndP]; split <;> first | trivial | (split <;> trivial)
  · simp only [f_X12_fault, f_X13_fault, bnd]
    by_cases e0 : a = 0
    · simp only [if_pos e0]; rw [h1]; simp [rwI]
    · by_cases e1 : a = 1
      · simp only [if_neg e0, if_pos e1]; rw [h2]; simp [rwI]
      · simp only [if_neg e0, if_neg e1]
theorem pOut_At_person {M : gM} {V : vV} {lf : Nat → Nat} (h : At M V lf) (z : Int32 × Int32) : At (pOut M z) V lf := by
  unfold pOut
  split
  · exact h.off (W := [100]) (offW.wJ offR (by decide)) (by decide) (by decide)
  · exact h
theorem p1_3 {M : gM} {V : vV} {lf : Nat → Nat} (h : At M V lf) (a b c d e : Int32) : sL_3 M a b c d e pTr := by
  unfold sL_3
  obtain ⟨c1, c2⟩ := qC_per h a b
  have h2 := pOut_At_person h (f_X12_person M a b)
  obtain ⟨m1, m2⟩ := qM_per h2 a b
  have e1 : (f_X12_person M a b).1 = rdI (f_X13_person (pOut M (f_X12_person M a b)) a b).2 67 0 0 0 := congrArg Prod.fst (c2.trans m2.symm)
  have e2 : (f_X12_person M a b).2 = (f_X13_person (pOut M (f_X12_person M a b)) a b).1 := congrArg Prod.snd (c2.trans m2.symm)
  refine ⟨c1, m1, trivial, e1.symm, fun hz => ?_, trivial⟩
  rw [← e2]
  have o9 := (o_X13_person (pOut M (f_X12_person M a b)) a b 100 0 0 (nn 0) (by decide)).2
  rw [o9]
  unfold pOut
  rw [if_pos hz, rwJ, if_pos (by decide)]
theorem p1_4 {M : gM} {V : vV} {lf : Nat → Nat} (h : At M V lf) (a b c d e : Int32) : sL_4 M a b c d e pTr := by
  unfold sL_4
  obtain ⟨c1, c2⟩ := qC_pap h a b
  have h2 := pOut_At_person h (f_X12_paper M a b)
  obtain ⟨m1, m2⟩ := qM_pap h2 a b
  have e1 : (f_X12_paper M a b).1 = rdI (f_X13_paper (pOut M (f_X12_paper M a b)) a b).2 67 0 0 0 := congrArg Prod.fst (c2.trans m2.symm)
  have e2 : (f_X12_paper M a b).2 = (f_X13_paper (pOut M (f_X12_paper M a b)) a b).1 := congrArg Prod.snd (c2.trans m2.symm)
  refine ⟨c1, m1, trivial, e1.symm, fun hz => ?_, trivial⟩
  rw [← e2]
  have o9 := (o_X13_paper (pOut M (f_X12_paper M a b)) a b 100 0 0 (nn 0) (by decide)).2
  rw [o9]
  unfold pOut
  rw [if_pos hz, rwJ, if_pos (by decide)]
theorem p1_5 {M : gM} {V : vV} {lf : Nat → Nat} (h : At M V lf) (a b c d e : Int32) : sL_5 M a b c d e pTr := by
  unfold sL_5
  obtain ⟨c1, c2⟩ := qC_thi h a b
  have h2 := h
  obtain ⟨m1, m2⟩ := qM_thi h2 a b
  exact ⟨c1, m1, c2.trans m2.symm, trivial⟩
theorem p1_6 {M : gM} {V : vV} {lf : Nat → Nat} (h : At M V lf) (a b c d e : Int32) : sL_6 M a b c d e pTr := by
  unfold sL_6
  obtain ⟨c1, c2⟩ := qC_lan h a b
  have h2 := h
  obtain ⟨m1, m2⟩ := qM_lan h2 a b
  exact ⟨c1, m1, c2.trans m2.symm, trivial⟩
theorem p1_7 {M : gM} {V : vV} {lf : Nat → Nat} {n x : Nat} {E : Nat → hE} {R : Nat → Nat → Int32} (h : At M V lf) (ch : CH M n x E) (mh : MH M n R) (a b c d e : Int32) : sL_7 M a b c d e pTr := by
  unfold sL_7
  obtain ⟨c1, c2⟩ := C_los h.1 h.2.2 ch a b
  have oo := o_X12_lose M a b
  obtain ⟨m1, m2⟩ := M_los (by rw [mV_off oo (by decide)]; exact h.2.1) h.2.2 (mh.off oo (by decide)) a b
  exact ⟨c1, m1, c2.1.trans m2.1.symm, trivial⟩
theorem p1_8 {M : gM} {V : vV} {lf : Nat → Nat} {n x : Nat} {E : Nat → hE} {R : Nat → Nat → Int32} (h : At M V lf) (ch : CH M n x E) (mh : MH M n R) (a b c d e : Int32) : sL_8 M a b c d e pTr := by
  unfold sL_8
  obtain ⟨c1, c2⟩ := C_fin h.1 h.2.2 ch a
  have oo := o_X12_find M a
  obtain ⟨m1, m2⟩ := M_fin (by rw [mV_off oo (by decide)]; exact h.2.1) h.2.2 (mh.off oo (by decide)) a
  exact ⟨c1, m1, c2.1.trans m2.1.symm, trivial⟩
theorem p1_9 {M : gM} {V : vV} {lf : Nat → Nat} {n x : Nat} {E : Nat → hE} {R : Nat → Nat → Int32} (h : At M V lf) (ch : CH M n x E) (mh : MH M n R) (a b c d e : Int32) : sL_9 M a b c d e pTr := by
  unfold sL_9
  obtain ⟨c1, c2⟩ := C_cop h.1 h.2.2 ch a
  have oo := o_X12_copy M a
  obtain ⟨m1, m2⟩ := M_cop (by rw [mV_off oo (by decide)]; exact h.2.1) h.2.2 (mh.off oo (by decide)) a
  exact ⟨c1, m1, c2.1.trans m2.1.symm, trivial⟩
theorem p1_10 {M : gM} {V : vV} {lf : Nat → Nat} {n x : Nat} {E : Nat → hE} {R : Nat → Nat → Int32} (h : At M V lf) (ch : CH M n x E) (mh : MH M n R) (a b c d e : Int32) : sL_10 M a b c d e pTr := by
  unfold sL_10
  obtain ⟨c1, c2⟩ := C_wit h.1 h.2.2 ch a b
  have oo := o_X12_witness M a b
  obtain ⟨m1, m2⟩ := M_wit (by rw [mV_off oo (by decide)]; exact h.2.1) h.2.2 (mh.off oo (by decide)) a b
  exact ⟨c1, m1, c2.1.trans m2.1.symm, trivial⟩
theorem p1_11 {M : gM} {V : vV} {lf : Nat → Nat} {n x : Nat} {E : Nat → hE} {R : Nat → Nat → Int32} (h : At M V lf) (ch : CH M n x E) (mh : MH M n R) (a b c d e : Int32) : sL_11 M a b c d e pTr := by
  unfold sL_11
  obtain ⟨c1, c2⟩ := C_wed h.1 h.2.2 ch a b c
  have oo := o_X12_wed M a b c
  obtain ⟨m1, m2⟩ := M_wed (by rw [mV_off oo (by decide)]; exact h.2.1) h.2.2 (mh.off oo (by decide)) a b c
  exact ⟨c1, m1, c2.1.trans m2.1.symm, trivial⟩
theorem p1_12 {M : gM} {V : vV} {lf : Nat → Nat} {n x : Nat} {E : Nat → hE} {R : Nat → Nat → Int32} (h : At M V lf) (ch : CH M n x E) (mh : MH M n R) (a b c d e : Int32) : sL_12 M a b c d e pTr := by
  unfold sL_12
  obtain ⟨c1, c2⟩ := C_die h.1 h.2.2 ch a b
  have oo := o_X12_dies M a b
  obtain ⟨m1, m2⟩ := M_die (by rw [mV_off oo (by decide)]; exact h.2.1) h.2.2 (mh.off oo (by decide)) a b
  exact ⟨c1, m1, c2.1.trans m2.1.symm, trivial⟩
theorem p1_13 {M : gM} {V : vV} {lf : Nat → Nat} {n x : Nat} {E : Nat → hE} {R : Nat → Nat → Int32} (h : At M V lf) (ch : CH M n x E) (mh : MH M n R) (a b c d e : Int32) : sL_13 M a b c d e pTr := by
  unfold sL_13
  obtain ⟨c1, c2⟩ := C_tkb h.1 h.2.2 ch a
  have oo := o_X12_takeBack M a
  obtain ⟨m1, m2⟩ := M_tkb (by rw [mV_off oo (by decide)]; exact h.2.1) h.2.2 (mh.off oo (by decide)) a
  exact ⟨c1, m1, c2.1.trans m2.1.symm, trivial⟩
theorem p1_14 {M : gM} {V : vV} {lf : Nat → Nat} {x : Nat} {E : Nat → hE} {R : Nat → Nat → Int32} (ch : CH M 0 x E) (mh : MH M 0 R) (a b c d e : Int32) : sL_14 M a b c d e pTr := by
  unfold sL_14
  obtain ⟨c1, c2⟩ := C_und0 ch
  obtain ⟨m1, m2⟩ := M_und0 mh
  rw [c2]
  exact ⟨c1, m1, by rw [m2], trivial⟩
theorem p1_15 {M : gM} {V : vV} {lf : Nat → Nat} (h : At M V lf) (a b c d e : Int32) : sL_15 M a b c d e pTr := by
  unfold sL_15
  obtain ⟨c1, c2⟩ := qC_form h a b
  have h2 := h
  obtain ⟨m1, m2⟩ := qM_form h2 a b
  exact ⟨c1, m1, c2.trans m2.symm, trivial⟩
theorem p1_16 {M : gM} {V : vV} {lf : Nat → Nat} (h : At M V lf) (a b c d e : Int32) : sL_16 M a b c d e pTr := by
  unfold sL_16
  obtain ⟨c1, c2⟩ := qC_why h a b
  have h2 := h.off (o_X12_why M a b) (by decide) (by decide)
  obtain ⟨m1, m2⟩ := qM_why h2 a b
  exact ⟨c1, m1, c2.trans m2.symm, trivial⟩
theorem p1_17 {M : gM} {V : vV} {lf : Nat → Nat} (h : At M V lf) (a b c d e : Int32) : sL_17 M a b c d e pTr := by
  unfold sL_17
  obtain ⟨c1, c2⟩ := qC_sby h a b
  have h2 := h.off (o_X12_struckBy M a b) (by decide) (by decide)
  obtain ⟨m1, m2⟩ := qM_sby h2 a b
  exact ⟨c1, m1, c2.trans m2.symm, trivial⟩
theorem p1_18 {M : gM} {V : vV} {lf : Nat → Nat} (h : At M V lf) (a b c d e : Int32) : sL_18 M a b c d e pTr := by
  unfold sL_18
  obtain ⟨c1, c2⟩ := qC_cnt h a b c
  have h2 := h.off (o_X12_counting M a b c) (by decide) (by decide)
  obtain ⟨m1, m2⟩ := qM_cnt h2 a b c
  exact ⟨c1, m1, c2.trans m2.symm, trivial⟩
theorem p1_19 {M : gM} {V : vV} {lf : Nat → Nat} (h : At M V lf) (a b c d e : Int32) : sL_19 M a b c d e pTr := by
  unfold sL_19
  obtain ⟨c1, c2⟩ := (qC_tak h a b).1
  have h2 := h.off (o_X12_taker M a b) (by decide) (by decide)
  obtain ⟨m1, m2⟩ := (qM_tak h2 a b).1
  exact ⟨c1, m1, c2.trans m2.symm, trivial⟩
theorem p1_20 {M : gM} {V : vV} {lf : Nat → Nat} (h : At M V lf) (a b c d e : Int32) : sL_20 M a b c d e pTr := by
  unfold sL_20
  obtain ⟨c1, c2⟩ := (qC_tak h a b).2
  have h2 := h.off (o_X12_takerBy M a b) (by decide) (by decide)
  obtain ⟨m1, m2⟩ := (qM_tak h2 a b).2
  exact ⟨c1, m1, c2.trans m2.symm, trivial⟩
theorem p1_21 {M : gM} {V : vV} {lf : Nat → Nat} (h : At M V lf) (a b c d e : Int32) : sL_21 M a b c d e pTr := by
  unfold sL_21
  obtain ⟨c1, c2⟩ := qC_heirs h a
  have h2 := h
  obtain ⟨m1, m2⟩ := qM_heirs h2 a
  exact ⟨c1, m1, c2.trans m2.symm, trivial⟩
theorem p1_22 {M : gM} {V : vV} {lf : Nat → Nat} (h : At M V lf) (a b c d e : Int32) : sL_22 M a b c d e pTr := by
  unfold sL_22
  obtain ⟨c1, c2⟩ := qC_has h a b c d
  have h2 := h.off (o_X12_has M a b c d) (by decide) (by decide)
  obtain ⟨m1, m2⟩ := qM_has h2 a b c d
  exact ⟨c1, m1, c2.trans m2.symm, trivial⟩
theorem p1_23 {M : gM} {V : vV} {lf : Nat → Nat} (h : At M V lf) (a b c d e : Int32) : sL_23 M a b c d e pTr := by
  unfold sL_23
  obtain ⟨c1, c2⟩ := qC_hol h a b
  have h2 := h.off (o_X12_holders M a b) (by decide) (by decide)
  obtain ⟨m1, m2⟩ := qM_hol h2 a b
  exact ⟨c1, m1, c2.trans m2.symm, trivial⟩
theorem p1_24 {M : gM} {V : vV} {lf : Nat → Nat} (h : At M V lf) (a b c d e : Int32) : sL_24 M a b c d e pTr := by
  unfold sL_24
  obtain ⟨c1, c2⟩ := qC_wea h a
  have h2 := h.off (o_X12_wealth M a) (by decide) (by decide)
  obtain ⟨m1, m2⟩ := qM_wea h2 a
  exact ⟨c1, m1, c2.trans m2.symm, trivial⟩
theorem p1_25 {M : gM} {V : vV} {lf : Nat → Nat} (h : At M V lf) (a b c d e : Int32) : sL_25 M a b c d e pTr := by
  unfold sL_25
  obtain ⟨c1, c2⟩ := qC_eve h a
  have h2 := h.off (o_X12_ever M a) (by decide) (by decide)
  obtain ⟨m1, m2⟩ := qM_eve h2 a
  exact ⟨c1, m1, c2.trans m2.symm, trivial⟩
theorem p1_26 {M : gM} {V : vV} {lf : Nat → Nat} (h : At M V lf) (a b c d e : Int32) : sL_26 M a b c d e pTr := by
  unfold sL_26
  obtain ⟨c1, c2, c3⟩ := qC_gai h a b
  have h2 := At.step h c3 (o_X12_gain M a b) (by decide)
  obtain ⟨m1, m2, -⟩ := qM_gai h2 a b
  exact ⟨c1, m1, c2.trans m2.symm, trivial⟩
theorem p1_27 {M : gM} {V : vV} {lf : Nat → Nat} (h : At M V lf) (a b c d e : Int32) : sL_27 M a b c d e pTr := by
  unfold sL_27
  obtain ⟨c1, c2, c3⟩ := qC_aga h a b
  have h2 := At.step h c3 (o_X12_against M a b) (by decide)
  obtain ⟨m1, m2, -⟩ := qM_aga h2 a b
  exact ⟨c1, m1, c2.trans m2.symm, trivial⟩
theorem p1_28 {M : gM} {V : vV} {lf : Nat → Nat} (h : At M V lf) (a b c d e : Int32) : sL_28 M a b c d e pTr := by
  unfold sL_28
  obtain ⟨c1, c2, c3⟩ := qC_key h a
  have h2 := At.step h c3 (o_X12_key M a) (by decide)
  obtain ⟨m1, m2, -⟩ := qM_key h2 a
  exact ⟨c1, m1, c2.trans m2.symm, trivial⟩
theorem p1_29 {M : gM} {V : vV} {lf : Nat → Nat} (h : At M V lf) (a b c d e : Int32) : sL_29 M a b c d e pTr := by
  unfold sL_29
  obtain ⟨c1, c2, c3⟩ := qC_wpa h a b c
  have h2 := At.step h c3 (o_X12_wouldPaper M a b c) (by decide)
  obtain ⟨m1, m2, -⟩ := qM_wpa h2 a b c
  exact ⟨c1, m1, c2.trans m2.symm, trivial⟩
theorem p1_30 {M : gM} {V : vV} {lf : Nat → Nat} (h : At M V lf) (a b c d e : Int32) : sL_30 M a b c d e pTr := by
  unfold sL_30
  obtain ⟨c1, c2, c3⟩ := qC_wdi h a b c
  have h2 := At.step h c3 (o_X12_wouldDie M a b c) (by decide)
  obtain ⟨m1, m2, -⟩ := qM_wdi h2 a b c
  exact ⟨c1, m1, c2.trans m2.symm, trivial⟩
theorem p1_31 {M : gM} {V : vV} {lf : Nat → Nat} (h : At M V lf) (a b c d e : Int32) : sL_31 M a b c d e pTr := by
  unfold sL_31
  obtain ⟨⟨c1, c3⟩, -, -⟩ := q_day h h a b c
  have h2 := At.step h c3 (o_X12_dayFor M a b c) (by decide)
  obtain ⟨-, ⟨m1, -⟩, e⟩ := q_day h h2 a b c
  exact ⟨c1, m1, e, trivial⟩
theorem p1_32 {M : gM} {V : vV} {lf : Nat → Nat} (h : At M V lf) (a b c d e : Int32) : sL_32 M a b c d e pTr := by
  unfold sL_32
  obtain ⟨c1, c2⟩ := qC_mar h a
  have h2 := h
  obtain ⟨m1, m2⟩ := qM_mar h2 a
  exact ⟨c1, m1, c2.trans m2.symm, trivial⟩
theorem p1_33 {M : gM} {V : vV} {lf : Nat → Nat} (h : At M V lf) (a b c d e : Int32) : sL_33 M a b c d e pTr := by
  unfold sL_33
  obtain ⟨c1, c2⟩ := qC_dea h a b
  have h2 := h.off (o_X12_death M a b) (by decide) (by decide)
  obtain ⟨m1, m2⟩ := qM_dea h2 a b
  exact ⟨c1, m1, c2.trans m2.symm, trivial⟩
theorem p1_34 {M : gM} {V : vV} {lf : Nat → Nat} (h : At M V lf) (a b c d e : Int32) : sL_34 M a b c d e pTr := by
  unfold sL_34
  obtain ⟨c1, c2⟩ := qC_mov h a b
  have h2 := h.off (o_X12_moves M a b) (by decide) (by decide)
  obtain ⟨m1, m2⟩ := qM_mov h2 a b
  exact ⟨c1, m1, c2.trans m2.symm, trivial⟩
theorem p1_35 {M : gM} {V : vV} {lf : Nat → Nat} (h : At M V lf) (a b c d e : Int32) : sL_35 M a b c d e pTr := by
  unfold sL_35
  obtain ⟨c1, c2⟩ := qC_kin h a b
  have h2 := h
  obtain ⟨m1, m2⟩ := qM_kin h2 a b
  exact ⟨c1, m1, c2.trans m2.symm, trivial⟩
theorem p1_36 {M : gM} {V : vV} {lf : Nat → Nat} (h : At M V lf) (a b c d e : Int32) : sL_36 M a b c d e pTr := by
  unfold sL_36
  obtain ⟨c1, c2⟩ := qC_nam h a b
  have h2 := h
  obtain ⟨m1, m2⟩ := qM_nam h2 a b
  exact ⟨c1, m1, c2.trans m2.symm, trivial⟩
theorem p1_37 {M : gM} {V : vV} {lf : Nat → Nat} (h : At M V lf) (a b c d e : Int32) : sL_37 M a b c d e pTr := by
  unfold sL_37
  obtain ⟨c1, c2⟩ := qC_see h a b c
  have h2 := h
  obtain ⟨m1, m2⟩ := qM_see h2 a b c
  exact ⟨c1, m1, c2.trans m2.symm, trivial⟩
theorem p1_38 {M : gM} {V : vV} {lf : Nat → Nat} (h : At M V lf) (a b c d e : Int32) : sL_38 M a b c d e pTr := by
  unfold sL_38
  obtain ⟨c1, c2⟩ := qC_giv h a b c
  have h2 := h
  obtain ⟨m1, m2⟩ := qM_giv h2 a b c
  exact ⟨c1, m1, c2.trans m2.symm, trivial⟩
theorem p1_39 {M : gM} {V : vV} {lf : Nat → Nat} (h : At M V lf) (h1 : rdI M 63 0 0 0 = rdI M 69 0 0 0) (h2 : rdI M 0 0 0 0 = rdI M 68 0 0 0) (a b c d e : Int32) : sL_39 M a b c d e pTr := by
  unfold sL_39
  obtain ⟨c1, c2⟩ := qC_cou h a
  obtain ⟨m1, m2⟩ := qM_cou h a
  exact ⟨c1, m1, by rw [c2, m2, h1, h2], trivial⟩
end
