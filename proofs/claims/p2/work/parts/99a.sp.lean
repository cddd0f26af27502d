-- ONE STEP OF THE LAW
set_option linter.all false
noncomputable section
theorem p2_5 {M : gM} (h : I2 M) (a b c d e : Int32) : sL_5 M a b c d e I2 := by
  unfold sL_5
  have c1 := kc_thing h.1 a b
  obtain ⟨m1, m2⟩ := km_thing h.2.1 a b
  exact ⟨c1, m1, h.m m2 (o_X13_thing M a b) (by decide)⟩
theorem p2_6 {M : gM} (h : I2 M) (a b c d e : Int32) : sL_6 M a b c d e I2 := by
  unfold sL_6
  have c1 := kc_land h.1 a b
  obtain ⟨m1, m2⟩ := km_land h.2.1 a b
  exact ⟨c1, m1, h.m m2 (o_X13_land M a b) (by decide)⟩
theorem p2_7 {M : gM} (h : I2 M) (a b c d e : Int32) : sL_7 M a b c d e I2 := by
  unfold sL_7
  obtain ⟨c1, c2⟩ := kc_lose h.1 a b
  have h2 := h.c c2 (o_X12_lose M a b) (by decide)
  obtain ⟨m1, m2⟩ := km_lose h2.2.1 a b
  exact ⟨c1, m1, h2.m m2 (o_X13_lose _ a b) (by decide)⟩
theorem p2_8 {M : gM} (h : I2 M) (a b c d e : Int32) : sL_8 M a b c d e I2 := by
  unfold sL_8
  obtain ⟨c1, c2⟩ := kc_find h.1 a
  have h2 := h.c c2 (o_X12_find M a) (by decide)
  obtain ⟨m1, m2⟩ := km_find h2.2.1 a
  exact ⟨c1, m1, h2.m m2 (o_X13_find _ a) (by decide)⟩
theorem p2_9 {M : gM} (h : I2 M) (a b c d e : Int32) : sL_9 M a b c d e I2 := by
  unfold sL_9
  obtain ⟨c1, c2⟩ := kc_copy h.1 a
  have h2 := h.c c2 (o_X12_copy M a) (by decide)
  obtain ⟨m1, m2⟩ := km_copy h2.2.1 a
  exact ⟨c1, m1, h2.m m2 (o_X13_copy _ a) (by decide)⟩
theorem p2_10 {M : gM} (h : I2 M) (a b c d e : Int32) : sL_10 M a b c d e I2 := by
  unfold sL_10
  obtain ⟨c1, c2⟩ := kc_witness h.1 a b
  have h2 := h.c c2 (o_X12_witness M a b) (by decide)
  obtain ⟨m1, m2⟩ := km_witness h2.2.1 a b
  exact ⟨c1, m1, h2.m m2 (o_X13_witness _ a b) (by decide)⟩
theorem p2_11 {M : gM} (h : I2 M) (a b c d e : Int32) : sL_11 M a b c d e I2 := by
  unfold sL_11
  obtain ⟨c1, c2⟩ := kc_wed h.1 a b c
  have h2 := h.c c2 (o_X12_wed M a b c) (by decide)
  obtain ⟨m1, m2⟩ := km_wed h2.2.1 a b c
  exact ⟨c1, m1, h2.m m2 (o_X13_wed _ a b c) (by decide)⟩
theorem p2_12 {M : gM} (h : I2 M) (a b c d e : Int32) : sL_12 M a b c d e I2 := by
  unfold sL_12
  obtain ⟨c1, c2⟩ := kc_dies h.1 a b
  have h2 := h.c c2 (o_X12_dies M a b) (by decide)
  obtain ⟨m1, m2⟩ := km_dies h2.2.1 a b
  exact ⟨c1, m1, h2.m m2 (o_X13_dies _ a b) (by decide)⟩
theorem p2_13 {M : gM} (h : I2 M) (a b c d e : Int32) : sL_13 M a b c d e I2 := by
  unfold sL_13
  obtain ⟨c1, c2⟩ := kc_takeBack h.1 a
  have h2 := h.c c2 (o_X12_takeBack M a) (by decide)
  obtain ⟨m1, m2⟩ := km_takeBack h2.2.1 a
  exact ⟨c1, m1, h2.m m2 (o_X13_takeBack _ a) (by decide)⟩
theorem p2_15 {M : gM} (h : I2 M) (a b c d e : Int32) : sL_15 M a b c d e I2 := by
  unfold sL_15
  have c1 := kc_form h.1 a b
  obtain ⟨m1, m2⟩ := km_form h.2.1 a b
  exact ⟨c1, m1, h.m m2 (o_X13_form M a b) (by decide)⟩
theorem p2_16 {M : gM} (h : I2 M) (a b c d e : Int32) : sL_16 M a b c d e I2 := by
  unfold sL_16
  obtain ⟨c1, c2⟩ := kc_why h.1 a b
  have h2 := h.c c2 (o_X12_why M a b) (by decide)
  obtain ⟨m1, m2⟩ := km_why h2.2.1 a b
  exact ⟨c1, m1, h2.m m2 (o_X13_why _ a b) (by decide)⟩
theorem p2_17 {M : gM} (h : I2 M) (a b c d e : Int32) : sL_17 M a b c d e I2 := by
  unfold sL_17
  obtain ⟨c1, c2⟩ := kc_struckBy h.1 a b
  have h2 := h.c c2 (o_X12_struckBy M a b) (by decide)
  obtain ⟨m1, m2⟩ := km_struckBy h2.2.1 a b
  exact ⟨c1, m1, h2.m m2 (o_X13_struckBy _ a b) (by decide)⟩
theorem p2_18 {M : gM} (h : I2 M) (a b c d e : Int32) : sL_18 M a b c d e I2 := by
  unfold sL_18
  obtain ⟨c1, c2⟩ := kc_counting h.1 a b c
  have h2 := h.c c2 (o_X12_counting M a b c) (by decide)
  obtain ⟨m1, m2⟩ := km_counting h2.2.1 a b c
  exact ⟨c1, m1, h2.m m2 (o_X13_counting _ a b c) (by decide)⟩
theorem p2_19 {M : gM} (h : I2 M) (a b c d e : Int32) : sL_19 M a b c d e I2 := by
  unfold sL_19
  obtain ⟨c1, c2⟩ := kc_taker h.1 a b
  have h2 := h.c c2 (o_X12_taker M a b) (by decide)
  obtain ⟨m1, m2⟩ := km_taker h2.2.1 a b
  exact ⟨c1, m1, h2.m m2 (o_X13_taker _ a b) (by decide)⟩
theorem p2_20 {M : gM} (h : I2 M) (a b c d e : Int32) : sL_20 M a b c d e I2 := by
  unfold sL_20
  obtain ⟨c1, c2⟩ := kc_takerBy h.1 a b
  have h2 := h.c c2 (o_X12_takerBy M a b) (by decide)
  obtain ⟨m1, m2⟩ := km_takerBy_ h2.2.1 a b
  exact ⟨c1, m1, h2.m m2 (o_X13_takerBy_ _ a b) (by decide)⟩
theorem p2_21 {M : gM} (h : I2 M) (a b c d e : Int32) : sL_21 M a b c d e I2 := by
  unfold sL_21
  have c1 := kc_heirs h.1 a
  obtain ⟨m1, m2⟩ := km_heirs h.2.1 a
  exact ⟨c1, m1, h.m m2 (o_X13_heirs M a) (by decide)⟩
theorem p2_22 {M : gM} (h : I2 M) (a b c d e : Int32) : sL_22 M a b c d e I2 := by
  unfold sL_22
  obtain ⟨c1, c2⟩ := kc_has h.1 a b c d
  have h2 := h.c c2 (o_X12_has M a b c d) (by decide)
  obtain ⟨m1, m2⟩ := km_has_ h2.2.1 a b c d
  exact ⟨c1, m1, h2.m m2 (o_X13_has_ _ a b c d) (by decide)⟩
theorem p2_23 {M : gM} (h : I2 M) (a b c d e : Int32) : sL_23 M a b c d e I2 := by
  unfold sL_23
  obtain ⟨c1, c2⟩ := kc_holders h.1 a b
  have h2 := h.c c2 (o_X12_holders M a b) (by decide)
  obtain ⟨m1, m2⟩ := km_holders h2.2.1 a b
  exact ⟨c1, m1, h2.m m2 (o_X13_holders _ a b) (by decide)⟩
theorem p2_24 {M : gM} (h : I2 M) (a b c d e : Int32) : sL_24 M a b c d e I2 := by
  unfold sL_24
  obtain ⟨c1, c2⟩ := kc_wealth h.1 a
  have h2 := h.c c2 (o_X12_wealth M a) (by decide)
  obtain ⟨m1, m2⟩ := km_wealth h2.2.1 a
  exact ⟨c1, m1, h2.m m2 (o_X13_wealth _ a) (by decide)⟩
theorem p2_25 {M : gM} (h : I2 M) (a b c d e : Int32) : sL_25 M a b c d e I2 := by
  unfold sL_25
  obtain ⟨c1, c2⟩ := kc_ever h.1 a
  have h2 := h.c c2 (o_X12_ever M a) (by decide)
  obtain ⟨m1, m2⟩ := km_ever h2.2.1 a
  exact ⟨c1, m1, h2.m m2 (o_X13_ever _ a) (by decide)⟩
theorem p2_26 {M : gM} (h : I2 M) (a b c d e : Int32) : sL_26 M a b c d e I2 := by
  unfold sL_26
  obtain ⟨c1, c2⟩ := kc_gain h.1 a b
  have h2 := h.c c2 (o_X12_gain M a b) (by decide)
  obtain ⟨m1, m2⟩ := km_gain h2.2.1 a b
  exact ⟨c1, m1, h2.m m2 (o_X13_gain _ a b) (by decide)⟩
theorem p2_27 {M : gM} (h : I2 M) (a b c d e : Int32) : sL_27 M a b c d e I2 := by
  unfold sL_27
  obtain ⟨c1, c2⟩ := kc_against h.1 a b
  have h2 := h.c c2 (o_X12_against M a b) (by decide)
  obtain ⟨m1, m2⟩ := km_against h2.2.1 a b
  exact ⟨c1, m1, h2.m m2 (o_X13_against _ a b) (by decide)⟩
theorem p2_28 {M : gM} (h : I2 M) (a b c d e : Int32) : sL_28 M a b c d e I2 := by
  unfold sL_28
  obtain ⟨c1, c2⟩ := kc_key h.1 a
  have h2 := h.c c2 (o_X12_key M a) (by decide)
  obtain ⟨m1, m2⟩ := km_key h2.2.1 a
  exact ⟨c1, m1, h2.m m2 (o_X13_key _ a) (by decide)⟩
theorem p2_29 {M : gM} (h : I2 M) (a b c d e : Int32) : sL_29 M a b c d e I2 := by
  unfold sL_29
  obtain ⟨c1, c2⟩ := kc_wouldPaper h.1 a b c
  have h2 := h.c c2 (o_X12_wouldPaper M a b c) (by decide)
  obtain ⟨m1, m2⟩ := km_wouldPaper h2.2.1 a b c
  exact ⟨c1, m1, h2.m m2 (o_X13_wouldPaper _ a b c) (by decide)⟩
theorem p2_30 {M : gM} (h : I2 M) (a b c d e : Int32) : sL_30 M a b c d e I2 := by
  unfold sL_30
  obtain ⟨c1, c2⟩ := kc_wouldDie h.1 a b c
  have h2 := h.c c2 (o_X12_wouldDie M a b c) (by decide)
  obtain ⟨m1, m2⟩ := km_wouldDie h2.2.1 a b c
  exact ⟨c1, m1, h2.m m2 (o_X13_wouldDie _ a b c) (by decide)⟩
theorem p2_31 {M : gM} (h : I2 M) (a b c d e : Int32) : sL_31 M a b c d e I2 := by
  unfold sL_31
  obtain ⟨c1, c2⟩ := kc_dayFor h.1 a b c
  have h2 := h.c c2 (o_X12_dayFor M a b c) (by decide)
  obtain ⟨m1, m2⟩ := km_dayFor h2.2.1 a b c
  exact ⟨c1, m1, h2.m m2 (o_X13_dayFor _ a b c) (by decide)⟩
theorem p2_32 {M : gM} (h : I2 M) (a b c d e : Int32) : sL_32 M a b c d e I2 := by
  unfold sL_32
  have c1 := kc_margin h.1 a
  obtain ⟨m1, m2⟩ := km_margin h.2.1 a
  exact ⟨c1, m1, h.m m2 (o_X13_margin M a) (by decide)⟩
theorem p2_33 {M : gM} (h : I2 M) (a b c d e : Int32) : sL_33 M a b c d e I2 := by
  unfold sL_33
  obtain ⟨c1, c2⟩ := kc_death h.1 a b
  have h2 := h.c c2 (o_X12_death M a b) (by decide)
  obtain ⟨m1, m2⟩ := km_death h2.2.1 a b
  exact ⟨c1, m1, h2.m m2 (o_X13_death _ a b) (by decide)⟩
theorem p2_34 {M : gM} (h : I2 M) (a b c d e : Int32) : sL_34 M a b c d e I2 := by
  unfold sL_34
  obtain ⟨c1, c2⟩ := kc_moves h.1 a b
  have h2 := h.c c2 (o_X12_moves M a b) (by decide)
  obtain ⟨m1, m2⟩ := km_moves h2.2.1 a b
  exact ⟨c1, m1, h2.m m2 (o_X13_moves _ a b) (by decide)⟩
theorem p2_35 {M : gM} (h : I2 M) (a b c d e : Int32) : sL_35 M a b c d e I2 := by
  unfold sL_35
  have c1 := kc_kin h.1 a b
  obtain ⟨m1, m2⟩ := km_kin h.2.1 a b
  exact ⟨c1, m1, h.m m2 (o_X13_kin M a b) (by decide)⟩
theorem p2_36 {M : gM} (h : I2 M) (a b c d e : Int32) : sL_36 M a b c d e I2 := by
  unfold sL_36
  have c1 := kc_naming h.1 a b
  obtain ⟨m1, m2⟩ := km_naming h.2.1 a b
  exact ⟨c1, m1, h.m m2 (o_X13_naming M a b) (by decide)⟩
theorem p2_37 {M : gM} (h : I2 M) (a b c d e : Int32) : sL_37 M a b c d e I2 := by
  unfold sL_37
  have c1 := kc_sees h.1 a b c
  obtain ⟨m1, m2⟩ := km_sees h.2.1 a b c
  exact ⟨c1, m1, h.m m2 (o_X13_sees M a b c) (by decide)⟩
theorem p2_38 {M : gM} (h : I2 M) (a b c d e : Int32) : sL_38 M a b c d e I2 := by
  unfold sL_38
  have c1 := kc_give h.1 a b c
  obtain ⟨m1, m2⟩ := km_give h.2.1 a b c
  exact ⟨c1, m1, h.m m2 (o_X13_give M a b c) (by decide)⟩
theorem p2_39 {M : gM} (h : I2 M) (a b c d e : Int32) : sL_39 M a b c d e I2 := by
  unfold sL_39
  have c1 := kc_count h.1 a
  obtain ⟨m1, m2⟩ := km_count h.2.1 a
  exact ⟨c1, m1, h.m m2 (o_X13_count M a) (by decide)⟩
theorem p2_14 {M : gM} (h : I2 M) (a b c d e : Int32) : sL_14 M a b c d e I2 := by
  unfold sL_14
  obtain ⟨c1, c2⟩ := kc_undo h.1
  have h2 := h.c c2 (o_X12_undo M) (by decide)
  obtain ⟨m1, m2⟩ := km_undo h2.2.1
  exact ⟨c1, m1, h2.m m2 (o_X13_undo _) (by decide)⟩
theorem I2.out {M : gM} (h : I2 M) (z : Int32 × Int32) : I2 (pOut M z) := by
  unfold pOut
  split
  · exact h.m (h.2.1.off (W := [100]) (offW.wJ offR (by decide)) (by decide) (by decide)) (W := [100]) (offW.wJ offR (by decide)) (by decide)
  · exact h
theorem p2_3 {M : gM} (h : I2 M) (a b c d e : Int32) : sL_3 M a b c d e I2 := by
  unfold sL_3
  have c1 := kc_person h.1 a b
  have h2 := h.out (f_X12_person M a b)
  obtain ⟨m1, m2⟩ := km_person h2.2.1 a b
  exact ⟨c1, m1, h2.m m2 (o_X13_person _ a b) (by decide)⟩
theorem p2_4 {M : gM} (h : I2 M) (a b c d e : Int32) : sL_4 M a b c d e I2 := by
  unfold sL_4
  have c1 := kc_paper h.1 a b
  have h2 := h.out (f_X12_paper M a b)
  obtain ⟨m1, m2⟩ := km_paper h2.2.1 a b
  exact ⟨c1, m1, h2.m m2 (o_X13_paper _ a b) (by decide)⟩
theorem p2_2 {M : gM} (h : I2 M) (a b c d e : Int32) : sL_2 M a b c d e I2 := by
  unfold sL_2
  refine ⟨?_, ?_, h.m (h.2.1.off (o_X13_fault M a) (by decide) (by decide)) (o_X13_fault M a) (by decide)⟩
  · unfold s_X12_fault; split <;> first | trivial | (split <;> trivial)
  · simp only [s_X13_fault, bndP]; split <;> first | trivial | (split <;> trivial)
theorem p2_0 {M : gM} (h : I2 M) (a b c d e : Int32) : sL_0 M a b c d e I2 := by
  unfold sL_0
  obtain ⟨hc, hm, L, hL, tc, tm⟩ := h
  obtain ⟨c1, l1, g1, g2, g3, g4⟩ := D_feed tc hL a b c d e
  have oc := o_X12_feed M a b c d e
  have hc2 := hc.off oc (by decide)
  have hm2 := hm.off oc (by decide) (by decide)
  have tm2 := tm.off oc (by decide)
  generalize f_X12_feed M a b c d e = z at *
  obtain ⟨m1, l2, k1, k2, k3, k4⟩ := E_feed tm2 hL a b c d e
  have om := o_X13_feed z.2 a b c d e
  refine ⟨c1, m1, g3.trans k3.symm, hc2.off om (by decide), hm2.off om (by decide) (by decide), l1, g1, g2.off om (by decide), ?_⟩
  rw [g4, ← k4]
  exact k2
theorem p2_1 {M : gM} (h : I2 M) (a b c d e : Int32) : sL_1 M a b c d e I2 := by
  unfold sL_1
  obtain ⟨hc, hm, L, hL, tc, tm⟩ := h
  obtain ⟨c1, c2, c3⟩ := K_text hc hL tc a
  have oc := o_X12_text M a
  have hm2 := hm.off oc (by decide) (by decide)
  have tm2 := tm.off oc (by decide)
  generalize f_X12_text M a = z at *
  obtain ⟨m1, m2, m3⟩ := R_text hm2 hL tm2 a
  have om := o_X13_text z.2 a
  refine ⟨c1, m1, c2.off om (by decide), m2, _, ?_, c3.off om (by decide), m3⟩
  split
  · exact hL
  · split <;> omega
theorem I2_step {M : gM} (h : I2 M) (x a b c d e : Int32) : stepL M x a b c d e I2 := by
  unfold stepL
  exact ⟨fun _ => p2_0 h a b c d e, fun _ => p2_1 h a b c d e, fun _ => p2_2 h a b c d e, fun _ => p2_3 h a b c d e, fun _ => p2_4 h a b c d e, fun _ => p2_5 h a b c d e, fun _ => p2_6 h a b c d e, fun _ => p2_7 h a b c d e, fun _ => p2_8 h a b c d e, fun _ => p2_9 h a b c d e, fun _ => p2_10 h a b c d e, fun _ => p2_11 h a b c d e, fun _ => p2_12 h a b c d e, fun _ => p2_13 h a b c d e, fun _ => p2_14 h a b c d e, fun _ => p2_15 h a b c d e, fun _ => p2_16 h a b c d e, fun _ => p2_17 h a b c d e, fun _ => p2_18 h a b c d e, fun _ => p2_19 h a b c d e, fun _ => p2_20 h a b c d e, fun _ => p2_21 h a b c d e, fun _ => p2_22 h a b c d e, fun _ => p2_23 h a b c d e, fun _ => p2_24 h a b c d e, fun _ => p2_25 h a b c d e, fun _ => p2_26 h a b c d e, fun _ => p2_27 h a b c d e, fun _ => p2_28 h a b c d e, fun _ => p2_29 h a b c d e, fun _ => p2_30 h a b c d e, fun _ => p2_31 h a b c d e, fun _ => p2_32 h a b c d e, fun _ => p2_33 h a b c d e, fun _ => p2_34 h a b c d e, fun _ => p2_35 h a b c d e, fun _ => p2_36 h a b c d e, fun _ => p2_37 h a b c d e, fun _ => p2_38 h a b c d e, fun _ => p2_39 h a b c d e, fun _ _ _ _ _ _ _ _ _ _ _ _ _ _ _ _ _ _ _ _ _ _ _ _ _ _ _ _ _ _ _ _ _ _ _ _ _ _ _ _ => h⟩
end
