set_option linter.all false
noncomputable section
def pOut (M : gM) (z : Int32 × Int32) : gM := if z.1 = 0 then wrJ M 100 0 0 0 z.2.toInt64 else M
theorem hw_person : Cond.codeWith yL_person cL_person 5 (some .int) hhL ∈ gtbl := (gtbl_t tbin5 222 rfl rfl)
theorem hw1_person : Cond.static yL_person ∈ gtbl := (gtbl_t tbin5 221 rfl rfl)
theorem hsg_person : (parseMethodDescriptor yL_person.desc).map (fun d => d.parameters.length) = some 4 := by decide +kernel
set_option maxRecDepth 100000 in
set_option maxHeartbeats 4000000 in
theorem ch_person (E : gE) (M : gM) (a b : Int32) (hs : s_X12_person M a b) : gC1 E yL_person cL_person 5 (some .int) (rmx 13) [.ref (gla E 0), .int a, .int b, .ref (gla E 240)] M (fun o N => o = some (.int (f_X12_person M a b).1) ∧ N = pOut M (f_X12_person M a b)) := by
  refine gC1.of (lv := [(0, .ref (gla E 0)), (1, .int a), (2, .int b), (3, .ref (gla E 240))]) (by decide +kernel) (Nat.le_of_ble_eq_true rfl) rfl ?_
  refine g_aload_n 3 dL_person_0 rfl ?_
  refine g_iconst (v := 0) dL_person_1 (by decide) ?_
  refine g_aload_n 0 dL_person_2 rfl ?_
  refine g_iload_n 1 dL_person_3 rfl ?_
  refine g_iload_n 2 dL_person_4 rfl ?_
  refine g_callX (As := [.int a, .int b]) (st := [.int 0, .ref (gla E 240)]) 0 rfl (by decide) (c_X12_person E M a b hs) mt_X12_person ml_L_7 dF_Wd rfl rfl (gtbl_t tbin5 223 rfl rfl) (gtbl_t tbin5 224 rfl rfl) sg_X12_person rfl ⟨by decide, by decide, by decide, by decide⟩ (Nat.le_of_ble_eq_true rfl) dL_person_5 (fun Y N h => by rcases h.2 with ⟨h, -⟩ | ⟨h, -⟩; exact Or.inl h; exact Or.inr h) (fun r N h => ?_) (fun N q h => ?_) (fun N q h => ?_)
  · obtain ⟨v, hv, rfl, rfl⟩ := h
    refine g_i2l dL_person_8 ?_
    refine g_last 240 dF_out (vpD (by decide)) dL_person_9 (fun M1 hM => ?_)
    refine g_goto 21 dL_person_10 (by decide) ?_
    refine g_iconst (v := 0) dL_person_21 (by decide) ?_
    exact g_hret ⟨by decide, by decide⟩ rfl dL_person_22 ⟨by rw [hv], by rw [hM, hv]; rfl⟩
  · obtain ⟨rfl, h | h⟩ := h
    · refine g_astore [(4, .ref q), (0, .ref (gla E 0)), (1, .int a), (2, .int b), (3, .ref (gla E 240))] dL_person_13 (by decide) rfl ?_
      refine g_iconst (v := 1) dL_person_15 (by decide) ?_
      exact g_hret ⟨by decide, by decide⟩ rfl dL_person_16 ⟨by rw [h.2], by unfold pOut; rw [if_neg (by rw [h.2]; decide)]⟩
    · exact absurd h.1 (by decide)
  · obtain ⟨rfl, h | h⟩ := h
    · exact absurd h.1 (by decide)
    · refine g_astore [(4, .ref q), (0, .ref (gla E 0)), (1, .int a), (2, .int b), (3, .ref (gla E 240))] dL_person_17 (by decide) rfl ?_
      refine g_iconst (v := 2) dL_person_19 (by decide) ?_
      exact g_hret ⟨by decide, by decide⟩ rfl dL_person_20 ⟨by rw [h.2], by unfold pOut; rw [if_neg (by rw [h.2]; decide)]⟩
theorem hw_paper : Cond.codeWith yL_paper cL_paper 5 (some .int) hhL ∈ gtbl := (gtbl_t tbin6 75 rfl rfl)
theorem hw1_paper : Cond.static yL_paper ∈ gtbl := (gtbl_t tbin6 74 rfl rfl)
theorem hsg_paper : (parseMethodDescriptor yL_paper.desc).map (fun d => d.parameters.length) = some 4 := by decide +kernel
set_option maxRecDepth 100000 in
set_option maxHeartbeats 4000000 in
theorem ch_paper (E : gE) (M : gM) (a b : Int32) (hs : s_X12_paper M a b) : gC1 E yL_paper cL_paper 5 (some .int) (rmx 13) [.ref (gla E 0), .int a, .int b, .ref (gla E 240)] M (fun o N => o = some (.int (f_X12_paper M a b).1) ∧ N = pOut M (f_X12_paper M a b)) := by
  refine gC1.of (lv := [(0, .ref (gla E 0)), (1, .int a), (2, .int b), (3, .ref (gla E 240))]) (by decide +kernel) (Nat.le_of_ble_eq_true rfl) rfl ?_
  refine g_aload_n 3 dL_paper_0 rfl ?_
  refine g_iconst (v := 0) dL_paper_1 (by decide) ?_
  refine g_aload_n 0 dL_paper_2 rfl ?_
  refine g_iload_n 1 dL_paper_3 rfl ?_
  refine g_iload_n 2 dL_paper_4 rfl ?_
  refine g_callX (As := [.int a, .int b]) (st := [.int 0, .ref (gla E 240)]) 0 rfl (by decide) (c_X12_paper E M a b hs) mt_X12_paper ml_L_17 dF_Wd rfl rfl (gtbl_t tbin5 223 rfl rfl) (gtbl_t tbin5 224 rfl rfl) sg_X12_paper rfl ⟨by decide, by decide, by decide, by decide⟩ (Nat.le_of_ble_eq_true rfl) dL_paper_5 (fun Y N h => by rcases h.2 with ⟨h, -⟩ | ⟨h, -⟩; exact Or.inl h; exact Or.inr h) (fun r N h => ?_) (fun N q h => ?_) (fun N q h => ?_)
  · obtain ⟨v, hv, rfl, rfl⟩ := h
    refine g_i2l dL_paper_8 ?_
    refine g_last 240 dF_out (vpD (by decide)) dL_paper_9 (fun M1 hM => ?_)
    refine g_goto 21 dL_paper_10 (by decide) ?_
    refine g_iconst (v := 0) dL_paper_21 (by decide) ?_
    exact g_hret ⟨by decide, by decide⟩ rfl dL_paper_22 ⟨by rw [hv], by rw [hM, hv]; rfl⟩
  · obtain ⟨rfl, h | h⟩ := h
    · refine g_astore [(4, .ref q), (0, .ref (gla E 0)), (1, .int a), (2, .int b), (3, .ref (gla E 240))] dL_paper_13 (by decide) rfl ?_
      refine g_iconst (v := 1) dL_paper_15 (by decide) ?_
      exact g_hret ⟨by decide, by decide⟩ rfl dL_paper_16 ⟨by rw [h.2], by unfold pOut; rw [if_neg (by rw [h.2]; decide)]⟩
    · exact absurd h.1 (by decide)
  · obtain ⟨rfl, h | h⟩ := h
    · exact absurd h.1 (by decide)
    · refine g_astore [(4, .ref q), (0, .ref (gla E 0)), (1, .int a), (2, .int b), (3, .ref (gla E 240))] dL_paper_17 (by decide) rfl ?_
      refine g_iconst (v := 2) dL_paper_19 (by decide) ?_
      exact g_hret ⟨by decide, by decide⟩ rfl dL_paper_20 ⟨by rw [h.2], by unfold pOut; rw [if_neg (by rw [h.2]; decide)]⟩
abbrev lvL (E : gE) (b i : Nat) : List (Nat × Value) := [(0, .ref b), (1, .ref (gla E 0)), (2, .ref (gla E 226)), (3, .ref (gla E 240)), (4, .int (nI i))]
theorem lg_cmp_self (x : Int64) : lg_cmp x x = 0 := by
  unfold lg_cmp
  simp
def sL_0 (M : gM) (a b c d e : Int32) (K : gM → Prop) : Prop :=
  s_X12_feed M a b c d e ∧
  s_X13_feed ((f_X12_feed M a b c d e).2) a b c d e ∧
  (f_X12_feed M a b c d e).1 = (f_X13_feed ((f_X12_feed M a b c d e).2) a b c d e).1 ∧
  K (f_X13_feed ((f_X12_feed M a b c d e).2) a b c d e).2
def sL_1 (M : gM) (a b c d e : Int32) (K : gM → Prop) : Prop :=
  s_X12_text M a ∧
  s_X13_text ((f_X12_text M a).2) a ∧
  (f_X12_text M a).1 = (f_X13_text ((f_X12_text M a).2) a).1 ∧
  K (f_X13_text ((f_X12_text M a).2) a).2
def sL_2 (M : gM) (a b c d e : Int32) (K : gM → Prop) : Prop :=
  s_X12_fault M a ∧
  s_X13_fault M a ∧
  f_X12_fault M a = (f_X13_fault M a).1 ∧
  K (f_X13_fault M a).2
def sL_3 (M : gM) (a b c d e : Int32) (K : gM → Prop) : Prop :=
  s_X12_person M a b ∧
  s_X13_person ((pOut M (f_X12_person M a b))) a b ∧
  s_X13_thrown ((f_X13_person ((pOut M (f_X12_person M a b))) a b).2) ∧
  f_X13_thrown ((f_X13_person ((pOut M (f_X12_person M a b))) a b).2) = (f_X12_person M a b).1 ∧
  ((f_X12_person M a b).1 = 0 → rdJ (f_X13_person ((pOut M (f_X12_person M a b))) a b).2 100 0 0 (nn 0) = ((f_X13_person ((pOut M (f_X12_person M a b))) a b).1).toInt64) ∧
  K (f_X13_person ((pOut M (f_X12_person M a b))) a b).2
def sL_4 (M : gM) (a b c d e : Int32) (K : gM → Prop) : Prop :=
  s_X12_paper M a b ∧
  s_X13_paper ((pOut M (f_X12_paper M a b))) a b ∧
  s_X13_thrown ((f_X13_paper ((pOut M (f_X12_paper M a b))) a b).2) ∧
  f_X13_thrown ((f_X13_paper ((pOut M (f_X12_paper M a b))) a b).2) = (f_X12_paper M a b).1 ∧
  ((f_X12_paper M a b).1 = 0 → rdJ (f_X13_paper ((pOut M (f_X12_paper M a b))) a b).2 100 0 0 (nn 0) = ((f_X13_paper ((pOut M (f_X12_paper M a b))) a b).1).toInt64) ∧
  K (f_X13_paper ((pOut M (f_X12_paper M a b))) a b).2
def sL_5 (M : gM) (a b c d e : Int32) (K : gM → Prop) : Prop :=
  s_X12_thing M a b ∧
  s_X13_thing M a b ∧
  f_X12_thing M a b = (f_X13_thing M a b).1 ∧
  K (f_X13_thing M a b).2
def sL_6 (M : gM) (a b c d e : Int32) (K : gM → Prop) : Prop :=
  s_X12_land M a b ∧
  s_X13_land M a b ∧
  f_X12_land M a b = (f_X13_land M a b).1 ∧
  K (f_X13_land M a b).2
def sL_7 (M : gM) (a b c d e : Int32) (K : gM → Prop) : Prop :=
  s_X12_lose M a b ∧
  s_X13_lose ((f_X12_lose M a b).2) a b ∧
  (f_X12_lose M a b).1 = (f_X13_lose ((f_X12_lose M a b).2) a b).1 ∧
  K (f_X13_lose ((f_X12_lose M a b).2) a b).2
def sL_8 (M : gM) (a b c d e : Int32) (K : gM → Prop) : Prop :=
  s_X12_find M a ∧
  s_X13_find ((f_X12_find M a).2) a ∧
  (f_X12_find M a).1 = (f_X13_find ((f_X12_find M a).2) a).1 ∧
  K (f_X13_find ((f_X12_find M a).2) a).2
def sL_9 (M : gM) (a b c d e : Int32) (K : gM → Prop) : Prop :=
  s_X12_copy M a ∧
  s_X13_copy ((f_X12_copy M a).2) a ∧
  (f_X12_copy M a).1 = (f_X13_copy ((f_X12_copy M a).2) a).1 ∧
  K (f_X13_copy ((f_X12_copy M a).2) a).2
def sL_10 (M : gM) (a b c d e : Int32) (K : gM → Prop) : Prop :=
  s_X12_witness M a b ∧
  s_X13_witness ((f_X12_witness M a b).2) a b ∧
  (f_X12_witness M a b).1 = (f_X13_witness ((f_X12_witness M a b).2) a b).1 ∧
  K (f_X13_witness ((f_X12_witness M a b).2) a b).2
def sL_11 (M : gM) (a b c d e : Int32) (K : gM → Prop) : Prop :=
  s_X12_wed M a b c ∧
  s_X13_wed ((f_X12_wed M a b c).2) a b c ∧
  (f_X12_wed M a b c).1 = (f_X13_wed ((f_X12_wed M a b c).2) a b c).1 ∧
  K (f_X13_wed ((f_X12_wed M a b c).2) a b c).2
def sL_12 (M : gM) (a b c d e : Int32) (K : gM → Prop) : Prop :=
  s_X12_dies M a b ∧
  s_X13_dies ((f_X12_dies M a b).2) a b ∧
  (f_X12_dies M a b).1 = (f_X13_dies ((f_X12_dies M a b).2) a b).1 ∧
  K (f_X13_dies ((f_X12_dies M a b).2) a b).2
def sL_13 (M : gM) (a b c d e : Int32) (K : gM → Prop) : Prop :=
  s_X12_takeBack M a ∧
  s_X13_takeBack ((f_X12_takeBack M a).2) a ∧
  (f_X12_takeBack M a).1 = (f_X13_takeBack ((f_X12_takeBack M a).2) a).1 ∧
  K (f_X13_takeBack ((f_X12_takeBack M a).2) a).2
def sL_14 (M : gM) (a b c d e : Int32) (K : gM → Prop) : Prop :=
  s_X12_undo M ∧
  s_X13_undo ((f_X12_undo M).2) ∧
  (f_X12_undo M).1 = (f_X13_undo ((f_X12_undo M).2)).1 ∧
  K (f_X13_undo ((f_X12_undo M).2)).2
def sL_15 (M : gM) (a b c d e : Int32) (K : gM → Prop) : Prop :=
  s_X12_form M a b ∧
  s_X13_form M a b ∧
  f_X12_form M a b = (f_X13_form M a b).1 ∧
  K (f_X13_form M a b).2
def sL_16 (M : gM) (a b c d e : Int32) (K : gM → Prop) : Prop :=
  s_X12_why M a b ∧
  s_X13_why ((f_X12_why M a b).2) a b ∧
  (f_X12_why M a b).1 = (f_X13_why ((f_X12_why M a b).2) a b).1 ∧
  K (f_X13_why ((f_X12_why M a b).2) a b).2
def sL_17 (M : gM) (a b c d e : Int32) (K : gM → Prop) : Prop :=
  s_X12_struckBy M a b ∧
  s_X13_struckBy ((f_X12_struckBy M a b).2) a b ∧
  (f_X12_struckBy M a b).1 = (f_X13_struckBy ((f_X12_struckBy M a b).2) a b).1 ∧
  K (f_X13_struckBy ((f_X12_struckBy M a b).2) a b).2
def sL_18 (M : gM) (a b c d e : Int32) (K : gM → Prop) : Prop :=
  s_X12_counting M a b c ∧
  s_X13_counting ((f_X12_counting M a b c).2) a b c ∧
  (f_X12_counting M a b c).1 = (f_X13_counting ((f_X12_counting M a b c).2) a b c).1 ∧
  K (f_X13_counting ((f_X12_counting M a b c).2) a b c).2
def sL_19 (M : gM) (a b c d e : Int32) (K : gM → Prop) : Prop :=
  s_X12_taker M a b ∧
  s_X13_taker ((f_X12_taker M a b).2) a b ∧
  (f_X12_taker M a b).1 = (f_X13_taker ((f_X12_taker M a b).2) a b).1 ∧
  K (f_X13_taker ((f_X12_taker M a b).2) a b).2
def sL_20 (M : gM) (a b c d e : Int32) (K : gM → Prop) : Prop :=
  s_X12_takerBy M a b ∧
  s_X13_takerBy_ ((f_X12_takerBy M a b).2) a b ∧
  (f_X12_takerBy M a b).1 = (f_X13_takerBy_ ((f_X12_takerBy M a b).2) a b).1 ∧
  K (f_X13_takerBy_ ((f_X12_takerBy M a b).2) a b).2
def sL_21 (M : gM) (a b c d e : Int32) (K : gM → Prop) : Prop :=
  s_X12_heirs M a ∧
  s_X13_heirs M a ∧
  f_X12_heirs M a = (f_X13_heirs M a).1 ∧
  K (f_X13_heirs M a).2
def sL_22 (M : gM) (a b c d e : Int32) (K : gM → Prop) : Prop :=
  s_X12_has M a b c d ∧
  s_X13_has_ ((f_X12_has M a b c d).2) a b c d ∧
  (f_X12_has M a b c d).1 = (f_X13_has_ ((f_X12_has M a b c d).2) a b c d).1 ∧
  K (f_X13_has_ ((f_X12_has M a b c d).2) a b c d).2
def sL_23 (M : gM) (a b c d e : Int32) (K : gM → Prop) : Prop :=
  s_X12_holders M a b ∧
  s_X13_holders ((f_X12_holders M a b).2) a b ∧
  (f_X12_holders M a b).1 = (f_X13_holders ((f_X12_holders M a b).2) a b).1 ∧
  K (f_X13_holders ((f_X12_holders M a b).2) a b).2
def sL_24 (M : gM) (a b c d e : Int32) (K : gM → Prop) : Prop :=
  s_X12_wealth M a ∧
  s_X13_wealth ((f_X12_wealth M a).2) a ∧
  (f_X12_wealth M a).1 = (f_X13_wealth ((f_X12_wealth M a).2) a).1 ∧
  K (f_X13_wealth ((f_X12_wealth M a).2) a).2
def sL_25 (M : gM) (a b c d e : Int32) (K : gM → Prop) : Prop :=
  s_X12_ever M a ∧
  s_X13_ever ((f_X12_ever M a).2) a ∧
  (f_X12_ever M a).1 = (f_X13_ever ((f_X12_ever M a).2) a).1 ∧
  K (f_X13_ever ((f_X12_ever M a).2) a).2
def sL_26 (M : gM) (a b c d e : Int32) (K : gM → Prop) : Prop :=
  s_X12_gain M a b ∧
  s_X13_gain ((f_X12_gain M a b).2) a b ∧
  (f_X12_gain M a b).1 = (f_X13_gain ((f_X12_gain M a b).2) a b).1 ∧
  K (f_X13_gain ((f_X12_gain M a b).2) a b).2
def sL_27 (M : gM) (a b c d e : Int32) (K : gM → Prop) : Prop :=
  s_X12_against M a b ∧
  s_X13_against ((f_X12_against M a b).2) a b ∧
  (f_X12_against M a b).1 = (f_X13_against ((f_X12_against M a b).2) a b).1 ∧
  K (f_X13_against ((f_X12_against M a b).2) a b).2
def sL_28 (M : gM) (a b c d e : Int32) (K : gM → Prop) : Prop :=
  s_X12_key M a ∧
  s_X13_key ((f_X12_key M a).2) a ∧
  (f_X12_key M a).1 = (f_X13_key ((f_X12_key M a).2) a).1 ∧
  K (f_X13_key ((f_X12_key M a).2) a).2
def sL_29 (M : gM) (a b c d e : Int32) (K : gM → Prop) : Prop :=
  s_X12_wouldPaper M a b c ∧
  s_X13_wouldPaper ((f_X12_wouldPaper M a b c).2) a b c ∧
  (f_X12_wouldPaper M a b c).1 = (f_X13_wouldPaper ((f_X12_wouldPaper M a b c).2) a b c).1 ∧
  K (f_X13_wouldPaper ((f_X12_wouldPaper M a b c).2) a b c).2
def sL_30 (M : gM) (a b c d e : Int32) (K : gM → Prop) : Prop :=
  s_X12_wouldDie M a b c ∧
  s_X13_wouldDie ((f_X12_wouldDie M a b c).2) a b c ∧
  (f_X12_wouldDie M a b c).1 = (f_X13_wouldDie ((f_X12_wouldDie M a b c).2) a b c).1 ∧
  K (f_X13_wouldDie ((f_X12_wouldDie M a b c).2) a b c).2
def sL_31 (M : gM) (a b c d e : Int32) (K : gM → Prop) : Prop :=
  s_X12_dayFor M a b c ∧
  s_X13_dayFor ((f_X12_dayFor M a b c).2) a b c ∧
  (f_X12_dayFor M a b c).1 = (f_X13_dayFor ((f_X12_dayFor M a b c).2) a b c).1 ∧
  K (f_X13_dayFor ((f_X12_dayFor M a b c).2) a b c).2
def sL_32 (M : gM) (a b c d e : Int32) (K : gM → Prop) : Prop :=
  s_X12_margin M a ∧
  s_X13_margin M a ∧
  f_X12_margin M a = (f_X13_margin M a).1 ∧
  K (f_X13_margin M a).2
def sL_33 (M : gM) (a b c d e : Int32) (K : gM → Prop) : Prop :=
  s_X12_death M a b ∧
  s_X13_death ((f_X12_death M a b).2) a b ∧
  (f_X12_death M a b).1 = (f_X13_death ((f_X12_death M a b).2) a b).1 ∧
  K (f_X13_death ((f_X12_death M a b).2) a b).2
def sL_34 (M : gM) (a b c d e : Int32) (K : gM → Prop) : Prop :=
  s_X12_moves M a b ∧
  s_X13_moves ((f_X12_moves M a b).2) a b ∧
  (f_X12_moves M a b).1 = (f_X13_moves ((f_X12_moves M a b).2) a b).1 ∧
  K (f_X13_moves ((f_X12_moves M a b).2) a b).2
def sL_35 (M : gM) (a b c d e : Int32) (K : gM → Prop) : Prop :=
  s_X12_kin M a b ∧
  s_X13_kin M a b ∧
  f_X12_kin M a b = (f_X13_kin M a b).1 ∧
  K (f_X13_kin M a b).2
def sL_36 (M : gM) (a b c d e : Int32) (K : gM → Prop) : Prop :=
  s_X12_naming M a b ∧
  s_X13_naming M a b ∧
  f_X12_naming M a b = (f_X13_naming M a b).1 ∧
  K (f_X13_naming M a b).2
def sL_37 (M : gM) (a b c d e : Int32) (K : gM → Prop) : Prop :=
  s_X12_sees M a b c ∧
  s_X13_sees M a b c ∧
  f_X12_sees M a b c = (f_X13_sees M a b c).1 ∧
  K (f_X13_sees M a b c).2
def sL_38 (M : gM) (a b c d e : Int32) (K : gM → Prop) : Prop :=
  s_X12_give M a b c ∧
  s_X13_give M a b c ∧
  f_X12_give M a b c = (f_X13_give M a b c).1 ∧
  K (f_X13_give M a b c).2
def sL_39 (M : gM) (a b c d e : Int32) (K : gM → Prop) : Prop :=
  s_X12_count M a ∧
  s_X13_count M a ∧
  f_X12_count M a = (f_X13_count M a).1 ∧
  K (f_X13_count M a).2
set_option maxRecDepth 100000 in
set_option maxHeartbeats 4000000 in
theorem tL_0 {E : gE} {b L i cs ss : Nat} {xs : Nat → Int32} {M : gM} {K : gM → Prop} (hL : L < 2 ^ 31) (hi : i + 5 < L) (hc : cs + 1 ≤ 600002) (hm : ss + 6 ≤ 7302232) (nx : ∀ (k n : Nat) (N : gM), k ≤ cs + 1 → n ≤ ss + 6 → K N → gK E RL code 7 ret room_1 (gSL E b L xs) lw_Z k n 1747 (lvL E b i) [] N) (hs : sL_0 M (xs (i + 1)) (xs (i + 2)) (xs (i + 3)) (xs (i + 4)) (xs (i + 5)) K) : gK E RL code 7 ret room_1 (gSL E b L xs) lw_Z cs ss 216 (lvL E b i) [] M := by
  unfold sL_0 at hs
  refine g_aload_n 1 dL_law_216 rfl ?_
  refine g_sarg (i := i) (n := 1) 0 4 rfl rfl (by omega) hL dL_law_217 dL_law_218 dL_law_220 (by decide) dL_law_221 dL_law_222 ?_
  refine g_sarg (i := i) (n := 2) 0 4 rfl rfl (by omega) hL dL_law_223 dL_law_224 dL_law_226 (by decide) dL_law_227 dL_law_228 ?_
  refine g_sarg (i := i) (n := 3) 0 4 rfl rfl (by omega) hL dL_law_229 dL_law_230 dL_law_232 (by decide) dL_law_233 dL_law_234 ?_
  refine g_sarg (i := i) (n := 4) 0 4 rfl rfl (by omega) hL dL_law_235 dL_law_236 dL_law_238 (by decide) dL_law_239 dL_law_240 ?_
  refine g_sarg (i := i) (n := 5) 0 4 rfl rfl (by omega) hL dL_law_241 dL_law_242 dL_law_244 (by decide) dL_law_245 dL_law_246 ?_
  refine g_callV (As := [.int (xs (i + 1)), .int (xs (i + 2)), .int (xs (i + 3)), .int (xs (i + 4)), .int (xs (i + 5))]) (st := []) (n := 5) 0 (c_X12_feed E M (xs (i + 1)) (xs (i + 2)) (xs (i + 3)) (xs (i + 4)) (xs (i + 5)) hs.1) mt_X12_feed ml_L_24 dF_Wd rfl rfl sg_X12_feed rfl ⟨by decide, by decide, (by show cs ≤ 600002; omega), (by show ss ≤ 7302232; omega)⟩ (Nat.le_of_ble_eq_true rfl) dL_law_247 ?_
  intro r9 N9 hq9
  rw [hq9.1, hq9.2]
  clear hq9 r9 N9
  refine g_aload_n 2 dL_law_250 rfl ?_
  refine g_sarg (i := i) (n := 1) 0 4 rfl rfl (by omega) hL dL_law_251 dL_law_252 dL_law_254 (by decide) dL_law_255 dL_law_256 ?_
  refine g_sarg (i := i) (n := 2) 0 4 rfl rfl (by omega) hL dL_law_257 dL_law_258 dL_law_260 (by decide) dL_law_261 dL_law_262 ?_
  refine g_sarg (i := i) (n := 3) 0 4 rfl rfl (by omega) hL dL_law_263 dL_law_264 dL_law_266 (by decide) dL_law_267 dL_law_268 ?_
  refine g_sarg (i := i) (n := 4) 0 4 rfl rfl (by omega) hL dL_law_269 dL_law_270 dL_law_272 (by decide) dL_law_273 dL_law_274 ?_
  refine g_sarg (i := i) (n := 5) 0 4 rfl rfl (by omega) hL dL_law_275 dL_law_276 dL_law_278 (by decide) dL_law_279 dL_law_280 ?_
  refine g_callV (As := [.int (xs (i + 1)), .int (xs (i + 2)), .int (xs (i + 3)), .int (xs (i + 4)), .int (xs (i + 5))]) (st := [.int ((f_X12_feed M (xs (i + 1)) (xs (i + 2)) (xs (i + 3)) (xs (i + 4)) (xs (i + 5))).1)]) (n := 5) 226 (c_X13_feed E ((f_X12_feed M (xs (i + 1)) (xs (i + 2)) (xs (i + 3)) (xs (i + 4)) (xs (i + 5))).2) (xs (i + 1)) (xs (i + 2)) (xs (i + 3)) (xs (i + 4)) (xs (i + 5)) hs.2.1) mt_X13_feed ml_L_28 dF_Md rfl rfl sg_X13_feed rfl ⟨by decide, by decide, (by show cs ≤ 600002; omega), (by show ss ≤ 7302232; omega)⟩ (Nat.le_of_ble_eq_true rfl) dL_law_281 ?_
  intro r9 N9 hq9
  rw [hq9.1, hq9.2]
  clear hq9 r9 N9
  refine g_icmp_eq 1747 dL_law_284 (by decide) (fun _ => ?_) (fun c => absurd hs.2.2.1 c)
  exact (nx _ _ _ (Nat.le_succ _) (by omega) hs.2.2.2)
set_option maxRecDepth 100000 in
set_option maxHeartbeats 4000000 in
theorem tL_1 {E : gE} {b L i cs ss : Nat} {xs : Nat → Int32} {M : gM} {K : gM → Prop} (hL : L < 2 ^ 31) (hi : i + 5 < L) (hc : cs + 1 ≤ 600002) (hm : ss + 6 ≤ 7302232) (nx : ∀ (k n : Nat) (N : gM), k ≤ cs + 1 → n ≤ ss + 6 → K N → gK E RL code 7 ret room_1 (gSL E b L xs) lw_Z k n 1747 (lvL E b i) [] N) (hs : sL_1 M (xs (i + 1)) (xs (i + 2)) (xs (i + 3)) (xs (i + 4)) (xs (i + 5)) K) : gK E RL code 7 ret room_1 (gSL E b L xs) lw_Z cs ss 289 (lvL E b i) [] M := by
  unfold sL_1 at hs
  refine g_aload_n 1 dL_law_289 rfl ?_
  refine g_sarg (i := i) (n := 1) 0 4 rfl rfl (by omega) hL dL_law_290 dL_law_291 dL_law_293 (by decide) dL_law_294 dL_law_295 ?_
  refine g_callV (As := [.int (xs (i + 1))]) (st := []) (n := 1) 0 (c_X12_text E M (xs (i + 1)) hs.1) mt_X12_text ml_L_29 dF_Wd rfl rfl sg_X12_text rfl ⟨by decide, by decide, (by show cs ≤ 600002; omega), (by show ss ≤ 7302232; omega)⟩ (Nat.le_of_ble_eq_true rfl) dL_law_296 ?_
  intro r9 N9 hq9
  rw [hq9.1, hq9.2]
  clear hq9 r9 N9
  refine g_aload_n 2 dL_law_299 rfl ?_
  refine g_sarg (i := i) (n := 1) 0 4 rfl rfl (by omega) hL dL_law_300 dL_law_301 dL_law_303 (by decide) dL_law_304 dL_law_305 ?_
  refine g_callV (As := [.int (xs (i + 1))]) (st := [.int ((f_X12_text M (xs (i + 1))).1)]) (n := 1) 226 (c_X13_text E ((f_X12_text M (xs (i + 1))).2) (xs (i + 1)) hs.2.1) mt_X13_text ml_L_33 dF_Md rfl rfl sg_X13_text rfl ⟨by decide, by decide, (by show cs ≤ 600002; omega), (by show ss ≤ 7302232; omega)⟩ (Nat.le_of_ble_eq_true rfl) dL_law_306 ?_
  intro r9 N9 hq9
  rw [hq9.1, hq9.2]
  clear hq9 r9 N9
  refine g_icmp_eq 1747 dL_law_309 (by decide) (fun _ => ?_) (fun c => absurd hs.2.2.1 c)
  exact (nx _ _ _ (Nat.le_succ _) (by omega) hs.2.2.2)
set_option maxRecDepth 100000 in
set_option maxHeartbeats 4000000 in
theorem tL_2 {E : gE} {b L i cs ss : Nat} {xs : Nat → Int32} {M : gM} {K : gM → Prop} (hL : L < 2 ^ 31) (hi : i + 5 < L) (hc : cs + 1 ≤ 600002) (hm : ss + 6 ≤ 7302232) (nx : ∀ (k n : Nat) (N : gM), k ≤ cs + 1 → n ≤ ss + 6 → K N → gK E RL code 7 ret room_1 (gSL E b L xs) lw_Z k n 1747 (lvL E b i) [] N) (hs : sL_2 M (xs (i + 1)) (xs (i + 2)) (xs (i + 3)) (xs (i + 4)) (xs (i + 5)) K) : gK E RL code 7 ret room_1 (gSL E b L xs) lw_Z cs ss 314 (lvL E b i) [] M := by
  unfold sL_2 at hs
  refine g_aload_n 1 dL_law_314 rfl ?_
  refine g_sarg (i := i) (n := 1) 0 4 rfl rfl (by omega) hL dL_law_315 dL_law_316 dL_law_318 (by decide) dL_law_319 dL_law_320 ?_
  refine g_callV (As := [.int (xs (i + 1))]) (st := []) (n := 1) 0 (c_X12_fault E M (xs (i + 1)) hs.1) mt_X12_fault ml_L_34 dF_Wd rfl rfl sg_X12_fault rfl ⟨by decide, by decide, (by show cs ≤ 600002; omega), (by show ss ≤ 7302232; omega)⟩ (Nat.le_of_ble_eq_true rfl) dL_law_321 ?_
  intro r9 N9 hq9
  rw [hq9.1, hq9.2]
  clear hq9 r9 N9
  refine g_aload_n 2 dL_law_324 rfl ?_
  refine g_sarg (i := i) (n := 1) 0 4 rfl rfl (by omega) hL dL_law_325 dL_law_326 dL_law_328 (by decide) dL_law_329 dL_law_330 ?_
  refine g_callV (As := [.int (xs (i + 1))]) (st := [.int (f_X12_fault M (xs (i + 1)))]) (n := 1) 226 (c_X13_fault E M (xs (i + 1)) hs.2.1) mt_X13_fault ml_L_37 dF_Md rfl rfl sg_X13_fault rfl ⟨by decide, by decide, (by show cs ≤ 600002; omega), (by show ss ≤ 7302232; omega)⟩ (Nat.le_of_ble_eq_true rfl) dL_law_331 ?_
  intro r9 N9 hq9
  rw [hq9.1, hq9.2]
  clear hq9 r9 N9
  refine g_icmp_eq 1747 dL_law_334 (by decide) (fun _ => ?_) (fun c => absurd hs.2.2.1 c)
  exact (nx _ _ _ (Nat.le_succ _) (by omega) hs.2.2.2)
set_option maxRecDepth 100000 in
set_option maxHeartbeats 4000000 in
theorem tL_3 {E : gE} {b L i cs ss : Nat} {xs : Nat → Int32} {M : gM} {K : gM → Prop} (hL : L < 2 ^ 31) (hi : i + 5 < L) (hc : cs + 1 ≤ 600002) (hm : ss + 6 ≤ 7302232) (nx : ∀ (k n : Nat) (N : gM), k ≤ cs + 1 → n ≤ ss + 6 → K N → gK E RL code 7 ret room_1 (gSL E b L xs) lw_Z k n 1747 (lvL E b i) [] N) (hs : sL_3 M (xs (i + 1)) (xs (i + 2)) (xs (i + 3)) (xs (i + 4)) (xs (i + 5)) K) : gK E RL code 7 ret room_1 (gSL E b L xs) lw_Z cs ss 339 (lvL E b i) [] M := by
  unfold sL_3 at hs
  refine g_aload_n 1 dL_law_339 rfl ?_
  refine g_sarg (i := i) (n := 1) 0 4 rfl rfl (by omega) hL dL_law_340 dL_law_341 dL_law_343 (by decide) dL_law_344 dL_law_345 ?_
  refine g_sarg (i := i) (n := 2) 0 4 rfl rfl (by omega) hL dL_law_346 dL_law_347 dL_law_349 (by decide) dL_law_350 dL_law_351 ?_
  refine g_aload_n 3 dL_law_352 rfl ?_
  refine g_callH (As := [.ref (gla E 0), .int (xs (i + 1)), .int (xs (i + 2)), .ref (gla E 240)]) (st := []) (n := 4) (ch_person E M (xs (i + 1)) (xs (i + 2)) hs.1) hw1_person (gtbl_t tbin1 0 rfl rfl) hw_person (by decide +kernel) ml_L_38 hsg_person rfl ⟨by decide, by decide, (by show cs + 1 ≤ 600002; omega), (by show ss + 6 ≤ 7302232; omega)⟩ (Nat.le_of_ble_eq_true rfl) dL_law_353 ?_
  intro r9 N9 hq9
  rw [hq9.1, hq9.2]
  clear hq9 r9 N9
  refine g_istore ([(5, .int ((f_X12_person M (xs (i + 1)) (xs (i + 2))).1))] ++ lvL E b i) dL_law_356 (by decide) rfl ?_
  refine g_aload_n 3 dL_law_358 rfl ?_
  refine g_sarg (i := i) (n := 1) 1 5 rfl rfl (by omega) hL dL_law_359 dL_law_360 dL_law_362 (by decide) dL_law_363 dL_law_364 ?_
  refine g_sarg (i := i) (n := 2) 1 5 rfl rfl (by omega) hL dL_law_365 dL_law_366 dL_law_368 (by decide) dL_law_369 dL_law_370 ?_
  refine g_callV (As := [.int (xs (i + 1)), .int (xs (i + 2))]) (st := []) (n := 2) 226 (c_X13_person E ((pOut M (f_X12_person M (xs (i + 1)) (xs (i + 2))))) (xs (i + 1)) (xs (i + 2)) hs.2.1) mt_X13_person ml_L_43 dF_Md rfl rfl sg_X13_person rfl ⟨by decide, by decide, (by show cs + 1 ≤ 600002; omega), (by show ss + 6 ≤ 7302232; omega)⟩ (Nat.le_of_ble_eq_true rfl) dL_law_371 ?_
  intro r9 N9 hq9
  rw [hq9.1, hq9.2]
  clear hq9 r9 N9
  refine g_istore ([(6, .int ((f_X13_person ((pOut M (f_X12_person M (xs (i + 1)) (xs (i + 2))))) (xs (i + 1)) (xs (i + 2))).1)), (5, .int ((f_X12_person M (xs (i + 1)) (xs (i + 2))).1))] ++ lvL E b i) dL_law_374 (by decide) rfl ?_
  refine g_aload_n 4 dL_law_376 rfl ?_
  refine g_callV (As := []) (st := []) (n := 0) 226 (c_X13_thrown E ((f_X13_person ((pOut M (f_X12_person M (xs (i + 1)) (xs (i + 2))))) (xs (i + 1)) (xs (i + 2))).2) hs.2.2.1) mt_X13_thrown ml_L_44 dF_Md rfl rfl sg_X13_thrown rfl ⟨by decide, by decide, (by show cs + 1 ≤ 600002; omega), (by show ss + 6 ≤ 7302232; omega)⟩ (Nat.le_of_ble_eq_true rfl) dL_law_377 ?_
  intro r9 N9 hq9
  rw [hq9.1, hq9.2]
  clear hq9 r9 N9
  refine g_iload 1 dL_law_380 rfl ?_
  refine g_icmp_eq 387 dL_law_382 (by decide) (fun _ => ?_) (fun c => absurd hs.2.2.2.1 c)
  refine g_iload 1 dL_law_387 rfl ?_
  have tl : gK E RL code 7 ret room_1 (gSL E b L xs) lw_Z (cs + 1) (ss + 6) 404 ([(6, .int ((f_X13_person ((pOut M (f_X12_person M (xs (i + 1)) (xs (i + 2))))) (xs (i + 1)) (xs (i + 2))).1)), (5, .int ((f_X12_person M (xs (i + 1)) (xs (i + 2))).1))] ++ lvL E b i) [] (f_X13_person ((pOut M (f_X12_person M (xs (i + 1)) (xs (i + 2))))) (xs (i + 1)) (xs (i + 2))).2 := by
    refine g_goto 1747 dL_law_404 (by decide) ?_
    exact (g_sub [2, 3, 4, 5, 6] (lvL E b i) rfl (nx _ _ _ (Nat.le_refl _) (Nat.le_refl _) hs.2.2.2.2.2))
  refine g_if_ne 404 dL_law_389 (by decide) (fun _ => tl) (fun hz => ?_)
  refine g_aload_n 5 dL_law_392 rfl ?_
  refine g_iconst (v := 0) dL_law_393 (by decide) ?_
  refine g_lald 240 dF_out (vpD (by decide)) dL_law_394 ?_
  refine g_iload 0 dL_law_395 rfl ?_
  refine g_i2l dL_law_397 ?_
  refine g_lcmp dL_law_398 ?_
  refine g_if_eq 404 dL_law_399 (by decide) (fun _ => tl) (fun c => absurd (hs.2.2.2.2.1 hz) (by intro q; exact c (by rw [q]; exact lg_cmp_self _)))
set_option maxRecDepth 100000 in
set_option maxHeartbeats 4000000 in
theorem tL_4 {E : gE} {b L i cs ss : Nat} {xs : Nat → Int32} {M : gM} {K : gM → Prop} (hL : L < 2 ^ 31) (hi : i + 5 < L) (hc : cs + 1 ≤ 600002) (hm : ss + 6 ≤ 7302232) (nx : ∀ (k n : Nat) (N : gM), k ≤ cs + 1 → n ≤ ss + 6 → K N → gK E RL code 7 ret room_1 (gSL E b L xs) lw_Z k n 1747 (lvL E b i) [] N) (hs : sL_4 M (xs (i + 1)) (xs (i + 2)) (xs (i + 3)) (xs (i + 4)) (xs (i + 5)) K) : gK E RL code 7 ret room_1 (gSL E b L xs) lw_Z cs ss 407 (lvL E b i) [] M := by
  unfold sL_4 at hs
  refine g_aload_n 1 dL_law_407 rfl ?_
  refine g_sarg (i := i) (n := 1) 0 4 rfl rfl (by omega) hL dL_law_408 dL_law_409 dL_law_411 (by decide) dL_law_412 dL_law_413 ?_
  refine g_sarg (i := i) (n := 2) 0 4 rfl rfl (by omega) hL dL_law_414 dL_law_415 dL_law_417 (by decide) dL_law_418 dL_law_419 ?_
  refine g_aload_n 3 dL_law_420 rfl ?_
  refine g_callH (As := [.ref (gla E 0), .int (xs (i + 1)), .int (xs (i + 2)), .ref (gla E 240)]) (st := []) (n := 4) (ch_paper E M (xs (i + 1)) (xs (i + 2)) hs.1) hw1_paper (gtbl_t tbin1 0 rfl rfl) hw_paper (by decide +kernel) ml_L_48 hsg_paper rfl ⟨by decide, by decide, (by show cs + 1 ≤ 600002; omega), (by show ss + 6 ≤ 7302232; omega)⟩ (Nat.le_of_ble_eq_true rfl) dL_law_421 ?_
  intro r9 N9 hq9
  rw [hq9.1, hq9.2]
  clear hq9 r9 N9
  refine g_istore ([(5, .int ((f_X12_paper M (xs (i + 1)) (xs (i + 2))).1))] ++ lvL E b i) dL_law_424 (by decide) rfl ?_
  refine g_aload_n 3 dL_law_426 rfl ?_
  refine g_sarg (i := i) (n := 1) 1 5 rfl rfl (by omega) hL dL_law_427 dL_law_428 dL_law_430 (by decide) dL_law_431 dL_law_432 ?_
  refine g_sarg (i := i) (n := 2) 1 5 rfl rfl (by omega) hL dL_law_433 dL_law_434 dL_law_436 (by decide) dL_law_437 dL_law_438 ?_
  refine g_callV (As := [.int (xs (i + 1)), .int (xs (i + 2))]) (st := []) (n := 2) 226 (c_X13_paper E ((pOut M (f_X12_paper M (xs (i + 1)) (xs (i + 2))))) (xs (i + 1)) (xs (i + 2)) hs.2.1) mt_X13_paper ml_L_50 dF_Md rfl rfl sg_X13_paper rfl ⟨by decide, by decide, (by show cs + 1 ≤ 600002; omega), (by show ss + 6 ≤ 7302232; omega)⟩ (Nat.le_of_ble_eq_true rfl) dL_law_439 ?_
  intro r9 N9 hq9
  rw [hq9.1, hq9.2]
  clear hq9 r9 N9
  refine g_istore ([(6, .int ((f_X13_paper ((pOut M (f_X12_paper M (xs (i + 1)) (xs (i + 2))))) (xs (i + 1)) (xs (i + 2))).1)), (5, .int ((f_X12_paper M (xs (i + 1)) (xs (i + 2))).1))] ++ lvL E b i) dL_law_442 (by decide) rfl ?_
  refine g_aload_n 4 dL_law_444 rfl ?_
  refine g_callV (As := []) (st := []) (n := 0) 226 (c_X13_thrown E ((f_X13_paper ((pOut M (f_X12_paper M (xs (i + 1)) (xs (i + 2))))) (xs (i + 1)) (xs (i + 2))).2) hs.2.2.1) mt_X13_thrown ml_L_44 dF_Md rfl rfl sg_X13_thrown rfl ⟨by decide, by decide, (by show cs + 1 ≤ 600002; omega), (by show ss + 6 ≤ 7302232; omega)⟩ (Nat.le_of_ble_eq_true rfl) dL_law_445 ?_
  intro r9 N9 hq9
  rw [hq9.1, hq9.2]
  clear hq9 r9 N9
  refine g_iload 1 dL_law_448 rfl ?_
  refine g_icmp_eq 455 dL_law_450 (by decide) (fun _ => ?_) (fun c => absurd hs.2.2.2.1 c)
  refine g_iload 1 dL_law_455 rfl ?_
  have tl : gK E RL code 7 ret room_1 (gSL E b L xs) lw_Z (cs + 1) (ss + 6) 472 ([(6, .int ((f_X13_paper ((pOut M (f_X12_paper M (xs (i + 1)) (xs (i + 2))))) (xs (i + 1)) (xs (i + 2))).1)), (5, .int ((f_X12_paper M (xs (i + 1)) (xs (i + 2))).1))] ++ lvL E b i) [] (f_X13_paper ((pOut M (f_X12_paper M (xs (i + 1)) (xs (i + 2))))) (xs (i + 1)) (xs (i + 2))).2 := by
    refine g_goto 1747 dL_law_472 (by decide) ?_
    exact (g_sub [2, 3, 4, 5, 6] (lvL E b i) rfl (nx _ _ _ (Nat.le_refl _) (Nat.le_refl _) hs.2.2.2.2.2))
  refine g_if_ne 472 dL_law_457 (by decide) (fun _ => tl) (fun hz => ?_)
  refine g_aload_n 5 dL_law_460 rfl ?_
  refine g_iconst (v := 0) dL_law_461 (by decide) ?_
  refine g_lald 240 dF_out (vpD (by decide)) dL_law_462 ?_
  refine g_iload 0 dL_law_463 rfl ?_
  refine g_i2l dL_law_465 ?_
  refine g_lcmp dL_law_466 ?_
  refine g_if_eq 472 dL_law_467 (by decide) (fun _ => tl) (fun c => absurd (hs.2.2.2.2.1 hz) (by intro q; exact c (by rw [q]; exact lg_cmp_self _)))
set_option maxRecDepth 100000 in
set_option maxHeartbeats 4000000 in
theorem tL_5 {E : gE} {b L i cs ss : Nat} {xs : Nat → Int32} {M : gM} {K : gM → Prop} (hL : L < 2 ^ 31) (hi : i + 5 < L) (hc : cs + 1 ≤ 600002) (hm : ss + 6 ≤ 7302232) (nx : ∀ (k n : Nat) (N : gM), k ≤ cs + 1 → n ≤ ss + 6 → K N → gK E RL code 7 ret room_1 (gSL E b L xs) lw_Z k n 1747 (lvL E b i) [] N) (hs : sL_5 M (xs (i + 1)) (xs (i + 2)) (xs (i + 3)) (xs (i + 4)) (xs (i + 5)) K) : gK E RL code 7 ret room_1 (gSL E b L xs) lw_Z cs ss 475 (lvL E b i) [] M := by
  unfold sL_5 at hs
  refine g_aload_n 1 dL_law_475 rfl ?_
  refine g_sarg (i := i) (n := 1) 0 4 rfl rfl (by omega) hL dL_law_476 dL_law_477 dL_law_479 (by decide) dL_law_480 dL_law_481 ?_
  refine g_sarg (i := i) (n := 2) 0 4 rfl rfl (by omega) hL dL_law_482 dL_law_483 dL_law_485 (by decide) dL_law_486 dL_law_487 ?_
  refine g_callV (As := [.int (xs (i + 1)), .int (xs (i + 2))]) (st := []) (n := 2) 0 (c_X12_thing E M (xs (i + 1)) (xs (i + 2)) hs.1) mt_X12_thing ml_L_51 dF_Wd rfl rfl sg_X12_thing rfl ⟨by decide, by decide, (by show cs ≤ 600002; omega), (by show ss ≤ 7302232; omega)⟩ (Nat.le_of_ble_eq_true rfl) dL_law_488 ?_
  intro r9 N9 hq9
  rw [hq9.1, hq9.2]
  clear hq9 r9 N9
  refine g_aload_n 2 dL_law_491 rfl ?_
  refine g_sarg (i := i) (n := 1) 0 4 rfl rfl (by omega) hL dL_law_492 dL_law_493 dL_law_495 (by decide) dL_law_496 dL_law_497 ?_
  refine g_sarg (i := i) (n := 2) 0 4 rfl rfl (by omega) hL dL_law_498 dL_law_499 dL_law_501 (by decide) dL_law_502 dL_law_503 ?_
  refine g_callV (As := [.int (xs (i + 1)), .int (xs (i + 2))]) (st := [.int (f_X12_thing M (xs (i + 1)) (xs (i + 2)))]) (n := 2) 226 (c_X13_thing E M (xs (i + 1)) (xs (i + 2)) hs.2.1) mt_X13_thing ml_L_54 dF_Md rfl rfl sg_X13_thing rfl ⟨by decide, by decide, (by show cs ≤ 600002; omega), (by show ss ≤ 7302232; omega)⟩ (Nat.le_of_ble_eq_true rfl) dL_law_504 ?_
  intro r9 N9 hq9
  rw [hq9.1, hq9.2]
  clear hq9 r9 N9
  refine g_icmp_eq 1747 dL_law_507 (by decide) (fun _ => ?_) (fun c => absurd hs.2.2.1 c)
  exact (nx _ _ _ (Nat.le_succ _) (by omega) hs.2.2.2)
set_option maxRecDepth 100000 in
set_option maxHeartbeats 4000000 in
theorem tL_6 {E : gE} {b L i cs ss : Nat} {xs : Nat → Int32} {M : gM} {K : gM → Prop} (hL : L < 2 ^ 31) (hi : i + 5 < L) (hc : cs + 1 ≤ 600002) (hm : ss + 6 ≤ 7302232) (nx : ∀ (k n : Nat) (N : gM), k ≤ cs + 1 → n ≤ ss + 6 → K N → gK E RL code 7 ret room_1 (gSL E b L xs) lw_Z k n 1747 (lvL E b i) [] N) (hs : sL_6 M (xs (i + 1)) (xs (i + 2)) (xs (i + 3)) (xs (i + 4)) (xs (i + 5)) K) : gK E RL code 7 ret room_1 (gSL E b L xs) lw_Z cs ss 512 (lvL E b i) [] M := by
  unfold sL_6 at hs
  refine g_aload_n 1 dL_law_512 rfl ?_
  refine g_sarg (i := i) (n := 1) 0 4 rfl rfl (by omega) hL dL_law_513 dL_law_514 dL_law_516 (by decide) dL_law_517 dL_law_518 ?_
  refine g_sarg (i := i) (n := 2) 0 4 rfl rfl (by omega) hL dL_law_519 dL_law_520 dL_law_522 (by decide) dL_law_523 dL_law_524 ?_
  refine g_callV (As := [.int (xs (i + 1)), .int (xs (i + 2))]) (st := []) (n := 2) 0 (c_X12_land E M (xs (i + 1)) (xs (i + 2)) hs.1) mt_X12_land ml_L_55 dF_Wd rfl rfl sg_X12_land rfl ⟨by decide, by decide, (by show cs ≤ 600002; omega), (by show ss ≤ 7302232; omega)⟩ (Nat.le_of_ble_eq_true rfl) dL_law_525 ?_
  intro r9 N9 hq9
  rw [hq9.1, hq9.2]
  clear hq9 r9 N9
  refine g_aload_n 2 dL_law_528 rfl ?_
  refine g_sarg (i := i) (n := 1) 0 4 rfl rfl (by omega) hL dL_law_529 dL_law_530 dL_law_532 (by decide) dL_law_533 dL_law_534 ?_
  refine g_sarg (i := i) (n := 2) 0 4 rfl rfl (by omega) hL dL_law_535 dL_law_536 dL_law_538 (by decide) dL_law_539 dL_law_540 ?_
  refine g_callV (As := [.int (xs (i + 1)), .int (xs (i + 2))]) (st := [.int (f_X12_land M (xs (i + 1)) (xs (i + 2)))]) (n := 2) 226 (c_X13_land E M (xs (i + 1)) (xs (i + 2)) hs.2.1) mt_X13_land ml_L_58 dF_Md rfl rfl sg_X13_land rfl ⟨by decide, by decide, (by show cs ≤ 600002; omega), (by show ss ≤ 7302232; omega)⟩ (Nat.le_of_ble_eq_true rfl) dL_law_541 ?_
  intro r9 N9 hq9
  rw [hq9.1, hq9.2]
  clear hq9 r9 N9
  refine g_icmp_eq 1747 dL_law_544 (by decide) (fun _ => ?_) (fun c => absurd hs.2.2.1 c)
  exact (nx _ _ _ (Nat.le_succ _) (by omega) hs.2.2.2)
set_option maxRecDepth 100000 in
set_option maxHeartbeats 4000000 in
theorem tL_7 {E : gE} {b L i cs ss : Nat} {xs : Nat → Int32} {M : gM} {K : gM → Prop} (hL : L < 2 ^ 31) (hi : i + 5 < L) (hc : cs + 1 ≤ 600002) (hm : ss + 6 ≤ 7302232) (nx : ∀ (k n : Nat) (N : gM), k ≤ cs + 1 → n ≤ ss + 6 → K N → gK E RL code 7 ret room_1 (gSL E b L xs) lw_Z k n 1747 (lvL E b i) [] N) (hs : sL_7 M (xs (i + 1)) (xs (i + 2)) (xs (i + 3)) (xs (i + 4)) (xs (i + 5)) K) : gK E RL code 7 ret room_1 (gSL E b L xs) lw_Z cs ss 549 (lvL E b i) [] M := by
  unfold sL_7 at hs
  refine g_aload_n 1 dL_law_549 rfl ?_
  refine g_sarg (i := i) (n := 1) 0 4 rfl rfl (by omega) hL dL_law_550 dL_law_551 dL_law_553 (by decide) dL_law_554 dL_law_555 ?_
  refine g_sarg (i := i) (n := 2) 0 4 rfl rfl (by omega) hL dL_law_556 dL_law_557 dL_law_559 (by decide) dL_law_560 dL_law_561 ?_
  refine g_callV (As := [.int (xs (i + 1)), .int (xs (i + 2))]) (st := []) (n := 2) 0 (c_X12_lose E M (xs (i + 1)) (xs (i + 2)) hs.1) mt_X12_lose ml_L_59 dF_Wd rfl rfl sg_X12_lose rfl ⟨by decide, by decide, (by show cs ≤ 600002; omega), (by show ss ≤ 7302232; omega)⟩ (Nat.le_of_ble_eq_true rfl) dL_law_562 ?_
  intro r9 N9 hq9
  rw [hq9.1, hq9.2]
  clear hq9 r9 N9
  refine g_aload_n 2 dL_law_565 rfl ?_
  refine g_sarg (i := i) (n := 1) 0 4 rfl rfl (by omega) hL dL_law_566 dL_law_567 dL_law_569 (by decide) dL_law_570 dL_law_571 ?_
  refine g_sarg (i := i) (n := 2) 0 4 rfl rfl (by omega) hL dL_law_572 dL_law_573 dL_law_575 (by decide) dL_law_576 dL_law_577 ?_
  refine g_callV (As := [.int (xs (i + 1)), .int (xs (i + 2))]) (st := [.int ((f_X12_lose M (xs (i + 1)) (xs (i + 2))).1)]) (n := 2) 226 (c_X13_lose E ((f_X12_lose M (xs (i + 1)) (xs (i + 2))).2) (xs (i + 1)) (xs (i + 2)) hs.2.1) mt_X13_lose ml_L_63 dF_Md rfl rfl sg_X13_lose rfl ⟨by decide, by decide, (by show cs ≤ 600002; omega), (by show ss ≤ 7302232; omega)⟩ (Nat.le_of_ble_eq_true rfl) dL_law_578 ?_
  intro r9 N9 hq9
  rw [hq9.1, hq9.2]
  clear hq9 r9 N9
  refine g_icmp_eq 1747 dL_law_581 (by decide) (fun _ => ?_) (fun c => absurd hs.2.2.1 c)
  exact (nx _ _ _ (Nat.le_succ _) (by omega) hs.2.2.2)
set_option maxRecDepth 100000 in
set_option maxHeartbeats 4000000 in
theorem tL_8 {E : gE} {b L i cs ss : Nat} {xs : Nat → Int32} {M : gM} {K : gM → Prop} (hL : L < 2 ^ 31) (hi : i + 5 < L) (hc : cs + 1 ≤ 600002) (hm : ss + 6 ≤ 7302232) (nx : ∀ (k n : Nat) (N : gM), k ≤ cs + 1 → n ≤ ss + 6 → K N → gK E RL code 7 ret room_1 (gSL E b L xs) lw_Z k n 1747 (lvL E b i) [] N) (hs : sL_8 M (xs (i + 1)) (xs (i + 2)) (xs (i + 3)) (xs (i + 4)) (xs (i + 5)) K) : gK E RL code 7 ret room_1 (gSL E b L xs) lw_Z cs ss 586 (lvL E b i) [] M := by
  unfold sL_8 at hs
  refine g_aload_n 1 dL_law_586 rfl ?_
  refine g_sarg (i := i) (n := 1) 0 4 rfl rfl (by omega) hL dL_law_587 dL_law_588 dL_law_590 (by decide) dL_law_591 dL_law_592 ?_
  refine g_callV (As := [.int (xs (i + 1))]) (st := []) (n := 1) 0 (c_X12_find E M (xs (i + 1)) hs.1) mt_X12_find ml_L_64 dF_Wd rfl rfl sg_X12_find rfl ⟨by decide, by decide, (by show cs ≤ 600002; omega), (by show ss ≤ 7302232; omega)⟩ (Nat.le_of_ble_eq_true rfl) dL_law_593 ?_
  intro r9 N9 hq9
  rw [hq9.1, hq9.2]
  clear hq9 r9 N9
  refine g_aload_n 2 dL_law_596 rfl ?_
  refine g_sarg (i := i) (n := 1) 0 4 rfl rfl (by omega) hL dL_law_597 dL_law_598 dL_law_600 (by decide) dL_law_601 dL_law_602 ?_
  refine g_callV (As := [.int (xs (i + 1))]) (st := [.int ((f_X12_find M (xs (i + 1))).1)]) (n := 1) 226 (c_X13_find E ((f_X12_find M (xs (i + 1))).2) (xs (i + 1)) hs.2.1) mt_X13_find ml_L_68 dF_Md rfl rfl sg_X13_find rfl ⟨by decide, by decide, (by show cs ≤ 600002; omega), (by show ss ≤ 7302232; omega)⟩ (Nat.le_of_ble_eq_true rfl) dL_law_603 ?_
  intro r9 N9 hq9
  rw [hq9.1, hq9.2]
  clear hq9 r9 N9
  refine g_icmp_eq 1747 dL_law_606 (by decide) (fun _ => ?_) (fun c => absurd hs.2.2.1 c)
  exact (nx _ _ _ (Nat.le_succ _) (by omega) hs.2.2.2)
set_option maxRecDepth 100000 in
set_option maxHeartbeats 4000000 in
theorem tL_9 {E : gE} {b L i cs ss : Nat} {xs : Nat → Int32} {M : gM} {K : gM → Prop} (hL : L < 2 ^ 31) (hi : i + 5 < L) (hc : cs + 1 ≤ 600002) (hm : ss + 6 ≤ 7302232) (nx : ∀ (k n : Nat) (N : gM), k ≤ cs + 1 → n ≤ ss + 6 → K N → gK E RL code 7 ret room_1 (gSL E b L xs) lw_Z k n 1747 (lvL E b i) [] N) (hs : sL_9 M (xs (i + 1)) (xs (i + 2)) (xs (i + 3)) (xs (i + 4)) (xs (i + 5)) K) : gK E RL code 7 ret room_1 (gSL E b L xs) lw_Z cs ss 611 (lvL E b i) [] M := by
  unfold sL_9 at hs
  refine g_aload_n 1 dL_law_611 rfl ?_
  refine g_sarg (i := i) (n := 1) 0 4 rfl rfl (by omega) hL dL_law_612 dL_law_613 dL_law_615 (by decide) dL_law_616 dL_law_617 ?_
  refine g_callV (As := [.int (xs (i + 1))]) (st := []) (n := 1) 0 (c_X12_copy E M (xs (i + 1)) hs.1) mt_X12_copy ml_L_69 dF_Wd rfl rfl sg_X12_copy rfl ⟨by decide, by decide, (by show cs ≤ 600002; omega), (by show ss ≤ 7302232; omega)⟩ (Nat.le_of_ble_eq_true rfl) dL_law_618 ?_
  intro r9 N9 hq9
  rw [hq9.1, hq9.2]
  clear hq9 r9 N9
  refine g_aload_n 2 dL_law_621 rfl ?_
  refine g_sarg (i := i) (n := 1) 0 4 rfl rfl (by omega) hL dL_law_622 dL_law_623 dL_law_625 (by decide) dL_law_626 dL_law_627 ?_
  refine g_callV (As := [.int (xs (i + 1))]) (st := [.int ((f_X12_copy M (xs (i + 1))).1)]) (n := 1) 226 (c_X13_copy E ((f_X12_copy M (xs (i + 1))).2) (xs (i + 1)) hs.2.1) mt_X13_copy ml_L_72 dF_Md rfl rfl sg_X13_copy rfl ⟨by decide, by decide, (by show cs ≤ 600002; omega), (by show ss ≤ 7302232; omega)⟩ (Nat.le_of_ble_eq_true rfl) dL_law_628 ?_
  intro r9 N9 hq9
  rw [hq9.1, hq9.2]
  clear hq9 r9 N9
  refine g_icmp_eq 1747 dL_law_631 (by decide) (fun _ => ?_) (fun c => absurd hs.2.2.1 c)
  exact (nx _ _ _ (Nat.le_succ _) (by omega) hs.2.2.2)
set_option maxRecDepth 100000 in
set_option maxHeartbeats 4000000 in
theorem tL_10 {E : gE} {b L i cs ss : Nat} {xs : Nat → Int32} {M : gM} {K : gM → Prop} (hL : L < 2 ^ 31) (hi : i + 5 < L) (hc : cs + 1 ≤ 600002) (hm : ss + 6 ≤ 7302232) (nx : ∀ (k n : Nat) (N : gM), k ≤ cs + 1 → n ≤ ss + 6 → K N → gK E RL code 7 ret room_1 (gSL E b L xs) lw_Z k n 1747 (lvL E b i) [] N) (hs : sL_10 M (xs (i + 1)) (xs (i + 2)) (xs (i + 3)) (xs (i + 4)) (xs (i + 5)) K) : gK E RL code 7 ret room_1 (gSL E b L xs) lw_Z cs ss 636 (lvL E b i) [] M := by
  unfold sL_10 at hs
  refine g_aload_n 1 dL_law_636 rfl ?_
  refine g_sarg (i := i) (n := 1) 0 4 rfl rfl (by omega) hL dL_law_637 dL_law_638 dL_law_640 (by decide) dL_law_641 dL_law_642 ?_
  refine g_sarg (i := i) (n := 2) 0 4 rfl rfl (by omega) hL dL_law_643 dL_law_644 dL_law_646 (by decide) dL_law_647 dL_law_648 ?_
  refine g_callV (As := [.int (xs (i + 1)), .int (xs (i + 2))]) (st := []) (n := 2) 0 (c_X12_witness E M (xs (i + 1)) (xs (i + 2)) hs.1) mt_X12_witness ml_L_73 dF_Wd rfl rfl sg_X12_witness rfl ⟨by decide, by decide, (by show cs ≤ 600002; omega), (by show ss ≤ 7302232; omega)⟩ (Nat.le_of_ble_eq_true rfl) dL_law_649 ?_
  intro r9 N9 hq9
  rw [hq9.1, hq9.2]
  clear hq9 r9 N9
  refine g_aload_n 2 dL_law_652 rfl ?_
  refine g_sarg (i := i) (n := 1) 0 4 rfl rfl (by omega) hL dL_law_653 dL_law_654 dL_law_656 (by decide) dL_law_657 dL_law_658 ?_
  refine g_sarg (i := i) (n := 2) 0 4 rfl rfl (by omega) hL dL_law_659 dL_law_660 dL_law_662 (by decide) dL_law_663 dL_law_664 ?_
  refine g_callV (As := [.int (xs (i + 1)), .int (xs (i + 2))]) (st := [.int ((f_X12_witness M (xs (i + 1)) (xs (i + 2))).1)]) (n := 2) 226 (c_X13_witness E ((f_X12_witness M (xs (i + 1)) (xs (i + 2))).2) (xs (i + 1)) (xs (i + 2)) hs.2.1) mt_X13_witness ml_L_76 dF_Md rfl rfl sg_X13_witness rfl ⟨by decide, by decide, (by show cs ≤ 600002; omega), (by show ss ≤ 7302232; omega)⟩ (Nat.le_of_ble_eq_true rfl) dL_law_665 ?_
  intro r9 N9 hq9
  rw [hq9.1, hq9.2]
  clear hq9 r9 N9
  refine g_icmp_eq 1747 dL_law_668 (by decide) (fun _ => ?_) (fun c => absurd hs.2.2.1 c)
  exact (nx _ _ _ (Nat.le_succ _) (by omega) hs.2.2.2)
set_option maxRecDepth 100000 in
set_option maxHeartbeats 4000000 in
theorem tL_11 {E : gE} {b L i cs ss : Nat} {xs : Nat → Int32} {M : gM} {K : gM → Prop} (hL : L < 2 ^ 31) (hi : i + 5 < L) (hc : cs + 1 ≤ 600002) (hm : ss + 6 ≤ 7302232) (nx : ∀ (k n : Nat) (N : gM), k ≤ cs + 1 → n ≤ ss + 6 → K N → gK E RL code 7 ret room_1 (gSL E b L xs) lw_Z k n 1747 (lvL E b i) [] N) (hs : sL_11 M (xs (i + 1)) (xs (i + 2)) (xs (i + 3)) (xs (i + 4)) (xs (i + 5)) K) : gK E RL code 7 ret room_1 (gSL E b L xs) lw_Z cs ss 673 (lvL E b i) [] M := by
  unfold sL_11 at hs
  refine g_aload_n 1 dL_law_673 rfl ?_
  refine g_sarg (i := i) (n := 1) 0 4 rfl rfl (by omega) hL dL_law_674 dL_law_675 dL_law_677 (by decide) dL_law_678 dL_law_679 ?_
  refine g_sarg (i := i) (n := 2) 0 4 rfl rfl (by omega) hL dL_law_680 dL_law_681 dL_law_683 (by decide) dL_law_684 dL_law_685 ?_
  refine g_sarg (i := i) (n := 3) 0 4 rfl rfl (by omega) hL dL_law_686 dL_law_687 dL_law_689 (by decide) dL_law_690 dL_law_691 ?_
  refine g_callV (As := [.int (xs (i + 1)), .int (xs (i + 2)), .int (xs (i + 3))]) (st := []) (n := 3) 0 (c_X12_wed E M (xs (i + 1)) (xs (i + 2)) (xs (i + 3)) hs.1) mt_X12_wed ml_L_77 dF_Wd rfl rfl sg_X12_wed rfl ⟨by decide, by decide, (by show cs ≤ 600002; omega), (by show ss ≤ 7302232; omega)⟩ (Nat.le_of_ble_eq_true rfl) dL_law_692 ?_
  intro r9 N9 hq9
  rw [hq9.1, hq9.2]
  clear hq9 r9 N9
  refine g_aload_n 2 dL_law_695 rfl ?_
  refine g_sarg (i := i) (n := 1) 0 4 rfl rfl (by omega) hL dL_law_696 dL_law_697 dL_law_699 (by decide) dL_law_700 dL_law_701 ?_
  refine g_sarg (i := i) (n := 2) 0 4 rfl rfl (by omega) hL dL_law_702 dL_law_703 dL_law_705 (by decide) dL_law_706 dL_law_707 ?_
  refine g_sarg (i := i) (n := 3) 0 4 rfl rfl (by omega) hL dL_law_708 dL_law_709 dL_law_711 (by decide) dL_law_712 dL_law_713 ?_
  refine g_callV (As := [.int (xs (i + 1)), .int (xs (i + 2)), .int (xs (i + 3))]) (st := [.int ((f_X12_wed M (xs (i + 1)) (xs (i + 2)) (xs (i + 3))).1)]) (n := 3) 226 (c_X13_wed E ((f_X12_wed M (xs (i + 1)) (xs (i + 2)) (xs (i + 3))).2) (xs (i + 1)) (xs (i + 2)) (xs (i + 3)) hs.2.1) mt_X13_wed ml_L_81 dF_Md rfl rfl sg_X13_wed rfl ⟨by decide, by decide, (by show cs ≤ 600002; omega), (by show ss ≤ 7302232; omega)⟩ (Nat.le_of_ble_eq_true rfl) dL_law_714 ?_
  intro r9 N9 hq9
  rw [hq9.1, hq9.2]
  clear hq9 r9 N9
  refine g_icmp_eq 1747 dL_law_717 (by decide) (fun _ => ?_) (fun c => absurd hs.2.2.1 c)
  exact (nx _ _ _ (Nat.le_succ _) (by omega) hs.2.2.2)
set_option maxRecDepth 100000 in
set_option maxHeartbeats 4000000 in
theorem tL_12 {E : gE} {b L i cs ss : Nat} {xs : Nat → Int32} {M : gM} {K : gM → Prop} (hL : L < 2 ^ 31) (hi : i + 5 < L) (hc : cs + 1 ≤ 600002) (hm : ss + 6 ≤ 7302232) (nx : ∀ (k n : Nat) (N : gM), k ≤ cs + 1 → n ≤ ss + 6 → K N → gK E RL code 7 ret room_1 (gSL E b L xs) lw_Z k n 1747 (lvL E b i) [] N) (hs : sL_12 M (xs (i + 1)) (xs (i + 2)) (xs (i + 3)) (xs (i + 4)) (xs (i + 5)) K) : gK E RL code 7 ret room_1 (gSL E b L xs) lw_Z cs ss 722 (lvL E b i) [] M := by
  unfold sL_12 at hs
  refine g_aload_n 1 dL_law_722 rfl ?_
  refine g_sarg (i := i) (n := 1) 0 4 rfl rfl (by omega) hL dL_law_723 dL_law_724 dL_law_726 (by decide) dL_law_727 dL_law_728 ?_
  refine g_sarg (i := i) (n := 2) 0 4 rfl rfl (by omega) hL dL_law_729 dL_law_730 dL_law_732 (by decide) dL_law_733 dL_law_734 ?_
  refine g_callV (As := [.int (xs (i + 1)), .int (xs (i + 2))]) (st := []) (n := 2) 0 (c_X12_dies E M (xs (i + 1)) (xs (i + 2)) hs.1) mt_X12_dies ml_L_82 dF_Wd rfl rfl sg_X12_dies rfl ⟨by decide, by decide, (by show cs ≤ 600002; omega), (by show ss ≤ 7302232; omega)⟩ (Nat.le_of_ble_eq_true rfl) dL_law_735 ?_
  intro r9 N9 hq9
  rw [hq9.1, hq9.2]
  clear hq9 r9 N9
  refine g_aload_n 2 dL_law_738 rfl ?_
  refine g_sarg (i := i) (n := 1) 0 4 rfl rfl (by omega) hL dL_law_739 dL_law_740 dL_law_742 (by decide) dL_law_743 dL_law_744 ?_
  refine g_sarg (i := i) (n := 2) 0 4 rfl rfl (by omega) hL dL_law_745 dL_law_746 dL_law_748 (by decide) dL_law_749 dL_law_750 ?_
  refine g_callV (As := [.int (xs (i + 1)), .int (xs (i + 2))]) (st := [.int ((f_X12_dies M (xs (i + 1)) (xs (i + 2))).1)]) (n := 2) 226 (c_X13_dies E ((f_X12_dies M (xs (i + 1)) (xs (i + 2))).2) (xs (i + 1)) (xs (i + 2)) hs.2.1) mt_X13_dies ml_L_85 dF_Md rfl rfl sg_X13_dies rfl ⟨by decide, by decide, (by show cs ≤ 600002; omega), (by show ss ≤ 7302232; omega)⟩ (Nat.le_of_ble_eq_true rfl) dL_law_751 ?_
  intro r9 N9 hq9
  rw [hq9.1, hq9.2]
  clear hq9 r9 N9
  refine g_icmp_eq 1747 dL_law_754 (by decide) (fun _ => ?_) (fun c => absurd hs.2.2.1 c)
  exact (nx _ _ _ (Nat.le_succ _) (by omega) hs.2.2.2)
set_option maxRecDepth 100000 in
set_option maxHeartbeats 4000000 in
theorem tL_13 {E : gE} {b L i cs ss : Nat} {xs : Nat → Int32} {M : gM} {K : gM → Prop} (hL : L < 2 ^ 31) (hi : i + 5 < L) (hc : cs + 1 ≤ 600002) (hm : ss + 6 ≤ 7302232) (nx : ∀ (k n : Nat) (N : gM), k ≤ cs + 1 → n ≤ ss + 6 → K N → gK E RL code 7 ret room_1 (gSL E b L xs) lw_Z k n 1747 (lvL E b i) [] N) (hs : sL_13 M (xs (i + 1)) (xs (i + 2)) (xs (i + 3)) (xs (i + 4)) (xs (i + 5)) K) : gK E RL code 7 ret room_1 (gSL E b L xs) lw_Z cs ss 759 (lvL E b i) [] M := by
  unfold sL_13 at hs
  refine g_aload_n 1 dL_law_759 rfl ?_
  refine g_sarg (i := i) (n := 1) 0 4 rfl rfl (by omega) hL dL_law_760 dL_law_761 dL_law_763 (by decide) dL_law_764 dL_law_765 ?_
  refine g_callV (As := [.int (xs (i + 1))]) (st := []) (n := 1) 0 (c_X12_takeBack E M (xs (i + 1)) hs.1) mt_X12_takeBack ml_L_86 dF_Wd rfl rfl sg_X12_takeBack rfl ⟨by decide, by decide, (by show cs ≤ 600002; omega), (by show ss ≤ 7302232; omega)⟩ (Nat.le_of_ble_eq_true rfl) dL_law_766 ?_
  intro r9 N9 hq9
  rw [hq9.1, hq9.2]
  clear hq9 r9 N9
  refine g_aload_n 2 dL_law_769 rfl ?_
  refine g_sarg (i := i) (n := 1) 0 4 rfl rfl (by omega) hL dL_law_770 dL_law_771 dL_law_773 (by decide) dL_law_774 dL_law_775 ?_
  refine g_callV (As := [.int (xs (i + 1))]) (st := [.int ((f_X12_takeBack M (xs (i + 1))).1)]) (n := 1) 226 (c_X13_takeBack E ((f_X12_takeBack M (xs (i + 1))).2) (xs (i + 1)) hs.2.1) mt_X13_takeBack ml_L_89 dF_Md rfl rfl sg_X13_takeBack rfl ⟨by decide, by decide, (by show cs ≤ 600002; omega), (by show ss ≤ 7302232; omega)⟩ (Nat.le_of_ble_eq_true rfl) dL_law_776 ?_
  intro r9 N9 hq9
  rw [hq9.1, hq9.2]
  clear hq9 r9 N9
  refine g_icmp_eq 1747 dL_law_779 (by decide) (fun _ => ?_) (fun c => absurd hs.2.2.1 c)
  exact (nx _ _ _ (Nat.le_succ _) (by omega) hs.2.2.2)
set_option maxRecDepth 100000 in
set_option maxHeartbeats 4000000 in
theorem tL_14 {E : gE} {b L i cs ss : Nat} {xs : Nat → Int32} {M : gM} {K : gM → Prop} (hL : L < 2 ^ 31) (hi : i + 5 < L) (hc : cs + 1 ≤ 600002) (hm : ss + 6 ≤ 7302232) (nx : ∀ (k n : Nat) (N : gM), k ≤ cs + 1 → n ≤ ss + 6 → K N → gK E RL code 7 ret room_1 (gSL E b L xs) lw_Z k n 1747 (lvL E b i) [] N) (hs : sL_14 M (xs (i + 1)) (xs (i + 2)) (xs (i + 3)) (xs (i + 4)) (xs (i + 5)) K) : gK E RL code 7 ret room_1 (gSL E b L xs) lw_Z cs ss 784 (lvL E b i) [] M := by
  unfold sL_14 at hs
  refine g_aload_n 1 dL_law_784 rfl ?_
  refine g_callV (As := []) (st := []) (n := 0) 0 (c_X12_undo E M hs.1) mt_X12_undo ml_L_90 dF_Wd rfl rfl sg_X12_undo rfl ⟨by decide, by decide, (by show cs ≤ 600002; omega), (by show ss ≤ 7302232; omega)⟩ (Nat.le_of_ble_eq_true rfl) dL_law_785 ?_
  intro r9 N9 hq9
  rw [hq9.1, hq9.2]
  clear hq9 r9 N9
  refine g_aload_n 2 dL_law_788 rfl ?_
  refine g_callV (As := []) (st := [.int ((f_X12_undo M).1)]) (n := 0) 226 (c_X13_undo E ((f_X12_undo M).2) hs.2.1) mt_X13_undo ml_L_93 dF_Md rfl rfl sg_X13_undo rfl ⟨by decide, by decide, (by show cs ≤ 600002; omega), (by show ss ≤ 7302232; omega)⟩ (Nat.le_of_ble_eq_true rfl) dL_law_789 ?_
  intro r9 N9 hq9
  rw [hq9.1, hq9.2]
  clear hq9 r9 N9
  refine g_icmp_eq 1747 dL_law_792 (by decide) (fun _ => ?_) (fun c => absurd hs.2.2.1 c)
  exact (nx _ _ _ (Nat.le_succ _) (by omega) hs.2.2.2)
set_option maxRecDepth 100000 in
set_option maxHeartbeats 4000000 in
theorem tL_15 {E : gE} {b L i cs ss : Nat} {xs : Nat → Int32} {M : gM} {K : gM → Prop} (hL : L < 2 ^ 31) (hi : i + 5 < L) (hc : cs + 1 ≤ 600002) (hm : ss + 6 ≤ 7302232) (nx : ∀ (k n : Nat) (N : gM), k ≤ cs + 1 → n ≤ ss + 6 → K N → gK E RL code 7 ret room_1 (gSL E b L xs) lw_Z k n 1747 (lvL E b i) [] N) (hs : sL_15 M (xs (i + 1)) (xs (i + 2)) (xs (i + 3)) (xs (i + 4)) (xs (i + 5)) K) : gK E RL code 7 ret room_1 (gSL E b L xs) lw_Z cs ss 797 (lvL E b i) [] M := by
  unfold sL_15 at hs
  refine g_aload_n 1 dL_law_797 rfl ?_
  refine g_sarg (i := i) (n := 1) 0 4 rfl rfl (by omega) hL dL_law_798 dL_law_799 dL_law_801 (by decide) dL_law_802 dL_law_803 ?_
  refine g_sarg (i := i) (n := 2) 0 4 rfl rfl (by omega) hL dL_law_804 dL_law_805 dL_law_807 (by decide) dL_law_808 dL_law_809 ?_
  refine g_callV (As := [.int (xs (i + 1)), .int (xs (i + 2))]) (st := []) (n := 2) 0 (c_X12_form E M (xs (i + 1)) (xs (i + 2)) hs.1) mt_X12_form ml_L_94 dF_Wd rfl rfl sg_X12_form rfl ⟨by decide, by decide, (by show cs ≤ 600002; omega), (by show ss ≤ 7302232; omega)⟩ (Nat.le_of_ble_eq_true rfl) dL_law_810 ?_
  intro r9 N9 hq9
  rw [hq9.1, hq9.2]
  clear hq9 r9 N9
  refine g_aload_n 2 dL_law_813 rfl ?_
  refine g_sarg (i := i) (n := 1) 0 4 rfl rfl (by omega) hL dL_law_814 dL_law_815 dL_law_817 (by decide) dL_law_818 dL_law_819 ?_
  refine g_sarg (i := i) (n := 2) 0 4 rfl rfl (by omega) hL dL_law_820 dL_law_821 dL_law_823 (by decide) dL_law_824 dL_law_825 ?_
  refine g_callV (As := [.int (xs (i + 1)), .int (xs (i + 2))]) (st := [.int (f_X12_form M (xs (i + 1)) (xs (i + 2)))]) (n := 2) 226 (c_X13_form E M (xs (i + 1)) (xs (i + 2)) hs.2.1) mt_X13_form ml_L_97 dF_Md rfl rfl sg_X13_form rfl ⟨by decide, by decide, (by show cs ≤ 600002; omega), (by show ss ≤ 7302232; omega)⟩ (Nat.le_of_ble_eq_true rfl) dL_law_826 ?_
  intro r9 N9 hq9
  rw [hq9.1, hq9.2]
  clear hq9 r9 N9
  refine g_icmp_eq 1747 dL_law_829 (by decide) (fun _ => ?_) (fun c => absurd hs.2.2.1 c)
  exact (nx _ _ _ (Nat.le_succ _) (by omega) hs.2.2.2)
set_option maxRecDepth 100000 in
set_option maxHeartbeats 4000000 in
theorem tL_16 {E : gE} {b L i cs ss : Nat} {xs : Nat → Int32} {M : gM} {K : gM → Prop} (hL : L < 2 ^ 31) (hi : i + 5 < L) (hc : cs + 1 ≤ 600002) (hm : ss + 6 ≤ 7302232) (nx : ∀ (k n : Nat) (N : gM), k ≤ cs + 1 → n ≤ ss + 6 → K N → gK E RL code 7 ret room_1 (gSL E b L xs) lw_Z k n 1747 (lvL E b i) [] N) (hs : sL_16 M (xs (i + 1)) (xs (i + 2)) (xs (i + 3)) (xs (i + 4)) (xs (i + 5)) K) : gK E RL code 7 ret room_1 (gSL E b L xs) lw_Z cs ss 834 (lvL E b i) [] M := by
  unfold sL_16 at hs
  refine g_aload_n 1 dL_law_834 rfl ?_
  refine g_sarg (i := i) (n := 1) 0 4 rfl rfl (by omega) hL dL_law_835 dL_law_836 dL_law_838 (by decide) dL_law_839 dL_law_840 ?_
  refine g_sarg (i := i) (n := 2) 0 4 rfl rfl (by omega) hL dL_law_841 dL_law_842 dL_law_844 (by decide) dL_law_845 dL_law_846 ?_
  refine g_callV (As := [.int (xs (i + 1)), .int (xs (i + 2))]) (st := []) (n := 2) 0 (c_X12_why E M (xs (i + 1)) (xs (i + 2)) hs.1) mt_X12_why ml_L_98 dF_Wd rfl rfl sg_X12_why rfl ⟨by decide, by decide, (by show cs ≤ 600002; omega), (by show ss ≤ 7302232; omega)⟩ (Nat.le_of_ble_eq_true rfl) dL_law_847 ?_
  intro r9 N9 hq9
  rw [hq9.1, hq9.2]
  clear hq9 r9 N9
  refine g_aload_n 2 dL_law_850 rfl ?_
  refine g_sarg (i := i) (n := 1) 0 4 rfl rfl (by omega) hL dL_law_851 dL_law_852 dL_law_854 (by decide) dL_law_855 dL_law_856 ?_
  refine g_sarg (i := i) (n := 2) 0 4 rfl rfl (by omega) hL dL_law_857 dL_law_858 dL_law_860 (by decide) dL_law_861 dL_law_862 ?_
  refine g_callV (As := [.int (xs (i + 1)), .int (xs (i + 2))]) (st := [.int ((f_X12_why M (xs (i + 1)) (xs (i + 2))).1)]) (n := 2) 226 (c_X13_why E ((f_X12_why M (xs (i + 1)) (xs (i + 2))).2) (xs (i + 1)) (xs (i + 2)) hs.2.1) mt_X13_why ml_L_101 dF_Md rfl rfl sg_X13_why rfl ⟨by decide, by decide, (by show cs ≤ 600002; omega), (by show ss ≤ 7302232; omega)⟩ (Nat.le_of_ble_eq_true rfl) dL_law_863 ?_
  intro r9 N9 hq9
  rw [hq9.1, hq9.2]
  clear hq9 r9 N9
  refine g_icmp_eq 1747 dL_law_866 (by decide) (fun _ => ?_) (fun c => absurd hs.2.2.1 c)
  exact (nx _ _ _ (Nat.le_succ _) (by omega) hs.2.2.2)
set_option maxRecDepth 100000 in
set_option maxHeartbeats 4000000 in
theorem tL_17 {E : gE} {b L i cs ss : Nat} {xs : Nat → Int32} {M : gM} {K : gM → Prop} (hL : L < 2 ^ 31) (hi : i + 5 < L) (hc : cs + 1 ≤ 600002) (hm : ss + 6 ≤ 7302232) (nx : ∀ (k n : Nat) (N : gM), k ≤ cs + 1 → n ≤ ss + 6 → K N → gK E RL code 7 ret room_1 (gSL E b L xs) lw_Z k n 1747 (lvL E b i) [] N) (hs : sL_17 M (xs (i + 1)) (xs (i + 2)) (xs (i + 3)) (xs (i + 4)) (xs (i + 5)) K) : gK E RL code 7 ret room_1 (gSL E b L xs) lw_Z cs ss 871 (lvL E b i) [] M := by
  unfold sL_17 at hs
  refine g_aload_n 1 dL_law_871 rfl ?_
  refine g_sarg (i := i) (n := 1) 0 4 rfl rfl (by omega) hL dL_law_872 dL_law_873 dL_law_875 (by decide) dL_law_876 dL_law_877 ?_
  refine g_sarg (i := i) (n := 2) 0 4 rfl rfl (by omega) hL dL_law_878 dL_law_879 dL_law_881 (by decide) dL_law_882 dL_law_883 ?_
  refine g_callV (As := [.int (xs (i + 1)), .int (xs (i + 2))]) (st := []) (n := 2) 0 (c_X12_struckBy E M (xs (i + 1)) (xs (i + 2)) hs.1) mt_X12_struckBy ml_L_102 dF_Wd rfl rfl sg_X12_struckBy rfl ⟨by decide, by decide, (by show cs ≤ 600002; omega), (by show ss ≤ 7302232; omega)⟩ (Nat.le_of_ble_eq_true rfl) dL_law_884 ?_
  intro r9 N9 hq9
  rw [hq9.1, hq9.2]
  clear hq9 r9 N9
  refine g_aload_n 2 dL_law_887 rfl ?_
  refine g_sarg (i := i) (n := 1) 0 4 rfl rfl (by omega) hL dL_law_888 dL_law_889 dL_law_891 (by decide) dL_law_892 dL_law_893 ?_
  refine g_sarg (i := i) (n := 2) 0 4 rfl rfl (by omega) hL dL_law_894 dL_law_895 dL_law_897 (by decide) dL_law_898 dL_law_899 ?_
  refine g_callV (As := [.int (xs (i + 1)), .int (xs (i + 2))]) (st := [.int ((f_X12_struckBy M (xs (i + 1)) (xs (i + 2))).1)]) (n := 2) 226 (c_X13_struckBy E ((f_X12_struckBy M (xs (i + 1)) (xs (i + 2))).2) (xs (i + 1)) (xs (i + 2)) hs.2.1) mt_X13_struckBy ml_L_105 dF_Md rfl rfl sg_X13_struckBy rfl ⟨by decide, by decide, (by show cs ≤ 600002; omega), (by show ss ≤ 7302232; omega)⟩ (Nat.le_of_ble_eq_true rfl) dL_law_900 ?_
  intro r9 N9 hq9
  rw [hq9.1, hq9.2]
  clear hq9 r9 N9
  refine g_icmp_eq 1747 dL_law_903 (by decide) (fun _ => ?_) (fun c => absurd hs.2.2.1 c)
  exact (nx _ _ _ (Nat.le_succ _) (by omega) hs.2.2.2)
set_option maxRecDepth 100000 in
set_option maxHeartbeats 4000000 in
theorem tL_18 {E : gE} {b L i cs ss : Nat} {xs : Nat → Int32} {M : gM} {K : gM → Prop} (hL : L < 2 ^ 31) (hi : i + 5 < L) (hc : cs + 1 ≤ 600002) (hm : ss + 6 ≤ 7302232) (nx : ∀ (k n : Nat) (N : gM), k ≤ cs + 1 → n ≤ ss + 6 → K N → gK E RL code 7 ret room_1 (gSL E b L xs) lw_Z k n 1747 (lvL E b i) [] N) (hs : sL_18 M (xs (i + 1)) (xs (i + 2)) (xs (i + 3)) (xs (i + 4)) (xs (i + 5)) K) : gK E RL code 7 ret room_1 (gSL E b L xs) lw_Z cs ss 908 (lvL E b i) [] M := by
  unfold sL_18 at hs
  refine g_aload_n 1 dL_law_908 rfl ?_
  refine g_sarg (i := i) (n := 1) 0 4 rfl rfl (by omega) hL dL_law_909 dL_law_910 dL_law_912 (by decide) dL_law_913 dL_law_914 ?_
  refine g_sarg (i := i) (n := 2) 0 4 rfl rfl (by omega) hL dL_law_915 dL_law_916 dL_law_918 (by decide) dL_law_919 dL_law_920 ?_
  refine g_sarg (i := i) (n := 3) 0 4 rfl rfl (by omega) hL dL_law_921 dL_law_922 dL_law_924 (by decide) dL_law_925 dL_law_926 ?_
  refine g_callV (As := [.int (xs (i + 1)), .int (xs (i + 2)), .int (xs (i + 3))]) (st := []) (n := 3) 0 (c_X12_counting E M (xs (i + 1)) (xs (i + 2)) (xs (i + 3)) hs.1) mt_X12_counting ml_L_106 dF_Wd rfl rfl sg_X12_counting rfl ⟨by decide, by decide, (by show cs ≤ 600002; omega), (by show ss ≤ 7302232; omega)⟩ (Nat.le_of_ble_eq_true rfl) dL_law_927 ?_
  intro r9 N9 hq9
  rw [hq9.1, hq9.2]
  clear hq9 r9 N9
  refine g_aload_n 2 dL_law_930 rfl ?_
  refine g_sarg (i := i) (n := 1) 0 4 rfl rfl (by omega) hL dL_law_931 dL_law_932 dL_law_934 (by decide) dL_law_935 dL_law_936 ?_
  refine g_sarg (i := i) (n := 2) 0 4 rfl rfl (by omega) hL dL_law_937 dL_law_938 dL_law_940 (by decide) dL_law_941 dL_law_942 ?_
  refine g_sarg (i := i) (n := 3) 0 4 rfl rfl (by omega) hL dL_law_943 dL_law_944 dL_law_946 (by decide) dL_law_947 dL_law_948 ?_
  refine g_callV (As := [.int (xs (i + 1)), .int (xs (i + 2)), .int (xs (i + 3))]) (st := [.int ((f_X12_counting M (xs (i + 1)) (xs (i + 2)) (xs (i + 3))).1)]) (n := 3) 226 (c_X13_counting E ((f_X12_counting M (xs (i + 1)) (xs (i + 2)) (xs (i + 3))).2) (xs (i + 1)) (xs (i + 2)) (xs (i + 3)) hs.2.1) mt_X13_counting ml_L_109 dF_Md rfl rfl sg_X13_counting rfl ⟨by decide, by decide, (by show cs ≤ 600002; omega), (by show ss ≤ 7302232; omega)⟩ (Nat.le_of_ble_eq_true rfl) dL_law_949 ?_
  intro r9 N9 hq9
  rw [hq9.1, hq9.2]
  clear hq9 r9 N9
  refine g_icmp_eq 1747 dL_law_952 (by decide) (fun _ => ?_) (fun c => absurd hs.2.2.1 c)
  exact (nx _ _ _ (Nat.le_succ _) (by omega) hs.2.2.2)
set_option maxRecDepth 100000 in
set_option maxHeartbeats 4000000 in
theorem tL_19 {E : gE} {b L i cs ss : Nat} {xs : Nat → Int32} {M : gM} {K : gM → Prop} (hL : L < 2 ^ 31) (hi : i + 5 < L) (hc : cs + 1 ≤ 600002) (hm : ss + 6 ≤ 7302232) (nx : ∀ (k n : Nat) (N : gM), k ≤ cs + 1 → n ≤ ss + 6 → K N → gK E RL code 7 ret room_1 (gSL E b L xs) lw_Z k n 1747 (lvL E b i) [] N) (hs : sL_19 M (xs (i + 1)) (xs (i + 2)) (xs (i + 3)) (xs (i + 4)) (xs (i + 5)) K) : gK E RL code 7 ret room_1 (gSL E b L xs) lw_Z cs ss 957 (lvL E b i) [] M := by
  unfold sL_19 at hs
  refine g_aload_n 1 dL_law_957 rfl ?_
  refine g_sarg (i := i) (n := 1) 0 4 rfl rfl (by omega) hL dL_law_958 dL_law_959 dL_law_961 (by decide) dL_law_962 dL_law_963 ?_
  refine g_sarg (i := i) (n := 2) 0 4 rfl rfl (by omega) hL dL_law_964 dL_law_965 dL_law_967 (by decide) dL_law_968 dL_law_969 ?_
  refine g_callV (As := [.int (xs (i + 1)), .int (xs (i + 2))]) (st := []) (n := 2) 0 (c_X12_taker E M (xs (i + 1)) (xs (i + 2)) hs.1) mt_X12_taker ml_L_110 dF_Wd rfl rfl sg_X12_taker rfl ⟨by decide, by decide, (by show cs ≤ 600002; omega), (by show ss ≤ 7302232; omega)⟩ (Nat.le_of_ble_eq_true rfl) dL_law_970 ?_
  intro r9 N9 hq9
  rw [hq9.1, hq9.2]
  clear hq9 r9 N9
  refine g_aload_n 2 dL_law_973 rfl ?_
  refine g_sarg (i := i) (n := 1) 0 4 rfl rfl (by omega) hL dL_law_974 dL_law_975 dL_law_977 (by decide) dL_law_978 dL_law_979 ?_
  refine g_sarg (i := i) (n := 2) 0 4 rfl rfl (by omega) hL dL_law_980 dL_law_981 dL_law_983 (by decide) dL_law_984 dL_law_985 ?_
  refine g_callV (As := [.int (xs (i + 1)), .int (xs (i + 2))]) (st := [.int ((f_X12_taker M (xs (i + 1)) (xs (i + 2))).1)]) (n := 2) 226 (c_X13_taker E ((f_X12_taker M (xs (i + 1)) (xs (i + 2))).2) (xs (i + 1)) (xs (i + 2)) hs.2.1) mt_X13_taker ml_L_113 dF_Md rfl rfl sg_X13_taker rfl ⟨by decide, by decide, (by show cs ≤ 600002; omega), (by show ss ≤ 7302232; omega)⟩ (Nat.le_of_ble_eq_true rfl) dL_law_986 ?_
  intro r9 N9 hq9
  rw [hq9.1, hq9.2]
  clear hq9 r9 N9
  refine g_icmp_eq 1747 dL_law_989 (by decide) (fun _ => ?_) (fun c => absurd hs.2.2.1 c)
  exact (nx _ _ _ (Nat.le_succ _) (by omega) hs.2.2.2)
set_option maxRecDepth 100000 in
set_option maxHeartbeats 4000000 in
theorem tL_20 {E : gE} {b L i cs ss : Nat} {xs : Nat → Int32} {M : gM} {K : gM → Prop} (hL : L < 2 ^ 31) (hi : i + 5 < L) (hc : cs + 1 ≤ 600002) (hm : ss + 6 ≤ 7302232) (nx : ∀ (k n : Nat) (N : gM), k ≤ cs + 1 → n ≤ ss + 6 → K N → gK E RL code 7 ret room_1 (gSL E b L xs) lw_Z k n 1747 (lvL E b i) [] N) (hs : sL_20 M (xs (i + 1)) (xs (i + 2)) (xs (i + 3)) (xs (i + 4)) (xs (i + 5)) K) : gK E RL code 7 ret room_1 (gSL E b L xs) lw_Z cs ss 994 (lvL E b i) [] M := by
  unfold sL_20 at hs
  refine g_aload_n 1 dL_law_994 rfl ?_
  refine g_sarg (i := i) (n := 1) 0 4 rfl rfl (by omega) hL dL_law_995 dL_law_996 dL_law_998 (by decide) dL_law_999 dL_law_1000 ?_
  refine g_sarg (i := i) (n := 2) 0 4 rfl rfl (by omega) hL dL_law_1001 dL_law_1002 dL_law_1004 (by decide) dL_law_1005 dL_law_1006 ?_
  refine g_callV (As := [.int (xs (i + 1)), .int (xs (i + 2))]) (st := []) (n := 2) 0 (c_X12_takerBy E M (xs (i + 1)) (xs (i + 2)) hs.1) mt_X12_takerBy ml_L_114 dF_Wd rfl rfl sg_X12_takerBy rfl ⟨by decide, by decide, (by show cs ≤ 600002; omega), (by show ss ≤ 7302232; omega)⟩ (Nat.le_of_ble_eq_true rfl) dL_law_1007 ?_
  intro r9 N9 hq9
  rw [hq9.1, hq9.2]
  clear hq9 r9 N9
  refine g_aload_n 2 dL_law_1010 rfl ?_
  refine g_sarg (i := i) (n := 1) 0 4 rfl rfl (by omega) hL dL_law_1011 dL_law_1012 dL_law_1014 (by decide) dL_law_1015 dL_law_1016 ?_
  refine g_sarg (i := i) (n := 2) 0 4 rfl rfl (by omega) hL dL_law_1017 dL_law_1018 dL_law_1020 (by decide) dL_law_1021 dL_law_1022 ?_
  refine g_callV (As := [.int (xs (i + 1)), .int (xs (i + 2))]) (st := [.int ((f_X12_takerBy M (xs (i + 1)) (xs (i + 2))).1)]) (n := 2) 226 (c_X13_takerBy_ E ((f_X12_takerBy M (xs (i + 1)) (xs (i + 2))).2) (xs (i + 1)) (xs (i + 2)) hs.2.1) mt_X13_takerBy_ ml_L_117 dF_Md rfl rfl sg_X13_takerBy_ rfl ⟨by decide, by decide, (by show cs ≤ 600002; omega), (by show ss ≤ 7302232; omega)⟩ (Nat.le_of_ble_eq_true rfl) dL_law_1023 ?_
  intro r9 N9 hq9
  rw [hq9.1, hq9.2]
  clear hq9 r9 N9
  refine g_icmp_eq 1747 dL_law_1026 (by decide) (fun _ => ?_) (fun c => absurd hs.2.2.1 c)
  exact (nx _ _ _ (Nat.le_succ _) (by omega) hs.2.2.2)
set_option maxRecDepth 100000 in
set_option maxHeartbeats 4000000 in
theorem tL_21 {E : gE} {b L i cs ss : Nat} {xs : Nat → Int32} {M : gM} {K : gM → Prop} (hL : L < 2 ^ 31) (hi : i + 5 < L) (hc : cs + 1 ≤ 600002) (hm : ss + 6 ≤ 7302232) (nx : ∀ (k n : Nat) (N : gM), k ≤ cs + 1 → n ≤ ss + 6 → K N → gK E RL code 7 ret room_1 (gSL E b L xs) lw_Z k n 1747 (lvL E b i) [] N) (hs : sL_21 M (xs (i + 1)) (xs (i + 2)) (xs (i + 3)) (xs (i + 4)) (xs (i + 5)) K) : gK E RL code 7 ret room_1 (gSL E b L xs) lw_Z cs ss 1031 (lvL E b i) [] M := by
  unfold sL_21 at hs
  refine g_aload_n 1 dL_law_1031 rfl ?_
  refine g_sarg (i := i) (n := 1) 0 4 rfl rfl (by omega) hL dL_law_1032 dL_law_1033 dL_law_1035 (by decide) dL_law_1036 dL_law_1037 ?_
  refine g_callV (As := [.int (xs (i + 1))]) (st := []) (n := 1) 0 (c_X12_heirs E M (xs (i + 1)) hs.1) mt_X12_heirs ml_L_118 dF_Wd rfl rfl sg_X12_heirs rfl ⟨by decide, by decide, (by show cs ≤ 600002; omega), (by show ss ≤ 7302232; omega)⟩ (Nat.le_of_ble_eq_true rfl) dL_law_1038 ?_
  intro r9 N9 hq9
  rw [hq9.1, hq9.2]
  clear hq9 r9 N9
  refine g_aload_n 2 dL_law_1041 rfl ?_
  refine g_sarg (i := i) (n := 1) 0 4 rfl rfl (by omega) hL dL_law_1042 dL_law_1043 dL_law_1045 (by decide) dL_law_1046 dL_law_1047 ?_
  refine g_callV (As := [.int (xs (i + 1))]) (st := [.int (f_X12_heirs M (xs (i + 1)))]) (n := 1) 226 (c_X13_heirs E M (xs (i + 1)) hs.2.1) mt_X13_heirs ml_L_121 dF_Md rfl rfl sg_X13_heirs rfl ⟨by decide, by decide, (by show cs ≤ 600002; omega), (by show ss ≤ 7302232; omega)⟩ (Nat.le_of_ble_eq_true rfl) dL_law_1048 ?_
  intro r9 N9 hq9
  rw [hq9.1, hq9.2]
  clear hq9 r9 N9
  refine g_icmp_eq 1747 dL_law_1051 (by decide) (fun _ => ?_) (fun c => absurd hs.2.2.1 c)
  exact (nx _ _ _ (Nat.le_succ _) (by omega) hs.2.2.2)
set_option maxRecDepth 100000 in
set_option maxHeartbeats 4000000 in
theorem tL_22 {E : gE} {b L i cs ss : Nat} {xs : Nat → Int32} {M : gM} {K : gM → Prop} (hL : L < 2 ^ 31) (hi : i + 5 < L) (hc : cs + 1 ≤ 600002) (hm : ss + 6 ≤ 7302232) (nx : ∀ (k n : Nat) (N : gM), k ≤ cs + 1 → n ≤ ss + 6 → K N → gK E RL code 7 ret room_1 (gSL E b L xs) lw_Z k n 1747 (lvL E b i) [] N) (hs : sL_22 M (xs (i + 1)) (xs (i + 2)) (xs (i + 3)) (xs (i + 4)) (xs (i + 5)) K) : gK E RL code 7 ret room_1 (gSL E b L xs) lw_Z cs ss 1056 (lvL E b i) [] M := by
  unfold sL_22 at hs
  refine g_aload_n 1 dL_law_1056 rfl ?_
  refine g_sarg (i := i) (n := 1) 0 4 rfl rfl (by omega) hL dL_law_1057 dL_law_1058 dL_law_1060 (by decide) dL_law_1061 dL_law_1062 ?_
  refine g_sarg (i := i) (n := 2) 0 4 rfl rfl (by omega) hL dL_law_1063 dL_law_1064 dL_law_1066 (by decide) dL_law_1067 dL_law_1068 ?_
  refine g_sarg (i := i) (n := 3) 0 4 rfl rfl (by omega) hL dL_law_1069 dL_law_1070 dL_law_1072 (by decide) dL_law_1073 dL_law_1074 ?_
  refine g_sarg (i := i) (n := 4) 0 4 rfl rfl (by omega) hL dL_law_1075 dL_law_1076 dL_law_1078 (by decide) dL_law_1079 dL_law_1080 ?_
  refine g_callV (As := [.int (xs (i + 1)), .int (xs (i + 2)), .int (xs (i + 3)), .int (xs (i + 4))]) (st := []) (n := 4) 0 (c_X12_has E M (xs (i + 1)) (xs (i + 2)) (xs (i + 3)) (xs (i + 4)) hs.1) mt_X12_has ml_L_122 dF_Wd rfl rfl sg_X12_has rfl ⟨by decide, by decide, (by show cs ≤ 600002; omega), (by show ss ≤ 7302232; omega)⟩ (Nat.le_of_ble_eq_true rfl) dL_law_1081 ?_
  intro r9 N9 hq9
  rw [hq9.1, hq9.2]
  clear hq9 r9 N9
  refine g_aload_n 2 dL_law_1084 rfl ?_
  refine g_sarg (i := i) (n := 1) 0 4 rfl rfl (by omega) hL dL_law_1085 dL_law_1086 dL_law_1088 (by decide) dL_law_1089 dL_law_1090 ?_
  refine g_sarg (i := i) (n := 2) 0 4 rfl rfl (by omega) hL dL_law_1091 dL_law_1092 dL_law_1094 (by decide) dL_law_1095 dL_law_1096 ?_
  refine g_sarg (i := i) (n := 3) 0 4 rfl rfl (by omega) hL dL_law_1097 dL_law_1098 dL_law_1100 (by decide) dL_law_1101 dL_law_1102 ?_
  refine g_sarg (i := i) (n := 4) 0 4 rfl rfl (by omega) hL dL_law_1103 dL_law_1104 dL_law_1106 (by decide) dL_law_1107 dL_law_1108 ?_
  refine g_callV (As := [.int (xs (i + 1)), .int (xs (i + 2)), .int (xs (i + 3)), .int (xs (i + 4))]) (st := [.long ((f_X12_has M (xs (i + 1)) (xs (i + 2)) (xs (i + 3)) (xs (i + 4))).1)]) (n := 4) 226 (c_X13_has_ E ((f_X12_has M (xs (i + 1)) (xs (i + 2)) (xs (i + 3)) (xs (i + 4))).2) (xs (i + 1)) (xs (i + 2)) (xs (i + 3)) (xs (i + 4)) hs.2.1) mt_X13_has_ ml_L_126 dF_Md rfl rfl sg_X13_has_ rfl ⟨by decide, by decide, (by show cs ≤ 600002; omega), (by show ss ≤ 7302232; omega)⟩ (Nat.le_of_ble_eq_true rfl) dL_law_1109 ?_
  intro r9 N9 hq9
  rw [hq9.1, hq9.2]
  clear hq9 r9 N9
  refine g_lcmp dL_law_1112 ?_
  refine g_if_eq 1747 dL_law_1113 (by decide) (fun _ => ?_) (fun c => absurd hs.2.2.1 (by intro q; exact c (by rw [q]; exact lg_cmp_self _)))
  exact (nx _ _ _ (Nat.le_succ _) (by omega) hs.2.2.2)
set_option maxRecDepth 100000 in
set_option maxHeartbeats 4000000 in
theorem tL_23 {E : gE} {b L i cs ss : Nat} {xs : Nat → Int32} {M : gM} {K : gM → Prop} (hL : L < 2 ^ 31) (hi : i + 5 < L) (hc : cs + 1 ≤ 600002) (hm : ss + 6 ≤ 7302232) (nx : ∀ (k n : Nat) (N : gM), k ≤ cs + 1 → n ≤ ss + 6 → K N → gK E RL code 7 ret room_1 (gSL E b L xs) lw_Z k n 1747 (lvL E b i) [] N) (hs : sL_23 M (xs (i + 1)) (xs (i + 2)) (xs (i + 3)) (xs (i + 4)) (xs (i + 5)) K) : gK E RL code 7 ret room_1 (gSL E b L xs) lw_Z cs ss 1118 (lvL E b i) [] M := by
  unfold sL_23 at hs
  refine g_aload_n 1 dL_law_1118 rfl ?_
  refine g_sarg (i := i) (n := 1) 0 4 rfl rfl (by omega) hL dL_law_1119 dL_law_1120 dL_law_1122 (by decide) dL_law_1123 dL_law_1124 ?_
  refine g_sarg (i := i) (n := 2) 0 4 rfl rfl (by omega) hL dL_law_1125 dL_law_1126 dL_law_1128 (by decide) dL_law_1129 dL_law_1130 ?_
  refine g_callV (As := [.int (xs (i + 1)), .int (xs (i + 2))]) (st := []) (n := 2) 0 (c_X12_holders E M (xs (i + 1)) (xs (i + 2)) hs.1) mt_X12_holders ml_L_127 dF_Wd rfl rfl sg_X12_holders rfl ⟨by decide, by decide, (by show cs ≤ 600002; omega), (by show ss ≤ 7302232; omega)⟩ (Nat.le_of_ble_eq_true rfl) dL_law_1131 ?_
  intro r9 N9 hq9
  rw [hq9.1, hq9.2]
  clear hq9 r9 N9
  refine g_aload_n 2 dL_law_1134 rfl ?_
  refine g_sarg (i := i) (n := 1) 0 4 rfl rfl (by omega) hL dL_law_1135 dL_law_1136 dL_law_1138 (by decide) dL_law_1139 dL_law_1140 ?_
  refine g_sarg (i := i) (n := 2) 0 4 rfl rfl (by omega) hL dL_law_1141 dL_law_1142 dL_law_1144 (by decide) dL_law_1145 dL_law_1146 ?_
  refine g_callV (As := [.int (xs (i + 1)), .int (xs (i + 2))]) (st := [.int ((f_X12_holders M (xs (i + 1)) (xs (i + 2))).1)]) (n := 2) 226 (c_X13_holders E ((f_X12_holders M (xs (i + 1)) (xs (i + 2))).2) (xs (i + 1)) (xs (i + 2)) hs.2.1) mt_X13_holders ml_L_130 dF_Md rfl rfl sg_X13_holders rfl ⟨by decide, by decide, (by show cs ≤ 600002; omega), (by show ss ≤ 7302232; omega)⟩ (Nat.le_of_ble_eq_true rfl) dL_law_1147 ?_
  intro r9 N9 hq9
  rw [hq9.1, hq9.2]
  clear hq9 r9 N9
  refine g_icmp_eq 1747 dL_law_1150 (by decide) (fun _ => ?_) (fun c => absurd hs.2.2.1 c)
  exact (nx _ _ _ (Nat.le_succ _) (by omega) hs.2.2.2)
set_option maxRecDepth 100000 in
set_option maxHeartbeats 4000000 in
theorem tL_24 {E : gE} {b L i cs ss : Nat} {xs : Nat → Int32} {M : gM} {K : gM → Prop} (hL : L < 2 ^ 31) (hi : i + 5 < L) (hc : cs + 1 ≤ 600002) (hm : ss + 6 ≤ 7302232) (nx : ∀ (k n : Nat) (N : gM), k ≤ cs + 1 → n ≤ ss + 6 → K N → gK E RL code 7 ret room_1 (gSL E b L xs) lw_Z k n 1747 (lvL E b i) [] N) (hs : sL_24 M (xs (i + 1)) (xs (i + 2)) (xs (i + 3)) (xs (i + 4)) (xs (i + 5)) K) : gK E RL code 7 ret room_1 (gSL E b L xs) lw_Z cs ss 1155 (lvL E b i) [] M := by
  unfold sL_24 at hs
  refine g_aload_n 1 dL_law_1155 rfl ?_
  refine g_sarg (i := i) (n := 1) 0 4 rfl rfl (by omega) hL dL_law_1156 dL_law_1157 dL_law_1159 (by decide) dL_law_1160 dL_law_1161 ?_
  refine g_callV (As := [.int (xs (i + 1))]) (st := []) (n := 1) 0 (c_X12_wealth E M (xs (i + 1)) hs.1) mt_X12_wealth ml_L_131 dF_Wd rfl rfl sg_X12_wealth rfl ⟨by decide, by decide, (by show cs ≤ 600002; omega), (by show ss ≤ 7302232; omega)⟩ (Nat.le_of_ble_eq_true rfl) dL_law_1162 ?_
  intro r9 N9 hq9
  rw [hq9.1, hq9.2]
  clear hq9 r9 N9
  refine g_aload_n 2 dL_law_1165 rfl ?_
  refine g_sarg (i := i) (n := 1) 0 4 rfl rfl (by omega) hL dL_law_1166 dL_law_1167 dL_law_1169 (by decide) dL_law_1170 dL_law_1171 ?_
  refine g_callV (As := [.int (xs (i + 1))]) (st := [.int ((f_X12_wealth M (xs (i + 1))).1)]) (n := 1) 226 (c_X13_wealth E ((f_X12_wealth M (xs (i + 1))).2) (xs (i + 1)) hs.2.1) mt_X13_wealth ml_L_134 dF_Md rfl rfl sg_X13_wealth rfl ⟨by decide, by decide, (by show cs ≤ 600002; omega), (by show ss ≤ 7302232; omega)⟩ (Nat.le_of_ble_eq_true rfl) dL_law_1172 ?_
  intro r9 N9 hq9
  rw [hq9.1, hq9.2]
  clear hq9 r9 N9
  refine g_icmp_eq 1747 dL_law_1175 (by decide) (fun _ => ?_) (fun c => absurd hs.2.2.1 c)
  exact (nx _ _ _ (Nat.le_succ _) (by omega) hs.2.2.2)
set_option maxRecDepth 100000 in
set_option maxHeartbeats 4000000 in
theorem tL_25 {E : gE} {b L i cs ss : Nat} {xs : Nat → Int32} {M : gM} {K : gM → Prop} (hL : L < 2 ^ 31) (hi : i + 5 < L) (hc : cs + 1 ≤ 600002) (hm : ss + 6 ≤ 7302232) (nx : ∀ (k n : Nat) (N : gM), k ≤ cs + 1 → n ≤ ss + 6 → K N → gK E RL code 7 ret room_1 (gSL E b L xs) lw_Z k n 1747 (lvL E b i) [] N) (hs : sL_25 M (xs (i + 1)) (xs (i + 2)) (xs (i + 3)) (xs (i + 4)) (xs (i + 5)) K) : gK E RL code 7 ret room_1 (gSL E b L xs) lw_Z cs ss 1180 (lvL E b i) [] M := by
  unfold sL_25 at hs
  refine g_aload_n 1 dL_law_1180 rfl ?_
  refine g_sarg (i := i) (n := 1) 0 4 rfl rfl (by omega) hL dL_law_1181 dL_law_1182 dL_law_1184 (by decide) dL_law_1185 dL_law_1186 ?_
  refine g_callV (As := [.int (xs (i + 1))]) (st := []) (n := 1) 0 (c_X12_ever E M (xs (i + 1)) hs.1) mt_X12_ever ml_L_135 dF_Wd rfl rfl sg_X12_ever rfl ⟨by decide, by decide, (by show cs ≤ 600002; omega), (by show ss ≤ 7302232; omega)⟩ (Nat.le_of_ble_eq_true rfl) dL_law_1187 ?_
  intro r9 N9 hq9
  rw [hq9.1, hq9.2]
  clear hq9 r9 N9
  refine g_aload_n 2 dL_law_1190 rfl ?_
  refine g_sarg (i := i) (n := 1) 0 4 rfl rfl (by omega) hL dL_law_1191 dL_law_1192 dL_law_1194 (by decide) dL_law_1195 dL_law_1196 ?_
  refine g_callV (As := [.int (xs (i + 1))]) (st := [.int ((f_X12_ever M (xs (i + 1))).1)]) (n := 1) 226 (c_X13_ever E ((f_X12_ever M (xs (i + 1))).2) (xs (i + 1)) hs.2.1) mt_X13_ever ml_L_138 dF_Md rfl rfl sg_X13_ever rfl ⟨by decide, by decide, (by show cs ≤ 600002; omega), (by show ss ≤ 7302232; omega)⟩ (Nat.le_of_ble_eq_true rfl) dL_law_1197 ?_
  intro r9 N9 hq9
  rw [hq9.1, hq9.2]
  clear hq9 r9 N9
  refine g_icmp_eq 1747 dL_law_1200 (by decide) (fun _ => ?_) (fun c => absurd hs.2.2.1 c)
  exact (nx _ _ _ (Nat.le_succ _) (by omega) hs.2.2.2)
set_option maxRecDepth 100000 in
set_option maxHeartbeats 4000000 in
theorem tL_26 {E : gE} {b L i cs ss : Nat} {xs : Nat → Int32} {M : gM} {K : gM → Prop} (hL : L < 2 ^ 31) (hi : i + 5 < L) (hc : cs + 1 ≤ 600002) (hm : ss + 6 ≤ 7302232) (nx : ∀ (k n : Nat) (N : gM), k ≤ cs + 1 → n ≤ ss + 6 → K N → gK E RL code 7 ret room_1 (gSL E b L xs) lw_Z k n 1747 (lvL E b i) [] N) (hs : sL_26 M (xs (i + 1)) (xs (i + 2)) (xs (i + 3)) (xs (i + 4)) (xs (i + 5)) K) : gK E RL code 7 ret room_1 (gSL E b L xs) lw_Z cs ss 1205 (lvL E b i) [] M := by
  unfold sL_26 at hs
  refine g_aload_n 1 dL_law_1205 rfl ?_
  refine g_sarg (i := i) (n := 1) 0 4 rfl rfl (by omega) hL dL_law_1206 dL_law_1207 dL_law_1209 (by decide) dL_law_1210 dL_law_1211 ?_
  refine g_sarg (i := i) (n := 2) 0 4 rfl rfl (by omega) hL dL_law_1212 dL_law_1213 dL_law_1215 (by decide) dL_law_1216 dL_law_1217 ?_
  refine g_callV (As := [.int (xs (i + 1)), .int (xs (i + 2))]) (st := []) (n := 2) 0 (c_X12_gain E M (xs (i + 1)) (xs (i + 2)) hs.1) mt_X12_gain ml_L_139 dF_Wd rfl rfl sg_X12_gain rfl ⟨by decide, by decide, (by show cs ≤ 600002; omega), (by show ss ≤ 7302232; omega)⟩ (Nat.le_of_ble_eq_true rfl) dL_law_1218 ?_
  intro r9 N9 hq9
  rw [hq9.1, hq9.2]
  clear hq9 r9 N9
  refine g_aload_n 2 dL_law_1221 rfl ?_
  refine g_sarg (i := i) (n := 1) 0 4 rfl rfl (by omega) hL dL_law_1222 dL_law_1223 dL_law_1225 (by decide) dL_law_1226 dL_law_1227 ?_
  refine g_sarg (i := i) (n := 2) 0 4 rfl rfl (by omega) hL dL_law_1228 dL_law_1229 dL_law_1231 (by decide) dL_law_1232 dL_law_1233 ?_
  refine g_callV (As := [.int (xs (i + 1)), .int (xs (i + 2))]) (st := [.int ((f_X12_gain M (xs (i + 1)) (xs (i + 2))).1)]) (n := 2) 226 (c_X13_gain E ((f_X12_gain M (xs (i + 1)) (xs (i + 2))).2) (xs (i + 1)) (xs (i + 2)) hs.2.1) mt_X13_gain ml_L_142 dF_Md rfl rfl sg_X13_gain rfl ⟨by decide, by decide, (by show cs ≤ 600002; omega), (by show ss ≤ 7302232; omega)⟩ (Nat.le_of_ble_eq_true rfl) dL_law_1234 ?_
  intro r9 N9 hq9
  rw [hq9.1, hq9.2]
  clear hq9 r9 N9
  refine g_icmp_eq 1747 dL_law_1237 (by decide) (fun _ => ?_) (fun c => absurd hs.2.2.1 c)
  exact (nx _ _ _ (Nat.le_succ _) (by omega) hs.2.2.2)
set_option maxRecDepth 100000 in
set_option maxHeartbeats 4000000 in
theorem tL_27 {E : gE} {b L i cs ss : Nat} {xs : Nat → Int32} {M : gM} {K : gM → Prop} (hL : L < 2 ^ 31) (hi : i + 5 < L) (hc : cs + 1 ≤ 600002) (hm : ss + 6 ≤ 7302232) (nx : ∀ (k n : Nat) (N : gM), k ≤ cs + 1 → n ≤ ss + 6 → K N → gK E RL code 7 ret room_1 (gSL E b L xs) lw_Z k n 1747 (lvL E b i) [] N) (hs : sL_27 M (xs (i + 1)) (xs (i + 2)) (xs (i + 3)) (xs (i + 4)) (xs (i + 5)) K) : gK E RL code 7 ret room_1 (gSL E b L xs) lw_Z cs ss 1242 (lvL E b i) [] M := by
  unfold sL_27 at hs
  refine g_aload_n 1 dL_law_1242 rfl ?_
  refine g_sarg (i := i) (n := 1) 0 4 rfl rfl (by omega) hL dL_law_1243 dL_law_1244 dL_law_1246 (by decide) dL_law_1247 dL_law_1248 ?_
  refine g_sarg (i := i) (n := 2) 0 4 rfl rfl (by omega) hL dL_law_1249 dL_law_1250 dL_law_1252 (by decide) dL_law_1253 dL_law_1254 ?_
  refine g_callV (As := [.int (xs (i + 1)), .int (xs (i + 2))]) (st := []) (n := 2) 0 (c_X12_against E M (xs (i + 1)) (xs (i + 2)) hs.1) mt_X12_against ml_L_143 dF_Wd rfl rfl sg_X12_against rfl ⟨by decide, by decide, (by show cs ≤ 600002; omega), (by show ss ≤ 7302232; omega)⟩ (Nat.le_of_ble_eq_true rfl) dL_law_1255 ?_
  intro r9 N9 hq9
  rw [hq9.1, hq9.2]
  clear hq9 r9 N9
  refine g_aload_n 2 dL_law_1258 rfl ?_
  refine g_sarg (i := i) (n := 1) 0 4 rfl rfl (by omega) hL dL_law_1259 dL_law_1260 dL_law_1262 (by decide) dL_law_1263 dL_law_1264 ?_
  refine g_sarg (i := i) (n := 2) 0 4 rfl rfl (by omega) hL dL_law_1265 dL_law_1266 dL_law_1268 (by decide) dL_law_1269 dL_law_1270 ?_
  refine g_callV (As := [.int (xs (i + 1)), .int (xs (i + 2))]) (st := [.int ((f_X12_against M (xs (i + 1)) (xs (i + 2))).1)]) (n := 2) 226 (c_X13_against E ((f_X12_against M (xs (i + 1)) (xs (i + 2))).2) (xs (i + 1)) (xs (i + 2)) hs.2.1) mt_X13_against ml_L_146 dF_Md rfl rfl sg_X13_against rfl ⟨by decide, by decide, (by show cs ≤ 600002; omega), (by show ss ≤ 7302232; omega)⟩ (Nat.le_of_ble_eq_true rfl) dL_law_1271 ?_
  intro r9 N9 hq9
  rw [hq9.1, hq9.2]
  clear hq9 r9 N9
  refine g_icmp_eq 1747 dL_law_1274 (by decide) (fun _ => ?_) (fun c => absurd hs.2.2.1 c)
  exact (nx _ _ _ (Nat.le_succ _) (by omega) hs.2.2.2)
set_option maxRecDepth 100000 in
set_option maxHeartbeats 4000000 in
theorem tL_28 {E : gE} {b L i cs ss : Nat} {xs : Nat → Int32} {M : gM} {K : gM → Prop} (hL : L < 2 ^ 31) (hi : i + 5 < L) (hc : cs + 1 ≤ 600002) (hm : ss + 6 ≤ 7302232) (nx : ∀ (k n : Nat) (N : gM), k ≤ cs + 1 → n ≤ ss + 6 → K N → gK E RL code 7 ret room_1 (gSL E b L xs) lw_Z k n 1747 (lvL E b i) [] N) (hs : sL_28 M (xs (i + 1)) (xs (i + 2)) (xs (i + 3)) (xs (i + 4)) (xs (i + 5)) K) : gK E RL code 7 ret room_1 (gSL E b L xs) lw_Z cs ss 1279 (lvL E b i) [] M := by
  unfold sL_28 at hs
  refine g_aload_n 1 dL_law_1279 rfl ?_
  refine g_sarg (i := i) (n := 1) 0 4 rfl rfl (by omega) hL dL_law_1280 dL_law_1281 dL_law_1283 (by decide) dL_law_1284 dL_law_1285 ?_
  refine g_callV (As := [.int (xs (i + 1))]) (st := []) (n := 1) 0 (c_X12_key E M (xs (i + 1)) hs.1) mt_X12_key ml_L_147 dF_Wd rfl rfl sg_X12_key rfl ⟨by decide, by decide, (by show cs ≤ 600002; omega), (by show ss ≤ 7302232; omega)⟩ (Nat.le_of_ble_eq_true rfl) dL_law_1286 ?_
  intro r9 N9 hq9
  rw [hq9.1, hq9.2]
  clear hq9 r9 N9
  refine g_aload_n 2 dL_law_1289 rfl ?_
  refine g_sarg (i := i) (n := 1) 0 4 rfl rfl (by omega) hL dL_law_1290 dL_law_1291 dL_law_1293 (by decide) dL_law_1294 dL_law_1295 ?_
  refine g_callV (As := [.int (xs (i + 1))]) (st := [.int ((f_X12_key M (xs (i + 1))).1)]) (n := 1) 226 (c_X13_key E ((f_X12_key M (xs (i + 1))).2) (xs (i + 1)) hs.2.1) mt_X13_key ml_L_150 dF_Md rfl rfl sg_X13_key rfl ⟨by decide, by decide, (by show cs ≤ 600002; omega), (by show ss ≤ 7302232; omega)⟩ (Nat.le_of_ble_eq_true rfl) dL_law_1296 ?_
  intro r9 N9 hq9
  rw [hq9.1, hq9.2]
  clear hq9 r9 N9
  refine g_icmp_eq 1747 dL_law_1299 (by decide) (fun _ => ?_) (fun c => absurd hs.2.2.1 c)
  exact (nx _ _ _ (Nat.le_succ _) (by omega) hs.2.2.2)
set_option maxRecDepth 100000 in
set_option maxHeartbeats 4000000 in
theorem tL_29 {E : gE} {b L i cs ss : Nat} {xs : Nat → Int32} {M : gM} {K : gM → Prop} (hL : L < 2 ^ 31) (hi : i + 5 < L) (hc : cs + 1 ≤ 600002) (hm : ss + 6 ≤ 7302232) (nx : ∀ (k n : Nat) (N : gM), k ≤ cs + 1 → n ≤ ss + 6 → K N → gK E RL code 7 ret room_1 (gSL E b L xs) lw_Z k n 1747 (lvL E b i) [] N) (hs : sL_29 M (xs (i + 1)) (xs (i + 2)) (xs (i + 3)) (xs (i + 4)) (xs (i + 5)) K) : gK E RL code 7 ret room_1 (gSL E b L xs) lw_Z cs ss 1304 (lvL E b i) [] M := by
  unfold sL_29 at hs
  refine g_aload_n 1 dL_law_1304 rfl ?_
  refine g_sarg (i := i) (n := 1) 0 4 rfl rfl (by omega) hL dL_law_1305 dL_law_1306 dL_law_1308 (by decide) dL_law_1309 dL_law_1310 ?_
  refine g_sarg (i := i) (n := 2) 0 4 rfl rfl (by omega) hL dL_law_1311 dL_law_1312 dL_law_1314 (by decide) dL_law_1315 dL_law_1316 ?_
  refine g_sarg (i := i) (n := 3) 0 4 rfl rfl (by omega) hL dL_law_1317 dL_law_1318 dL_law_1320 (by decide) dL_law_1321 dL_law_1322 ?_
  refine g_callV (As := [.int (xs (i + 1)), .int (xs (i + 2)), .int (xs (i + 3))]) (st := []) (n := 3) 0 (c_X12_wouldPaper E M (xs (i + 1)) (xs (i + 2)) (xs (i + 3)) hs.1) mt_X12_wouldPaper ml_L_151 dF_Wd rfl rfl sg_X12_wouldPaper rfl ⟨by decide, by decide, (by show cs ≤ 600002; omega), (by show ss ≤ 7302232; omega)⟩ (Nat.le_of_ble_eq_true rfl) dL_law_1323 ?_
  intro r9 N9 hq9
  rw [hq9.1, hq9.2]
  clear hq9 r9 N9
  refine g_aload_n 2 dL_law_1326 rfl ?_
  refine g_sarg (i := i) (n := 1) 0 4 rfl rfl (by omega) hL dL_law_1327 dL_law_1328 dL_law_1330 (by decide) dL_law_1331 dL_law_1332 ?_
  refine g_sarg (i := i) (n := 2) 0 4 rfl rfl (by omega) hL dL_law_1333 dL_law_1334 dL_law_1336 (by decide) dL_law_1337 dL_law_1338 ?_
  refine g_sarg (i := i) (n := 3) 0 4 rfl rfl (by omega) hL dL_law_1339 dL_law_1340 dL_law_1342 (by decide) dL_law_1343 dL_law_1344 ?_
  refine g_callV (As := [.int (xs (i + 1)), .int (xs (i + 2)), .int (xs (i + 3))]) (st := [.int ((f_X12_wouldPaper M (xs (i + 1)) (xs (i + 2)) (xs (i + 3))).1)]) (n := 3) 226 (c_X13_wouldPaper E ((f_X12_wouldPaper M (xs (i + 1)) (xs (i + 2)) (xs (i + 3))).2) (xs (i + 1)) (xs (i + 2)) (xs (i + 3)) hs.2.1) mt_X13_wouldPaper ml_L_154 dF_Md rfl rfl sg_X13_wouldPaper rfl ⟨by decide, by decide, (by show cs ≤ 600002; omega), (by show ss ≤ 7302232; omega)⟩ (Nat.le_of_ble_eq_true rfl) dL_law_1345 ?_
  intro r9 N9 hq9
  rw [hq9.1, hq9.2]
  clear hq9 r9 N9
  refine g_icmp_eq 1747 dL_law_1348 (by decide) (fun _ => ?_) (fun c => absurd hs.2.2.1 c)
  exact (nx _ _ _ (Nat.le_succ _) (by omega) hs.2.2.2)
set_option maxRecDepth 100000 in
set_option maxHeartbeats 4000000 in
theorem tL_30 {E : gE} {b L i cs ss : Nat} {xs : Nat → Int32} {M : gM} {K : gM → Prop} (hL : L < 2 ^ 31) (hi : i + 5 < L) (hc : cs + 1 ≤ 600002) (hm : ss + 6 ≤ 7302232) (nx : ∀ (k n : Nat) (N : gM), k ≤ cs + 1 → n ≤ ss + 6 → K N → gK E RL code 7 ret room_1 (gSL E b L xs) lw_Z k n 1747 (lvL E b i) [] N) (hs : sL_30 M (xs (i + 1)) (xs (i + 2)) (xs (i + 3)) (xs (i + 4)) (xs (i + 5)) K) : gK E RL code 7 ret room_1 (gSL E b L xs) lw_Z cs ss 1353 (lvL E b i) [] M := by
  unfold sL_30 at hs
  refine g_aload_n 1 dL_law_1353 rfl ?_
  refine g_sarg (i := i) (n := 1) 0 4 rfl rfl (by omega) hL dL_law_1354 dL_law_1355 dL_law_1357 (by decide) dL_law_1358 dL_law_1359 ?_
  refine g_sarg (i := i) (n := 2) 0 4 rfl rfl (by omega) hL dL_law_1360 dL_law_1361 dL_law_1363 (by decide) dL_law_1364 dL_law_1365 ?_
  refine g_sarg (i := i) (n := 3) 0 4 rfl rfl (by omega) hL dL_law_1366 dL_law_1367 dL_law_1369 (by decide) dL_law_1370 dL_law_1371 ?_
  refine g_callV (As := [.int (xs (i + 1)), .int (xs (i + 2)), .int (xs (i + 3))]) (st := []) (n := 3) 0 (c_X12_wouldDie E M (xs (i + 1)) (xs (i + 2)) (xs (i + 3)) hs.1) mt_X12_wouldDie ml_L_155 dF_Wd rfl rfl sg_X12_wouldDie rfl ⟨by decide, by decide, (by show cs ≤ 600002; omega), (by show ss ≤ 7302232; omega)⟩ (Nat.le_of_ble_eq_true rfl) dL_law_1372 ?_
  intro r9 N9 hq9
  rw [hq9.1, hq9.2]
  clear hq9 r9 N9
  refine g_aload_n 2 dL_law_1375 rfl ?_
  refine g_sarg (i := i) (n := 1) 0 4 rfl rfl (by omega) hL dL_law_1376 dL_law_1377 dL_law_1379 (by decide) dL_law_1380 dL_law_1381 ?_
  refine g_sarg (i := i) (n := 2) 0 4 rfl rfl (by omega) hL dL_law_1382 dL_law_1383 dL_law_1385 (by decide) dL_law_1386 dL_law_1387 ?_
  refine g_sarg (i := i) (n := 3) 0 4 rfl rfl (by omega) hL dL_law_1388 dL_law_1389 dL_law_1391 (by decide) dL_law_1392 dL_law_1393 ?_
  refine g_callV (As := [.int (xs (i + 1)), .int (xs (i + 2)), .int (xs (i + 3))]) (st := [.int ((f_X12_wouldDie M (xs (i + 1)) (xs (i + 2)) (xs (i + 3))).1)]) (n := 3) 226 (c_X13_wouldDie E ((f_X12_wouldDie M (xs (i + 1)) (xs (i + 2)) (xs (i + 3))).2) (xs (i + 1)) (xs (i + 2)) (xs (i + 3)) hs.2.1) mt_X13_wouldDie ml_L_158 dF_Md rfl rfl sg_X13_wouldDie rfl ⟨by decide, by decide, (by show cs ≤ 600002; omega), (by show ss ≤ 7302232; omega)⟩ (Nat.le_of_ble_eq_true rfl) dL_law_1394 ?_
  intro r9 N9 hq9
  rw [hq9.1, hq9.2]
  clear hq9 r9 N9
  refine g_icmp_eq 1747 dL_law_1397 (by decide) (fun _ => ?_) (fun c => absurd hs.2.2.1 c)
  exact (nx _ _ _ (Nat.le_succ _) (by omega) hs.2.2.2)
set_option maxRecDepth 100000 in
set_option maxHeartbeats 4000000 in
theorem tL_31 {E : gE} {b L i cs ss : Nat} {xs : Nat → Int32} {M : gM} {K : gM → Prop} (hL : L < 2 ^ 31) (hi : i + 5 < L) (hc : cs + 1 ≤ 600002) (hm : ss + 6 ≤ 7302232) (nx : ∀ (k n : Nat) (N : gM), k ≤ cs + 1 → n ≤ ss + 6 → K N → gK E RL code 7 ret room_1 (gSL E b L xs) lw_Z k n 1747 (lvL E b i) [] N) (hs : sL_31 M (xs (i + 1)) (xs (i + 2)) (xs (i + 3)) (xs (i + 4)) (xs (i + 5)) K) : gK E RL code 7 ret room_1 (gSL E b L xs) lw_Z cs ss 1402 (lvL E b i) [] M := by
  unfold sL_31 at hs
  refine g_aload_n 1 dL_law_1402 rfl ?_
  refine g_sarg (i := i) (n := 1) 0 4 rfl rfl (by omega) hL dL_law_1403 dL_law_1404 dL_law_1406 (by decide) dL_law_1407 dL_law_1408 ?_
  refine g_sarg (i := i) (n := 2) 0 4 rfl rfl (by omega) hL dL_law_1409 dL_law_1410 dL_law_1412 (by decide) dL_law_1413 dL_law_1414 ?_
  refine g_sarg (i := i) (n := 3) 0 4 rfl rfl (by omega) hL dL_law_1415 dL_law_1416 dL_law_1418 (by decide) dL_law_1419 dL_law_1420 ?_
  refine g_callV (As := [.int (xs (i + 1)), .int (xs (i + 2)), .int (xs (i + 3))]) (st := []) (n := 3) 0 (c_X12_dayFor E M (xs (i + 1)) (xs (i + 2)) (xs (i + 3)) hs.1) mt_X12_dayFor ml_L_159 dF_Wd rfl rfl sg_X12_dayFor rfl ⟨by decide, by decide, (by show cs ≤ 600002; omega), (by show ss ≤ 7302232; omega)⟩ (Nat.le_of_ble_eq_true rfl) dL_law_1421 ?_
  intro r9 N9 hq9
  rw [hq9.1, hq9.2]
  clear hq9 r9 N9
  refine g_aload_n 2 dL_law_1424 rfl ?_
  refine g_sarg (i := i) (n := 1) 0 4 rfl rfl (by omega) hL dL_law_1425 dL_law_1426 dL_law_1428 (by decide) dL_law_1429 dL_law_1430 ?_
  refine g_sarg (i := i) (n := 2) 0 4 rfl rfl (by omega) hL dL_law_1431 dL_law_1432 dL_law_1434 (by decide) dL_law_1435 dL_law_1436 ?_
  refine g_sarg (i := i) (n := 3) 0 4 rfl rfl (by omega) hL dL_law_1437 dL_law_1438 dL_law_1440 (by decide) dL_law_1441 dL_law_1442 ?_
  refine g_callV (As := [.int (xs (i + 1)), .int (xs (i + 2)), .int (xs (i + 3))]) (st := [.int ((f_X12_dayFor M (xs (i + 1)) (xs (i + 2)) (xs (i + 3))).1)]) (n := 3) 226 (c_X13_dayFor E ((f_X12_dayFor M (xs (i + 1)) (xs (i + 2)) (xs (i + 3))).2) (xs (i + 1)) (xs (i + 2)) (xs (i + 3)) hs.2.1) mt_X13_dayFor ml_L_162 dF_Md rfl rfl sg_X13_dayFor rfl ⟨by decide, by decide, (by show cs ≤ 600002; omega), (by show ss ≤ 7302232; omega)⟩ (Nat.le_of_ble_eq_true rfl) dL_law_1443 ?_
  intro r9 N9 hq9
  rw [hq9.1, hq9.2]
  clear hq9 r9 N9
  refine g_icmp_eq 1747 dL_law_1446 (by decide) (fun _ => ?_) (fun c => absurd hs.2.2.1 c)
  exact (nx _ _ _ (Nat.le_succ _) (by omega) hs.2.2.2)
set_option maxRecDepth 100000 in
set_option maxHeartbeats 4000000 in
theorem tL_32 {E : gE} {b L i cs ss : Nat} {xs : Nat → Int32} {M : gM} {K : gM → Prop} (hL : L < 2 ^ 31) (hi : i + 5 < L) (hc : cs + 1 ≤ 600002) (hm : ss + 6 ≤ 7302232) (nx : ∀ (k n : Nat) (N : gM), k ≤ cs + 1 → n ≤ ss + 6 → K N → gK E RL code 7 ret room_1 (gSL E b L xs) lw_Z k n 1747 (lvL E b i) [] N) (hs : sL_32 M (xs (i + 1)) (xs (i + 2)) (xs (i + 3)) (xs (i + 4)) (xs (i + 5)) K) : gK E RL code 7 ret room_1 (gSL E b L xs) lw_Z cs ss 1451 (lvL E b i) [] M := by
  unfold sL_32 at hs
  refine g_aload_n 1 dL_law_1451 rfl ?_
  refine g_sarg (i := i) (n := 1) 0 4 rfl rfl (by omega) hL dL_law_1452 dL_law_1453 dL_law_1455 (by decide) dL_law_1456 dL_law_1457 ?_
  refine g_callV (As := [.int (xs (i + 1))]) (st := []) (n := 1) 0 (c_X12_margin E M (xs (i + 1)) hs.1) mt_X12_margin ml_L_163 dF_Wd rfl rfl sg_X12_margin rfl ⟨by decide, by decide, (by show cs ≤ 600002; omega), (by show ss ≤ 7302232; omega)⟩ (Nat.le_of_ble_eq_true rfl) dL_law_1458 ?_
  intro r9 N9 hq9
  rw [hq9.1, hq9.2]
  clear hq9 r9 N9
  refine g_aload_n 2 dL_law_1461 rfl ?_
  refine g_sarg (i := i) (n := 1) 0 4 rfl rfl (by omega) hL dL_law_1462 dL_law_1463 dL_law_1465 (by decide) dL_law_1466 dL_law_1467 ?_
  refine g_callV (As := [.int (xs (i + 1))]) (st := [.int (f_X12_margin M (xs (i + 1)))]) (n := 1) 226 (c_X13_margin E M (xs (i + 1)) hs.2.1) mt_X13_margin ml_L_166 dF_Md rfl rfl sg_X13_margin rfl ⟨by decide, by decide, (by show cs ≤ 600002; omega), (by show ss ≤ 7302232; omega)⟩ (Nat.le_of_ble_eq_true rfl) dL_law_1468 ?_
  intro r9 N9 hq9
  rw [hq9.1, hq9.2]
  clear hq9 r9 N9
  refine g_icmp_eq 1747 dL_law_1471 (by decide) (fun _ => ?_) (fun c => absurd hs.2.2.1 c)
  exact (nx _ _ _ (Nat.le_succ _) (by omega) hs.2.2.2)
set_option maxRecDepth 100000 in
set_option maxHeartbeats 4000000 in
theorem tL_33 {E : gE} {b L i cs ss : Nat} {xs : Nat → Int32} {M : gM} {K : gM → Prop} (hL : L < 2 ^ 31) (hi : i + 5 < L) (hc : cs + 1 ≤ 600002) (hm : ss + 6 ≤ 7302232) (nx : ∀ (k n : Nat) (N : gM), k ≤ cs + 1 → n ≤ ss + 6 → K N → gK E RL code 7 ret room_1 (gSL E b L xs) lw_Z k n 1747 (lvL E b i) [] N) (hs : sL_33 M (xs (i + 1)) (xs (i + 2)) (xs (i + 3)) (xs (i + 4)) (xs (i + 5)) K) : gK E RL code 7 ret room_1 (gSL E b L xs) lw_Z cs ss 1476 (lvL E b i) [] M := by
  unfold sL_33 at hs
  refine g_aload_n 1 dL_law_1476 rfl ?_
  refine g_sarg (i := i) (n := 1) 0 4 rfl rfl (by omega) hL dL_law_1477 dL_law_1478 dL_law_1480 (by decide) dL_law_1481 dL_law_1482 ?_
  refine g_sarg (i := i) (n := 2) 0 4 rfl rfl (by omega) hL dL_law_1483 dL_law_1484 dL_law_1486 (by decide) dL_law_1487 dL_law_1488 ?_
  refine g_callV (As := [.int (xs (i + 1)), .int (xs (i + 2))]) (st := []) (n := 2) 0 (c_X12_death E M (xs (i + 1)) (xs (i + 2)) hs.1) mt_X12_death ml_L_167 dF_Wd rfl rfl sg_X12_death rfl ⟨by decide, by decide, (by show cs ≤ 600002; omega), (by show ss ≤ 7302232; omega)⟩ (Nat.le_of_ble_eq_true rfl) dL_law_1489 ?_
  intro r9 N9 hq9
  rw [hq9.1, hq9.2]
  clear hq9 r9 N9
  refine g_aload_n 2 dL_law_1492 rfl ?_
  refine g_sarg (i := i) (n := 1) 0 4 rfl rfl (by omega) hL dL_law_1493 dL_law_1494 dL_law_1496 (by decide) dL_law_1497 dL_law_1498 ?_
  refine g_sarg (i := i) (n := 2) 0 4 rfl rfl (by omega) hL dL_law_1499 dL_law_1500 dL_law_1502 (by decide) dL_law_1503 dL_law_1504 ?_
  refine g_callV (As := [.int (xs (i + 1)), .int (xs (i + 2))]) (st := [.int ((f_X12_death M (xs (i + 1)) (xs (i + 2))).1)]) (n := 2) 226 (c_X13_death E ((f_X12_death M (xs (i + 1)) (xs (i + 2))).2) (xs (i + 1)) (xs (i + 2)) hs.2.1) mt_X13_death ml_L_170 dF_Md rfl rfl sg_X13_death rfl ⟨by decide, by decide, (by show cs ≤ 600002; omega), (by show ss ≤ 7302232; omega)⟩ (Nat.le_of_ble_eq_true rfl) dL_law_1505 ?_
  intro r9 N9 hq9
  rw [hq9.1, hq9.2]
  clear hq9 r9 N9
  refine g_icmp_eq 1747 dL_law_1508 (by decide) (fun _ => ?_) (fun c => absurd hs.2.2.1 c)
  exact (nx _ _ _ (Nat.le_succ _) (by omega) hs.2.2.2)
set_option maxRecDepth 100000 in
set_option maxHeartbeats 4000000 in
theorem tL_34 {E : gE} {b L i cs ss : Nat} {xs : Nat → Int32} {M : gM} {K : gM → Prop} (hL : L < 2 ^ 31) (hi : i + 5 < L) (hc : cs + 1 ≤ 600002) (hm : ss + 6 ≤ 7302232) (nx : ∀ (k n : Nat) (N : gM), k ≤ cs + 1 → n ≤ ss + 6 → K N → gK E RL code 7 ret room_1 (gSL E b L xs) lw_Z k n 1747 (lvL E b i) [] N) (hs : sL_34 M (xs (i + 1)) (xs (i + 2)) (xs (i + 3)) (xs (i + 4)) (xs (i + 5)) K) : gK E RL code 7 ret room_1 (gSL E b L xs) lw_Z cs ss 1513 (lvL E b i) [] M := by
  unfold sL_34 at hs
  refine g_aload_n 1 dL_law_1513 rfl ?_
  refine g_sarg (i := i) (n := 1) 0 4 rfl rfl (by omega) hL dL_law_1514 dL_law_1515 dL_law_1517 (by decide) dL_law_1518 dL_law_1519 ?_
  refine g_sarg (i := i) (n := 2) 0 4 rfl rfl (by omega) hL dL_law_1520 dL_law_1521 dL_law_1523 (by decide) dL_law_1524 dL_law_1525 ?_
  refine g_callV (As := [.int (xs (i + 1)), .int (xs (i + 2))]) (st := []) (n := 2) 0 (c_X12_moves E M (xs (i + 1)) (xs (i + 2)) hs.1) mt_X12_moves ml_L_171 dF_Wd rfl rfl sg_X12_moves rfl ⟨by decide, by decide, (by show cs ≤ 600002; omega), (by show ss ≤ 7302232; omega)⟩ (Nat.le_of_ble_eq_true rfl) dL_law_1526 ?_
  intro r9 N9 hq9
  rw [hq9.1, hq9.2]
  clear hq9 r9 N9
  refine g_aload_n 2 dL_law_1529 rfl ?_
  refine g_sarg (i := i) (n := 1) 0 4 rfl rfl (by omega) hL dL_law_1530 dL_law_1531 dL_law_1533 (by decide) dL_law_1534 dL_law_1535 ?_
  refine g_sarg (i := i) (n := 2) 0 4 rfl rfl (by omega) hL dL_law_1536 dL_law_1537 dL_law_1539 (by decide) dL_law_1540 dL_law_1541 ?_
  refine g_callV (As := [.int (xs (i + 1)), .int (xs (i + 2))]) (st := [.int ((f_X12_moves M (xs (i + 1)) (xs (i + 2))).1)]) (n := 2) 226 (c_X13_moves E ((f_X12_moves M (xs (i + 1)) (xs (i + 2))).2) (xs (i + 1)) (xs (i + 2)) hs.2.1) mt_X13_moves ml_L_174 dF_Md rfl rfl sg_X13_moves rfl ⟨by decide, by decide, (by show cs ≤ 600002; omega), (by show ss ≤ 7302232; omega)⟩ (Nat.le_of_ble_eq_true rfl) dL_law_1542 ?_
  intro r9 N9 hq9
  rw [hq9.1, hq9.2]
  clear hq9 r9 N9
  refine g_icmp_eq 1747 dL_law_1545 (by decide) (fun _ => ?_) (fun c => absurd hs.2.2.1 c)
  exact (nx _ _ _ (Nat.le_succ _) (by omega) hs.2.2.2)
set_option maxRecDepth 100000 in
set_option maxHeartbeats 4000000 in
theorem tL_35 {E : gE} {b L i cs ss : Nat} {xs : Nat → Int32} {M : gM} {K : gM → Prop} (hL : L < 2 ^ 31) (hi : i + 5 < L) (hc : cs + 1 ≤ 600002) (hm : ss + 6 ≤ 7302232) (nx : ∀ (k n : Nat) (N : gM), k ≤ cs + 1 → n ≤ ss + 6 → K N → gK E RL code 7 ret room_1 (gSL E b L xs) lw_Z k n 1747 (lvL E b i) [] N) (hs : sL_35 M (xs (i + 1)) (xs (i + 2)) (xs (i + 3)) (xs (i + 4)) (xs (i + 5)) K) : gK E RL code 7 ret room_1 (gSL E b L xs) lw_Z cs ss 1550 (lvL E b i) [] M := by
  unfold sL_35 at hs
  refine g_aload_n 1 dL_law_1550 rfl ?_
  refine g_sarg (i := i) (n := 1) 0 4 rfl rfl (by omega) hL dL_law_1551 dL_law_1552 dL_law_1554 (by decide) dL_law_1555 dL_law_1556 ?_
  refine g_sarg (i := i) (n := 2) 0 4 rfl rfl (by omega) hL dL_law_1557 dL_law_1558 dL_law_1560 (by decide) dL_law_1561 dL_law_1562 ?_
  refine g_callV (As := [.int (xs (i + 1)), .int (xs (i + 2))]) (st := []) (n := 2) 0 (c_X12_kin E M (xs (i + 1)) (xs (i + 2)) hs.1) mt_X12_kin ml_L_175 dF_Wd rfl rfl sg_X12_kin rfl ⟨by decide, by decide, (by show cs ≤ 600002; omega), (by show ss ≤ 7302232; omega)⟩ (Nat.le_of_ble_eq_true rfl) dL_law_1563 ?_
  intro r9 N9 hq9
  rw [hq9.1, hq9.2]
  clear hq9 r9 N9
  refine g_aload_n 2 dL_law_1566 rfl ?_
  refine g_sarg (i := i) (n := 1) 0 4 rfl rfl (by omega) hL dL_law_1567 dL_law_1568 dL_law_1570 (by decide) dL_law_1571 dL_law_1572 ?_
  refine g_sarg (i := i) (n := 2) 0 4 rfl rfl (by omega) hL dL_law_1573 dL_law_1574 dL_law_1576 (by decide) dL_law_1577 dL_law_1578 ?_
  refine g_callV (As := [.int (xs (i + 1)), .int (xs (i + 2))]) (st := [.int (f_X12_kin M (xs (i + 1)) (xs (i + 2)))]) (n := 2) 226 (c_X13_kin E M (xs (i + 1)) (xs (i + 2)) hs.2.1) mt_X13_kin ml_L_178 dF_Md rfl rfl sg_X13_kin rfl ⟨by decide, by decide, (by show cs ≤ 600002; omega), (by show ss ≤ 7302232; omega)⟩ (Nat.le_of_ble_eq_true rfl) dL_law_1579 ?_
  intro r9 N9 hq9
  rw [hq9.1, hq9.2]
  clear hq9 r9 N9
  refine g_icmp_eq 1747 dL_law_1582 (by decide) (fun _ => ?_) (fun c => absurd hs.2.2.1 c)
  exact (nx _ _ _ (Nat.le_succ _) (by omega) hs.2.2.2)
set_option maxRecDepth 100000 in
set_option maxHeartbeats 4000000 in
theorem tL_36 {E : gE} {b L i cs ss : Nat} {xs : Nat → Int32} {M : gM} {K : gM → Prop} (hL : L < 2 ^ 31) (hi : i + 5 < L) (hc : cs + 1 ≤ 600002) (hm : ss + 6 ≤ 7302232) (nx : ∀ (k n : Nat) (N : gM), k ≤ cs + 1 → n ≤ ss + 6 → K N → gK E RL code 7 ret room_1 (gSL E b L xs) lw_Z k n 1747 (lvL E b i) [] N) (hs : sL_36 M (xs (i + 1)) (xs (i + 2)) (xs (i + 3)) (xs (i + 4)) (xs (i + 5)) K) : gK E RL code 7 ret room_1 (gSL E b L xs) lw_Z cs ss 1587 (lvL E b i) [] M := by
  unfold sL_36 at hs
  refine g_aload_n 1 dL_law_1587 rfl ?_
  refine g_sarg (i := i) (n := 1) 0 4 rfl rfl (by omega) hL dL_law_1588 dL_law_1589 dL_law_1591 (by decide) dL_law_1592 dL_law_1593 ?_
  refine g_sarg (i := i) (n := 2) 0 4 rfl rfl (by omega) hL dL_law_1594 dL_law_1595 dL_law_1597 (by decide) dL_law_1598 dL_law_1599 ?_
  refine g_callV (As := [.int (xs (i + 1)), .int (xs (i + 2))]) (st := []) (n := 2) 0 (c_X12_naming E M (xs (i + 1)) (xs (i + 2)) hs.1) mt_X12_naming ml_L_179 dF_Wd rfl rfl sg_X12_naming rfl ⟨by decide, by decide, (by show cs ≤ 600002; omega), (by show ss ≤ 7302232; omega)⟩ (Nat.le_of_ble_eq_true rfl) dL_law_1600 ?_
  intro r9 N9 hq9
  rw [hq9.1, hq9.2]
  clear hq9 r9 N9
  refine g_aload_n 2 dL_law_1603 rfl ?_
  refine g_sarg (i := i) (n := 1) 0 4 rfl rfl (by omega) hL dL_law_1604 dL_law_1605 dL_law_1607 (by decide) dL_law_1608 dL_law_1609 ?_
  refine g_sarg (i := i) (n := 2) 0 4 rfl rfl (by omega) hL dL_law_1610 dL_law_1611 dL_law_1613 (by decide) dL_law_1614 dL_law_1615 ?_
  refine g_callV (As := [.int (xs (i + 1)), .int (xs (i + 2))]) (st := [.int (f_X12_naming M (xs (i + 1)) (xs (i + 2)))]) (n := 2) 226 (c_X13_naming E M (xs (i + 1)) (xs (i + 2)) hs.2.1) mt_X13_naming ml_L_182 dF_Md rfl rfl sg_X13_naming rfl ⟨by decide, by decide, (by show cs ≤ 600002; omega), (by show ss ≤ 7302232; omega)⟩ (Nat.le_of_ble_eq_true rfl) dL_law_1616 ?_
  intro r9 N9 hq9
  rw [hq9.1, hq9.2]
  clear hq9 r9 N9
  refine g_icmp_eq 1747 dL_law_1619 (by decide) (fun _ => ?_) (fun c => absurd hs.2.2.1 c)
  exact (nx _ _ _ (Nat.le_succ _) (by omega) hs.2.2.2)
set_option maxRecDepth 100000 in
set_option maxHeartbeats 4000000 in
theorem tL_37 {E : gE} {b L i cs ss : Nat} {xs : Nat → Int32} {M : gM} {K : gM → Prop} (hL : L < 2 ^ 31) (hi : i + 5 < L) (hc : cs + 1 ≤ 600002) (hm : ss + 6 ≤ 7302232) (nx : ∀ (k n : Nat) (N : gM), k ≤ cs + 1 → n ≤ ss + 6 → K N → gK E RL code 7 ret room_1 (gSL E b L xs) lw_Z k n 1747 (lvL E b i) [] N) (hs : sL_37 M (xs (i + 1)) (xs (i + 2)) (xs (i + 3)) (xs (i + 4)) (xs (i + 5)) K) : gK E RL code 7 ret room_1 (gSL E b L xs) lw_Z cs ss 1624 (lvL E b i) [] M := by
  unfold sL_37 at hs
  refine g_aload_n 1 dL_law_1624 rfl ?_
  refine g_sarg (i := i) (n := 1) 0 4 rfl rfl (by omega) hL dL_law_1625 dL_law_1626 dL_law_1628 (by decide) dL_law_1629 dL_law_1630 ?_
  refine g_sarg (i := i) (n := 2) 0 4 rfl rfl (by omega) hL dL_law_1631 dL_law_1632 dL_law_1634 (by decide) dL_law_1635 dL_law_1636 ?_
  refine g_sarg (i := i) (n := 3) 0 4 rfl rfl (by omega) hL dL_law_1637 dL_law_1638 dL_law_1640 (by decide) dL_law_1641 dL_law_1642 ?_
  refine g_callV (As := [.int (xs (i + 1)), .int (xs (i + 2)), .int (xs (i + 3))]) (st := []) (n := 3) 0 (c_X12_sees E M (xs (i + 1)) (xs (i + 2)) (xs (i + 3)) hs.1) mt_X12_sees ml_L_183 dF_Wd rfl rfl sg_X12_sees rfl ⟨by decide, by decide, (by show cs ≤ 600002; omega), (by show ss ≤ 7302232; omega)⟩ (Nat.le_of_ble_eq_true rfl) dL_law_1643 ?_
  intro r9 N9 hq9
  rw [hq9.1, hq9.2]
  clear hq9 r9 N9
  refine g_aload_n 2 dL_law_1646 rfl ?_
  refine g_sarg (i := i) (n := 1) 0 4 rfl rfl (by omega) hL dL_law_1647 dL_law_1648 dL_law_1650 (by decide) dL_law_1651 dL_law_1652 ?_
  refine g_sarg (i := i) (n := 2) 0 4 rfl rfl (by omega) hL dL_law_1653 dL_law_1654 dL_law_1656 (by decide) dL_law_1657 dL_law_1658 ?_
  refine g_sarg (i := i) (n := 3) 0 4 rfl rfl (by omega) hL dL_law_1659 dL_law_1660 dL_law_1662 (by decide) dL_law_1663 dL_law_1664 ?_
  refine g_callV (As := [.int (xs (i + 1)), .int (xs (i + 2)), .int (xs (i + 3))]) (st := [.int (f_X12_sees M (xs (i + 1)) (xs (i + 2)) (xs (i + 3)))]) (n := 3) 226 (c_X13_sees E M (xs (i + 1)) (xs (i + 2)) (xs (i + 3)) hs.2.1) mt_X13_sees ml_L_186 dF_Md rfl rfl sg_X13_sees rfl ⟨by decide, by decide, (by show cs ≤ 600002; omega), (by show ss ≤ 7302232; omega)⟩ (Nat.le_of_ble_eq_true rfl) dL_law_1665 ?_
  intro r9 N9 hq9
  rw [hq9.1, hq9.2]
  clear hq9 r9 N9
  refine g_icmp_eq 1747 dL_law_1668 (by decide) (fun _ => ?_) (fun c => absurd hs.2.2.1 c)
  exact (nx _ _ _ (Nat.le_succ _) (by omega) hs.2.2.2)
set_option maxRecDepth 100000 in
set_option maxHeartbeats 4000000 in
theorem tL_38 {E : gE} {b L i cs ss : Nat} {xs : Nat → Int32} {M : gM} {K : gM → Prop} (hL : L < 2 ^ 31) (hi : i + 5 < L) (hc : cs + 1 ≤ 600002) (hm : ss + 6 ≤ 7302232) (nx : ∀ (k n : Nat) (N : gM), k ≤ cs + 1 → n ≤ ss + 6 → K N → gK E RL code 7 ret room_1 (gSL E b L xs) lw_Z k n 1747 (lvL E b i) [] N) (hs : sL_38 M (xs (i + 1)) (xs (i + 2)) (xs (i + 3)) (xs (i + 4)) (xs (i + 5)) K) : gK E RL code 7 ret room_1 (gSL E b L xs) lw_Z cs ss 1673 (lvL E b i) [] M := by
  unfold sL_38 at hs
  refine g_aload_n 1 dL_law_1673 rfl ?_
  refine g_sarg (i := i) (n := 1) 0 4 rfl rfl (by omega) hL dL_law_1674 dL_law_1675 dL_law_1677 (by decide) dL_law_1678 dL_law_1679 ?_
  refine g_sarg (i := i) (n := 2) 0 4 rfl rfl (by omega) hL dL_law_1680 dL_law_1681 dL_law_1683 (by decide) dL_law_1684 dL_law_1685 ?_
  refine g_sarg (i := i) (n := 3) 0 4 rfl rfl (by omega) hL dL_law_1686 dL_law_1687 dL_law_1689 (by decide) dL_law_1690 dL_law_1691 ?_
  refine g_callV (As := [.int (xs (i + 1)), .int (xs (i + 2)), .int (xs (i + 3))]) (st := []) (n := 3) 0 (c_X12_give E M (xs (i + 1)) (xs (i + 2)) (xs (i + 3)) hs.1) mt_X12_give ml_L_187 dF_Wd rfl rfl sg_X12_give rfl ⟨by decide, by decide, (by show cs ≤ 600002; omega), (by show ss ≤ 7302232; omega)⟩ (Nat.le_of_ble_eq_true rfl) dL_law_1692 ?_
  intro r9 N9 hq9
  rw [hq9.1, hq9.2]
  clear hq9 r9 N9
  refine g_aload_n 2 dL_law_1695 rfl ?_
  refine g_sarg (i := i) (n := 1) 0 4 rfl rfl (by omega) hL dL_law_1696 dL_law_1697 dL_law_1699 (by decide) dL_law_1700 dL_law_1701 ?_
  refine g_sarg (i := i) (n := 2) 0 4 rfl rfl (by omega) hL dL_law_1702 dL_law_1703 dL_law_1705 (by decide) dL_law_1706 dL_law_1707 ?_
  refine g_sarg (i := i) (n := 3) 0 4 rfl rfl (by omega) hL dL_law_1708 dL_law_1709 dL_law_1711 (by decide) dL_law_1712 dL_law_1713 ?_
  refine g_callV (As := [.int (xs (i + 1)), .int (xs (i + 2)), .int (xs (i + 3))]) (st := [.int (f_X12_give M (xs (i + 1)) (xs (i + 2)) (xs (i + 3)))]) (n := 3) 226 (c_X13_give E M (xs (i + 1)) (xs (i + 2)) (xs (i + 3)) hs.2.1) mt_X13_give ml_L_190 dF_Md rfl rfl sg_X13_give rfl ⟨by decide, by decide, (by show cs ≤ 600002; omega), (by show ss ≤ 7302232; omega)⟩ (Nat.le_of_ble_eq_true rfl) dL_law_1714 ?_
  intro r9 N9 hq9
  rw [hq9.1, hq9.2]
  clear hq9 r9 N9
  refine g_icmp_eq 1747 dL_law_1717 (by decide) (fun _ => ?_) (fun c => absurd hs.2.2.1 c)
  exact (nx _ _ _ (Nat.le_succ _) (by omega) hs.2.2.2)
set_option maxRecDepth 100000 in
set_option maxHeartbeats 4000000 in
theorem tL_39 {E : gE} {b L i cs ss : Nat} {xs : Nat → Int32} {M : gM} {K : gM → Prop} (hL : L < 2 ^ 31) (hi : i + 5 < L) (hc : cs + 1 ≤ 600002) (hm : ss + 6 ≤ 7302232) (nx : ∀ (k n : Nat) (N : gM), k ≤ cs + 1 → n ≤ ss + 6 → K N → gK E RL code 7 ret room_1 (gSL E b L xs) lw_Z k n 1747 (lvL E b i) [] N) (hs : sL_39 M (xs (i + 1)) (xs (i + 2)) (xs (i + 3)) (xs (i + 4)) (xs (i + 5)) K) : gK E RL code 7 ret room_1 (gSL E b L xs) lw_Z cs ss 1722 (lvL E b i) [] M := by
  unfold sL_39 at hs
  refine g_aload_n 1 dL_law_1722 rfl ?_
  refine g_sarg (i := i) (n := 1) 0 4 rfl rfl (by omega) hL dL_law_1723 dL_law_1724 dL_law_1726 (by decide) dL_law_1727 dL_law_1728 ?_
  refine g_callV (As := [.int (xs (i + 1))]) (st := []) (n := 1) 0 (c_X12_count E M (xs (i + 1)) hs.1) mt_X12_count ml_L_191 dF_Wd rfl rfl sg_X12_count rfl ⟨by decide, by decide, (by show cs ≤ 600002; omega), (by show ss ≤ 7302232; omega)⟩ (Nat.le_of_ble_eq_true rfl) dL_law_1729 ?_
  intro r9 N9 hq9
  rw [hq9.1, hq9.2]
  clear hq9 r9 N9
  refine g_aload_n 2 dL_law_1732 rfl ?_
  refine g_sarg (i := i) (n := 1) 0 4 rfl rfl (by omega) hL dL_law_1733 dL_law_1734 dL_law_1736 (by decide) dL_law_1737 dL_law_1738 ?_
  refine g_callV (As := [.int (xs (i + 1))]) (st := [.int (f_X12_count M (xs (i + 1)))]) (n := 1) 226 (c_X13_count E M (xs (i + 1)) hs.2.1) mt_X13_count ml_L_194 dF_Md rfl rfl sg_X13_count rfl ⟨by decide, by decide, (by show cs ≤ 600002; omega), (by show ss ≤ 7302232; omega)⟩ (Nat.le_of_ble_eq_true rfl) dL_law_1739 ?_
  intro r9 N9 hq9
  rw [hq9.1, hq9.2]
  clear hq9 r9 N9
  refine g_icmp_eq 1747 dL_law_1742 (by decide) (fun _ => ?_) (fun c => absurd hs.2.2.1 c)
  exact (nx _ _ _ (Nat.le_succ _) (by omega) hs.2.2.2)
/-- one call of the script -/
def stepL (M : gM) (x a b c d e : Int32) (K : gM → Prop) : Prop :=
  (x = 0 → sL_0 M a b c d e K) ∧
  (x = 1 → sL_1 M a b c d e K) ∧
  (x = 2 → sL_2 M a b c d e K) ∧
  (x = 3 → sL_3 M a b c d e K) ∧
  (x = 4 → sL_4 M a b c d e K) ∧
  (x = 5 → sL_5 M a b c d e K) ∧
  (x = 6 → sL_6 M a b c d e K) ∧
  (x = 7 → sL_7 M a b c d e K) ∧
  (x = 8 → sL_8 M a b c d e K) ∧
  (x = 9 → sL_9 M a b c d e K) ∧
  (x = 10 → sL_10 M a b c d e K) ∧
  (x = 11 → sL_11 M a b c d e K) ∧
  (x = 12 → sL_12 M a b c d e K) ∧
  (x = 13 → sL_13 M a b c d e K) ∧
  (x = 14 → sL_14 M a b c d e K) ∧
  (x = 15 → sL_15 M a b c d e K) ∧
  (x = 16 → sL_16 M a b c d e K) ∧
  (x = 17 → sL_17 M a b c d e K) ∧
  (x = 18 → sL_18 M a b c d e K) ∧
  (x = 19 → sL_19 M a b c d e K) ∧
  (x = 20 → sL_20 M a b c d e K) ∧
  (x = 21 → sL_21 M a b c d e K) ∧
  (x = 22 → sL_22 M a b c d e K) ∧
  (x = 23 → sL_23 M a b c d e K) ∧
  (x = 24 → sL_24 M a b c d e K) ∧
  (x = 25 → sL_25 M a b c d e K) ∧
  (x = 26 → sL_26 M a b c d e K) ∧
  (x = 27 → sL_27 M a b c d e K) ∧
  (x = 28 → sL_28 M a b c d e K) ∧
  (x = 29 → sL_29 M a b c d e K) ∧
  (x = 30 → sL_30 M a b c d e K) ∧
  (x = 31 → sL_31 M a b c d e K) ∧
  (x = 32 → sL_32 M a b c d e K) ∧
  (x = 33 → sL_33 M a b c d e K) ∧
  (x = 34 → sL_34 M a b c d e K) ∧
  (x = 35 → sL_35 M a b c d e K) ∧
  (x = 36 → sL_36 M a b c d e K) ∧
  (x = 37 → sL_37 M a b c d e K) ∧
  (x = 38 → sL_38 M a b c d e K) ∧
  (x = 39 → sL_39 M a b c d e K) ∧
  (¬ x = 0 → ¬ x = 1 → ¬ x = 2 → ¬ x = 3 → ¬ x = 4 → ¬ x = 5 → ¬ x = 6 → ¬ x = 7 → ¬ x = 8 → ¬ x = 9 → ¬ x = 10 → ¬ x = 11 → ¬ x = 12 → ¬ x = 13 → ¬ x = 14 → ¬ x = 15 → ¬ x = 16 → ¬ x = 17 → ¬ x = 18 → ¬ x = 19 → ¬ x = 20 → ¬ x = 21 → ¬ x = 22 → ¬ x = 23 → ¬ x = 24 → ¬ x = 25 → ¬ x = 26 → ¬ x = 27 → ¬ x = 28 → ¬ x = 29 → ¬ x = 30 → ¬ x = 31 → ¬ x = 32 → ¬ x = 33 → ¬ x = 34 → ¬ x = 35 → ¬ x = 36 → ¬ x = 37 → ¬ x = 38 → ¬ x = 39 → K M)
theorem and63 (x : Int32) : 0 ≤ (x &&& 63).toInt ∧ (x &&& 63).toInt ≤ 63 := by
  have h : (x &&& 63).toInt = ((x.toBitVec &&& 63#32).toInt) := rfl
  have h2 : (x.toBitVec &&& 63#32).toNat ≤ 63 := by
    rw [BitVec.toNat_and]
    exact Nat.and_le_right
  rw [h, BitVec.toInt_eq_toNat_of_lt (by omega)]
  omega
set_option maxRecDepth 100000 in
set_option maxHeartbeats 4000000 in
theorem tL_all {E : gE} {b L i cs ss : Nat} {xs : Nat → Int32} {M : gM} {K : gM → Prop} (hL : L < 2 ^ 31) (hi : i + 5 < L) (hc : cs + 1 ≤ 600002) (hm : ss + 6 ≤ 7302232) (nx : ∀ (k n : Nat) (N : gM), k ≤ cs + 1 → n ≤ ss + 6 → K N → gK E RL code 7 ret room_1 (gSL E b L xs) lw_Z k n 1747 (lvL E b i) [] N) {x y : Int32} (hx : y = x) (hb : 0 ≤ x.toInt ∧ x.toInt ≤ 63) (hs : stepL M x (xs (i + 1)) (xs (i + 2)) (xs (i + 3)) (xs (i + 4)) (xs (i + 5)) K) : gK E RL code 7 ret room_1 (gSL E b L xs) lw_Z cs ss 40 (lvL E b i) [.int y] M := by
  unfold stepL at hs
  by_cases e0 : x = 0
  · exact g_tsIn (k := 0) (off := 176) 216 (hx.trans e0) dL_law_40 (by decide) (by decide) (by decide) (by decide) (tL_0 hL hi hc hm nx (hs.1 e0))
  by_cases e1 : x = 1
  · exact g_tsIn (k := 1) (off := 249) 289 (hx.trans e1) dL_law_40 (by decide) (by decide) (by decide) (by decide) (tL_1 hL hi hc hm nx (hs.2.1 e1))
  by_cases e2 : x = 2
  · exact g_tsIn (k := 2) (off := 274) 314 (hx.trans e2) dL_law_40 (by decide) (by decide) (by decide) (by decide) (tL_2 hL hi hc hm nx (hs.2.2.1 e2))
  by_cases e3 : x = 3
  · exact g_tsIn (k := 3) (off := 299) 339 (hx.trans e3) dL_law_40 (by decide) (by decide) (by decide) (by decide) (tL_3 hL hi hc hm nx (hs.2.2.2.1 e3))
  by_cases e4 : x = 4
  · exact g_tsIn (k := 4) (off := 367) 407 (hx.trans e4) dL_law_40 (by decide) (by decide) (by decide) (by decide) (tL_4 hL hi hc hm nx (hs.2.2.2.2.1 e4))
  by_cases e5 : x = 5
  · exact g_tsIn (k := 5) (off := 435) 475 (hx.trans e5) dL_law_40 (by decide) (by decide) (by decide) (by decide) (tL_5 hL hi hc hm nx (hs.2.2.2.2.2.1 e5))
  by_cases e6 : x = 6
  · exact g_tsIn (k := 6) (off := 472) 512 (hx.trans e6) dL_law_40 (by decide) (by decide) (by decide) (by decide) (tL_6 hL hi hc hm nx (hs.2.2.2.2.2.2.1 e6))
  by_cases e7 : x = 7
  · exact g_tsIn (k := 7) (off := 509) 549 (hx.trans e7) dL_law_40 (by decide) (by decide) (by decide) (by decide) (tL_7 hL hi hc hm nx (hs.2.2.2.2.2.2.2.1 e7))
  by_cases e8 : x = 8
  · exact g_tsIn (k := 8) (off := 546) 586 (hx.trans e8) dL_law_40 (by decide) (by decide) (by decide) (by decide) (tL_8 hL hi hc hm nx (hs.2.2.2.2.2.2.2.2.1 e8))
  by_cases e9 : x = 9
  · exact g_tsIn (k := 9) (off := 571) 611 (hx.trans e9) dL_law_40 (by decide) (by decide) (by decide) (by decide) (tL_9 hL hi hc hm nx (hs.2.2.2.2.2.2.2.2.2.1 e9))
  by_cases e10 : x = 10
  · exact g_tsIn (k := 10) (off := 596) 636 (hx.trans e10) dL_law_40 (by decide) (by decide) (by decide) (by decide) (tL_10 hL hi hc hm nx (hs.2.2.2.2.2.2.2.2.2.2.1 e10))
  by_cases e11 : x = 11
  · exact g_tsIn (k := 11) (off := 633) 673 (hx.trans e11) dL_law_40 (by decide) (by decide) (by decide) (by decide) (tL_11 hL hi hc hm nx (hs.2.2.2.2.2.2.2.2.2.2.2.1 e11))
  by_cases e12 : x = 12
  · exact g_tsIn (k := 12) (off := 682) 722 (hx.trans e12) dL_law_40 (by decide) (by decide) (by decide) (by decide) (tL_12 hL hi hc hm nx (hs.2.2.2.2.2.2.2.2.2.2.2.2.1 e12))
  by_cases e13 : x = 13
  · exact g_tsIn (k := 13) (off := 719) 759 (hx.trans e13) dL_law_40 (by decide) (by decide) (by decide) (by decide) (tL_13 hL hi hc hm nx (hs.2.2.2.2.2.2.2.2.2.2.2.2.2.1 e13))
  by_cases e14 : x = 14
  · exact g_tsIn (k := 14) (off := 744) 784 (hx.trans e14) dL_law_40 (by decide) (by decide) (by decide) (by decide) (tL_14 hL hi hc hm nx (hs.2.2.2.2.2.2.2.2.2.2.2.2.2.2.1 e14))
  by_cases e15 : x = 15
  · exact g_tsIn (k := 15) (off := 757) 797 (hx.trans e15) dL_law_40 (by decide) (by decide) (by decide) (by decide) (tL_15 hL hi hc hm nx (hs.2.2.2.2.2.2.2.2.2.2.2.2.2.2.2.1 e15))
  by_cases e16 : x = 16
  · exact g_tsIn (k := 16) (off := 794) 834 (hx.trans e16) dL_law_40 (by decide) (by decide) (by decide) (by decide) (tL_16 hL hi hc hm nx (hs.2.2.2.2.2.2.2.2.2.2.2.2.2.2.2.2.1 e16))
  by_cases e17 : x = 17
  · exact g_tsIn (k := 17) (off := 831) 871 (hx.trans e17) dL_law_40 (by decide) (by decide) (by decide) (by decide) (tL_17 hL hi hc hm nx (hs.2.2.2.2.2.2.2.2.2.2.2.2.2.2.2.2.2.1 e17))
  by_cases e18 : x = 18
  · exact g_tsIn (k := 18) (off := 868) 908 (hx.trans e18) dL_law_40 (by decide) (by decide) (by decide) (by decide) (tL_18 hL hi hc hm nx (hs.2.2.2.2.2.2.2.2.2.2.2.2.2.2.2.2.2.2.1 e18))
  by_cases e19 : x = 19
  · exact g_tsIn (k := 19) (off := 917) 957 (hx.trans e19) dL_law_40 (by decide) (by decide) (by decide) (by decide) (tL_19 hL hi hc hm nx (hs.2.2.2.2.2.2.2.2.2.2.2.2.2.2.2.2.2.2.2.1 e19))
  by_cases e20 : x = 20
  · exact g_tsIn (k := 20) (off := 954) 994 (hx.trans e20) dL_law_40 (by decide) (by decide) (by decide) (by decide) (tL_20 hL hi hc hm nx (hs.2.2.2.2.2.2.2.2.2.2.2.2.2.2.2.2.2.2.2.2.1 e20))
  by_cases e21 : x = 21
  · exact g_tsIn (k := 21) (off := 991) 1031 (hx.trans e21) dL_law_40 (by decide) (by decide) (by decide) (by decide) (tL_21 hL hi hc hm nx (hs.2.2.2.2.2.2.2.2.2.2.2.2.2.2.2.2.2.2.2.2.2.1 e21))
  by_cases e22 : x = 22
  · exact g_tsIn (k := 22) (off := 1016) 1056 (hx.trans e22) dL_law_40 (by decide) (by decide) (by decide) (by decide) (tL_22 hL hi hc hm nx (hs.2.2.2.2.2.2.2.2.2.2.2.2.2.2.2.2.2.2.2.2.2.2.1 e22))
  by_cases e23 : x = 23
  · exact g_tsIn (k := 23) (off := 1078) 1118 (hx.trans e23) dL_law_40 (by decide) (by decide) (by decide) (by decide) (tL_23 hL hi hc hm nx (hs.2.2.2.2.2.2.2.2.2.2.2.2.2.2.2.2.2.2.2.2.2.2.2.1 e23))
  by_cases e24 : x = 24
  · exact g_tsIn (k := 24) (off := 1115) 1155 (hx.trans e24) dL_law_40 (by decide) (by decide) (by decide) (by decide) (tL_24 hL hi hc hm nx (hs.2.2.2.2.2.2.2.2.2.2.2.2.2.2.2.2.2.2.2.2.2.2.2.2.1 e24))
  by_cases e25 : x = 25
  · exact g_tsIn (k := 25) (off := 1140) 1180 (hx.trans e25) dL_law_40 (by decide) (by decide) (by decide) (by decide) (tL_25 hL hi hc hm nx (hs.2.2.2.2.2.2.2.2.2.2.2.2.2.2.2.2.2.2.2.2.2.2.2.2.2.1 e25))
  by_cases e26 : x = 26
  · exact g_tsIn (k := 26) (off := 1165) 1205 (hx.trans e26) dL_law_40 (by decide) (by decide) (by decide) (by decide) (tL_26 hL hi hc hm nx (hs.2.2.2.2.2.2.2.2.2.2.2.2.2.2.2.2.2.2.2.2.2.2.2.2.2.2.1 e26))
  by_cases e27 : x = 27
  · exact g_tsIn (k := 27) (off := 1202) 1242 (hx.trans e27) dL_law_40 (by decide) (by decide) (by decide) (by decide) (tL_27 hL hi hc hm nx (hs.2.2.2.2.2.2.2.2.2.2.2.2.2.2.2.2.2.2.2.2.2.2.2.2.2.2.2.1 e27))
  by_cases e28 : x = 28
  · exact g_tsIn (k := 28) (off := 1239) 1279 (hx.trans e28) dL_law_40 (by decide) (by decide) (by decide) (by decide) (tL_28 hL hi hc hm nx (hs.2.2.2.2.2.2.2.2.2.2.2.2.2.2.2.2.2.2.2.2.2.2.2.2.2.2.2.2.1 e28))
  by_cases e29 : x = 29
  · exact g_tsIn (k := 29) (off := 1264) 1304 (hx.trans e29) dL_law_40 (by decide) (by decide) (by decide) (by decide) (tL_29 hL hi hc hm nx (hs.2.2.2.2.2.2.2.2.2.2.2.2.2.2.2.2.2.2.2.2.2.2.2.2.2.2.2.2.2.1 e29))
  by_cases e30 : x = 30
  · exact g_tsIn (k := 30) (off := 1313) 1353 (hx.trans e30) dL_law_40 (by decide) (by decide) (by decide) (by decide) (tL_30 hL hi hc hm nx (hs.2.2.2.2.2.2.2.2.2.2.2.2.2.2.2.2.2.2.2.2.2.2.2.2.2.2.2.2.2.2.1 e30))
  by_cases e31 : x = 31
  · exact g_tsIn (k := 31) (off := 1362) 1402 (hx.trans e31) dL_law_40 (by decide) (by decide) (by decide) (by decide) (tL_31 hL hi hc hm nx (hs.2.2.2.2.2.2.2.2.2.2.2.2.2.2.2.2.2.2.2.2.2.2.2.2.2.2.2.2.2.2.2.1 e31))
  by_cases e32 : x = 32
  · exact g_tsIn (k := 32) (off := 1411) 1451 (hx.trans e32) dL_law_40 (by decide) (by decide) (by decide) (by decide) (tL_32 hL hi hc hm nx (hs.2.2.2.2.2.2.2.2.2.2.2.2.2.2.2.2.2.2.2.2.2.2.2.2.2.2.2.2.2.2.2.2.1 e32))
  by_cases e33 : x = 33
  · exact g_tsIn (k := 33) (off := 1436) 1476 (hx.trans e33) dL_law_40 (by decide) (by decide) (by decide) (by decide) (tL_33 hL hi hc hm nx (hs.2.2.2.2.2.2.2.2.2.2.2.2.2.2.2.2.2.2.2.2.2.2.2.2.2.2.2.2.2.2.2.2.2.1 e33))
  by_cases e34 : x = 34
  · exact g_tsIn (k := 34) (off := 1473) 1513 (hx.trans e34) dL_law_40 (by decide) (by decide) (by decide) (by decide) (tL_34 hL hi hc hm nx (hs.2.2.2.2.2.2.2.2.2.2.2.2.2.2.2.2.2.2.2.2.2.2.2.2.2.2.2.2.2.2.2.2.2.2.1 e34))
  by_cases e35 : x = 35
  · exact g_tsIn (k := 35) (off := 1510) 1550 (hx.trans e35) dL_law_40 (by decide) (by decide) (by decide) (by decide) (tL_35 hL hi hc hm nx (hs.2.2.2.2.2.2.2.2.2.2.2.2.2.2.2.2.2.2.2.2.2.2.2.2.2.2.2.2.2.2.2.2.2.2.2.1 e35))
  by_cases e36 : x = 36
  · exact g_tsIn (k := 36) (off := 1547) 1587 (hx.trans e36) dL_law_40 (by decide) (by decide) (by decide) (by decide) (tL_36 hL hi hc hm nx (hs.2.2.2.2.2.2.2.2.2.2.2.2.2.2.2.2.2.2.2.2.2.2.2.2.2.2.2.2.2.2.2.2.2.2.2.2.1 e36))
  by_cases e37 : x = 37
  · exact g_tsIn (k := 37) (off := 1584) 1624 (hx.trans e37) dL_law_40 (by decide) (by decide) (by decide) (by decide) (tL_37 hL hi hc hm nx (hs.2.2.2.2.2.2.2.2.2.2.2.2.2.2.2.2.2.2.2.2.2.2.2.2.2.2.2.2.2.2.2.2.2.2.2.2.2.1 e37))
  by_cases e38 : x = 38
  · exact g_tsIn (k := 38) (off := 1633) 1673 (hx.trans e38) dL_law_40 (by decide) (by decide) (by decide) (by decide) (tL_38 hL hi hc hm nx (hs.2.2.2.2.2.2.2.2.2.2.2.2.2.2.2.2.2.2.2.2.2.2.2.2.2.2.2.2.2.2.2.2.2.2.2.2.2.2.1 e38))
  by_cases e39 : x = 39
  · exact g_tsIn (k := 39) (off := 1682) 1722 (hx.trans e39) dL_law_40 (by decide) (by decide) (by decide) (by decide) (tL_39 hL hi hc hm nx (hs.2.2.2.2.2.2.2.2.2.2.2.2.2.2.2.2.2.2.2.2.2.2.2.2.2.2.2.2.2.2.2.2.2.2.2.2.2.2.2.1 e39))
  have hbig : 39 < x.toInt := by
    rcases Int.lt_or_le 39 x.toInt with h | h
    · exact h
    · exfalso
      obtain ⟨n, hn, e⟩ : ∃ n : Nat, n < 40 ∧ x = nI n := by
        refine ⟨x.toInt.toNat, by omega, ?_⟩
        apply Int32.toInt_inj.mp
        rw [nI_toInt (by omega)]
        omega
      rcases (show n = 0 ∨ n = 1 ∨ n = 2 ∨ n = 3 ∨ n = 4 ∨ n = 5 ∨ n = 6 ∨ n = 7 ∨ n = 8 ∨ n = 9 ∨ n = 10 ∨ n = 11 ∨ n = 12 ∨ n = 13 ∨ n = 14 ∨ n = 15 ∨ n = 16 ∨ n = 17 ∨ n = 18 ∨ n = 19 ∨ n = 20 ∨ n = 21 ∨ n = 22 ∨ n = 23 ∨ n = 24 ∨ n = 25 ∨ n = 26 ∨ n = 27 ∨ n = 28 ∨ n = 29 ∨ n = 30 ∨ n = 31 ∨ n = 32 ∨ n = 33 ∨ n = 34 ∨ n = 35 ∨ n = 36 ∨ n = 37 ∨ n = 38 ∨ n = 39 by omega) with rfl | rfl | rfl | rfl | rfl | rfl | rfl | rfl | rfl | rfl | rfl | rfl | rfl | rfl | rfl | rfl | rfl | rfl | rfl | rfl | rfl | rfl | rfl | rfl | rfl | rfl | rfl | rfl | rfl | rfl | rfl | rfl | rfl | rfl | rfl | rfl | rfl | rfl | rfl | rfl
      · exact e0 e
      · exact e1 e
      · exact e2 e
      · exact e3 e
      · exact e4 e
      · exact e5 e
      · exact e6 e
      · exact e7 e
      · exact e8 e
      · exact e9 e
      · exact e10 e
      · exact e11 e
      · exact e12 e
      · exact e13 e
      · exact e14 e
      · exact e15 e
      · exact e16 e
      · exact e17 e
      · exact e18 e
      · exact e19 e
      · exact e20 e
      · exact e21 e
      · exact e22 e
      · exact e23 e
      · exact e24 e
      · exact e25 e
      · exact e26 e
      · exact e27 e
      · exact e28 e
      · exact e29 e
      · exact e30 e
      · exact e31 e
      · exact e32 e
      · exact e33 e
      · exact e34 e
      · exact e35 e
      · exact e36 e
      · exact e37 e
      · exact e38 e
      · exact e39 e
  exact g_tsOut 1747 dL_law_40 (by rw [hx]; exact Or.inr hbig) (by decide) (nx _ _ _ (Nat.le_succ _) (by omega) (hs.2.2.2.2.2.2.2.2.2.2.2.2.2.2.2.2.2.2.2.2.2.2.2.2.2.2.2.2.2.2.2.2.2.2.2.2.2.2.2.2 e0 e1 e2 e3 e4 e5 e6 e7 e8 e9 e10 e11 e12 e13 e14 e15 e16 e17 e18 e19 e20 e21 e22 e23 e24 e25 e26 e27 e28 e29 e30 e31 e32 e33 e34 e35 e36 e37 e38 e39))
set_option maxRecDepth 100000 in
set_option maxHeartbeats 4000000 in
theorem law_loop {E : gE} {b L : Nat} {xs : Nat → Int32} (hL : L < 2 ^ 30) (I : Nat → gM → Prop) (hstep : ∀ k M, 6 * k + 6 ≤ L → I k M → stepL M (xs (6 * k) &&& 63) (xs (6 * k + 1)) (xs (6 * k + 2)) (xs (6 * k + 3)) (xs (6 * k + 4)) (xs (6 * k + 5)) (I (k + 1))) :
    ∀ (n k cs ss : Nat) (M : gM), L < 6 * k + 6 * n → 6 * k ≤ L → cs + n ≤ 600002 → ss + 6 * n ≤ 7302232 → I k M → gK E RL code 7 ret room_1 (gSL E b L xs) lw_Z cs ss 23 (lvL E b (6 * k)) [] M := by
  intro n
  induction n with
  | zero => intro k cs ss M h1 h0; omega
  | succ n ih =>
    intro k cs ss M h1 h0 h2 h3 hI
    have e1 : (Int32.ofNat L).toInt = (L : Int) := nI_toInt (n := L) (by omega)
    have e6 : (6 : Int32).toInt = 6 := by decide
    have es : (Int32.ofNat L - 6).toInt = (L : Int) - 6 := by rw [fb_subI (by rw [e1, e6]; omega) (by rw [e1, e6]; omega), e1, e6]
    have ek : (nI (6 * k)).toInt = ((6 * k : Nat) : Int) := nI_toInt (by omega)
    refine g_iload 4 dL_law_23 rfl ?_
    refine g_aload_n 0 dL_law_25 rfl ?_
    refine g_slen dL_law_26 ?_
    refine g_bipush (v := 6) dL_law_27 (by decide) ?_
    refine g_isub dL_law_29 ?_
    refine g_icmp_gt 1753 dL_law_30 (by decide) (fun _ => ?_) (fun c => ?_)
    · refine g_iconst (v := 1) dL_law_1753 (by decide) ?_
      exact g_lwret (by omega) (by omega) dL_law_1754
    · have hk : 6 * k + 6 ≤ L := by
        rw [Int32.lt_iff_toInt_lt, es, ek] at c
        omega
      refine g_aload_n 0 dL_law_33 rfl ?_
      refine g_iload 4 dL_law_34 rfl ?_
      refine g_sld (vp_in_nI (by omega) (by omega)) dL_law_36 ?_
      rw [nn_nI (show 6 * k < 2 ^ 31 by omega)]
      refine g_bipush (v := 63) dL_law_37 (by decide) ?_
      refine g_iand dL_law_39 ?_
      refine tL_all (K := I (k + 1)) (by omega) (by omega) (by omega) (by omega) (fun c s N hc hs hN => ?_) rfl (and63 _) (hstep k M hk hI)
      refine g_iinc 4 (v := nI (6 * (k + 1))) [(4, .int (nI (6 * (k + 1)))), (0, .ref b), (1, .ref (gla E 0)), (2, .ref (gla E 226)), (3, .ref (gla E 240))] dL_law_1747 rfl (by show nI (6 * k) + nI 6 = _; rw [nI_add]; rfl) (by decide) rfl ?_
      refine g_goto 23 dL_law_1750 (by decide) ?_
      refine g_sub [1, 2, 3, 4, 0] (lvL E b (6 * (k + 1))) rfl ?_
      exact ih (k + 1) c s N (by omega) hk (by omega) (by omega) hN
end
