set_option linter.all false
noncomputable section
def pOut (M : gM) (z : Int32 × Int32) : gM := if z.1 = 0 then wrJ M 100 0 0 0 z.2.toInt64 else M
theorem hw_person : Cond.codeWith yL_person cL_person 5 (some .int) hhL ∈ gtbl := (gtbl_t tbin5 222 rfl rfl)
theorem hw1_person : Cond.static yL_person ∈ gtbl := (gtbl_t tbin5 221 rfl rfl)
theorem hsg_person : (parseMethodDescriptor yL_person.desc).map (fun d => d.parameters.length) = some 4 := by decide +kernel
set_option maxRecDepth 100000 in
set_option maxHeartbeats 4000000 in
theorem ch_person (E : gE) (M : gM) (a b : Int32) (hs : s_X12_person M a b) : gC1 E yL_person cL_person 5 (some .int) (rmx 13) [.ref (gla E 0), .int a, .int b, .ref (gla E 240)] M (fun o N => o = some (.int (f_X12_person M a b).1) ∧ N = pOut M (f_X12_person M a b)) := by
  refine gC1.of (lv := [(0, .ref (gla E 0)), (1, .int a), (2, .int b), (3, .ref (gla E 240))]) (by decide +kernel) (Nat.le_of_ble_eq_true rfl) rfl ?_
  refine g_aload_n 3 dL_person_0 rfl ?_
  refine g_iconst (v := 0) dL_person_1 (by decide) ?_
  refine g_aload_n 0 dL_person_2 rfl ?_
  refine g_iload_n 1 dL_person_3 rfl ?_
  refine g_iload_n 2 dL_person_4 rfl ?_
  refine g_callX (As := [.int a, .int b]) (st := [.int 0, .ref (gla E 240)]) 0 rfl (by decide) (c_X12_person E M a b hs) mt_X12_person ml_L_7 dF_Wd rfl rfl (gtbl_t tbin5 223 rfl rfl) (gtbl_t tbin5 224 rfl rfl) sg_X12_person rfl ⟨by decide, by decide, by decide, by decide⟩ (Nat.le_of_ble_eq_true rfl) dL_person_5 (fun Y N h => by rcases h.2 with ⟨h, -⟩ | ⟨h, -⟩; exact Or.inl h; exact Or.inr h) (fun r N h => ?_) (fun N q h => ?_) (fun N q h => ?_)
  · obtain ⟨v, hv, rfl, rfl⟩ := h
    refine g_i2l dL_person_8 ?_
    refine g_last 240 dF_out (vpD (by decide)) dL_person_9 (fun M1 hM => ?_)
    refine g_goto 21 dL_person_10 (by decide) ?_
    refine g_iconst (v := 0) dL_person_21 (by decide) ?_
    exact g_hret ⟨by decide, by decide⟩ rfl dL_person_22 ⟨by rw [hv], by rw [hM, hv]; rfl⟩
  · obtain ⟨rfl, h | h⟩ := h
    · refine g_astore [(4, .ref q), (0, .ref (gla E 0)), (1, .int a), (2, .int b), (3, .ref (gla E 240))] dL_person_13 (by decide) rfl ?_
      refine g_iconst (v := 1) dL_person_15 (by decide) ?_
      exact g_hret ⟨by decide, by decide⟩ rfl dL_person_16 ⟨by rw [h.2], by unfold pOut; rw [if_neg (by rw [h.2]; decide)]⟩
    · exact absurd h.1 (by decide)
  · obtain ⟨rfl, h | h⟩ := h
    · exact absurd h.1 (by decide)
    · refine g_astore [(4, .ref q), (0, .ref (gla E 0)), (1, .int a), (2, .int b), (3, .ref (gla E 240))] dL_person_17 (by decide) rfl ?_
      refine g_iconst (v := 2) dL_person_19 (by decide) ?_
      exact g_hret ⟨by decide, by decide⟩ rfl dL_person_20 ⟨by rw [h.2], by unfold pOut; rw [if_neg (by rw [h.2]; decide)]⟩
theorem hw_paper : Cond.codeWith yL_paper cL_paper 5 (some .int) hhL ∈ gtbl := (gtbl_t tbin6 75 rfl rfl)
theorem hw1_paper : Cond.static yL_paper ∈ gtbl := (gtbl_t tbin6 74 rfl rfl)
theorem hsg_paper : (parseMethodDescriptor yL_paper.desc).map (fun d => d.parameters.length) = some 4 := by decide +kernel
set_option maxRecDepth 100000 in
set_option maxHeartbeats 4000000 in
theorem ch_paper (E : gE) (M : gM) (a b : Int32) (hs : s_X12_paper M a b) : gC1 E yL_paper cL_paper 5 (some .int) (rmx 13) [.ref (gla E 0), .int a, .int b, .ref (gla E 240)] M (fun o N => o = some (.int (f_X12_paper M a b).1) ∧ N = pOut M (f_X12_paper M a b)) := by
  refine gC1.of (lv := [(0, .ref (gla E 0)), (1, .int a), (2, .int b), (3, .ref (gla E 240))]) (by decide +kernel) (Nat.le_of_ble_eq_true rfl) rfl ?_
  refine g_aload_n 3 dL_paper_0 rfl ?_
  refine g_iconst (v := 0) dL_paper_1 (by decide) ?_
  refine g_aload_n 0 dL_paper_2 rfl ?_
  refine g_iload_n 1 dL_paper_3 rfl ?_
  refine g_iload_n 2 dL_paper_4 rfl ?_
  refine g_callX (As := [.int a, .int b]) (st := [.int 0, .ref (gla E 240)]) 0 rfl (by decide) (c_X12_paper E M a b hs) mt_X12_paper ml_L_17 dF_Wd rfl rfl (gtbl_t tbin5 223 rfl rfl) (gtbl_t tbin5 224 rfl rfl) sg_X12_paper rfl ⟨by decide, by decide, by decide, by decide⟩ (Nat.le_of_ble_eq_true rfl) dL_paper_5 (fun Y N h => by rcases h.2 with ⟨h, -⟩ | ⟨h, -⟩; exact Or.inl h; exact Or.inr h) (fun r N h => ?_) (fun N q h => ?_) (fun N q h => ?_)
  · obtain ⟨v, hv, rfl, rfl⟩ := h
    refine g_i2l dL_paper_8 ?_
    refine g_last 240 dF_out (vpD (by decide)) dL_paper_9 (fun M1 hM => ?_)
    refine g_goto 21 dL_paper_10 (by decide) ?_
    refine g_iconst (v := 0) dL_paper_21 (by decide) ?_
    exact g_hret ⟨by decide, by decide⟩ rfl dL_paper_22 ⟨by rw [hv], by rw [hM, hv]; rfl⟩
  · obtain ⟨rfl, h | h⟩ := h
    · refine g_astore [(4, .ref q), (0, .ref (gla E 0)), (1, .int a), (2, .int b), (3, .ref (gla E 240))] dL_paper_13 (by decide) rfl ?_
      refine g_iconst (v := 1) dL_paper_15 (by decide) ?_
      exact g_hret ⟨by decide, by decide⟩ rfl dL_paper_16 ⟨by rw [h.2], by unfold pOut; rw [if_neg (by rw [h.2]; decide)]⟩
    · exact absurd h.1 (by decide)
  · obtain ⟨rfl, h | h⟩ := h
    · exact absurd h.1 (by decide)
    · refine g_astore [(4, .ref q), (0, .ref (gla E 0)), (1, .int a), (2, .int b), (3, .ref (gla E 240))] dL_paper_17 (by decide) rfl ?_
      refine g_iconst (v := 2) dL_paper_19 (by decide) ?_
      exact g_hret ⟨by decide, by decide⟩ rfl dL_paper_20 ⟨by rw [h.2], by unfold pOut; rw [if_neg (by rw [h.2]; decide)]⟩
theorem g_pop2 {E : gE} {own : String} {cc : ByteArray} {nL : Nat} {ret : Option FieldType} {R : Room} {pc : Nat} {lv : List (Nat × Value)} {st : List Value} {M : gM} {Sx : State → MethodId → Code → Prop} {Zf : List Frame → Array Value → State → State → Prop} {cs ss : Nat} {va : Value} (hd : decode cc pc = .ok (.pop2, 1)) (hva : va.category = 2) (h : gK E own cc nL ret R Sx Zf cs ss (pc + 1) lv st M) : gK E own cc nL ret R Sx Zf cs ss pc lv (va :: st) M := by
  intro p l e s m args below meth c H locs ls F X9 C L
  exact lv_pop2_2 F.1 F.2.1 hd hva (h p l e s m args below meth c H locs ls F X9 C L)
abbrev lvL (E : gE) (b i : Nat) : List (Nat × Value) := [(0, .ref b), (1, .ref (gla E 0)), (2, .ref (gla E 226)), (3, .ref (gla E 240)), (4, .int (nI i))]
theorem lg_cmp_self (x : Int64) : lg_cmp x x = 0 := by
  unfold lg_cmp
  simp
def sL_0 (M : gM) (a b c d e : Int32) (K : gM → Prop) : Prop :=
  s_X12_feed M a b c d e ∧
  s_X13_feed ((f_X12_feed M a b c d e).2) a b c d e ∧
  (f_X12_feed M a b c d e).1 = (f_X13_feed ((f_X12_feed M a b c d e).2) a b c d e).1 ∧
  K (f_X13_feed ((f_X12_feed M a b c d e).2) a b c d e).2
def sL_1 (M : gM) (a b c d e : Int32) (K : gM → Prop) : Prop :=
  s_X12_text M a ∧
  s_X13_text ((f_X12_text M a).2) a ∧
  K (f_X13_text ((f_X12_text M a).2) a).2
def sL_2 (M : gM) (a b c d e : Int32) (K : gM → Prop) : Prop :=
  s_X12_fault M a ∧
  s_X13_fault M a ∧
  K (f_X13_fault M a).2
def sL_3 (M : gM) (a b c d e : Int32) (K : gM → Prop) : Prop :=
  s_X12_person M a b ∧
  s_X13_person ((pOut M (f_X12_person M a b))) a b ∧
  K (f_X13_person ((pOut M (f_X12_person M a b))) a b).2
def sL_4 (M : gM) (a b c d e : Int32) (K : gM → Prop) : Prop :=
  s_X12_paper M a b ∧
  s_X13_paper ((pOut M (f_X12_paper M a b))) a b ∧
  K (f_X13_paper ((pOut M (f_X12_paper M a b))) a b).2
def sL_5 (M : gM) (a b c d e : Int32) (K : gM → Prop) : Prop :=
  s_X12_thing M a b ∧
  s_X13_thing M a b ∧
  K (f_X13_thing M a b).2
def sL_6 (M : gM) (a b c d e : Int32) (K : gM → Prop) : Prop :=
  s_X12_land M a b ∧
  s_X13_land M a b ∧
  K (f_X13_land M a b).2
def sL_7 (M : gM) (a b c d e : Int32) (K : gM → Prop) : Prop :=
  s_X12_lose M a b ∧
  s_X13_lose ((f_X12_lose M a b).2) a b ∧
  K (f_X13_lose ((f_X12_lose M a b).2) a b).2
def sL_8 (M : gM) (a b c d e : Int32) (K : gM → Prop) : Prop :=
  s_X12_find M a ∧
  s_X13_find ((f_X12_find M a).2) a ∧
  K (f_X13_find ((f_X12_find M a).2) a).2
def sL_9 (M : gM) (a b c d e : Int32) (K : gM → Prop) : Prop :=
  s_X12_copy M a ∧
  s_X13_copy ((f_X12_copy M a).2) a ∧
  K (f_X13_copy ((f_X12_copy M a).2) a).2
def sL_10 (M : gM) (a b c d e : Int32) (K : gM → Prop) : Prop :=
  s_X12_witness M a b ∧
  s_X13_witness ((f_X12_witness M a b).2) a b ∧
  K (f_X13_witness ((f_X12_witness M a b).2) a b).2
def sL_11 (M : gM) (a b c d e : Int32) (K : gM → Prop) : Prop :=
  s_X12_wed M a b c ∧
  s_X13_wed ((f_X12_wed M a b c).2) a b c ∧
  K (f_X13_wed ((f_X12_wed M a b c).2) a b c).2
def sL_12 (M : gM) (a b c d e : Int32) (K : gM → Prop) : Prop :=
  s_X12_dies M a b ∧
  s_X13_dies ((f_X12_dies M a b).2) a b ∧
  K (f_X13_dies ((f_X12_dies M a b).2) a b).2
def sL_13 (M : gM) (a b c d e : Int32) (K : gM → Prop) : Prop :=
  s_X12_takeBack M a ∧
  s_X13_takeBack ((f_X12_takeBack M a).2) a ∧
  K (f_X13_takeBack ((f_X12_takeBack M a).2) a).2
def sL_14 (M : gM) (a b c d e : Int32) (K : gM → Prop) : Prop :=
  s_X12_undo M ∧
  s_X13_undo ((f_X12_undo M).2) ∧
  K (f_X13_undo ((f_X12_undo M).2)).2
def sL_15 (M : gM) (a b c d e : Int32) (K : gM → Prop) : Prop :=
  s_X12_form M a b ∧
  s_X13_form M a b ∧
  K (f_X13_form M a b).2
def sL_16 (M : gM) (a b c d e : Int32) (K : gM → Prop) : Prop :=
  s_X12_why M a b ∧
  s_X13_why ((f_X12_why M a b).2) a b ∧
  K (f_X13_why ((f_X12_why M a b).2) a b).2
def sL_17 (M : gM) (a b c d e : Int32) (K : gM → Prop) : Prop :=
  s_X12_struckBy M a b ∧
  s_X13_struckBy ((f_X12_struckBy M a b).2) a b ∧
  K (f_X13_struckBy ((f_X12_struckBy M a b).2) a b).2
def sL_18 (M : gM) (a b c d e : Int32) (K : gM → Prop) : Prop :=
  s_X12_counting M a b c ∧
  s_X13_counting ((f_X12_counting M a b c).2) a b c ∧
  K (f_X13_counting ((f_X12_counting M a b c).2) a b c).2
def sL_19 (M : gM) (a b c d e : Int32) (K : gM → Prop) : Prop :=
  s_X12_taker M a b ∧
  s_X13_taker ((f_X12_taker M a b).2) a b ∧
  K (f_X13_taker ((f_X12_taker M a b).2) a b).2
def sL_20 (M : gM) (a b c d e : Int32) (K : gM → Prop) : Prop :=
  s_X12_takerBy M a b ∧
  s_X13_takerBy_ ((f_X12_takerBy M a b).2) a b ∧
  K (f_X13_takerBy_ ((f_X12_takerBy M a b).2) a b).2
def sL_21 (M : gM) (a b c d e : Int32) (K : gM → Prop) : Prop :=
  s_X12_heirs M a ∧
  s_X13_heirs M a ∧
  K (f_X13_heirs M a).2
def sL_22 (M : gM) (a b c d e : Int32) (K : gM → Prop) : Prop :=
  s_X12_has M a b c d ∧
  s_X13_has_ ((f_X12_has M a b c d).2) a b c d ∧
  K (f_X13_has_ ((f_X12_has M a b c d).2) a b c d).2
def sL_23 (M : gM) (a b c d e : Int32) (K : gM → Prop) : Prop :=
  s_X12_holders M a b ∧
  s_X13_holders ((f_X12_holders M a b).2) a b ∧
  K (f_X13_holders ((f_X12_holders M a b).2) a b).2
def sL_24 (M : gM) (a b c d e : Int32) (K : gM → Prop) : Prop :=
  s_X12_wealth M a ∧
  s_X13_wealth ((f_X12_wealth M a).2) a ∧
  K (f_X13_wealth ((f_X12_wealth M a).2) a).2
def sL_25 (M : gM) (a b c d e : Int32) (K : gM → Prop) : Prop :=
  s_X12_ever M a ∧
  s_X13_ever ((f_X12_ever M a).2) a ∧
  K (f_X13_ever ((f_X12_ever M a).2) a).2
def sL_26 (M : gM) (a b c d e : Int32) (K : gM → Prop) : Prop :=
  s_X12_gain M a b ∧
  s_X13_gain ((f_X12_gain M a b).2) a b ∧
  K (f_X13_gain ((f_X12_gain M a b).2) a b).2
def sL_27 (M : gM) (a b c d e : Int32) (K : gM → Prop) : Prop :=
  s_X12_against M a b ∧
  s_X13_against ((f_X12_against M a b).2) a b ∧
  K (f_X13_against ((f_X12_against M a b).2) a b).2
def sL_28 (M : gM) (a b c d e : Int32) (K : gM → Prop) : Prop :=
  s_X12_key M a ∧
  s_X13_key ((f_X12_key M a).2) a ∧
  K (f_X13_key ((f_X12_key M a).2) a).2
def sL_29 (M : gM) (a b c d e : Int32) (K : gM → Prop) : Prop :=
  s_X12_wouldPaper M a b c ∧
  s_X13_wouldPaper ((f_X12_wouldPaper M a b c).2) a b c ∧
  K (f_X13_wouldPaper ((f_X12_wouldPaper M a b c).2) a b c).2
def sL_30 (M : gM) (a b c d e : Int32) (K : gM → Prop) : Prop :=
  s_X12_wouldDie M a b c ∧
  s_X13_wouldDie ((f_X12_wouldDie M a b c).2) a b c ∧
  K (f_X13_wouldDie ((f_X12_wouldDie M a b c).2) a b c).2
def sL_31 (M : gM) (a b c d e : Int32) (K : gM → Prop) : Prop :=
  s_X12_dayFor M a b c ∧
  s_X13_dayFor ((f_X12_dayFor M a b c).2) a b c ∧
  K (f_X13_dayFor ((f_X12_dayFor M a b c).2) a b c).2
def sL_32 (M : gM) (a b c d e : Int32) (K : gM → Prop) : Prop :=
  s_X12_margin M a ∧
  s_X13_margin M a ∧
  K (f_X13_margin M a).2
def sL_33 (M : gM) (a b c d e : Int32) (K : gM → Prop) : Prop :=
  s_X12_death M a b ∧
  s_X13_death ((f_X12_death M a b).2) a b ∧
  K (f_X13_death ((f_X12_death M a b).2) a b).2
def sL_34 (M : gM) (a b c d e : Int32) (K : gM → Prop) : Prop :=
  s_X12_moves M a b ∧
  s_X13_moves ((f_X12_moves M a b).2) a b ∧
  K (f_X13_moves ((f_X12_moves M a b).2) a b).2
def sL_35 (M : gM) (a b c d e : Int32) (K : gM → Prop) : Prop :=
  s_X12_kin M a b ∧
  s_X13_kin M a b ∧
  K (f_X13_kin M a b).2
def sL_36 (M : gM) (a b c d e : Int32) (K : gM → Prop) : Prop :=
  s_X12_naming M a b ∧
  s_X13_naming M a b ∧
  K (f_X13_naming M a b).2
def sL_37 (M : gM) (a b c d e : Int32) (K : gM → Prop) : Prop :=
  s_X12_sees M a b c ∧
  s_X13_sees M a b c ∧
  K (f_X13_sees M a b c).2
def sL_38 (M : gM) (a b c d e : Int32) (K : gM → Prop) : Prop :=
  s_X12_give M a b c ∧
  s_X13_give M a b c ∧
  K (f_X13_give M a b c).2
def sL_39 (M : gM) (a b c d e : Int32) (K : gM → Prop) : Prop :=
  s_X12_count M a ∧
  s_X13_count M a ∧
  K (f_X13_count M a).2
set_option maxRecDepth 100000 in
set_option maxHeartbeats 4000000 in
theorem tL_0 {E : gE} {b L i cs ss : Nat} {xs : Nat → Int32} {M : gM} {K : gM → Prop} (hL : L < 2 ^ 31) (hi : i + 5 < L) (hc : cs + 1 ≤ 601024) (hm : ss + 6 ≤ 7293034) (nx : ∀ (k n : Nat) (N : gM), k ≤ cs + 1 → n ≤ ss + 6 → K N → gK E RL code 7 ret room_1 (gSL E b L xs) lw_Z k n 1690 (lvL E b i) [] N) (hs : sL_0 M (xs (i + 1)) (xs (i + 2)) (xs (i + 3)) (xs (i + 4)) (xs (i + 5)) K) : gK E RL code 7 ret room_1 (gSL E b L xs) lw_Z cs ss 216 (lvL E b i) [] M := by
  unfold sL_0 at hs
  refine g_aload_n 1 dL_law_216 rfl ?_
  refine g_sarg (i := i) (n := 1) 0 4 rfl rfl (by omega) hL dL_law_217 dL_law_218 dL_law_220 (by decide) dL_law_221 dL_law_222 ?_
  refine g_sarg (i := i) (n := 2) 0 4 rfl rfl (by omega) hL dL_law_223 dL_law_224 dL_law_226 (by decide) dL_law_227 dL_law_228 ?_
  refine g_sarg (i := i) (n := 3) 0 4 rfl rfl (by omega) hL dL_law_229 dL_law_230 dL_law_232 (by decide) dL_law_233 dL_law_234 ?_
  refine g_sarg (i := i) (n := 4) 0 4 rfl rfl (by omega) hL dL_law_235 dL_law_236 dL_law_238 (by decide) dL_law_239 dL_law_240 ?_
  refine g_sarg (i := i) (n := 5) 0 4 rfl rfl (by omega) hL dL_law_241 dL_law_242 dL_law_244 (by decide) dL_law_245 dL_law_246 ?_
  refine g_callV (As := [.int (xs (i + 1)), .int (xs (i + 2)), .int (xs (i + 3)), .int (xs (i + 4)), .int (xs (i + 5))]) (st := []) (n := 5) 0 (c_X12_feed E M (xs (i + 1)) (xs (i + 2)) (xs (i + 3)) (xs (i + 4)) (xs (i + 5)) hs.1) mt_X12_feed ml_L_24 dF_Wd rfl rfl sg_X12_feed rfl ⟨by decide, by decide, (by show cs ≤ 601024; omega), (by show ss ≤ 7293034; omega)⟩ (Nat.le_of_ble_eq_true rfl) dL_law_247 ?_
  intro r9 N9 hq9
  rw [hq9.1, hq9.2]
  clear hq9 r9 N9
  refine g_aload_n 2 dL_law_250 rfl ?_
  refine g_sarg (i := i) (n := 1) 0 4 rfl rfl (by omega) hL dL_law_251 dL_law_252 dL_law_254 (by decide) dL_law_255 dL_law_256 ?_
  refine g_sarg (i := i) (n := 2) 0 4 rfl rfl (by omega) hL dL_law_257 dL_law_258 dL_law_260 (by decide) dL_law_261 dL_law_262 ?_
  refine g_sarg (i := i) (n := 3) 0 4 rfl rfl (by omega) hL dL_law_263 dL_law_264 dL_law_266 (by decide) dL_law_267 dL_law_268 ?_
  refine g_sarg (i := i) (n := 4) 0 4 rfl rfl (by omega) hL dL_law_269 dL_law_270 dL_law_272 (by decide) dL_law_273 dL_law_274 ?_
  refine g_sarg (i := i) (n := 5) 0 4 rfl rfl (by omega) hL dL_law_275 dL_law_276 dL_law_278 (by decide) dL_law_279 dL_law_280 ?_
  refine g_callV (As := [.int (xs (i + 1)), .int (xs (i + 2)), .int (xs (i + 3)), .int (xs (i + 4)), .int (xs (i + 5))]) (st := [.int ((f_X12_feed M (xs (i + 1)) (xs (i + 2)) (xs (i + 3)) (xs (i + 4)) (xs (i + 5))).1)]) (n := 5) 226 (c_X13_feed E ((f_X12_feed M (xs (i + 1)) (xs (i + 2)) (xs (i + 3)) (xs (i + 4)) (xs (i + 5))).2) (xs (i + 1)) (xs (i + 2)) (xs (i + 3)) (xs (i + 4)) (xs (i + 5)) hs.2.1) mt_X13_feed ml_L_28 dF_Md rfl rfl sg_X13_feed rfl ⟨by decide, by decide, (by show cs ≤ 601024; omega), (by show ss ≤ 7293034; omega)⟩ (Nat.le_of_ble_eq_true rfl) dL_law_281 ?_
  intro r9 N9 hq9
  rw [hq9.1, hq9.2]
  clear hq9 r9 N9
  refine g_icmp_eq 1690 dL_law_284 (by decide) (fun _ => ?_) (fun c => absurd hs.2.2.1 c)
  exact (nx _ _ _ (Nat.le_succ _) (by omega) hs.2.2.2)
set_option maxRecDepth 100000 in
set_option maxHeartbeats 4000000 in
theorem tL_1 {E : gE} {b L i cs ss : Nat} {xs : Nat → Int32} {M : gM} {K : gM → Prop} (hL : L < 2 ^ 31) (hi : i + 5 < L) (hc : cs + 1 ≤ 601024) (hm : ss + 6 ≤ 7293034) (nx : ∀ (k n : Nat) (N : gM), k ≤ cs + 1 → n ≤ ss + 6 → K N → gK E RL code 7 ret room_1 (gSL E b L xs) lw_Z k n 1690 (lvL E b i) [] N) (hs : sL_1 M (xs (i + 1)) (xs (i + 2)) (xs (i + 3)) (xs (i + 4)) (xs (i + 5)) K) : gK E RL code 7 ret room_1 (gSL E b L xs) lw_Z cs ss 289 (lvL E b i) [] M := by
  unfold sL_1 at hs
  refine g_aload_n 1 dL_law_289 rfl ?_
  refine g_sarg (i := i) (n := 1) 0 4 rfl rfl (by omega) hL dL_law_290 dL_law_291 dL_law_293 (by decide) dL_law_294 dL_law_295 ?_
  refine g_callV (As := [.int (xs (i + 1))]) (st := []) (n := 1) 0 (c_X12_text E M (xs (i + 1)) hs.1) mt_X12_text ml_L_29 dF_Wd rfl rfl sg_X12_text rfl ⟨by decide, by decide, (by show cs ≤ 601024; omega), (by show ss ≤ 7293034; omega)⟩ (Nat.le_of_ble_eq_true rfl) dL_law_296 ?_
  intro r9 N9 hq9
  rw [hq9.1, hq9.2]
  clear hq9 r9 N9
  refine g_pop dL_law_299 rfl ?_
  refine g_aload_n 2 dL_law_300 rfl ?_
  refine g_sarg (i := i) (n := 1) 0 4 rfl rfl (by omega) hL dL_law_301 dL_law_302 dL_law_304 (by decide) dL_law_305 dL_law_306 ?_
  refine g_callV (As := [.int (xs (i + 1))]) (st := []) (n := 1) 226 (c_X13_text E ((f_X12_text M (xs (i + 1))).2) (xs (i + 1)) hs.2.1) mt_X13_text ml_L_33 dF_Md rfl rfl sg_X13_text rfl ⟨by decide, by decide, (by show cs ≤ 601024; omega), (by show ss ≤ 7293034; omega)⟩ (Nat.le_of_ble_eq_true rfl) dL_law_307 ?_
  intro r9 N9 hq9
  rw [hq9.1, hq9.2]
  clear hq9 r9 N9
  refine g_pop dL_law_310 rfl ?_
  refine g_goto 1690 dL_law_311 (by decide) ?_
  exact (nx _ _ _ (Nat.le_succ _) (by omega) hs.2.2)
set_option maxRecDepth 100000 in
set_option maxHeartbeats 4000000 in
theorem tL_2 {E : gE} {b L i cs ss : Nat} {xs : Nat → Int32} {M : gM} {K : gM → Prop} (hL : L < 2 ^ 31) (hi : i + 5 < L) (hc : cs + 1 ≤ 601024) (hm : ss + 6 ≤ 7293034) (nx : ∀ (k n : Nat) (N : gM), k ≤ cs + 1 → n ≤ ss + 6 → K N → gK E RL code 7 ret room_1 (gSL E b L xs) lw_Z k n 1690 (lvL E b i) [] N) (hs : sL_2 M (xs (i + 1)) (xs (i + 2)) (xs (i + 3)) (xs (i + 4)) (xs (i + 5)) K) : gK E RL code 7 ret room_1 (gSL E b L xs) lw_Z cs ss 314 (lvL E b i) [] M := by
  unfold sL_2 at hs
  refine g_aload_n 1 dL_law_314 rfl ?_
  refine g_sarg (i := i) (n := 1) 0 4 rfl rfl (by omega) hL dL_law_315 dL_law_316 dL_law_318 (by decide) dL_law_319 dL_law_320 ?_
  refine g_callV (As := [.int (xs (i + 1))]) (st := []) (n := 1) 0 (c_X12_fault E M (xs (i + 1)) hs.1) mt_X12_fault ml_L_34 dF_Wd rfl rfl sg_X12_fault rfl ⟨by decide, by decide, (by show cs ≤ 601024; omega), (by show ss ≤ 7293034; omega)⟩ (Nat.le_of_ble_eq_true rfl) dL_law_321 ?_
  intro r9 N9 hq9
  rw [hq9.1, hq9.2]
  clear hq9 r9 N9
  refine g_pop dL_law_324 rfl ?_
  refine g_aload_n 2 dL_law_325 rfl ?_
  refine g_sarg (i := i) (n := 1) 0 4 rfl rfl (by omega) hL dL_law_326 dL_law_327 dL_law_329 (by decide) dL_law_330 dL_law_331 ?_
  refine g_callV (As := [.int (xs (i + 1))]) (st := []) (n := 1) 226 (c_X13_fault E M (xs (i + 1)) hs.2.1) mt_X13_fault ml_L_37 dF_Md rfl rfl sg_X13_fault rfl ⟨by decide, by decide, (by show cs ≤ 601024; omega), (by show ss ≤ 7293034; omega)⟩ (Nat.le_of_ble_eq_true rfl) dL_law_332 ?_
  intro r9 N9 hq9
  rw [hq9.1, hq9.2]
  clear hq9 r9 N9
  refine g_pop dL_law_335 rfl ?_
  refine g_goto 1690 dL_law_336 (by decide) ?_
  exact (nx _ _ _ (Nat.le_succ _) (by omega) hs.2.2)
set_option maxRecDepth 100000 in
set_option maxHeartbeats 4000000 in
theorem tL_3 {E : gE} {b L i cs ss : Nat} {xs : Nat → Int32} {M : gM} {K : gM → Prop} (hL : L < 2 ^ 31) (hi : i + 5 < L) (hc : cs + 1 ≤ 601024) (hm : ss + 6 ≤ 7293034) (nx : ∀ (k n : Nat) (N : gM), k ≤ cs + 1 → n ≤ ss + 6 → K N → gK E RL code 7 ret room_1 (gSL E b L xs) lw_Z k n 1690 (lvL E b i) [] N) (hs : sL_3 M (xs (i + 1)) (xs (i + 2)) (xs (i + 3)) (xs (i + 4)) (xs (i + 5)) K) : gK E RL code 7 ret room_1 (gSL E b L xs) lw_Z cs ss 339 (lvL E b i) [] M := by
  unfold sL_3 at hs
  refine g_aload_n 1 dL_law_339 rfl ?_
  refine g_sarg (i := i) (n := 1) 0 4 rfl rfl (by omega) hL dL_law_340 dL_law_341 dL_law_343 (by decide) dL_law_344 dL_law_345 ?_
  refine g_sarg (i := i) (n := 2) 0 4 rfl rfl (by omega) hL dL_law_346 dL_law_347 dL_law_349 (by decide) dL_law_350 dL_law_351 ?_
  refine g_aload_n 3 dL_law_352 rfl ?_
  refine g_callH (As := [.ref (gla E 0), .int (xs (i + 1)), .int (xs (i + 2)), .ref (gla E 240)]) (st := []) (n := 4) (ch_person E M (xs (i + 1)) (xs (i + 2)) hs.1) hw1_person (gtbl_t tbin1 0 rfl rfl) hw_person (by decide +kernel) ml_L_38 hsg_person rfl ⟨by decide, by decide, (by show cs + 1 ≤ 601024; omega), (by show ss + 6 ≤ 7293034; omega)⟩ (Nat.le_of_ble_eq_true rfl) dL_law_353 ?_
  intro r9 N9 hq9
  rw [hq9.1, hq9.2]
  clear hq9 r9 N9
  refine g_istore ([(5, .int ((f_X12_person M (xs (i + 1)) (xs (i + 2))).1))] ++ lvL E b i) dL_law_356 (by decide) rfl ?_
  refine g_aload_n 3 dL_law_358 rfl ?_
  refine g_sarg (i := i) (n := 1) 1 5 rfl rfl (by omega) hL dL_law_359 dL_law_360 dL_law_362 (by decide) dL_law_363 dL_law_364 ?_
  refine g_sarg (i := i) (n := 2) 1 5 rfl rfl (by omega) hL dL_law_365 dL_law_366 dL_law_368 (by decide) dL_law_369 dL_law_370 ?_
  refine g_callV (As := [.int (xs (i + 1)), .int (xs (i + 2))]) (st := []) (n := 2) 226 (c_X13_person E ((pOut M (f_X12_person M (xs (i + 1)) (xs (i + 2))))) (xs (i + 1)) (xs (i + 2)) hs.2.1) mt_X13_person ml_L_43 dF_Md rfl rfl sg_X13_person rfl ⟨by decide, by decide, (by show cs + 1 ≤ 601024; omega), (by show ss + 6 ≤ 7293034; omega)⟩ (Nat.le_of_ble_eq_true rfl) dL_law_371 ?_
  intro r9 N9 hq9
  rw [hq9.1, hq9.2]
  clear hq9 r9 N9
  refine g_istore ([(6, .int ((f_X13_person ((pOut M (f_X12_person M (xs (i + 1)) (xs (i + 2))))) (xs (i + 1)) (xs (i + 2))).1)), (5, .int ((f_X12_person M (xs (i + 1)) (xs (i + 2))).1))] ++ lvL E b i) dL_law_374 (by decide) rfl ?_
  refine g_goto 1690 dL_law_376 (by decide) ?_
  exact (g_sub [2, 3, 4, 5, 6] (lvL E b i) rfl (nx _ _ _ (Nat.le_refl _) (Nat.le_refl _) hs.2.2))
set_option maxRecDepth 100000 in
set_option maxHeartbeats 4000000 in
theorem tL_4 {E : gE} {b L i cs ss : Nat} {xs : Nat → Int32} {M : gM} {K : gM → Prop} (hL : L < 2 ^ 31) (hi : i + 5 < L) (hc : cs + 1 ≤ 601024) (hm : ss + 6 ≤ 7293034) (nx : ∀ (k n : Nat) (N : gM), k ≤ cs + 1 → n ≤ ss + 6 → K N → gK E RL code 7 ret room_1 (gSL E b L xs) lw_Z k n 1690 (lvL E b i) [] N) (hs : sL_4 M (xs (i + 1)) (xs (i + 2)) (xs (i + 3)) (xs (i + 4)) (xs (i + 5)) K) : gK E RL code 7 ret room_1 (gSL E b L xs) lw_Z cs ss 379 (lvL E b i) [] M := by
  unfold sL_4 at hs
  refine g_aload_n 1 dL_law_379 rfl ?_
  refine g_sarg (i := i) (n := 1) 0 4 rfl rfl (by omega) hL dL_law_380 dL_law_381 dL_law_383 (by decide) dL_law_384 dL_law_385 ?_
  refine g_sarg (i := i) (n := 2) 0 4 rfl rfl (by omega) hL dL_law_386 dL_law_387 dL_law_389 (by decide) dL_law_390 dL_law_391 ?_
  refine g_aload_n 3 dL_law_392 rfl ?_
  refine g_callH (As := [.ref (gla E 0), .int (xs (i + 1)), .int (xs (i + 2)), .ref (gla E 240)]) (st := []) (n := 4) (ch_paper E M (xs (i + 1)) (xs (i + 2)) hs.1) hw1_paper (gtbl_t tbin1 0 rfl rfl) hw_paper (by decide +kernel) ml_L_44 hsg_paper rfl ⟨by decide, by decide, (by show cs + 1 ≤ 601024; omega), (by show ss + 6 ≤ 7293034; omega)⟩ (Nat.le_of_ble_eq_true rfl) dL_law_393 ?_
  intro r9 N9 hq9
  rw [hq9.1, hq9.2]
  clear hq9 r9 N9
  refine g_istore ([(5, .int ((f_X12_paper M (xs (i + 1)) (xs (i + 2))).1))] ++ lvL E b i) dL_law_396 (by decide) rfl ?_
  refine g_aload_n 3 dL_law_398 rfl ?_
  refine g_sarg (i := i) (n := 1) 1 5 rfl rfl (by omega) hL dL_law_399 dL_law_400 dL_law_402 (by decide) dL_law_403 dL_law_404 ?_
  refine g_sarg (i := i) (n := 2) 1 5 rfl rfl (by omega) hL dL_law_405 dL_law_406 dL_law_408 (by decide) dL_law_409 dL_law_410 ?_
  refine g_callV (As := [.int (xs (i + 1)), .int (xs (i + 2))]) (st := []) (n := 2) 226 (c_X13_paper E ((pOut M (f_X12_paper M (xs (i + 1)) (xs (i + 2))))) (xs (i + 1)) (xs (i + 2)) hs.2.1) mt_X13_paper ml_L_46 dF_Md rfl rfl sg_X13_paper rfl ⟨by decide, by decide, (by show cs + 1 ≤ 601024; omega), (by show ss + 6 ≤ 7293034; omega)⟩ (Nat.le_of_ble_eq_true rfl) dL_law_411 ?_
  intro r9 N9 hq9
  rw [hq9.1, hq9.2]
  clear hq9 r9 N9
  refine g_istore ([(6, .int ((f_X13_paper ((pOut M (f_X12_paper M (xs (i + 1)) (xs (i + 2))))) (xs (i + 1)) (xs (i + 2))).1)), (5, .int ((f_X12_paper M (xs (i + 1)) (xs (i + 2))).1))] ++ lvL E b i) dL_law_414 (by decide) rfl ?_
  refine g_goto 1690 dL_law_416 (by decide) ?_
  exact (g_sub [2, 3, 4, 5, 6] (lvL E b i) rfl (nx _ _ _ (Nat.le_refl _) (Nat.le_refl _) hs.2.2))
set_option maxRecDepth 100000 in
set_option maxHeartbeats 4000000 in
theorem tL_5 {E : gE} {b L i cs ss : Nat} {xs : Nat → Int32} {M : gM} {K : gM → Prop} (hL : L < 2 ^ 31) (hi : i + 5 < L) (hc : cs + 1 ≤ 601024) (hm : ss + 6 ≤ 7293034) (nx : ∀ (k n : Nat) (N : gM), k ≤ cs + 1 → n ≤ ss + 6 → K N → gK E RL code 7 ret room_1 (gSL E b L xs) lw_Z k n 1690 (lvL E b i) [] N) (hs : sL_5 M (xs (i + 1)) (xs (i + 2)) (xs (i + 3)) (xs (i + 4)) (xs (i + 5)) K) : gK E RL code 7 ret room_1 (gSL E b L xs) lw_Z cs ss 419 (lvL E b i) [] M := by
  unfold sL_5 at hs
  refine g_aload_n 1 dL_law_419 rfl ?_
  refine g_sarg (i := i) (n := 1) 0 4 rfl rfl (by omega) hL dL_law_420 dL_law_421 dL_law_423 (by decide) dL_law_424 dL_law_425 ?_
  refine g_sarg (i := i) (n := 2) 0 4 rfl rfl (by omega) hL dL_law_426 dL_law_427 dL_law_429 (by decide) dL_law_430 dL_law_431 ?_
  refine g_callV (As := [.int (xs (i + 1)), .int (xs (i + 2))]) (st := []) (n := 2) 0 (c_X12_thing E M (xs (i + 1)) (xs (i + 2)) hs.1) mt_X12_thing ml_L_47 dF_Wd rfl rfl sg_X12_thing rfl ⟨by decide, by decide, (by show cs ≤ 601024; omega), (by show ss ≤ 7293034; omega)⟩ (Nat.le_of_ble_eq_true rfl) dL_law_432 ?_
  intro r9 N9 hq9
  rw [hq9.1, hq9.2]
  clear hq9 r9 N9
  refine g_pop dL_law_435 rfl ?_
  refine g_aload_n 2 dL_law_436 rfl ?_
  refine g_sarg (i := i) (n := 1) 0 4 rfl rfl (by omega) hL dL_law_437 dL_law_438 dL_law_440 (by decide) dL_law_441 dL_law_442 ?_
  refine g_sarg (i := i) (n := 2) 0 4 rfl rfl (by omega) hL dL_law_443 dL_law_444 dL_law_446 (by decide) dL_law_447 dL_law_448 ?_
  refine g_callV (As := [.int (xs (i + 1)), .int (xs (i + 2))]) (st := []) (n := 2) 226 (c_X13_thing E M (xs (i + 1)) (xs (i + 2)) hs.2.1) mt_X13_thing ml_L_50 dF_Md rfl rfl sg_X13_thing rfl ⟨by decide, by decide, (by show cs ≤ 601024; omega), (by show ss ≤ 7293034; omega)⟩ (Nat.le_of_ble_eq_true rfl) dL_law_449 ?_
  intro r9 N9 hq9
  rw [hq9.1, hq9.2]
  clear hq9 r9 N9
  refine g_pop dL_law_452 rfl ?_
  refine g_goto 1690 dL_law_453 (by decide) ?_
  exact (nx _ _ _ (Nat.le_succ _) (by omega) hs.2.2)
set_option maxRecDepth 100000 in
set_option maxHeartbeats 4000000 in
theorem tL_6 {E : gE} {b L i cs ss : Nat} {xs : Nat → Int32} {M : gM} {K : gM → Prop} (hL : L < 2 ^ 31) (hi : i + 5 < L) (hc : cs + 1 ≤ 601024) (hm : ss + 6 ≤ 7293034) (nx : ∀ (k n : Nat) (N : gM), k ≤ cs + 1 → n ≤ ss + 6 → K N → gK E RL code 7 ret room_1 (gSL E b L xs) lw_Z k n 1690 (lvL E b i) [] N) (hs : sL_6 M (xs (i + 1)) (xs (i + 2)) (xs (i + 3)) (xs (i + 4)) (xs (i + 5)) K) : gK E RL code 7 ret room_1 (gSL E b L xs) lw_Z cs ss 456 (lvL E b i) [] M := by
  unfold sL_6 at hs
  refine g_aload_n 1 dL_law_456 rfl ?_
  refine g_sarg (i := i) (n := 1) 0 4 rfl rfl (by omega) hL dL_law_457 dL_law_458 dL_law_460 (by decide) dL_law_461 dL_law_462 ?_
  refine g_sarg (i := i) (n := 2) 0 4 rfl rfl (by omega) hL dL_law_463 dL_law_464 dL_law_466 (by decide) dL_law_467 dL_law_468 ?_
  refine g_callV (As := [.int (xs (i + 1)), .int (xs (i + 2))]) (st := []) (n := 2) 0 (c_X12_land E M (xs (i + 1)) (xs (i + 2)) hs.1) mt_X12_land ml_L_51 dF_Wd rfl rfl sg_X12_land rfl ⟨by decide, by decide, (by show cs ≤ 601024; omega), (by show ss ≤ 7293034; omega)⟩ (Nat.le_of_ble_eq_true rfl) dL_law_469 ?_
  intro r9 N9 hq9
  rw [hq9.1, hq9.2]
  clear hq9 r9 N9
  refine g_pop dL_law_472 rfl ?_
  refine g_aload_n 2 dL_law_473 rfl ?_
  refine g_sarg (i := i) (n := 1) 0 4 rfl rfl (by omega) hL dL_law_474 dL_law_475 dL_law_477 (by decide) dL_law_478 dL_law_479 ?_
  refine g_sarg (i := i) (n := 2) 0 4 rfl rfl (by omega) hL dL_law_480 dL_law_481 dL_law_483 (by decide) dL_law_484 dL_law_485 ?_
  refine g_callV (As := [.int (xs (i + 1)), .int (xs (i + 2))]) (st := []) (n := 2) 226 (c_X13_land E M (xs (i + 1)) (xs (i + 2)) hs.2.1) mt_X13_land ml_L_54 dF_Md rfl rfl sg_X13_land rfl ⟨by decide, by decide, (by show cs ≤ 601024; omega), (by show ss ≤ 7293034; omega)⟩ (Nat.le_of_ble_eq_true rfl) dL_law_486 ?_
  intro r9 N9 hq9
  rw [hq9.1, hq9.2]
  clear hq9 r9 N9
  refine g_pop dL_law_489 rfl ?_
  refine g_goto 1690 dL_law_490 (by decide) ?_
  exact (nx _ _ _ (Nat.le_succ _) (by omega) hs.2.2)
set_option maxRecDepth 100000 in
set_option maxHeartbeats 4000000 in
theorem tL_7 {E : gE} {b L i cs ss : Nat} {xs : Nat → Int32} {M : gM} {K : gM → Prop} (hL : L < 2 ^ 31) (hi : i + 5 < L) (hc : cs + 1 ≤ 601024) (hm : ss + 6 ≤ 7293034) (nx : ∀ (k n : Nat) (N : gM), k ≤ cs + 1 → n ≤ ss + 6 → K N → gK E RL code 7 ret room_1 (gSL E b L xs) lw_Z k n 1690 (lvL E b i) [] N) (hs : sL_7 M (xs (i + 1)) (xs (i + 2)) (xs (i + 3)) (xs (i + 4)) (xs (i + 5)) K) : gK E RL code 7 ret room_1 (gSL E b L xs) lw_Z cs ss 493 (lvL E b i) [] M := by
  unfold sL_7 at hs
  refine g_aload_n 1 dL_law_493 rfl ?_
  refine g_sarg (i := i) (n := 1) 0 4 rfl rfl (by omega) hL dL_law_494 dL_law_495 dL_law_497 (by decide) dL_law_498 dL_law_499 ?_
  refine g_sarg (i := i) (n := 2) 0 4 rfl rfl (by omega) hL dL_law_500 dL_law_501 dL_law_503 (by decide) dL_law_504 dL_law_505 ?_
  refine g_callV (As := [.int (xs (i + 1)), .int (xs (i + 2))]) (st := []) (n := 2) 0 (c_X12_lose E M (xs (i + 1)) (xs (i + 2)) hs.1) mt_X12_lose ml_L_55 dF_Wd rfl rfl sg_X12_lose rfl ⟨by decide, by decide, (by show cs ≤ 601024; omega), (by show ss ≤ 7293034; omega)⟩ (Nat.le_of_ble_eq_true rfl) dL_law_506 ?_
  intro r9 N9 hq9
  rw [hq9.1, hq9.2]
  clear hq9 r9 N9
  refine g_pop dL_law_509 rfl ?_
  refine g_aload_n 2 dL_law_510 rfl ?_
  refine g_sarg (i := i) (n := 1) 0 4 rfl rfl (by omega) hL dL_law_511 dL_law_512 dL_law_514 (by decide) dL_law_515 dL_law_516 ?_
  refine g_sarg (i := i) (n := 2) 0 4 rfl rfl (by omega) hL dL_law_517 dL_law_518 dL_law_520 (by decide) dL_law_521 dL_law_522 ?_
  refine g_callV (As := [.int (xs (i + 1)), .int (xs (i + 2))]) (st := []) (n := 2) 226 (c_X13_lose E ((f_X12_lose M (xs (i + 1)) (xs (i + 2))).2) (xs (i + 1)) (xs (i + 2)) hs.2.1) mt_X13_lose ml_L_59 dF_Md rfl rfl sg_X13_lose rfl ⟨by decide, by decide, (by show cs ≤ 601024; omega), (by show ss ≤ 7293034; omega)⟩ (Nat.le_of_ble_eq_true rfl) dL_law_523 ?_
  intro r9 N9 hq9
  rw [hq9.1, hq9.2]
  clear hq9 r9 N9
  refine g_pop dL_law_526 rfl ?_
  refine g_goto 1690 dL_law_527 (by decide) ?_
  exact (nx _ _ _ (Nat.le_succ _) (by omega) hs.2.2)
set_option maxRecDepth 100000 in
set_option maxHeartbeats 4000000 in
theorem tL_8 {E : gE} {b L i cs ss : Nat} {xs : Nat → Int32} {M : gM} {K : gM → Prop} (hL : L < 2 ^ 31) (hi : i + 5 < L) (hc : cs + 1 ≤ 601024) (hm : ss + 6 ≤ 7293034) (nx : ∀ (k n : Nat) (N : gM), k ≤ cs + 1 → n ≤ ss + 6 → K N → gK E RL code 7 ret room_1 (gSL E b L xs) lw_Z k n 1690 (lvL E b i) [] N) (hs : sL_8 M (xs (i + 1)) (xs (i + 2)) (xs (i + 3)) (xs (i + 4)) (xs (i + 5)) K) : gK E RL code 7 ret room_1 (gSL E b L xs) lw_Z cs ss 530 (lvL E b i) [] M := by
  unfold sL_8 at hs
  refine g_aload_n 1 dL_law_530 rfl ?_
  refine g_sarg (i := i) (n := 1) 0 4 rfl rfl (by omega) hL dL_law_531 dL_law_532 dL_law_534 (by decide) dL_law_535 dL_law_536 ?_
  refine g_callV (As := [.int (xs (i + 1))]) (st := []) (n := 1) 0 (c_X12_find E M (xs (i + 1)) hs.1) mt_X12_find ml_L_60 dF_Wd rfl rfl sg_X12_find rfl ⟨by decide, by decide, (by show cs ≤ 601024; omega), (by show ss ≤ 7293034; omega)⟩ (Nat.le_of_ble_eq_true rfl) dL_law_537 ?_
  intro r9 N9 hq9
  rw [hq9.1, hq9.2]
  clear hq9 r9 N9
  refine g_pop dL_law_540 rfl ?_
  refine g_aload_n 2 dL_law_541 rfl ?_
  refine g_sarg (i := i) (n := 1) 0 4 rfl rfl (by omega) hL dL_law_542 dL_law_543 dL_law_545 (by decide) dL_law_546 dL_law_547 ?_
  refine g_callV (As := [.int (xs (i + 1))]) (st := []) (n := 1) 226 (c_X13_find E ((f_X12_find M (xs (i + 1))).2) (xs (i + 1)) hs.2.1) mt_X13_find ml_L_64 dF_Md rfl rfl sg_X13_find rfl ⟨by decide, by decide, (by show cs ≤ 601024; omega), (by show ss ≤ 7293034; omega)⟩ (Nat.le_of_ble_eq_true rfl) dL_law_548 ?_
  intro r9 N9 hq9
  rw [hq9.1, hq9.2]
  clear hq9 r9 N9
  refine g_pop dL_law_551 rfl ?_
  refine g_goto 1690 dL_law_552 (by decide) ?_
  exact (nx _ _ _ (Nat.le_succ _) (by omega) hs.2.2)
set_option maxRecDepth 100000 in
set_option maxHeartbeats 4000000 in
theorem tL_9 {E : gE} {b L i cs ss : Nat} {xs : Nat → Int32} {M : gM} {K : gM → Prop} (hL : L < 2 ^ 31) (hi : i + 5 < L) (hc : cs + 1 ≤ 601024) (hm : ss + 6 ≤ 7293034) (nx : ∀ (k n : Nat) (N : gM), k ≤ cs + 1 → n ≤ ss + 6 → K N → gK E RL code 7 ret room_1 (gSL E b L xs) lw_Z k n 1690 (lvL E b i) [] N) (hs : sL_9 M (xs (i + 1)) (xs (i + 2)) (xs (i + 3)) (xs (i + 4)) (xs (i + 5)) K) : gK E RL code 7 ret room_1 (gSL E b L xs) lw_Z cs ss 555 (lvL E b i) [] M := by
  unfold sL_9 at hs
  refine g_aload_n 1 dL_law_555 rfl ?_
  refine g_sarg (i := i) (n := 1) 0 4 rfl rfl (by omega) hL dL_law_556 dL_law_557 dL_law_559 (by decide) dL_law_560 dL_law_561 ?_
  refine g_callV (As := [.int (xs (i + 1))]) (st := []) (n := 1) 0 (c_X12_copy E M (xs (i + 1)) hs.1) mt_X12_copy ml_L_65 dF_Wd rfl rfl sg_X12_copy rfl ⟨by decide, by decide, (by show cs ≤ 601024; omega), (by show ss ≤ 7293034; omega)⟩ (Nat.le_of_ble_eq_true rfl) dL_law_562 ?_
  intro r9 N9 hq9
  rw [hq9.1, hq9.2]
  clear hq9 r9 N9
  refine g_pop dL_law_565 rfl ?_
  refine g_aload_n 2 dL_law_566 rfl ?_
  refine g_sarg (i := i) (n := 1) 0 4 rfl rfl (by omega) hL dL_law_567 dL_law_568 dL_law_570 (by decide) dL_law_571 dL_law_572 ?_
  refine g_callV (As := [.int (xs (i + 1))]) (st := []) (n := 1) 226 (c_X13_copy E ((f_X12_copy M (xs (i + 1))).2) (xs (i + 1)) hs.2.1) mt_X13_copy ml_L_68 dF_Md rfl rfl sg_X13_copy rfl ⟨by decide, by decide, (by show cs ≤ 601024; omega), (by show ss ≤ 7293034; omega)⟩ (Nat.le_of_ble_eq_true rfl) dL_law_573 ?_
  intro r9 N9 hq9
  rw [hq9.1, hq9.2]
  clear hq9 r9 N9
  refine g_pop dL_law_576 rfl ?_
  refine g_goto 1690 dL_law_577 (by decide) ?_
  exact (nx _ _ _ (Nat.le_succ _) (by omega) hs.2.2)
set_option maxRecDepth 100000 in
set_option maxHeartbeats 4000000 in
theorem tL_10 {E : gE} {b L i cs ss : Nat} {xs : Nat → Int32} {M : gM} {K : gM → Prop} (hL : L < 2 ^ 31) (hi : i + 5 < L) (hc : cs + 1 ≤ 601024) (hm : ss + 6 ≤ 7293034) (nx : ∀ (k n : Nat) (N : gM), k ≤ cs + 1 → n ≤ ss + 6 → K N → gK E RL code 7 ret room_1 (gSL E b L xs) lw_Z k n 1690 (lvL E b i) [] N) (hs : sL_10 M (xs (i + 1)) (xs (i + 2)) (xs (i + 3)) (xs (i + 4)) (xs (i + 5)) K) : gK E RL code 7 ret room_1 (gSL E b L xs) lw_Z cs ss 580 (lvL E b i) [] M := by
  unfold sL_10 at hs
  refine g_aload_n 1 dL_law_580 rfl ?_
  refine g_sarg (i := i) (n := 1) 0 4 rfl rfl (by omega) hL dL_law_581 dL_law_582 dL_law_584 (by decide) dL_law_585 dL_law_586 ?_
  refine g_sarg (i := i) (n := 2) 0 4 rfl rfl (by omega) hL dL_law_587 dL_law_588 dL_law_590 (by decide) dL_law_591 dL_law_592 ?_
  refine g_callV (As := [.int (xs (i + 1)), .int (xs (i + 2))]) (st := []) (n := 2) 0 (c_X12_witness E M (xs (i + 1)) (xs (i + 2)) hs.1) mt_X12_witness ml_L_69 dF_Wd rfl rfl sg_X12_witness rfl ⟨by decide, by decide, (by show cs ≤ 601024; omega), (by show ss ≤ 7293034; omega)⟩ (Nat.le_of_ble_eq_true rfl) dL_law_593 ?_
  intro r9 N9 hq9
  rw [hq9.1, hq9.2]
  clear hq9 r9 N9
  refine g_pop dL_law_596 rfl ?_
  refine g_aload_n 2 dL_law_597 rfl ?_
  refine g_sarg (i := i) (n := 1) 0 4 rfl rfl (by omega) hL dL_law_598 dL_law_599 dL_law_601 (by decide) dL_law_602 dL_law_603 ?_
  refine g_sarg (i := i) (n := 2) 0 4 rfl rfl (by omega) hL dL_law_604 dL_law_605 dL_law_607 (by decide) dL_law_608 dL_law_609 ?_
  refine g_callV (As := [.int (xs (i + 1)), .int (xs (i + 2))]) (st := []) (n := 2) 226 (c_X13_witness E ((f_X12_witness M (xs (i + 1)) (xs (i + 2))).2) (xs (i + 1)) (xs (i + 2)) hs.2.1) mt_X13_witness ml_L_72 dF_Md rfl rfl sg_X13_witness rfl ⟨by decide, by decide, (by show cs ≤ 601024; omega), (by show ss ≤ 7293034; omega)⟩ (Nat.le_of_ble_eq_true rfl) dL_law_610 ?_
  intro r9 N9 hq9
  rw [hq9.1, hq9.2]
  clear hq9 r9 N9
  refine g_pop dL_law_613 rfl ?_
  refine g_goto 1690 dL_law_614 (by decide) ?_
  exact (nx _ _ _ (Nat.le_succ _) (by omega) hs.2.2)
set_option maxRecDepth 100000 in
set_option maxHeartbeats 4000000 in
theorem tL_11 {E : gE} {b L i cs ss : Nat} {xs : Nat → Int32} {M : gM} {K : gM → Prop} (hL : L < 2 ^ 31) (hi : i + 5 < L) (hc : cs + 1 ≤ 601024) (hm : ss + 6 ≤ 7293034) (nx : ∀ (k n : Nat) (N : gM), k ≤ cs + 1 → n ≤ ss + 6 → K N → gK E RL code 7 ret room_1 (gSL E b L xs) lw_Z k n 1690 (lvL E b i) [] N) (hs : sL_11 M (xs (i + 1)) (xs (i + 2)) (xs (i + 3)) (xs (i + 4)) (xs (i + 5)) K) : gK E RL code 7 ret room_1 (gSL E b L xs) lw_Z cs ss 617 (lvL E b i) [] M := by
  unfold sL_11 at hs
  refine g_aload_n 1 dL_law_617 rfl ?_
  refine g_sarg (i := i) (n := 1) 0 4 rfl rfl (by omega) hL dL_law_618 dL_law_619 dL_law_621 (by decide) dL_law_622 dL_law_623 ?_
  refine g_sarg (i := i) (n := 2) 0 4 rfl rfl (by omega) hL dL_law_624 dL_law_625 dL_law_627 (by decide) dL_law_628 dL_law_629 ?_
  refine g_sarg (i := i) (n := 3) 0 4 rfl rfl (by omega) hL dL_law_630 dL_law_631 dL_law_633 (by decide) dL_law_634 dL_law_635 ?_
  refine g_callV (As := [.int (xs (i + 1)), .int (xs (i + 2)), .int (xs (i + 3))]) (st := []) (n := 3) 0 (c_X12_wed E M (xs (i + 1)) (xs (i + 2)) (xs (i + 3)) hs.1) mt_X12_wed ml_L_73 dF_Wd rfl rfl sg_X12_wed rfl ⟨by decide, by decide, (by show cs ≤ 601024; omega), (by show ss ≤ 7293034; omega)⟩ (Nat.le_of_ble_eq_true rfl) dL_law_636 ?_
  intro r9 N9 hq9
  rw [hq9.1, hq9.2]
  clear hq9 r9 N9
  refine g_pop dL_law_639 rfl ?_
  refine g_aload_n 2 dL_law_640 rfl ?_
  refine g_sarg (i := i) (n := 1) 0 4 rfl rfl (by omega) hL dL_law_641 dL_law_642 dL_law_644 (by decide) dL_law_645 dL_law_646 ?_
  refine g_sarg (i := i) (n := 2) 0 4 rfl rfl (by omega) hL dL_law_647 dL_law_648 dL_law_650 (by decide) dL_law_651 dL_law_652 ?_
  refine g_sarg (i := i) (n := 3) 0 4 rfl rfl (by omega) hL dL_law_653 dL_law_654 dL_law_656 (by decide) dL_law_657 dL_law_658 ?_
  refine g_callV (As := [.int (xs (i + 1)), .int (xs (i + 2)), .int (xs (i + 3))]) (st := []) (n := 3) 226 (c_X13_wed E ((f_X12_wed M (xs (i + 1)) (xs (i + 2)) (xs (i + 3))).2) (xs (i + 1)) (xs (i + 2)) (xs (i + 3)) hs.2.1) mt_X13_wed ml_L_77 dF_Md rfl rfl sg_X13_wed rfl ⟨by decide, by decide, (by show cs ≤ 601024; omega), (by show ss ≤ 7293034; omega)⟩ (Nat.le_of_ble_eq_true rfl) dL_law_659 ?_
  intro r9 N9 hq9
  rw [hq9.1, hq9.2]
  clear hq9 r9 N9
  refine g_pop dL_law_662 rfl ?_
  refine g_goto 1690 dL_law_663 (by decide) ?_
  exact (nx _ _ _ (Nat.le_succ _) (by omega) hs.2.2)
set_option maxRecDepth 100000 in
set_option maxHeartbeats 4000000 in
theorem tL_12 {E : gE} {b L i cs ss : Nat} {xs : Nat → Int32} {M : gM} {K : gM → Prop} (hL : L < 2 ^ 31) (hi : i + 5 < L) (hc : cs + 1 ≤ 601024) (hm : ss + 6 ≤ 7293034) (nx : ∀ (k n : Nat) (N : gM), k ≤ cs + 1 → n ≤ ss + 6 → K N → gK E RL code 7 ret room_1 (gSL E b L xs) lw_Z k n 1690 (lvL E b i) [] N) (hs : sL_12 M (xs (i + 1)) (xs (i + 2)) (xs (i + 3)) (xs (i + 4)) (xs (i + 5)) K) : gK E RL code 7 ret room_1 (gSL E b L xs) lw_Z cs ss 666 (lvL E b i) [] M := by
  unfold sL_12 at hs
  refine g_aload_n 1 dL_law_666 rfl ?_
  refine g_sarg (i := i) (n := 1) 0 4 rfl rfl (by omega) hL dL_law_667 dL_law_668 dL_law_670 (by decide) dL_law_671 dL_law_672 ?_
  refine g_sarg (i := i) (n := 2) 0 4 rfl rfl (by omega) hL dL_law_673 dL_law_674 dL_law_676 (by decide) dL_law_677 dL_law_678 ?_
  refine g_callV (As := [.int (xs (i + 1)), .int (xs (i + 2))]) (st := []) (n := 2) 0 (c_X12_dies E M (xs (i + 1)) (xs (i + 2)) hs.1) mt_X12_dies ml_L_78 dF_Wd rfl rfl sg_X12_dies rfl ⟨by decide, by decide, (by show cs ≤ 601024; omega), (by show ss ≤ 7293034; omega)⟩ (Nat.le_of_ble_eq_true rfl) dL_law_679 ?_
  intro r9 N9 hq9
  rw [hq9.1, hq9.2]
  clear hq9 r9 N9
  refine g_pop dL_law_682 rfl ?_
  refine g_aload_n 2 dL_law_683 rfl ?_
  refine g_sarg (i := i) (n := 1) 0 4 rfl rfl (by omega) hL dL_law_684 dL_law_685 dL_law_687 (by decide) dL_law_688 dL_law_689 ?_
  refine g_sarg (i := i) (n := 2) 0 4 rfl rfl (by omega) hL dL_law_690 dL_law_691 dL_law_693 (by decide) dL_law_694 dL_law_695 ?_
  refine g_callV (As := [.int (xs (i + 1)), .int (xs (i + 2))]) (st := []) (n := 2) 226 (c_X13_dies E ((f_X12_dies M (xs (i + 1)) (xs (i + 2))).2) (xs (i + 1)) (xs (i + 2)) hs.2.1) mt_X13_dies ml_L_81 dF_Md rfl rfl sg_X13_dies rfl ⟨by decide, by decide, (by show cs ≤ 601024; omega), (by show ss ≤ 7293034; omega)⟩ (Nat.le_of_ble_eq_true rfl) dL_law_696 ?_
  intro r9 N9 hq9
  rw [hq9.1, hq9.2]
  clear hq9 r9 N9
  refine g_pop dL_law_699 rfl ?_
  refine g_goto 1690 dL_law_700 (by decide) ?_
  exact (nx _ _ _ (Nat.le_succ _) (by omega) hs.2.2)
set_option maxRecDepth 100000 in
set_option maxHeartbeats 4000000 in
theorem tL_13 {E : gE} {b L i cs ss : Nat} {xs : Nat → Int32} {M : gM} {K : gM → Prop} (hL : L < 2 ^ 31) (hi : i + 5 < L) (hc : cs + 1 ≤ 601024) (hm : ss + 6 ≤ 7293034) (nx : ∀ (k n : Nat) (N : gM), k ≤ cs + 1 → n ≤ ss + 6 → K N → gK E RL code 7 ret room_1 (gSL E b L xs) lw_Z k n 1690 (lvL E b i) [] N) (hs : sL_13 M (xs (i + 1)) (xs (i + 2)) (xs (i + 3)) (xs (i + 4)) (xs (i + 5)) K) : gK E RL code 7 ret room_1 (gSL E b L xs) lw_Z cs ss 703 (lvL E b i) [] M := by
  unfold sL_13 at hs
  refine g_aload_n 1 dL_law_703 rfl ?_
  refine g_sarg (i := i) (n := 1) 0 4 rfl rfl (by omega) hL dL_law_704 dL_law_705 dL_law_707 (by decide) dL_law_708 dL_law_709 ?_
  refine g_callV (As := [.int (xs (i + 1))]) (st := []) (n := 1) 0 (c_X12_takeBack E M (xs (i + 1)) hs.1) mt_X12_takeBack ml_L_82 dF_Wd rfl rfl sg_X12_takeBack rfl ⟨by decide, by decide, (by show cs ≤ 601024; omega), (by show ss ≤ 7293034; omega)⟩ (Nat.le_of_ble_eq_true rfl) dL_law_710 ?_
  intro r9 N9 hq9
  rw [hq9.1, hq9.2]
  clear hq9 r9 N9
  refine g_pop dL_law_713 rfl ?_
  refine g_aload_n 2 dL_law_714 rfl ?_
  refine g_sarg (i := i) (n := 1) 0 4 rfl rfl (by omega) hL dL_law_715 dL_law_716 dL_law_718 (by decide) dL_law_719 dL_law_720 ?_
  refine g_callV (As := [.int (xs (i + 1))]) (st := []) (n := 1) 226 (c_X13_takeBack E ((f_X12_takeBack M (xs (i + 1))).2) (xs (i + 1)) hs.2.1) mt_X13_takeBack ml_L_85 dF_Md rfl rfl sg_X13_takeBack rfl ⟨by decide, by decide, (by show cs ≤ 601024; omega), (by show ss ≤ 7293034; omega)⟩ (Nat.le_of_ble_eq_true rfl) dL_law_721 ?_
  intro r9 N9 hq9
  rw [hq9.1, hq9.2]
  clear hq9 r9 N9
  refine g_pop dL_law_724 rfl ?_
  refine g_goto 1690 dL_law_725 (by decide) ?_
  exact (nx _ _ _ (Nat.le_succ _) (by omega) hs.2.2)
set_option maxRecDepth 100000 in
set_option maxHeartbeats 4000000 in
theorem tL_14 {E : gE} {b L i cs ss : Nat} {xs : Nat → Int32} {M : gM} {K : gM → Prop} (hL : L < 2 ^ 31) (hi : i + 5 < L) (hc : cs + 1 ≤ 601024) (hm : ss + 6 ≤ 7293034) (nx : ∀ (k n : Nat) (N : gM), k ≤ cs + 1 → n ≤ ss + 6 → K N → gK E RL code 7 ret room_1 (gSL E b L xs) lw_Z k n 1690 (lvL E b i) [] N) (hs : sL_14 M (xs (i + 1)) (xs (i + 2)) (xs (i + 3)) (xs (i + 4)) (xs (i + 5)) K) : gK E RL code 7 ret room_1 (gSL E b L xs) lw_Z cs ss 728 (lvL E b i) [] M := by
  unfold sL_14 at hs
  refine g_aload_n 1 dL_law_728 rfl ?_
  refine g_callV (As := []) (st := []) (n := 0) 0 (c_X12_undo E M hs.1) mt_X12_undo ml_L_86 dF_Wd rfl rfl sg_X12_undo rfl ⟨by decide, by decide, (by show cs ≤ 601024; omega), (by show ss ≤ 7293034; omega)⟩ (Nat.le_of_ble_eq_true rfl) dL_law_729 ?_
  intro r9 N9 hq9
  rw [hq9.1, hq9.2]
  clear hq9 r9 N9
  refine g_pop dL_law_732 rfl ?_
  refine g_aload_n 2 dL_law_733 rfl ?_
  refine g_callV (As := []) (st := []) (n := 0) 226 (c_X13_undo E ((f_X12_undo M).2) hs.2.1) mt_X13_undo ml_L_90 dF_Md rfl rfl sg_X13_undo rfl ⟨by decide, by decide, (by show cs ≤ 601024; omega), (by show ss ≤ 7293034; omega)⟩ (Nat.le_of_ble_eq_true rfl) dL_law_734 ?_
  intro r9 N9 hq9
  rw [hq9.1, hq9.2]
  clear hq9 r9 N9
  refine g_pop dL_law_737 rfl ?_
  refine g_goto 1690 dL_law_738 (by decide) ?_
  exact (nx _ _ _ (Nat.le_succ _) (by omega) hs.2.2)
set_option maxRecDepth 100000 in
set_option maxHeartbeats 4000000 in
theorem tL_15 {E : gE} {b L i cs ss : Nat} {xs : Nat → Int32} {M : gM} {K : gM → Prop} (hL : L < 2 ^ 31) (hi : i + 5 < L) (hc : cs + 1 ≤ 601024) (hm : ss + 6 ≤ 7293034) (nx : ∀ (k n : Nat) (N : gM), k ≤ cs + 1 → n ≤ ss + 6 → K N → gK E RL code 7 ret room_1 (gSL E b L xs) lw_Z k n 1690 (lvL E b i) [] N) (hs : sL_15 M (xs (i + 1)) (xs (i + 2)) (xs (i + 3)) (xs (i + 4)) (xs (i + 5)) K) : gK E RL code 7 ret room_1 (gSL E b L xs) lw_Z cs ss 741 (lvL E b i) [] M := by
  unfold sL_15 at hs
  refine g_aload_n 1 dL_law_741 rfl ?_
  refine g_sarg (i := i) (n := 1) 0 4 rfl rfl (by omega) hL dL_law_742 dL_law_743 dL_law_745 (by decide) dL_law_746 dL_law_747 ?_
  refine g_sarg (i := i) (n := 2) 0 4 rfl rfl (by omega) hL dL_law_748 dL_law_749 dL_law_751 (by decide) dL_law_752 dL_law_753 ?_
  refine g_callV (As := [.int (xs (i + 1)), .int (xs (i + 2))]) (st := []) (n := 2) 0 (c_X12_form E M (xs (i + 1)) (xs (i + 2)) hs.1) mt_X12_form ml_L_91 dF_Wd rfl rfl sg_X12_form rfl ⟨by decide, by decide, (by show cs ≤ 601024; omega), (by show ss ≤ 7293034; omega)⟩ (Nat.le_of_ble_eq_true rfl) dL_law_754 ?_
  intro r9 N9 hq9
  rw [hq9.1, hq9.2]
  clear hq9 r9 N9
  refine g_pop dL_law_757 rfl ?_
  refine g_aload_n 2 dL_law_758 rfl ?_
  refine g_sarg (i := i) (n := 1) 0 4 rfl rfl (by omega) hL dL_law_759 dL_law_760 dL_law_762 (by decide) dL_law_763 dL_law_764 ?_
  refine g_sarg (i := i) (n := 2) 0 4 rfl rfl (by omega) hL dL_law_765 dL_law_766 dL_law_768 (by decide) dL_law_769 dL_law_770 ?_
  refine g_callV (As := [.int (xs (i + 1)), .int (xs (i + 2))]) (st := []) (n := 2) 226 (c_X13_form E M (xs (i + 1)) (xs (i + 2)) hs.2.1) mt_X13_form ml_L_94 dF_Md rfl rfl sg_X13_form rfl ⟨by decide, by decide, (by show cs ≤ 601024; omega), (by show ss ≤ 7293034; omega)⟩ (Nat.le_of_ble_eq_true rfl) dL_law_771 ?_
  intro r9 N9 hq9
  rw [hq9.1, hq9.2]
  clear hq9 r9 N9
  refine g_pop dL_law_774 rfl ?_
  refine g_goto 1690 dL_law_775 (by decide) ?_
  exact (nx _ _ _ (Nat.le_succ _) (by omega) hs.2.2)
set_option maxRecDepth 100000 in
set_option maxHeartbeats 4000000 in
theorem tL_16 {E : gE} {b L i cs ss : Nat} {xs : Nat → Int32} {M : gM} {K : gM → Prop} (hL : L < 2 ^ 31) (hi : i + 5 < L) (hc : cs + 1 ≤ 601024) (hm : ss + 6 ≤ 7293034) (nx : ∀ (k n : Nat) (N : gM), k ≤ cs + 1 → n ≤ ss + 6 → K N → gK E RL code 7 ret room_1 (gSL E b L xs) lw_Z k n 1690 (lvL E b i) [] N) (hs : sL_16 M (xs (i + 1)) (xs (i + 2)) (xs (i + 3)) (xs (i + 4)) (xs (i + 5)) K) : gK E RL code 7 ret room_1 (gSL E b L xs) lw_Z cs ss 778 (lvL E b i) [] M := by
  unfold sL_16 at hs
  refine g_aload_n 1 dL_law_778 rfl ?_
  refine g_sarg (i := i) (n := 1) 0 4 rfl rfl (by omega) hL dL_law_779 dL_law_780 dL_law_782 (by decide) dL_law_783 dL_law_784 ?_
  refine g_sarg (i := i) (n := 2) 0 4 rfl rfl (by omega) hL dL_law_785 dL_law_786 dL_law_788 (by decide) dL_law_789 dL_law_790 ?_
  refine g_callV (As := [.int (xs (i + 1)), .int (xs (i + 2))]) (st := []) (n := 2) 0 (c_X12_why E M (xs (i + 1)) (xs (i + 2)) hs.1) mt_X12_why ml_L_95 dF_Wd rfl rfl sg_X12_why rfl ⟨by decide, by decide, (by show cs ≤ 601024; omega), (by show ss ≤ 7293034; omega)⟩ (Nat.le_of_ble_eq_true rfl) dL_law_791 ?_
  intro r9 N9 hq9
  rw [hq9.1, hq9.2]
  clear hq9 r9 N9
  refine g_pop dL_law_794 rfl ?_
  refine g_aload_n 2 dL_law_795 rfl ?_
  refine g_sarg (i := i) (n := 1) 0 4 rfl rfl (by omega) hL dL_law_796 dL_law_797 dL_law_799 (by decide) dL_law_800 dL_law_801 ?_
  refine g_sarg (i := i) (n := 2) 0 4 rfl rfl (by omega) hL dL_law_802 dL_law_803 dL_law_805 (by decide) dL_law_806 dL_law_807 ?_
  refine g_callV (As := [.int (xs (i + 1)), .int (xs (i + 2))]) (st := []) (n := 2) 226 (c_X13_why E ((f_X12_why M (xs (i + 1)) (xs (i + 2))).2) (xs (i + 1)) (xs (i + 2)) hs.2.1) mt_X13_why ml_L_98 dF_Md rfl rfl sg_X13_why rfl ⟨by decide, by decide, (by show cs ≤ 601024; omega), (by show ss ≤ 7293034; omega)⟩ (Nat.le_of_ble_eq_true rfl) dL_law_808 ?_
  intro r9 N9 hq9
  rw [hq9.1, hq9.2]
  clear hq9 r9 N9
  refine g_pop dL_law_811 rfl ?_
  refine g_goto 1690 dL_law_812 (by decide) ?_
  exact (nx _ _ _ (Nat.le_succ _) (by omega) hs.2.2)
set_option maxRecDepth 100000 in
set_option maxHeartbeats 4000000 in
theorem tL_17 {E : gE} {b L i cs ss : Nat} {xs : Nat → Int32} {M : gM} {K : gM → Prop} (hL : L < 2 ^ 31) (hi : i + 5 < L) (hc : cs + 1 ≤ 601024) (hm : ss + 6 ≤ 7293034) (nx : ∀ (k n : Nat) (N : gM), k ≤ cs + 1 → n ≤ ss + 6 → K N → gK E RL code 7 ret room_1 (gSL E b L xs) lw_Z k n 1690 (lvL E b i) [] N) (hs : sL_17 M (xs (i + 1)) (xs (i + 2)) (xs (i + 3)) (xs (i + 4)) (xs (i + 5)) K) : gK E RL code 7 ret room_1 (gSL E b L xs) lw_Z cs ss 815 (lvL E b i) [] M := by
  unfold sL_17 at hs
  refine g_aload_n 1 dL_law_815 rfl ?_
  refine g_sarg (i := i) (n := 1) 0 4 rfl rfl (by omega) hL dL_law_816 dL_law_817 dL_law_819 (by decide) dL_law_820 dL_law_821 ?_
  refine g_sarg (i := i) (n := 2) 0 4 rfl rfl (by omega) hL dL_law_822 dL_law_823 dL_law_825 (by decide) dL_law_826 dL_law_827 ?_
  refine g_callV (As := [.int (xs (i + 1)), .int (xs (i + 2))]) (st := []) (n := 2) 0 (c_X12_struckBy E M (xs (i + 1)) (xs (i + 2)) hs.1) mt_X12_struckBy ml_L_99 dF_Wd rfl rfl sg_X12_struckBy rfl ⟨by decide, by decide, (by show cs ≤ 601024; omega), (by show ss ≤ 7293034; omega)⟩ (Nat.le_of_ble_eq_true rfl) dL_law_828 ?_
  intro r9 N9 hq9
  rw [hq9.1, hq9.2]
  clear hq9 r9 N9
  refine g_pop dL_law_831 rfl ?_
  refine g_aload_n 2 dL_law_832 rfl ?_
  refine g_sarg (i := i) (n := 1) 0 4 rfl rfl (by omega) hL dL_law_833 dL_law_834 dL_law_836 (by decide) dL_law_837 dL_law_838 ?_
  refine g_sarg (i := i) (n := 2) 0 4 rfl rfl (by omega) hL dL_law_839 dL_law_840 dL_law_842 (by decide) dL_law_843 dL_law_844 ?_
  refine g_callV (As := [.int (xs (i + 1)), .int (xs (i + 2))]) (st := []) (n := 2) 226 (c_X13_struckBy E ((f_X12_struckBy M (xs (i + 1)) (xs (i + 2))).2) (xs (i + 1)) (xs (i + 2)) hs.2.1) mt_X13_struckBy ml_L_102 dF_Md rfl rfl sg_X13_struckBy rfl ⟨by decide, by decide, (by show cs ≤ 601024; omega), (by show ss ≤ 7293034; omega)⟩ (Nat.le_of_ble_eq_true rfl) dL_law_845 ?_
  intro r9 N9 hq9
  rw [hq9.1, hq9.2]
  clear hq9 r9 N9
  refine g_pop dL_law_848 rfl ?_
  refine g_goto 1690 dL_law_849 (by decide) ?_
  exact (nx _ _ _ (Nat.le_succ _) (by omega) hs.2.2)
set_option maxRecDepth 100000 in
set_option maxHeartbeats 4000000 in
theorem tL_18 {E : gE} {b L i cs ss : Nat} {xs : Nat → Int32} {M : gM} {K : gM → Prop} (hL : L < 2 ^ 31) (hi : i + 5 < L) (hc : cs + 1 ≤ 601024) (hm : ss + 6 ≤ 7293034) (nx : ∀ (k n : Nat) (N : gM), k ≤ cs + 1 → n ≤ ss + 6 → K N → gK E RL code 7 ret room_1 (gSL E b L xs) lw_Z k n 1690 (lvL E b i) [] N) (hs : sL_18 M (xs (i + 1)) (xs (i + 2)) (xs (i + 3)) (xs (i + 4)) (xs (i + 5)) K) : gK E RL code 7 ret room_1 (gSL E b L xs) lw_Z cs ss 852 (lvL E b i) [] M := by
  unfold sL_18 at hs
  refine g_aload_n 1 dL_law_852 rfl ?_
  refine g_sarg (i := i) (n := 1) 0 4 rfl rfl (by omega) hL dL_law_853 dL_law_854 dL_law_856 (by decide) dL_law_857 dL_law_858 ?_
  refine g_sarg (i := i) (n := 2) 0 4 rfl rfl (by omega) hL dL_law_859 dL_law_860 dL_law_862 (by decide) dL_law_863 dL_law_864 ?_
  refine g_sarg (i := i) (n := 3) 0 4 rfl rfl (by omega) hL dL_law_865 dL_law_866 dL_law_868 (by decide) dL_law_869 dL_law_870 ?_
  refine g_callV (As := [.int (xs (i + 1)), .int (xs (i + 2)), .int (xs (i + 3))]) (st := []) (n := 3) 0 (c_X12_counting E M (xs (i + 1)) (xs (i + 2)) (xs (i + 3)) hs.1) mt_X12_counting ml_L_103 dF_Wd rfl rfl sg_X12_counting rfl ⟨by decide, by decide, (by show cs ≤ 601024; omega), (by show ss ≤ 7293034; omega)⟩ (Nat.le_of_ble_eq_true rfl) dL_law_871 ?_
  intro r9 N9 hq9
  rw [hq9.1, hq9.2]
  clear hq9 r9 N9
  refine g_pop dL_law_874 rfl ?_
  refine g_aload_n 2 dL_law_875 rfl ?_
  refine g_sarg (i := i) (n := 1) 0 4 rfl rfl (by omega) hL dL_law_876 dL_law_877 dL_law_879 (by decide) dL_law_880 dL_law_881 ?_
  refine g_sarg (i := i) (n := 2) 0 4 rfl rfl (by omega) hL dL_law_882 dL_law_883 dL_law_885 (by decide) dL_law_886 dL_law_887 ?_
  refine g_sarg (i := i) (n := 3) 0 4 rfl rfl (by omega) hL dL_law_888 dL_law_889 dL_law_891 (by decide) dL_law_892 dL_law_893 ?_
  refine g_callV (As := [.int (xs (i + 1)), .int (xs (i + 2)), .int (xs (i + 3))]) (st := []) (n := 3) 226 (c_X13_counting E ((f_X12_counting M (xs (i + 1)) (xs (i + 2)) (xs (i + 3))).2) (xs (i + 1)) (xs (i + 2)) (xs (i + 3)) hs.2.1) mt_X13_counting ml_L_106 dF_Md rfl rfl sg_X13_counting rfl ⟨by decide, by decide, (by show cs ≤ 601024; omega), (by show ss ≤ 7293034; omega)⟩ (Nat.le_of_ble_eq_true rfl) dL_law_894 ?_
  intro r9 N9 hq9
  rw [hq9.1, hq9.2]
  clear hq9 r9 N9
  refine g_pop dL_law_897 rfl ?_
  refine g_goto 1690 dL_law_898 (by decide) ?_
  exact (nx _ _ _ (Nat.le_succ _) (by omega) hs.2.2)
set_option maxRecDepth 100000 in
set_option maxHeartbeats 4000000 in
theorem tL_19 {E : gE} {b L i cs ss : Nat} {xs : Nat → Int32} {M : gM} {K : gM → Prop} (hL : L < 2 ^ 31) (hi : i + 5 < L) (hc : cs + 1 ≤ 601024) (hm : ss + 6 ≤ 7293034) (nx : ∀ (k n : Nat) (N : gM), k ≤ cs + 1 → n ≤ ss + 6 → K N → gK E RL code 7 ret room_1 (gSL E b L xs) lw_Z k n 1690 (lvL E b i) [] N) (hs : sL_19 M (xs (i + 1)) (xs (i + 2)) (xs (i + 3)) (xs (i + 4)) (xs (i + 5)) K) : gK E RL code 7 ret room_1 (gSL E b L xs) lw_Z cs ss 901 (lvL E b i) [] M := by
  unfold sL_19 at hs
  refine g_aload_n 1 dL_law_901 rfl ?_
  refine g_sarg (i := i) (n := 1) 0 4 rfl rfl (by omega) hL dL_law_902 dL_law_903 dL_law_905 (by decide) dL_law_906 dL_law_907 ?_
  refine g_sarg (i := i) (n := 2) 0 4 rfl rfl (by omega) hL dL_law_908 dL_law_909 dL_law_911 (by decide) dL_law_912 dL_law_913 ?_
  refine g_callV (As := [.int (xs (i + 1)), .int (xs (i + 2))]) (st := []) (n := 2) 0 (c_X12_taker E M (xs (i + 1)) (xs (i + 2)) hs.1) mt_X12_taker ml_L_107 dF_Wd rfl rfl sg_X12_taker rfl ⟨by decide, by decide, (by show cs ≤ 601024; omega), (by show ss ≤ 7293034; omega)⟩ (Nat.le_of_ble_eq_true rfl) dL_law_914 ?_
  intro r9 N9 hq9
  rw [hq9.1, hq9.2]
  clear hq9 r9 N9
  refine g_pop dL_law_917 rfl ?_
  refine g_aload_n 2 dL_law_918 rfl ?_
  refine g_sarg (i := i) (n := 1) 0 4 rfl rfl (by omega) hL dL_law_919 dL_law_920 dL_law_922 (by decide) dL_law_923 dL_law_924 ?_
  refine g_sarg (i := i) (n := 2) 0 4 rfl rfl (by omega) hL dL_law_925 dL_law_926 dL_law_928 (by decide) dL_law_929 dL_law_930 ?_
  refine g_callV (As := [.int (xs (i + 1)), .int (xs (i + 2))]) (st := []) (n := 2) 226 (c_X13_taker E ((f_X12_taker M (xs (i + 1)) (xs (i + 2))).2) (xs (i + 1)) (xs (i + 2)) hs.2.1) mt_X13_taker ml_L_110 dF_Md rfl rfl sg_X13_taker rfl ⟨by decide, by decide, (by show cs ≤ 601024; omega), (by show ss ≤ 7293034; omega)⟩ (Nat.le_of_ble_eq_true rfl) dL_law_931 ?_
  intro r9 N9 hq9
  rw [hq9.1, hq9.2]
  clear hq9 r9 N9
  refine g_pop dL_law_934 rfl ?_
  refine g_goto 1690 dL_law_935 (by decide) ?_
  exact (nx _ _ _ (Nat.le_succ _) (by omega) hs.2.2)
set_option maxRecDepth 100000 in
set_option maxHeartbeats 4000000 in
theorem tL_20 {E : gE} {b L i cs ss : Nat} {xs : Nat → Int32} {M : gM} {K : gM → Prop} (hL : L < 2 ^ 31) (hi : i + 5 < L) (hc : cs + 1 ≤ 601024) (hm : ss + 6 ≤ 7293034) (nx : ∀ (k n : Nat) (N : gM), k ≤ cs + 1 → n ≤ ss + 6 → K N → gK E RL code 7 ret room_1 (gSL E b L xs) lw_Z k n 1690 (lvL E b i) [] N) (hs : sL_20 M (xs (i + 1)) (xs (i + 2)) (xs (i + 3)) (xs (i + 4)) (xs (i + 5)) K) : gK E RL code 7 ret room_1 (gSL E b L xs) lw_Z cs ss 938 (lvL E b i) [] M := by
  unfold sL_20 at hs
  refine g_aload_n 1 dL_law_938 rfl ?_
  refine g_sarg (i := i) (n := 1) 0 4 rfl rfl (by omega) hL dL_law_939 dL_law_940 dL_law_942 (by decide) dL_law_943 dL_law_944 ?_
  refine g_sarg (i := i) (n := 2) 0 4 rfl rfl (by omega) hL dL_law_945 dL_law_946 dL_law_948 (by decide) dL_law_949 dL_law_950 ?_
  refine g_callV (As := [.int (xs (i + 1)), .int (xs (i + 2))]) (st := []) (n := 2) 0 (c_X12_takerBy E M (xs (i + 1)) (xs (i + 2)) hs.1) mt_X12_takerBy ml_L_111 dF_Wd rfl rfl sg_X12_takerBy rfl ⟨by decide, by decide, (by show cs ≤ 601024; omega), (by show ss ≤ 7293034; omega)⟩ (Nat.le_of_ble_eq_true rfl) dL_law_951 ?_
  intro r9 N9 hq9
  rw [hq9.1, hq9.2]
  clear hq9 r9 N9
  refine g_pop dL_law_954 rfl ?_
  refine g_aload_n 2 dL_law_955 rfl ?_
  refine g_sarg (i := i) (n := 1) 0 4 rfl rfl (by omega) hL dL_law_956 dL_law_957 dL_law_959 (by decide) dL_law_960 dL_law_961 ?_
  refine g_sarg (i := i) (n := 2) 0 4 rfl rfl (by omega) hL dL_law_962 dL_law_963 dL_law_965 (by decide) dL_law_966 dL_law_967 ?_
  refine g_callV (As := [.int (xs (i + 1)), .int (xs (i + 2))]) (st := []) (n := 2) 226 (c_X13_takerBy_ E ((f_X12_takerBy M (xs (i + 1)) (xs (i + 2))).2) (xs (i + 1)) (xs (i + 2)) hs.2.1) mt_X13_takerBy_ ml_L_114 dF_Md rfl rfl sg_X13_takerBy_ rfl ⟨by decide, by decide, (by show cs ≤ 601024; omega), (by show ss ≤ 7293034; omega)⟩ (Nat.le_of_ble_eq_true rfl) dL_law_968 ?_
  intro r9 N9 hq9
  rw [hq9.1, hq9.2]
  clear hq9 r9 N9
  refine g_pop dL_law_971 rfl ?_
  refine g_goto 1690 dL_law_972 (by decide) ?_
  exact (nx _ _ _ (Nat.le_succ _) (by omega) hs.2.2)
set_option maxRecDepth 100000 in
set_option maxHeartbeats 4000000 in
theorem tL_21 {E : gE} {b L i cs ss : Nat} {xs : Nat → Int32} {M : gM} {K : gM → Prop} (hL : L < 2 ^ 31) (hi : i + 5 < L) (hc : cs + 1 ≤ 601024) (hm : ss + 6 ≤ 7293034) (nx : ∀ (k n : Nat) (N : gM), k ≤ cs + 1 → n ≤ ss + 6 → K N → gK E RL code 7 ret room_1 (gSL E b L xs) lw_Z k n 1690 (lvL E b i) [] N) (hs : sL_21 M (xs (i + 1)) (xs (i + 2)) (xs (i + 3)) (xs (i + 4)) (xs (i + 5)) K) : gK E RL code 7 ret room_1 (gSL E b L xs) lw_Z cs ss 975 (lvL E b i) [] M := by
  unfold sL_21 at hs
  refine g_aload_n 1 dL_law_975 rfl ?_
  refine g_sarg (i := i) (n := 1) 0 4 rfl rfl (by omega) hL dL_law_976 dL_law_977 dL_law_979 (by decide) dL_law_980 dL_law_981 ?_
  refine g_callV (As := [.int (xs (i + 1))]) (st := []) (n := 1) 0 (c_X12_heirs E M (xs (i + 1)) hs.1) mt_X12_heirs ml_L_115 dF_Wd rfl rfl sg_X12_heirs rfl ⟨by decide, by decide, (by show cs ≤ 601024; omega), (by show ss ≤ 7293034; omega)⟩ (Nat.le_of_ble_eq_true rfl) dL_law_982 ?_
  intro r9 N9 hq9
  rw [hq9.1, hq9.2]
  clear hq9 r9 N9
  refine g_pop dL_law_985 rfl ?_
  refine g_aload_n 2 dL_law_986 rfl ?_
  refine g_sarg (i := i) (n := 1) 0 4 rfl rfl (by omega) hL dL_law_987 dL_law_988 dL_law_990 (by decide) dL_law_991 dL_law_992 ?_
  refine g_callV (As := [.int (xs (i + 1))]) (st := []) (n := 1) 226 (c_X13_heirs E M (xs (i + 1)) hs.2.1) mt_X13_heirs ml_L_118 dF_Md rfl rfl sg_X13_heirs rfl ⟨by decide, by decide, (by show cs ≤ 601024; omega), (by show ss ≤ 7293034; omega)⟩ (Nat.le_of_ble_eq_true rfl) dL_law_993 ?_
  intro r9 N9 hq9
  rw [hq9.1, hq9.2]
  clear hq9 r9 N9
  refine g_pop dL_law_996 rfl ?_
  refine g_goto 1690 dL_law_997 (by decide) ?_
  exact (nx _ _ _ (Nat.le_succ _) (by omega) hs.2.2)
set_option maxRecDepth 100000 in
set_option maxHeartbeats 4000000 in
theorem tL_22 {E : gE} {b L i cs ss : Nat} {xs : Nat → Int32} {M : gM} {K : gM → Prop} (hL : L < 2 ^ 31) (hi : i + 5 < L) (hc : cs + 1 ≤ 601024) (hm : ss + 6 ≤ 7293034) (nx : ∀ (k n : Nat) (N : gM), k ≤ cs + 1 → n ≤ ss + 6 → K N → gK E RL code 7 ret room_1 (gSL E b L xs) lw_Z k n 1690 (lvL E b i) [] N) (hs : sL_22 M (xs (i + 1)) (xs (i + 2)) (xs (i + 3)) (xs (i + 4)) (xs (i + 5)) K) : gK E RL code 7 ret room_1 (gSL E b L xs) lw_Z cs ss 1000 (lvL E b i) [] M := by
  unfold sL_22 at hs
  refine g_aload_n 1 dL_law_1000 rfl ?_
  refine g_sarg (i := i) (n := 1) 0 4 rfl rfl (by omega) hL dL_law_1001 dL_law_1002 dL_law_1004 (by decide) dL_law_1005 dL_law_1006 ?_
  refine g_sarg (i := i) (n := 2) 0 4 rfl rfl (by omega) hL dL_law_1007 dL_law_1008 dL_law_1010 (by decide) dL_law_1011 dL_law_1012 ?_
  refine g_sarg (i := i) (n := 3) 0 4 rfl rfl (by omega) hL dL_law_1013 dL_law_1014 dL_law_1016 (by decide) dL_law_1017 dL_law_1018 ?_
  refine g_sarg (i := i) (n := 4) 0 4 rfl rfl (by omega) hL dL_law_1019 dL_law_1020 dL_law_1022 (by decide) dL_law_1023 dL_law_1024 ?_
  refine g_callV (As := [.int (xs (i + 1)), .int (xs (i + 2)), .int (xs (i + 3)), .int (xs (i + 4))]) (st := []) (n := 4) 0 (c_X12_has E M (xs (i + 1)) (xs (i + 2)) (xs (i + 3)) (xs (i + 4)) hs.1) mt_X12_has ml_L_119 dF_Wd rfl rfl sg_X12_has rfl ⟨by decide, by decide, (by show cs ≤ 601024; omega), (by show ss ≤ 7293034; omega)⟩ (Nat.le_of_ble_eq_true rfl) dL_law_1025 ?_
  intro r9 N9 hq9
  rw [hq9.1, hq9.2]
  clear hq9 r9 N9
  refine g_pop2 dL_law_1028 rfl ?_
  refine g_aload_n 2 dL_law_1029 rfl ?_
  refine g_sarg (i := i) (n := 1) 0 4 rfl rfl (by omega) hL dL_law_1030 dL_law_1031 dL_law_1033 (by decide) dL_law_1034 dL_law_1035 ?_
  refine g_sarg (i := i) (n := 2) 0 4 rfl rfl (by omega) hL dL_law_1036 dL_law_1037 dL_law_1039 (by decide) dL_law_1040 dL_law_1041 ?_
  refine g_sarg (i := i) (n := 3) 0 4 rfl rfl (by omega) hL dL_law_1042 dL_law_1043 dL_law_1045 (by decide) dL_law_1046 dL_law_1047 ?_
  refine g_sarg (i := i) (n := 4) 0 4 rfl rfl (by omega) hL dL_law_1048 dL_law_1049 dL_law_1051 (by decide) dL_law_1052 dL_law_1053 ?_
  refine g_callV (As := [.int (xs (i + 1)), .int (xs (i + 2)), .int (xs (i + 3)), .int (xs (i + 4))]) (st := []) (n := 4) 226 (c_X13_has_ E ((f_X12_has M (xs (i + 1)) (xs (i + 2)) (xs (i + 3)) (xs (i + 4))).2) (xs (i + 1)) (xs (i + 2)) (xs (i + 3)) (xs (i + 4)) hs.2.1) mt_X13_has_ ml_L_123 dF_Md rfl rfl sg_X13_has_ rfl ⟨by decide, by decide, (by show cs ≤ 601024; omega), (by show ss ≤ 7293034; omega)⟩ (Nat.le_of_ble_eq_true rfl) dL_law_1054 ?_
  intro r9 N9 hq9
  rw [hq9.1, hq9.2]
  clear hq9 r9 N9
  refine g_pop2 dL_law_1057 rfl ?_
  refine g_goto 1690 dL_law_1058 (by decide) ?_
  exact (nx _ _ _ (Nat.le_succ _) (by omega) hs.2.2)
set_option maxRecDepth 100000 in
set_option maxHeartbeats 4000000 in
theorem tL_23 {E : gE} {b L i cs ss : Nat} {xs : Nat → Int32} {M : gM} {K : gM → Prop} (hL : L < 2 ^ 31) (hi : i + 5 < L) (hc : cs + 1 ≤ 601024) (hm : ss + 6 ≤ 7293034) (nx : ∀ (k n : Nat) (N : gM), k ≤ cs + 1 → n ≤ ss + 6 → K N → gK E RL code 7 ret room_1 (gSL E b L xs) lw_Z k n 1690 (lvL E b i) [] N) (hs : sL_23 M (xs (i + 1)) (xs (i + 2)) (xs (i + 3)) (xs (i + 4)) (xs (i + 5)) K) : gK E RL code 7 ret room_1 (gSL E b L xs) lw_Z cs ss 1061 (lvL E b i) [] M := by
  unfold sL_23 at hs
  refine g_aload_n 1 dL_law_1061 rfl ?_
  refine g_sarg (i := i) (n := 1) 0 4 rfl rfl (by omega) hL dL_law_1062 dL_law_1063 dL_law_1065 (by decide) dL_law_1066 dL_law_1067 ?_
  refine g_sarg (i := i) (n := 2) 0 4 rfl rfl (by omega) hL dL_law_1068 dL_law_1069 dL_law_1071 (by decide) dL_law_1072 dL_law_1073 ?_
  refine g_callV (As := [.int (xs (i + 1)), .int (xs (i + 2))]) (st := []) (n := 2) 0 (c_X12_holders E M (xs (i + 1)) (xs (i + 2)) hs.1) mt_X12_holders ml_L_124 dF_Wd rfl rfl sg_X12_holders rfl ⟨by decide, by decide, (by show cs ≤ 601024; omega), (by show ss ≤ 7293034; omega)⟩ (Nat.le_of_ble_eq_true rfl) dL_law_1074 ?_
  intro r9 N9 hq9
  rw [hq9.1, hq9.2]
  clear hq9 r9 N9
  refine g_pop dL_law_1077 rfl ?_
  refine g_aload_n 2 dL_law_1078 rfl ?_
  refine g_sarg (i := i) (n := 1) 0 4 rfl rfl (by omega) hL dL_law_1079 dL_law_1080 dL_law_1082 (by decide) dL_law_1083 dL_law_1084 ?_
  refine g_sarg (i := i) (n := 2) 0 4 rfl rfl (by omega) hL dL_law_1085 dL_law_1086 dL_law_1088 (by decide) dL_law_1089 dL_law_1090 ?_
  refine g_callV (As := [.int (xs (i + 1)), .int (xs (i + 2))]) (st := []) (n := 2) 226 (c_X13_holders E ((f_X12_holders M (xs (i + 1)) (xs (i + 2))).2) (xs (i + 1)) (xs (i + 2)) hs.2.1) mt_X13_holders ml_L_127 dF_Md rfl rfl sg_X13_holders rfl ⟨by decide, by decide, (by show cs ≤ 601024; omega), (by show ss ≤ 7293034; omega)⟩ (Nat.le_of_ble_eq_true rfl) dL_law_1091 ?_
  intro r9 N9 hq9
  rw [hq9.1, hq9.2]
  clear hq9 r9 N9
  refine g_pop dL_law_1094 rfl ?_
  refine g_goto 1690 dL_law_1095 (by decide) ?_
  exact (nx _ _ _ (Nat.le_succ _) (by omega) hs.2.2)
set_option maxRecDepth 100000 in
set_option maxHeartbeats 4000000 in
theorem tL_24 {E : gE} {b L i cs ss : Nat} {xs : Nat → Int32} {M : gM} {K : gM → Prop} (hL : L < 2 ^ 31) (hi : i + 5 < L) (hc : cs + 1 ≤ 601024) (hm : ss + 6 ≤ 7293034) (nx : ∀ (k n : Nat) (N : gM), k ≤ cs + 1 → n ≤ ss + 6 → K N → gK E RL code 7 ret room_1 (gSL E b L xs) lw_Z k n 1690 (lvL E b i) [] N) (hs : sL_24 M (xs (i + 1)) (xs (i + 2)) (xs (i + 3)) (xs (i + 4)) (xs (i + 5)) K) : gK E RL code 7 ret room_1 (gSL E b L xs) lw_Z cs ss 1098 (lvL E b i) [] M := by
  unfold sL_24 at hs
  refine g_aload_n 1 dL_law_1098 rfl ?_
  refine g_sarg (i := i) (n := 1) 0 4 rfl rfl (by omega) hL dL_law_1099 dL_law_1100 dL_law_1102 (by decide) dL_law_1103 dL_law_1104 ?_
  refine g_callV (As := [.int (xs (i + 1))]) (st := []) (n := 1) 0 (c_X12_wealth E M (xs (i + 1)) hs.1) mt_X12_wealth ml_L_128 dF_Wd rfl rfl sg_X12_wealth rfl ⟨by decide, by decide, (by show cs ≤ 601024; omega), (by show ss ≤ 7293034; omega)⟩ (Nat.le_of_ble_eq_true rfl) dL_law_1105 ?_
  intro r9 N9 hq9
  rw [hq9.1, hq9.2]
  clear hq9 r9 N9
  refine g_pop dL_law_1108 rfl ?_
  refine g_aload_n 2 dL_law_1109 rfl ?_
  refine g_sarg (i := i) (n := 1) 0 4 rfl rfl (by omega) hL dL_law_1110 dL_law_1111 dL_law_1113 (by decide) dL_law_1114 dL_law_1115 ?_
  refine g_callV (As := [.int (xs (i + 1))]) (st := []) (n := 1) 226 (c_X13_wealth E ((f_X12_wealth M (xs (i + 1))).2) (xs (i + 1)) hs.2.1) mt_X13_wealth ml_L_131 dF_Md rfl rfl sg_X13_wealth rfl ⟨by decide, by decide, (by show cs ≤ 601024; omega), (by show ss ≤ 7293034; omega)⟩ (Nat.le_of_ble_eq_true rfl) dL_law_1116 ?_
  intro r9 N9 hq9
  rw [hq9.1, hq9.2]
  clear hq9 r9 N9
  refine g_pop dL_law_1119 rfl ?_
  refine g_goto 1690 dL_law_1120 (by decide) ?_
  exact (nx _ _ _ (Nat.le_succ _) (by omega) hs.2.2)
set_option maxRecDepth 100000 in
set_option maxHeartbeats 4000000 in
theorem tL_25 {E : gE} {b L i cs ss : Nat} {xs : Nat → Int32} {M : gM} {K : gM → Prop} (hL : L < 2 ^ 31) (hi : i + 5 < L) (hc : cs + 1 ≤ 601024) (hm : ss + 6 ≤ 7293034) (nx : ∀ (k n : Nat) (N : gM), k ≤ cs + 1 → n ≤ ss + 6 → K N → gK E RL code 7 ret room_1 (gSL E b L xs) lw_Z k n 1690 (lvL E b i) [] N) (hs : sL_25 M (xs (i + 1)) (xs (i + 2)) (xs (i + 3)) (xs (i + 4)) (xs (i + 5)) K) : gK E RL code 7 ret room_1 (gSL E b L xs) lw_Z cs ss 1123 (lvL E b i) [] M := by
  unfold sL_25 at hs
  refine g_aload_n 1 dL_law_1123 rfl ?_
  refine g_sarg (i := i) (n := 1) 0 4 rfl rfl (by omega) hL dL_law_1124 dL_law_1125 dL_law_1127 (by decide) dL_law_1128 dL_law_1129 ?_
  refine g_callV (As := [.int (xs (i + 1))]) (st := []) (n := 1) 0 (c_X12_ever E M (xs (i + 1)) hs.1) mt_X12_ever ml_L_132 dF_Wd rfl rfl sg_X12_ever rfl ⟨by decide, by decide, (by show cs ≤ 601024; omega), (by show ss ≤ 7293034; omega)⟩ (Nat.le_of_ble_eq_true rfl) dL_law_1130 ?_
  intro r9 N9 hq9
  rw [hq9.1, hq9.2]
  clear hq9 r9 N9
  refine g_pop dL_law_1133 rfl ?_
  refine g_aload_n 2 dL_law_1134 rfl ?_
  refine g_sarg (i := i) (n := 1) 0 4 rfl rfl (by omega) hL dL_law_1135 dL_law_1136 dL_law_1138 (by decide) dL_law_1139 dL_law_1140 ?_
  refine g_callV (As := [.int (xs (i + 1))]) (st := []) (n := 1) 226 (c_X13_ever E ((f_X12_ever M (xs (i + 1))).2) (xs (i + 1)) hs.2.1) mt_X13_ever ml_L_135 dF_Md rfl rfl sg_X13_ever rfl ⟨by decide, by decide, (by show cs ≤ 601024; omega), (by show ss ≤ 7293034; omega)⟩ (Nat.le_of_ble_eq_true rfl) dL_law_1141 ?_
  intro r9 N9 hq9
  rw [hq9.1, hq9.2]
  clear hq9 r9 N9
  refine g_pop dL_law_1144 rfl ?_
  refine g_goto 1690 dL_law_1145 (by decide) ?_
  exact (nx _ _ _ (Nat.le_succ _) (by omega) hs.2.2)
set_option maxRecDepth 100000 in
set_option maxHeartbeats 4000000 in
theorem tL_26 {E : gE} {b L i cs ss : Nat} {xs : Nat → Int32} {M : gM} {K : gM → Prop} (hL : L < 2 ^ 31) (hi : i + 5 < L) (hc : cs + 1 ≤ 601024) (hm : ss + 6 ≤ 7293034) (nx : ∀ (k n : Nat) (N : gM), k ≤ cs + 1 → n ≤ ss + 6 → K N → gK E RL code 7 ret room_1 (gSL E b L xs) lw_Z k n 1690 (lvL E b i) [] N) (hs : sL_26 M (xs (i + 1)) (xs (i + 2)) (xs (i + 3)) (xs (i + 4)) (xs (i + 5)) K) : gK E RL code 7 ret room_1 (gSL E b L xs) lw_Z cs ss 1148 (lvL E b i) [] M := by
  unfold sL_26 at hs
  refine g_aload_n 1 dL_law_1148 rfl ?_
  refine g_sarg (i := i) (n := 1) 0 4 rfl rfl (by omega) hL dL_law_1149 dL_law_1150 dL_law_1152 (by decide) dL_law_1153 dL_law_1154 ?_
  refine g_sarg (i := i) (n := 2) 0 4 rfl rfl (by omega) hL dL_law_1155 dL_law_1156 dL_law_1158 (by decide) dL_law_1159 dL_law_1160 ?_
  refine g_callV (As := [.int (xs (i + 1)), .int (xs (i + 2))]) (st := []) (n := 2) 0 (c_X12_gain E M (xs (i + 1)) (xs (i + 2)) hs.1) mt_X12_gain ml_L_136 dF_Wd rfl rfl sg_X12_gain rfl ⟨by decide, by decide, (by show cs ≤ 601024; omega), (by show ss ≤ 7293034; omega)⟩ (Nat.le_of_ble_eq_true rfl) dL_law_1161 ?_
  intro r9 N9 hq9
  rw [hq9.1, hq9.2]
  clear hq9 r9 N9
  refine g_pop dL_law_1164 rfl ?_
  refine g_aload_n 2 dL_law_1165 rfl ?_
  refine g_sarg (i := i) (n := 1) 0 4 rfl rfl (by omega) hL dL_law_1166 dL_law_1167 dL_law_1169 (by decide) dL_law_1170 dL_law_1171 ?_
  refine g_sarg (i := i) (n := 2) 0 4 rfl rfl (by omega) hL dL_law_1172 dL_law_1173 dL_law_1175 (by decide) dL_law_1176 dL_law_1177 ?_
  refine g_callV (As := [.int (xs (i + 1)), .int (xs (i + 2))]) (st := []) (n := 2) 226 (c_X13_gain E ((f_X12_gain M (xs (i + 1)) (xs (i + 2))).2) (xs (i + 1)) (xs (i + 2)) hs.2.1) mt_X13_gain ml_L_139 dF_Md rfl rfl sg_X13_gain rfl ⟨by decide, by decide, (by show cs ≤ 601024; omega), (by show ss ≤ 7293034; omega)⟩ (Nat.le_of_ble_eq_true rfl) dL_law_1178 ?_
  intro r9 N9 hq9
  rw [hq9.1, hq9.2]
  clear hq9 r9 N9
  refine g_pop dL_law_1181 rfl ?_
  refine g_goto 1690 dL_law_1182 (by decide) ?_
  exact (nx _ _ _ (Nat.le_succ _) (by omega) hs.2.2)
set_option maxRecDepth 100000 in
set_option maxHeartbeats 4000000 in
theorem tL_27 {E : gE} {b L i cs ss : Nat} {xs : Nat → Int32} {M : gM} {K : gM → Prop} (hL : L < 2 ^ 31) (hi : i + 5 < L) (hc : cs + 1 ≤ 601024) (hm : ss + 6 ≤ 7293034) (nx : ∀ (k n : Nat) (N : gM), k ≤ cs + 1 → n ≤ ss + 6 → K N → gK E RL code 7 ret room_1 (gSL E b L xs) lw_Z k n 1690 (lvL E b i) [] N) (hs : sL_27 M (xs (i + 1)) (xs (i + 2)) (xs (i + 3)) (xs (i + 4)) (xs (i + 5)) K) : gK E RL code 7 ret room_1 (gSL E b L xs) lw_Z cs ss 1185 (lvL E b i) [] M := by
  unfold sL_27 at hs
  refine g_aload_n 1 dL_law_1185 rfl ?_
  refine g_sarg (i := i) (n := 1) 0 4 rfl rfl (by omega) hL dL_law_1186 dL_law_1187 dL_law_1189 (by decide) dL_law_1190 dL_law_1191 ?_
  refine g_sarg (i := i) (n := 2) 0 4 rfl rfl (by omega) hL dL_law_1192 dL_law_1193 dL_law_1195 (by decide) dL_law_1196 dL_law_1197 ?_
  refine g_callV (As := [.int (xs (i + 1)), .int (xs (i + 2))]) (st := []) (n := 2) 0 (c_X12_against E M (xs (i + 1)) (xs (i + 2)) hs.1) mt_X12_against ml_L_140 dF_Wd rfl rfl sg_X12_against rfl ⟨by decide, by decide, (by show cs ≤ 601024; omega), (by show ss ≤ 7293034; omega)⟩ (Nat.le_of_ble_eq_true rfl) dL_law_1198 ?_
  intro r9 N9 hq9
  rw [hq9.1, hq9.2]
  clear hq9 r9 N9
  refine g_pop dL_law_1201 rfl ?_
  refine g_aload_n 2 dL_law_1202 rfl ?_
  refine g_sarg (i := i) (n := 1) 0 4 rfl rfl (by omega) hL dL_law_1203 dL_law_1204 dL_law_1206 (by decide) dL_law_1207 dL_law_1208 ?_
  refine g_sarg (i := i) (n := 2) 0 4 rfl rfl (by omega) hL dL_law_1209 dL_law_1210 dL_law_1212 (by decide) dL_law_1213 dL_law_1214 ?_
  refine g_callV (As := [.int (xs (i + 1)), .int (xs (i + 2))]) (st := []) (n := 2) 226 (c_X13_against E ((f_X12_against M (xs (i + 1)) (xs (i + 2))).2) (xs (i + 1)) (xs (i + 2)) hs.2.1) mt_X13_against ml_L_143 dF_Md rfl rfl sg_X13_against rfl ⟨by decide, by decide, (by show cs ≤ 601024; omega), (by show ss ≤ 7293034; omega)⟩ (Nat.le_of_ble_eq_true rfl) dL_law_1215 ?_
  intro r9 N9 hq9
  rw [hq9.1, hq9.2]
  clear hq9 r9 N9
  refine g_pop dL_law_1218 rfl ?_
  refine g_goto 1690 dL_law_1219 (by decide) ?_
  exact (nx _ _ _ (Nat.le_succ _) (by omega) hs.2.2)
set_option maxRecDepth 100000 in
set_option maxHeartbeats 4000000 in
theorem tL_28 {E : gE} {b L i cs ss : Nat} {xs : Nat → Int32} {M : gM} {K : gM → Prop} (hL : L < 2 ^ 31) (hi : i + 5 < L) (hc : cs + 1 ≤ 601024) (hm : ss + 6 ≤ 7293034) (nx : ∀ (k n : Nat) (N : gM), k ≤ cs + 1 → n ≤ ss + 6 → K N → gK E RL code 7 ret room_1 (gSL E b L xs) lw_Z k n 1690 (lvL E b i) [] N) (hs : sL_28 M (xs (i + 1)) (xs (i + 2)) (xs (i + 3)) (xs (i + 4)) (xs (i + 5)) K) : gK E RL code 7 ret room_1 (gSL E b L xs) lw_Z cs ss 1222 (lvL E b i) [] M := by
  unfold sL_28 at hs
  refine g_aload_n 1 dL_law_1222 rfl ?_
  refine g_sarg (i := i) (n := 1) 0 4 rfl rfl (by omega) hL dL_law_1223 dL_law_1224 dL_law_1226 (by decide) dL_law_1227 dL_law_1228 ?_
  refine g_callV (As := [.int (xs (i + 1))]) (st := []) (n := 1) 0 (c_X12_key E M (xs (i + 1)) hs.1) mt_X12_key ml_L_144 dF_Wd rfl rfl sg_X12_key rfl ⟨by decide, by decide, (by show cs ≤ 601024; omega), (by show ss ≤ 7293034; omega)⟩ (Nat.le_of_ble_eq_true rfl) dL_law_1229 ?_
  intro r9 N9 hq9
  rw [hq9.1, hq9.2]
  clear hq9 r9 N9
  refine g_pop dL_law_1232 rfl ?_
  refine g_aload_n 2 dL_law_1233 rfl ?_
  refine g_sarg (i := i) (n := 1) 0 4 rfl rfl (by omega) hL dL_law_1234 dL_law_1235 dL_law_1237 (by decide) dL_law_1238 dL_law_1239 ?_
  refine g_callV (As := [.int (xs (i + 1))]) (st := []) (n := 1) 226 (c_X13_key E ((f_X12_key M (xs (i + 1))).2) (xs (i + 1)) hs.2.1) mt_X13_key ml_L_147 dF_Md rfl rfl sg_X13_key rfl ⟨by decide, by decide, (by show cs ≤ 601024; omega), (by show ss ≤ 7293034; omega)⟩ (Nat.le_of_ble_eq_true rfl) dL_law_1240 ?_
  intro r9 N9 hq9
  rw [hq9.1, hq9.2]
  clear hq9 r9 N9
  refine g_pop dL_law_1243 rfl ?_
  refine g_goto 1690 dL_law_1244 (by decide) ?_
  exact (nx _ _ _ (Nat.le_succ _) (by omega) hs.2.2)
set_option maxRecDepth 100000 in
set_option maxHeartbeats 4000000 in
theorem tL_29 {E : gE} {b L i cs ss : Nat} {xs : Nat → Int32} {M : gM} {K : gM → Prop} (hL : L < 2 ^ 31) (hi : i + 5 < L) (hc : cs + 1 ≤ 601024) (hm : ss + 6 ≤ 7293034) (nx : ∀ (k n : Nat) (N : gM), k ≤ cs + 1 → n ≤ ss + 6 → K N → gK E RL code 7 ret room_1 (gSL E b L xs) lw_Z k n 1690 (lvL E b i) [] N) (hs : sL_29 M (xs (i + 1)) (xs (i + 2)) (xs (i + 3)) (xs (i + 4)) (xs (i + 5)) K) : gK E RL code 7 ret room_1 (gSL E b L xs) lw_Z cs ss 1247 (lvL E b i) [] M := by
  unfold sL_29 at hs
  refine g_aload_n 1 dL_law_1247 rfl ?_
  refine g_sarg (i := i) (n := 1) 0 4 rfl rfl (by omega) hL dL_law_1248 dL_law_1249 dL_law_1251 (by decide) dL_law_1252 dL_law_1253 ?_
  refine g_sarg (i := i) (n := 2) 0 4 rfl rfl (by omega) hL dL_law_1254 dL_law_1255 dL_law_1257 (by decide) dL_law_1258 dL_law_1259 ?_
  refine g_sarg (i := i) (n := 3) 0 4 rfl rfl (by omega) hL dL_law_1260 dL_law_1261 dL_law_1263 (by decide) dL_law_1264 dL_law_1265 ?_
  refine g_callV (As := [.int (xs (i + 1)), .int (xs (i + 2)), .int (xs (i + 3))]) (st := []) (n := 3) 0 (c_X12_wouldPaper E M (xs (i + 1)) (xs (i + 2)) (xs (i + 3)) hs.1) mt_X12_wouldPaper ml_L_148 dF_Wd rfl rfl sg_X12_wouldPaper rfl ⟨by decide, by decide, (by show cs ≤ 601024; omega), (by show ss ≤ 7293034; omega)⟩ (Nat.le_of_ble_eq_true rfl) dL_law_1266 ?_
  intro r9 N9 hq9
  rw [hq9.1, hq9.2]
  clear hq9 r9 N9
  refine g_pop dL_law_1269 rfl ?_
  refine g_aload_n 2 dL_law_1270 rfl ?_
  refine g_sarg (i := i) (n := 1) 0 4 rfl rfl (by omega) hL dL_law_1271 dL_law_1272 dL_law_1274 (by decide) dL_law_1275 dL_law_1276 ?_
  refine g_sarg (i := i) (n := 2) 0 4 rfl rfl (by omega) hL dL_law_1277 dL_law_1278 dL_law_1280 (by decide) dL_law_1281 dL_law_1282 ?_
  refine g_sarg (i := i) (n := 3) 0 4 rfl rfl (by omega) hL dL_law_1283 dL_law_1284 dL_law_1286 (by decide) dL_law_1287 dL_law_1288 ?_
  refine g_callV (As := [.int (xs (i + 1)), .int (xs (i + 2)), .int (xs (i + 3))]) (st := []) (n := 3) 226 (c_X13_wouldPaper E ((f_X12_wouldPaper M (xs (i + 1)) (xs (i + 2)) (xs (i + 3))).2) (xs (i + 1)) (xs (i + 2)) (xs (i + 3)) hs.2.1) mt_X13_wouldPaper ml_L_151 dF_Md rfl rfl sg_X13_wouldPaper rfl ⟨by decide, by decide, (by show cs ≤ 601024; omega), (by show ss ≤ 7293034; omega)⟩ (Nat.le_of_ble_eq_true rfl) dL_law_1289 ?_
  intro r9 N9 hq9
  rw [hq9.1, hq9.2]
  clear hq9 r9 N9
  refine g_pop dL_law_1292 rfl ?_
  refine g_goto 1690 dL_law_1293 (by decide) ?_
  exact (nx _ _ _ (Nat.le_succ _) (by omega) hs.2.2)
set_option maxRecDepth 100000 in
set_option maxHeartbeats 4000000 in
theorem tL_30 {E : gE} {b L i cs ss : Nat} {xs : Nat → Int32} {M : gM} {K : gM → Prop} (hL : L < 2 ^ 31) (hi : i + 5 < L) (hc : cs + 1 ≤ 601024) (hm : ss + 6 ≤ 7293034) (nx : ∀ (k n : Nat) (N : gM), k ≤ cs + 1 → n ≤ ss + 6 → K N → gK E RL code 7 ret room_1 (gSL E b L xs) lw_Z k n 1690 (lvL E b i) [] N) (hs : sL_30 M (xs (i + 1)) (xs (i + 2)) (xs (i + 3)) (xs (i + 4)) (xs (i + 5)) K) : gK E RL code 7 ret room_1 (gSL E b L xs) lw_Z cs ss 1296 (lvL E b i) [] M := by
  unfold sL_30 at hs
  refine g_aload_n 1 dL_law_1296 rfl ?_
  refine g_sarg (i := i) (n := 1) 0 4 rfl rfl (by omega) hL dL_law_1297 dL_law_1298 dL_law_1300 (by decide) dL_law_1301 dL_law_1302 ?_
  refine g_sarg (i := i) (n := 2) 0 4 rfl rfl (by omega) hL dL_law_1303 dL_law_1304 dL_law_1306 (by decide) dL_law_1307 dL_law_1308 ?_
  refine g_sarg (i := i) (n := 3) 0 4 rfl rfl (by omega) hL dL_law_1309 dL_law_1310 dL_law_1312 (by decide) dL_law_1313 dL_law_1314 ?_
  refine g_callV (As := [.int (xs (i + 1)), .int (xs (i + 2)), .int (xs (i + 3))]) (st := []) (n := 3) 0 (c_X12_wouldDie E M (xs (i + 1)) (xs (i + 2)) (xs (i + 3)) hs.1) mt_X12_wouldDie ml_L_152 dF_Wd rfl rfl sg_X12_wouldDie rfl ⟨by decide, by decide, (by show cs ≤ 601024; omega), (by show ss ≤ 7293034; omega)⟩ (Nat.le_of_ble_eq_true rfl) dL_law_1315 ?_
  intro r9 N9 hq9
  rw [hq9.1, hq9.2]
  clear hq9 r9 N9
  refine g_pop dL_law_1318 rfl ?_
  refine g_aload_n 2 dL_law_1319 rfl ?_
  refine g_sarg (i := i) (n := 1) 0 4 rfl rfl (by omega) hL dL_law_1320 dL_law_1321 dL_law_1323 (by decide) dL_law_1324 dL_law_1325 ?_
  refine g_sarg (i := i) (n := 2) 0 4 rfl rfl (by omega) hL dL_law_1326 dL_law_1327 dL_law_1329 (by decide) dL_law_1330 dL_law_1331 ?_
  refine g_sarg (i := i) (n := 3) 0 4 rfl rfl (by omega) hL dL_law_1332 dL_law_1333 dL_law_1335 (by decide) dL_law_1336 dL_law_1337 ?_
  refine g_callV (As := [.int (xs (i + 1)), .int (xs (i + 2)), .int (xs (i + 3))]) (st := []) (n := 3) 226 (c_X13_wouldDie E ((f_X12_wouldDie M (xs (i + 1)) (xs (i + 2)) (xs (i + 3))).2) (xs (i + 1)) (xs (i + 2)) (xs (i + 3)) hs.2.1) mt_X13_wouldDie ml_L_155 dF_Md rfl rfl sg_X13_wouldDie rfl ⟨by decide, by decide, (by show cs ≤ 601024; omega), (by show ss ≤ 7293034; omega)⟩ (Nat.le_of_ble_eq_true rfl) dL_law_1338 ?_
  intro r9 N9 hq9
  rw [hq9.1, hq9.2]
  clear hq9 r9 N9
  refine g_pop dL_law_1341 rfl ?_
  refine g_goto 1690 dL_law_1342 (by decide) ?_
  exact (nx _ _ _ (Nat.le_succ _) (by omega) hs.2.2)
set_option maxRecDepth 100000 in
set_option maxHeartbeats 4000000 in
theorem tL_31 {E : gE} {b L i cs ss : Nat} {xs : Nat → Int32} {M : gM} {K : gM → Prop} (hL : L < 2 ^ 31) (hi : i + 5 < L) (hc : cs + 1 ≤ 601024) (hm : ss + 6 ≤ 7293034) (nx : ∀ (k n : Nat) (N : gM), k ≤ cs + 1 → n ≤ ss + 6 → K N → gK E RL code 7 ret room_1 (gSL E b L xs) lw_Z k n 1690 (lvL E b i) [] N) (hs : sL_31 M (xs (i + 1)) (xs (i + 2)) (xs (i + 3)) (xs (i + 4)) (xs (i + 5)) K) : gK E RL code 7 ret room_1 (gSL E b L xs) lw_Z cs ss 1345 (lvL E b i) [] M := by
  unfold sL_31 at hs
  refine g_aload_n 1 dL_law_1345 rfl ?_
  refine g_sarg (i := i) (n := 1) 0 4 rfl rfl (by omega) hL dL_law_1346 dL_law_1347 dL_law_1349 (by decide) dL_law_1350 dL_law_1351 ?_
  refine g_sarg (i := i) (n := 2) 0 4 rfl rfl (by omega) hL dL_law_1352 dL_law_1353 dL_law_1355 (by decide) dL_law_1356 dL_law_1357 ?_
  refine g_sarg (i := i) (n := 3) 0 4 rfl rfl (by omega) hL dL_law_1358 dL_law_1359 dL_law_1361 (by decide) dL_law_1362 dL_law_1363 ?_
  refine g_callV (As := [.int (xs (i + 1)), .int (xs (i + 2)), .int (xs (i + 3))]) (st := []) (n := 3) 0 (c_X12_dayFor E M (xs (i + 1)) (xs (i + 2)) (xs (i + 3)) hs.1) mt_X12_dayFor ml_L_156 dF_Wd rfl rfl sg_X12_dayFor rfl ⟨by decide, by decide, (by show cs ≤ 601024; omega), (by show ss ≤ 7293034; omega)⟩ (Nat.le_of_ble_eq_true rfl) dL_law_1364 ?_
  intro r9 N9 hq9
  rw [hq9.1, hq9.2]
  clear hq9 r9 N9
  refine g_pop dL_law_1367 rfl ?_
  refine g_aload_n 2 dL_law_1368 rfl ?_
  refine g_sarg (i := i) (n := 1) 0 4 rfl rfl (by omega) hL dL_law_1369 dL_law_1370 dL_law_1372 (by decide) dL_law_1373 dL_law_1374 ?_
  refine g_sarg (i := i) (n := 2) 0 4 rfl rfl (by omega) hL dL_law_1375 dL_law_1376 dL_law_1378 (by decide) dL_law_1379 dL_law_1380 ?_
  refine g_sarg (i := i) (n := 3) 0 4 rfl rfl (by omega) hL dL_law_1381 dL_law_1382 dL_law_1384 (by decide) dL_law_1385 dL_law_1386 ?_
  refine g_callV (As := [.int (xs (i + 1)), .int (xs (i + 2)), .int (xs (i + 3))]) (st := []) (n := 3) 226 (c_X13_dayFor E ((f_X12_dayFor M (xs (i + 1)) (xs (i + 2)) (xs (i + 3))).2) (xs (i + 1)) (xs (i + 2)) (xs (i + 3)) hs.2.1) mt_X13_dayFor ml_L_159 dF_Md rfl rfl sg_X13_dayFor rfl ⟨by decide, by decide, (by show cs ≤ 601024; omega), (by show ss ≤ 7293034; omega)⟩ (Nat.le_of_ble_eq_true rfl) dL_law_1387 ?_
  intro r9 N9 hq9
  rw [hq9.1, hq9.2]
  clear hq9 r9 N9
  refine g_pop dL_law_1390 rfl ?_
  refine g_goto 1690 dL_law_1391 (by decide) ?_
  exact (nx _ _ _ (Nat.le_succ _) (by omega) hs.2.2)
set_option maxRecDepth 100000 in
set_option maxHeartbeats 4000000 in
theorem tL_32 {E : gE} {b L i cs ss : Nat} {xs : Nat → Int32} {M : gM} {K : gM → Prop} (hL : L < 2 ^ 31) (hi : i + 5 < L) (hc : cs + 1 ≤ 601024) (hm : ss + 6 ≤ 7293034) (nx : ∀ (k n : Nat) (N : gM), k ≤ cs + 1 → n ≤ ss + 6 → K N → gK E RL code 7 ret room_1 (gSL E b L xs) lw_Z k n 1690 (lvL E b i) [] N) (hs : sL_32 M (xs (i + 1)) (xs (i + 2)) (xs (i + 3)) (xs (i + 4)) (xs (i + 5)) K) : gK E RL code 7 ret room_1 (gSL E b L xs) lw_Z cs ss 1394 (lvL E b i) [] M := by
  unfold sL_32 at hs
  refine g_aload_n 1 dL_law_1394 rfl ?_
  refine g_sarg (i := i) (n := 1) 0 4 rfl rfl (by omega) hL dL_law_1395 dL_law_1396 dL_law_1398 (by decide) dL_law_1399 dL_law_1400 ?_
  refine g_callV (As := [.int (xs (i + 1))]) (st := []) (n := 1) 0 (c_X12_margin E M (xs (i + 1)) hs.1) mt_X12_margin ml_L_160 dF_Wd rfl rfl sg_X12_margin rfl ⟨by decide, by decide, (by show cs ≤ 601024; omega), (by show ss ≤ 7293034; omega)⟩ (Nat.le_of_ble_eq_true rfl) dL_law_1401 ?_
  intro r9 N9 hq9
  rw [hq9.1, hq9.2]
  clear hq9 r9 N9
  refine g_pop dL_law_1404 rfl ?_
  refine g_aload_n 2 dL_law_1405 rfl ?_
  refine g_sarg (i := i) (n := 1) 0 4 rfl rfl (by omega) hL dL_law_1406 dL_law_1407 dL_law_1409 (by decide) dL_law_1410 dL_law_1411 ?_
  refine g_callV (As := [.int (xs (i + 1))]) (st := []) (n := 1) 226 (c_X13_margin E M (xs (i + 1)) hs.2.1) mt_X13_margin ml_L_163 dF_Md rfl rfl sg_X13_margin rfl ⟨by decide, by decide, (by show cs ≤ 601024; omega), (by show ss ≤ 7293034; omega)⟩ (Nat.le_of_ble_eq_true rfl) dL_law_1412 ?_
  intro r9 N9 hq9
  rw [hq9.1, hq9.2]
  clear hq9 r9 N9
  refine g_pop dL_law_1415 rfl ?_
  refine g_goto 1690 dL_law_1416 (by decide) ?_
  exact (nx _ _ _ (Nat.le_succ _) (by omega) hs.2.2)
set_option maxRecDepth 100000 in
set_option maxHeartbeats 4000000 in
theorem tL_33 {E : gE} {b L i cs ss : Nat} {xs : Nat → Int32} {M : gM} {K : gM → Prop} (hL : L < 2 ^ 31) (hi : i + 5 < L) (hc : cs + 1 ≤ 601024) (hm : ss + 6 ≤ 7293034) (nx : ∀ (k n : Nat) (N : gM), k ≤ cs + 1 → n ≤ ss + 6 → K N → gK E RL code 7 ret room_1 (gSL E b L xs) lw_Z k n 1690 (lvL E b i) [] N) (hs : sL_33 M (xs (i + 1)) (xs (i + 2)) (xs (i + 3)) (xs (i + 4)) (xs (i + 5)) K) : gK E RL code 7 ret room_1 (gSL E b L xs) lw_Z cs ss 1419 (lvL E b i) [] M := by
  unfold sL_33 at hs
  refine g_aload_n 1 dL_law_1419 rfl ?_
  refine g_sarg (i := i) (n := 1) 0 4 rfl rfl (by omega) hL dL_law_1420 dL_law_1421 dL_law_1423 (by decide) dL_law_1424 dL_law_1425 ?_
  refine g_sarg (i := i) (n := 2) 0 4 rfl rfl (by omega) hL dL_law_1426 dL_law_1427 dL_law_1429 (by decide) dL_law_1430 dL_law_1431 ?_
  refine g_callV (As := [.int (xs (i + 1)), .int (xs (i + 2))]) (st := []) (n := 2) 0 (c_X12_death E M (xs (i + 1)) (xs (i + 2)) hs.1) mt_X12_death ml_L_164 dF_Wd rfl rfl sg_X12_death rfl ⟨by decide, by decide, (by show cs ≤ 601024; omega), (by show ss ≤ 7293034; omega)⟩ (Nat.le_of_ble_eq_true rfl) dL_law_1432 ?_
  intro r9 N9 hq9
  rw [hq9.1, hq9.2]
  clear hq9 r9 N9
  refine g_pop dL_law_1435 rfl ?_
  refine g_aload_n 2 dL_law_1436 rfl ?_
  refine g_sarg (i := i) (n := 1) 0 4 rfl rfl (by omega) hL dL_law_1437 dL_law_1438 dL_law_1440 (by decide) dL_law_1441 dL_law_1442 ?_
  refine g_sarg (i := i) (n := 2) 0 4 rfl rfl (by omega) hL dL_law_1443 dL_law_1444 dL_law_1446 (by decide) dL_law_1447 dL_law_1448 ?_
  refine g_callV (As := [.int (xs (i + 1)), .int (xs (i + 2))]) (st := []) (n := 2) 226 (c_X13_death E ((f_X12_death M (xs (i + 1)) (xs (i + 2))).2) (xs (i + 1)) (xs (i + 2)) hs.2.1) mt_X13_death ml_L_167 dF_Md rfl rfl sg_X13_death rfl ⟨by decide, by decide, (by show cs ≤ 601024; omega), (by show ss ≤ 7293034; omega)⟩ (Nat.le_of_ble_eq_true rfl) dL_law_1449 ?_
  intro r9 N9 hq9
  rw [hq9.1, hq9.2]
  clear hq9 r9 N9
  refine g_pop dL_law_1452 rfl ?_
  refine g_goto 1690 dL_law_1453 (by decide) ?_
  exact (nx _ _ _ (Nat.le_succ _) (by omega) hs.2.2)
set_option maxRecDepth 100000 in
set_option maxHeartbeats 4000000 in
theorem tL_34 {E : gE} {b L i cs ss : Nat} {xs : Nat → Int32} {M : gM} {K : gM → Prop} (hL : L < 2 ^ 31) (hi : i + 5 < L) (hc : cs + 1 ≤ 601024) (hm : ss + 6 ≤ 7293034) (nx : ∀ (k n : Nat) (N : gM), k ≤ cs + 1 → n ≤ ss + 6 → K N → gK E RL code 7 ret room_1 (gSL E b L xs) lw_Z k n 1690 (lvL E b i) [] N) (hs : sL_34 M (xs (i + 1)) (xs (i + 2)) (xs (i + 3)) (xs (i + 4)) (xs (i + 5)) K) : gK E RL code 7 ret room_1 (gSL E b L xs) lw_Z cs ss 1456 (lvL E b i) [] M := by
  unfold sL_34 at hs
  refine g_aload_n 1 dL_law_1456 rfl ?_
  refine g_sarg (i := i) (n := 1) 0 4 rfl rfl (by omega) hL dL_law_1457 dL_law_1458 dL_law_1460 (by decide) dL_law_1461 dL_law_1462 ?_
  refine g_sarg (i := i) (n := 2) 0 4 rfl rfl (by omega) hL dL_law_1463 dL_law_1464 dL_law_1466 (by decide) dL_law_1467 dL_law_1468 ?_
  refine g_callV (As := [.int (xs (i + 1)), .int (xs (i + 2))]) (st := []) (n := 2) 0 (c_X12_moves E M (xs (i + 1)) (xs (i + 2)) hs.1) mt_X12_moves ml_L_168 dF_Wd rfl rfl sg_X12_moves rfl ⟨by decide, by decide, (by show cs ≤ 601024; omega), (by show ss ≤ 7293034; omega)⟩ (Nat.le_of_ble_eq_true rfl) dL_law_1469 ?_
  intro r9 N9 hq9
  rw [hq9.1, hq9.2]
  clear hq9 r9 N9
  refine g_pop dL_law_1472 rfl ?_
  refine g_aload_n 2 dL_law_1473 rfl ?_
  refine g_sarg (i := i) (n := 1) 0 4 rfl rfl (by omega) hL dL_law_1474 dL_law_1475 dL_law_1477 (by decide) dL_law_1478 dL_law_1479 ?_
  refine g_sarg (i := i) (n := 2) 0 4 rfl rfl (by omega) hL dL_law_1480 dL_law_1481 dL_law_1483 (by decide) dL_law_1484 dL_law_1485 ?_
  refine g_callV (As := [.int (xs (i + 1)), .int (xs (i + 2))]) (st := []) (n := 2) 226 (c_X13_moves E ((f_X12_moves M (xs (i + 1)) (xs (i + 2))).2) (xs (i + 1)) (xs (i + 2)) hs.2.1) mt_X13_moves ml_L_171 dF_Md rfl rfl sg_X13_moves rfl ⟨by decide, by decide, (by show cs ≤ 601024; omega), (by show ss ≤ 7293034; omega)⟩ (Nat.le_of_ble_eq_true rfl) dL_law_1486 ?_
  intro r9 N9 hq9
  rw [hq9.1, hq9.2]
  clear hq9 r9 N9
  refine g_pop dL_law_1489 rfl ?_
  refine g_goto 1690 dL_law_1490 (by decide) ?_
  exact (nx _ _ _ (Nat.le_succ _) (by omega) hs.2.2)
set_option maxRecDepth 100000 in
set_option maxHeartbeats 4000000 in
theorem tL_35 {E : gE} {b L i cs ss : Nat} {xs : Nat → Int32} {M : gM} {K : gM → Prop} (hL : L < 2 ^ 31) (hi : i + 5 < L) (hc : cs + 1 ≤ 601024) (hm : ss + 6 ≤ 7293034) (nx : ∀ (k n : Nat) (N : gM), k ≤ cs + 1 → n ≤ ss + 6 → K N → gK E RL code 7 ret room_1 (gSL E b L xs) lw_Z k n 1690 (lvL E b i) [] N) (hs : sL_35 M (xs (i + 1)) (xs (i + 2)) (xs (i + 3)) (xs (i + 4)) (xs (i + 5)) K) : gK E RL code 7 ret room_1 (gSL E b L xs) lw_Z cs ss 1493 (lvL E b i) [] M := by
  unfold sL_35 at hs
  refine g_aload_n 1 dL_law_1493 rfl ?_
  refine g_sarg (i := i) (n := 1) 0 4 rfl rfl (by omega) hL dL_law_1494 dL_law_1495 dL_law_1497 (by decide) dL_law_1498 dL_law_1499 ?_
  refine g_sarg (i := i) (n := 2) 0 4 rfl rfl (by omega) hL dL_law_1500 dL_law_1501 dL_law_1503 (by decide) dL_law_1504 dL_law_1505 ?_
  refine g_callV (As := [.int (xs (i + 1)), .int (xs (i + 2))]) (st := []) (n := 2) 0 (c_X12_kin E M (xs (i + 1)) (xs (i + 2)) hs.1) mt_X12_kin ml_L_172 dF_Wd rfl rfl sg_X12_kin rfl ⟨by decide, by decide, (by show cs ≤ 601024; omega), (by show ss ≤ 7293034; omega)⟩ (Nat.le_of_ble_eq_true rfl) dL_law_1506 ?_
  intro r9 N9 hq9
  rw [hq9.1, hq9.2]
  clear hq9 r9 N9
  refine g_pop dL_law_1509 rfl ?_
  refine g_aload_n 2 dL_law_1510 rfl ?_
  refine g_sarg (i := i) (n := 1) 0 4 rfl rfl (by omega) hL dL_law_1511 dL_law_1512 dL_law_1514 (by decide) dL_law_1515 dL_law_1516 ?_
  refine g_sarg (i := i) (n := 2) 0 4 rfl rfl (by omega) hL dL_law_1517 dL_law_1518 dL_law_1520 (by decide) dL_law_1521 dL_law_1522 ?_
  refine g_callV (As := [.int (xs (i + 1)), .int (xs (i + 2))]) (st := []) (n := 2) 226 (c_X13_kin E M (xs (i + 1)) (xs (i + 2)) hs.2.1) mt_X13_kin ml_L_175 dF_Md rfl rfl sg_X13_kin rfl ⟨by decide, by decide, (by show cs ≤ 601024; omega), (by show ss ≤ 7293034; omega)⟩ (Nat.le_of_ble_eq_true rfl) dL_law_1523 ?_
  intro r9 N9 hq9
  rw [hq9.1, hq9.2]
  clear hq9 r9 N9
  refine g_pop dL_law_1526 rfl ?_
  refine g_goto 1690 dL_law_1527 (by decide) ?_
  exact (nx _ _ _ (Nat.le_succ _) (by omega) hs.2.2)
set_option maxRecDepth 100000 in
set_option maxHeartbeats 4000000 in
theorem tL_36 {E : gE} {b L i cs ss : Nat} {xs : Nat → Int32} {M : gM} {K : gM → Prop} (hL : L < 2 ^ 31) (hi : i + 5 < L) (hc : cs + 1 ≤ 601024) (hm : ss + 6 ≤ 7293034) (nx : ∀ (k n : Nat) (N : gM), k ≤ cs + 1 → n ≤ ss + 6 → K N → gK E RL code 7 ret room_1 (gSL E b L xs) lw_Z k n 1690 (lvL E b i) [] N) (hs : sL_36 M (xs (i + 1)) (xs (i + 2)) (xs (i + 3)) (xs (i + 4)) (xs (i + 5)) K) : gK E RL code 7 ret room_1 (gSL E b L xs) lw_Z cs ss 1530 (lvL E b i) [] M := by
  unfold sL_36 at hs
  refine g_aload_n 1 dL_law_1530 rfl ?_
  refine g_sarg (i := i) (n := 1) 0 4 rfl rfl (by omega) hL dL_law_1531 dL_law_1532 dL_law_1534 (by decide) dL_law_1535 dL_law_1536 ?_
  refine g_sarg (i := i) (n := 2) 0 4 rfl rfl (by omega) hL dL_law_1537 dL_law_1538 dL_law_1540 (by decide) dL_law_1541 dL_law_1542 ?_
  refine g_callV (As := [.int (xs (i + 1)), .int (xs (i + 2))]) (st := []) (n := 2) 0 (c_X12_naming E M (xs (i + 1)) (xs (i + 2)) hs.1) mt_X12_naming ml_L_176 dF_Wd rfl rfl sg_X12_naming rfl ⟨by decide, by decide, (by show cs ≤ 601024; omega), (by show ss ≤ 7293034; omega)⟩ (Nat.le_of_ble_eq_true rfl) dL_law_1543 ?_
  intro r9 N9 hq9
  rw [hq9.1, hq9.2]
  clear hq9 r9 N9
  refine g_pop dL_law_1546 rfl ?_
  refine g_aload_n 2 dL_law_1547 rfl ?_
  refine g_sarg (i := i) (n := 1) 0 4 rfl rfl (by omega) hL dL_law_1548 dL_law_1549 dL_law_1551 (by decide) dL_law_1552 dL_law_1553 ?_
  refine g_sarg (i := i) (n := 2) 0 4 rfl rfl (by omega) hL dL_law_1554 dL_law_1555 dL_law_1557 (by decide) dL_law_1558 dL_law_1559 ?_
  refine g_callV (As := [.int (xs (i + 1)), .int (xs (i + 2))]) (st := []) (n := 2) 226 (c_X13_naming E M (xs (i + 1)) (xs (i + 2)) hs.2.1) mt_X13_naming ml_L_179 dF_Md rfl rfl sg_X13_naming rfl ⟨by decide, by decide, (by show cs ≤ 601024; omega), (by show ss ≤ 7293034; omega)⟩ (Nat.le_of_ble_eq_true rfl) dL_law_1560 ?_
  intro r9 N9 hq9
  rw [hq9.1, hq9.2]
  clear hq9 r9 N9
  refine g_pop dL_law_1563 rfl ?_
  refine g_goto 1690 dL_law_1564 (by decide) ?_
  exact (nx _ _ _ (Nat.le_succ _) (by omega) hs.2.2)
set_option maxRecDepth 100000 in
set_option maxHeartbeats 4000000 in
theorem tL_37 {E : gE} {b L i cs ss : Nat} {xs : Nat → Int32} {M : gM} {K : gM → Prop} (hL : L < 2 ^ 31) (hi : i + 5 < L) (hc : cs + 1 ≤ 601024) (hm : ss + 6 ≤ 7293034) (nx : ∀ (k n : Nat) (N : gM), k ≤ cs + 1 → n ≤ ss + 6 → K N → gK E RL code 7 ret room_1 (gSL E b L xs) lw_Z k n 1690 (lvL E b i) [] N) (hs : sL_37 M (xs (i + 1)) (xs (i + 2)) (xs (i + 3)) (xs (i + 4)) (xs (i + 5)) K) : gK E RL code 7 ret room_1 (gSL E b L xs) lw_Z cs ss 1567 (lvL E b i) [] M := by
  unfold sL_37 at hs
  refine g_aload_n 1 dL_law_1567 rfl ?_
  refine g_sarg (i := i) (n := 1) 0 4 rfl rfl (by omega) hL dL_law_1568 dL_law_1569 dL_law_1571 (by decide) dL_law_1572 dL_law_1573 ?_
  refine g_sarg (i := i) (n := 2) 0 4 rfl rfl (by omega) hL dL_law_1574 dL_law_1575 dL_law_1577 (by decide) dL_law_1578 dL_law_1579 ?_
  refine g_sarg (i := i) (n := 3) 0 4 rfl rfl (by omega) hL dL_law_1580 dL_law_1581 dL_law_1583 (by decide) dL_law_1584 dL_law_1585 ?_
  refine g_callV (As := [.int (xs (i + 1)), .int (xs (i + 2)), .int (xs (i + 3))]) (st := []) (n := 3) 0 (c_X12_sees E M (xs (i + 1)) (xs (i + 2)) (xs (i + 3)) hs.1) mt_X12_sees ml_L_180 dF_Wd rfl rfl sg_X12_sees rfl ⟨by decide, by decide, (by show cs ≤ 601024; omega), (by show ss ≤ 7293034; omega)⟩ (Nat.le_of_ble_eq_true rfl) dL_law_1586 ?_
  intro r9 N9 hq9
  rw [hq9.1, hq9.2]
  clear hq9 r9 N9
  refine g_pop dL_law_1589 rfl ?_
  refine g_aload_n 2 dL_law_1590 rfl ?_
  refine g_sarg (i := i) (n := 1) 0 4 rfl rfl (by omega) hL dL_law_1591 dL_law_1592 dL_law_1594 (by decide) dL_law_1595 dL_law_1596 ?_
  refine g_sarg (i := i) (n := 2) 0 4 rfl rfl (by omega) hL dL_law_1597 dL_law_1598 dL_law_1600 (by decide) dL_law_1601 dL_law_1602 ?_
  refine g_sarg (i := i) (n := 3) 0 4 rfl rfl (by omega) hL dL_law_1603 dL_law_1604 dL_law_1606 (by decide) dL_law_1607 dL_law_1608 ?_
  refine g_callV (As := [.int (xs (i + 1)), .int (xs (i + 2)), .int (xs (i + 3))]) (st := []) (n := 3) 226 (c_X13_sees E M (xs (i + 1)) (xs (i + 2)) (xs (i + 3)) hs.2.1) mt_X13_sees ml_L_183 dF_Md rfl rfl sg_X13_sees rfl ⟨by decide, by decide, (by show cs ≤ 601024; omega), (by show ss ≤ 7293034; omega)⟩ (Nat.le_of_ble_eq_true rfl) dL_law_1609 ?_
  intro r9 N9 hq9
  rw [hq9.1, hq9.2]
  clear hq9 r9 N9
  refine g_pop dL_law_1612 rfl ?_
  refine g_goto 1690 dL_law_1613 (by decide) ?_
  exact (nx _ _ _ (Nat.le_succ _) (by omega) hs.2.2)
set_option maxRecDepth 100000 in
set_option maxHeartbeats 4000000 in
theorem tL_38 {E : gE} {b L i cs ss : Nat} {xs : Nat → Int32} {M : gM} {K : gM → Prop} (hL : L < 2 ^ 31) (hi : i + 5 < L) (hc : cs + 1 ≤ 601024) (hm : ss + 6 ≤ 7293034) (nx : ∀ (k n : Nat) (N : gM), k ≤ cs + 1 → n ≤ ss + 6 → K N → gK E RL code 7 ret room_1 (gSL E b L xs) lw_Z k n 1690 (lvL E b i) [] N) (hs : sL_38 M (xs (i + 1)) (xs (i + 2)) (xs (i + 3)) (xs (i + 4)) (xs (i + 5)) K) : gK E RL code 7 ret room_1 (gSL E b L xs) lw_Z cs ss 1616 (lvL E b i) [] M := by
  unfold sL_38 at hs
  refine g_aload_n 1 dL_law_1616 rfl ?_
  refine g_sarg (i := i) (n := 1) 0 4 rfl rfl (by omega) hL dL_law_1617 dL_law_1618 dL_law_1620 (by decide) dL_law_1621 dL_law_1622 ?_
  refine g_sarg (i := i) (n := 2) 0 4 rfl rfl (by omega) hL dL_law_1623 dL_law_1624 dL_law_1626 (by decide) dL_law_1627 dL_law_1628 ?_
  refine g_sarg (i := i) (n := 3) 0 4 rfl rfl (by omega) hL dL_law_1629 dL_law_1630 dL_law_1632 (by decide) dL_law_1633 dL_law_1634 ?_
  refine g_callV (As := [.int (xs (i + 1)), .int (xs (i + 2)), .int (xs (i + 3))]) (st := []) (n := 3) 0 (c_X12_give E M (xs (i + 1)) (xs (i + 2)) (xs (i + 3)) hs.1) mt_X12_give ml_L_184 dF_Wd rfl rfl sg_X12_give rfl ⟨by decide, by decide, (by show cs ≤ 601024; omega), (by show ss ≤ 7293034; omega)⟩ (Nat.le_of_ble_eq_true rfl) dL_law_1635 ?_
  intro r9 N9 hq9
  rw [hq9.1, hq9.2]
  clear hq9 r9 N9
  refine g_pop dL_law_1638 rfl ?_
  refine g_aload_n 2 dL_law_1639 rfl ?_
  refine g_sarg (i := i) (n := 1) 0 4 rfl rfl (by omega) hL dL_law_1640 dL_law_1641 dL_law_1643 (by decide) dL_law_1644 dL_law_1645 ?_
  refine g_sarg (i := i) (n := 2) 0 4 rfl rfl (by omega) hL dL_law_1646 dL_law_1647 dL_law_1649 (by decide) dL_law_1650 dL_law_1651 ?_
  refine g_sarg (i := i) (n := 3) 0 4 rfl rfl (by omega) hL dL_law_1652 dL_law_1653 dL_law_1655 (by decide) dL_law_1656 dL_law_1657 ?_
  refine g_callV (As := [.int (xs (i + 1)), .int (xs (i + 2)), .int (xs (i + 3))]) (st := []) (n := 3) 226 (c_X13_give E M (xs (i + 1)) (xs (i + 2)) (xs (i + 3)) hs.2.1) mt_X13_give ml_L_187 dF_Md rfl rfl sg_X13_give rfl ⟨by decide, by decide, (by show cs ≤ 601024; omega), (by show ss ≤ 7293034; omega)⟩ (Nat.le_of_ble_eq_true rfl) dL_law_1658 ?_
  intro r9 N9 hq9
  rw [hq9.1, hq9.2]
  clear hq9 r9 N9
  refine g_pop dL_law_1661 rfl ?_
  refine g_goto 1690 dL_law_1662 (by decide) ?_
  exact (nx _ _ _ (Nat.le_succ _) (by omega) hs.2.2)
set_option maxRecDepth 100000 in
set_option maxHeartbeats 4000000 in
theorem tL_39 {E : gE} {b L i cs ss : Nat} {xs : Nat → Int32} {M : gM} {K : gM → Prop} (hL : L < 2 ^ 31) (hi : i + 5 < L) (hc : cs + 1 ≤ 601024) (hm : ss + 6 ≤ 7293034) (nx : ∀ (k n : Nat) (N : gM), k ≤ cs + 1 → n ≤ ss + 6 → K N → gK E RL code 7 ret room_1 (gSL E b L xs) lw_Z k n 1690 (lvL E b i) [] N) (hs : sL_39 M (xs (i + 1)) (xs (i + 2)) (xs (i + 3)) (xs (i + 4)) (xs (i + 5)) K) : gK E RL code 7 ret room_1 (gSL E b L xs) lw_Z cs ss 1665 (lvL E b i) [] M := by
  unfold sL_39 at hs
  refine g_aload_n 1 dL_law_1665 rfl ?_
  refine g_sarg (i := i) (n := 1) 0 4 rfl rfl (by omega) hL dL_law_1666 dL_law_1667 dL_law_1669 (by decide) dL_law_1670 dL_law_1671 ?_
  refine g_callV (As := [.int (xs (i + 1))]) (st := []) (n := 1) 0 (c_X12_count E M (xs (i + 1)) hs.1) mt_X12_count ml_L_188 dF_Wd rfl rfl sg_X12_count rfl ⟨by decide, by decide, (by show cs ≤ 601024; omega), (by show ss ≤ 7293034; omega)⟩ (Nat.le_of_ble_eq_true rfl) dL_law_1672 ?_
  intro r9 N9 hq9
  rw [hq9.1, hq9.2]
  clear hq9 r9 N9
  refine g_pop dL_law_1675 rfl ?_
  refine g_aload_n 2 dL_law_1676 rfl ?_
  refine g_sarg (i := i) (n := 1) 0 4 rfl rfl (by omega) hL dL_law_1677 dL_law_1678 dL_law_1680 (by decide) dL_law_1681 dL_law_1682 ?_
  refine g_callV (As := [.int (xs (i + 1))]) (st := []) (n := 1) 226 (c_X13_count E M (xs (i + 1)) hs.2.1) mt_X13_count ml_L_191 dF_Md rfl rfl sg_X13_count rfl ⟨by decide, by decide, (by show cs ≤ 601024; omega), (by show ss ≤ 7293034; omega)⟩ (Nat.le_of_ble_eq_true rfl) dL_law_1683 ?_
  intro r9 N9 hq9
  rw [hq9.1, hq9.2]
  clear hq9 r9 N9
  refine g_pop dL_law_1686 rfl ?_
  refine g_goto 1690 dL_law_1687 (by decide) ?_
  exact (nx _ _ _ (Nat.le_succ _) (by omega) hs.2.2)
/-- one call of the script -/
def stepL (M : gM) (x a b c d e : Int32) (K : gM → Prop) : Prop :=
  (x = 0 → sL_0 M a b c d e K) ∧
  (x = 1 → sL_1 M a b c d e K) ∧
  (x = 2 → sL_2 M a b c d e K) ∧
  (x = 3 → sL_3 M a b c d e K) ∧
  (x = 4 → sL_4 M a b c d e K) ∧
  (x = 5 → sL_5 M a b c d e K) ∧
  (x = 6 → sL_6 M a b c d e K) ∧
  (x = 7 → sL_7 M a b c d e K) ∧
  (x = 8 → sL_8 M a b c d e K) ∧
  (x = 9 → sL_9 M a b c d e K) ∧
  (x = 10 → sL_10 M a b c d e K) ∧
  (x = 11 → sL_11 M a b c d e K) ∧
  (x = 12 → sL_12 M a b c d e K) ∧
  (x = 13 → sL_13 M a b c d e K) ∧
  (x = 14 → sL_14 M a b c d e K) ∧
  (x = 15 → sL_15 M a b c d e K) ∧
  (x = 16 → sL_16 M a b c d e K) ∧
  (x = 17 → sL_17 M a b c d e K) ∧
  (x = 18 → sL_18 M a b c d e K) ∧
  (x = 19 → sL_19 M a b c d e K) ∧
  (x = 20 → sL_20 M a b c d e K) ∧
  (x = 21 → sL_21 M a b c d e K) ∧
  (x = 22 → sL_22 M a b c d e K) ∧
  (x = 23 → sL_23 M a b c d e K) ∧
  (x = 24 → sL_24 M a b c d e K) ∧
  (x = 25 → sL_25 M a b c d e K) ∧
  (x = 26 → sL_26 M a b c d e K) ∧
  (x = 27 → sL_27 M a b c d e K) ∧
  (x = 28 → sL_28 M a b c d e K) ∧
  (x = 29 → sL_29 M a b c d e K) ∧
  (x = 30 → sL_30 M a b c d e K) ∧
  (x = 31 → sL_31 M a b c d e K) ∧
  (x = 32 → sL_32 M a b c d e K) ∧
  (x = 33 → sL_33 M a b c d e K) ∧
  (x = 34 → sL_34 M a b c d e K) ∧
  (x = 35 → sL_35 M a b c d e K) ∧
  (x = 36 → sL_36 M a b c d e K) ∧
  (x = 37 → sL_37 M a b c d e K) ∧
  (x = 38 → sL_38 M a b c d e K) ∧
  (x = 39 → sL_39 M a b c d e K) ∧
  (¬ x = 0 → ¬ x = 1 → ¬ x = 2 → ¬ x = 3 → ¬ x = 4 → ¬ x = 5 → ¬ x = 6 → ¬ x = 7 → ¬ x = 8 → ¬ x = 9 → ¬ x = 10 → ¬ x = 11 → ¬ x = 12 → ¬ x = 13 → ¬ x = 14 → ¬ x = 15 → ¬ x = 16 → ¬ x = 17 → ¬ x = 18 → ¬ x = 19 → ¬ x = 20 → ¬ x = 21 → ¬ x = 22 → ¬ x = 23 → ¬ x = 24 → ¬ x = 25 → ¬ x = 26 → ¬ x = 27 → ¬ x = 28 → ¬ x = 29 → ¬ x = 30 → ¬ x = 31 → ¬ x = 32 → ¬ x = 33 → ¬ x = 34 → ¬ x = 35 → ¬ x = 36 → ¬ x = 37 → ¬ x = 38 → ¬ x = 39 → K M)
theorem and63 (x : Int32) : 0 ≤ (x &&& 63).toInt ∧ (x &&& 63).toInt ≤ 63 := by
  have h : (x &&& 63).toInt = ((x.toBitVec &&& 63#32).toInt) := rfl
  have h2 : (x.toBitVec &&& 63#32).toNat ≤ 63 := by
    rw [BitVec.toNat_and]
    exact Nat.and_le_right
  rw [h, BitVec.toInt_eq_toNat_of_lt (by omega)]
  omega
set_option maxRecDepth 100000 in
set_option maxHeartbeats 4000000 in
theorem tL_all {E : gE} {b L i cs ss : Nat} {xs : Nat → Int32} {M : gM} {K : gM → Prop} (hL : L < 2 ^ 31) (hi : i + 5 < L) (hc : cs + 1 ≤ 601024) (hm : ss + 6 ≤ 7293034) (nx : ∀ (k n : Nat) (N : gM), k ≤ cs + 1 → n ≤ ss + 6 → K N → gK E RL code 7 ret room_1 (gSL E b L xs) lw_Z k n 1690 (lvL E b i) [] N) {x y : Int32} (hx : y = x) (hb : 0 ≤ x.toInt ∧ x.toInt ≤ 63) (hs : stepL M x (xs (i + 1)) (xs (i + 2)) (xs (i + 3)) (xs (i + 4)) (xs (i + 5)) K) : gK E RL code 7 ret room_1 (gSL E b L xs) lw_Z cs ss 40 (lvL E b i) [.int y] M := by
  unfold stepL at hs
  by_cases e0 : x = 0
  · exact g_tsIn (k := 0) (off := 176) 216 (hx.trans e0) dL_law_40 (by decide) (by decide) (by decide) (by decide) (tL_0 hL hi hc hm nx (hs.1 e0))
  by_cases e1 : x = 1
  · exact g_tsIn (k := 1) (off := 249) 289 (hx.trans e1) dL_law_40 (by decide) (by decide) (by decide) (by decide) (tL_1 hL hi hc hm nx (hs.2.1 e1))
  by_cases e2 : x = 2
  · exact g_tsIn (k := 2) (off := 274) 314 (hx.trans e2) dL_law_40 (by decide) (by decide) (by decide) (by decide) (tL_2 hL hi hc hm nx (hs.2.2.1 e2))
  by_cases e3 : x = 3
  · exact g_tsIn (k := 3) (off := 299) 339 (hx.trans e3) dL_law_40 (by decide) (by decide) (by decide) (by decide) (tL_3 hL hi hc hm nx (hs.2.2.2.1 e3))
  by_cases e4 : x = 4
  · exact g_tsIn (k := 4) (off := 339) 379 (hx.trans e4) dL_law_40 (by decide) (by decide) (by decide) (by decide) (tL_4 hL hi hc hm nx (hs.2.2.2.2.1 e4))
  by_cases e5 : x = 5
  · exact g_tsIn (k := 5) (off := 379) 419 (hx.trans e5) dL_law_40 (by decide) (by decide) (by decide) (by decide) (tL_5 hL hi hc hm nx (hs.2.2.2.2.2.1 e5))
  by_cases e6 : x = 6
  · exact g_tsIn (k := 6) (off := 416) 456 (hx.trans e6) dL_law_40 (by decide) (by decide) (by decide) (by decide) (tL_6 hL hi hc hm nx (hs.2.2.2.2.2.2.1 e6))
  by_cases e7 : x = 7
  · exact g_tsIn (k := 7) (off := 453) 493 (hx.trans e7) dL_law_40 (by decide) (by decide) (by decide) (by decide) (tL_7 hL hi hc hm nx (hs.2.2.2.2.2.2.2.1 e7))
  by_cases e8 : x = 8
  · exact g_tsIn (k := 8) (off := 490) 530 (hx.trans e8) dL_law_40 (by decide) (by decide) (by decide) (by decide) (tL_8 hL hi hc hm nx (hs.2.2.2.2.2.2.2.2.1 e8))
  by_cases e9 : x = 9
  · exact g_tsIn (k := 9) (off := 515) 555 (hx.trans e9) dL_law_40 (by decide) (by decide) (by decide) (by decide) (tL_9 hL hi hc hm nx (hs.2.2.2.2.2.2.2.2.2.1 e9))
  by_cases e10 : x = 10
  · exact g_tsIn (k := 10) (off := 540) 580 (hx.trans e10) dL_law_40 (by decide) (by decide) (by decide) (by decide) (tL_10 hL hi hc hm nx (hs.2.2.2.2.2.2.2.2.2.2.1 e10))
  by_cases e11 : x = 11
  · exact g_tsIn (k := 11) (off := 577) 617 (hx.trans e11) dL_law_40 (by decide) (by decide) (by decide) (by decide) (tL_11 hL hi hc hm nx (hs.2.2.2.2.2.2.2.2.2.2.2.1 e11))
  by_cases e12 : x = 12
  · exact g_tsIn (k := 12) (off := 626) 666 (hx.trans e12) dL_law_40 (by decide) (by decide) (by decide) (by decide) (tL_12 hL hi hc hm nx (hs.2.2.2.2.2.2.2.2.2.2.2.2.1 e12))
  by_cases e13 : x = 13
  · exact g_tsIn (k := 13) (off := 663) 703 (hx.trans e13) dL_law_40 (by decide) (by decide) (by decide) (by decide) (tL_13 hL hi hc hm nx (hs.2.2.2.2.2.2.2.2.2.2.2.2.2.1 e13))
  by_cases e14 : x = 14
  · exact g_tsIn (k := 14) (off := 688) 728 (hx.trans e14) dL_law_40 (by decide) (by decide) (by decide) (by decide) (tL_14 hL hi hc hm nx (hs.2.2.2.2.2.2.2.2.2.2.2.2.2.2.1 e14))
  by_cases e15 : x = 15
  · exact g_tsIn (k := 15) (off := 701) 741 (hx.trans e15) dL_law_40 (by decide) (by decide) (by decide) (by decide) (tL_15 hL hi hc hm nx (hs.2.2.2.2.2.2.2.2.2.2.2.2.2.2.2.1 e15))
  by_cases e16 : x = 16
  · exact g_tsIn (k := 16) (off := 738) 778 (hx.trans e16) dL_law_40 (by decide) (by decide) (by decide) (by decide) (tL_16 hL hi hc hm nx (hs.2.2.2.2.2.2.2.2.2.2.2.2.2.2.2.2.1 e16))
  by_cases e17 : x = 17
  · exact g_tsIn (k := 17) (off := 775) 815 (hx.trans e17) dL_law_40 (by decide) (by decide) (by decide) (by decide) (tL_17 hL hi hc hm nx (hs.2.2.2.2.2.2.2.2.2.2.2.2.2.2.2.2.2.1 e17))
  by_cases e18 : x = 18
  · exact g_tsIn (k := 18) (off := 812) 852 (hx.trans e18) dL_law_40 (by decide) (by decide) (by decide) (by decide) (tL_18 hL hi hc hm nx (hs.2.2.2.2.2.2.2.2.2.2.2.2.2.2.2.2.2.2.1 e18))
  by_cases e19 : x = 19
  · exact g_tsIn (k := 19) (off := 861) 901 (hx.trans e19) dL_law_40 (by decide) (by decide) (by decide) (by decide) (tL_19 hL hi hc hm nx (hs.2.2.2.2.2.2.2.2.2.2.2.2.2.2.2.2.2.2.2.1 e19))
  by_cases e20 : x = 20
  · exact g_tsIn (k := 20) (off := 898) 938 (hx.trans e20) dL_law_40 (by decide) (by decide) (by decide) (by decide) (tL_20 hL hi hc hm nx (hs.2.2.2.2.2.2.2.2.2.2.2.2.2.2.2.2.2.2.2.2.1 e20))
  by_cases e21 : x = 21
  · exact g_tsIn (k := 21) (off := 935) 975 (hx.trans e21) dL_law_40 (by decide) (by decide) (by decide) (by decide) (tL_21 hL hi hc hm nx (hs.2.2.2.2.2.2.2.2.2.2.2.2.2.2.2.2.2.2.2.2.2.1 e21))
  by_cases e22 : x = 22
  · exact g_tsIn (k := 22) (off := 960) 1000 (hx.trans e22) dL_law_40 (by decide) (by decide) (by decide) (by decide) (tL_22 hL hi hc hm nx (hs.2.2.2.2.2.2.2.2.2.2.2.2.2.2.2.2.2.2.2.2.2.2.1 e22))
  by_cases e23 : x = 23
  · exact g_tsIn (k := 23) (off := 1021) 1061 (hx.trans e23) dL_law_40 (by decide) (by decide) (by decide) (by decide) (tL_23 hL hi hc hm nx (hs.2.2.2.2.2.2.2.2.2.2.2.2.2.2.2.2.2.2.2.2.2.2.2.1 e23))
  by_cases e24 : x = 24
  · exact g_tsIn (k := 24) (off := 1058) 1098 (hx.trans e24) dL_law_40 (by decide) (by decide) (by decide) (by decide) (tL_24 hL hi hc hm nx (hs.2.2.2.2.2.2.2.2.2.2.2.2.2.2.2.2.2.2.2.2.2.2.2.2.1 e24))
  by_cases e25 : x = 25
  · exact g_tsIn (k := 25) (off := 1083) 1123 (hx.trans e25) dL_law_40 (by decide) (by decide) (by decide) (by decide) (tL_25 hL hi hc hm nx (hs.2.2.2.2.2.2.2.2.2.2.2.2.2.2.2.2.2.2.2.2.2.2.2.2.2.1 e25))
  by_cases e26 : x = 26
  · exact g_tsIn (k := 26) (off := 1108) 1148 (hx.trans e26) dL_law_40 (by decide) (by decide) (by decide) (by decide) (tL_26 hL hi hc hm nx (hs.2.2.2.2.2.2.2.2.2.2.2.2.2.2.2.2.2.2.2.2.2.2.2.2.2.2.1 e26))
  by_cases e27 : x = 27
  · exact g_tsIn (k := 27) (off := 1145) 1185 (hx.trans e27) dL_law_40 (by decide) (by decide) (by decide) (by decide) (tL_27 hL hi hc hm nx (hs.2.2.2.2.2.2.2.2.2.2.2.2.2.2.2.2.2.2.2.2.2.2.2.2.2.2.2.1 e27))
  by_cases e28 : x = 28
  · exact g_tsIn (k := 28) (off := 1182) 1222 (hx.trans e28) dL_law_40 (by decide) (by decide) (by decide) (by decide) (tL_28 hL hi hc hm nx (hs.2.2.2.2.2.2.2.2.2.2.2.2.2.2.2.2.2.2.2.2.2.2.2.2.2.2.2.2.1 e28))
  by_cases e29 : x = 29
  · exact g_tsIn (k := 29) (off := 1207) 1247 (hx.trans e29) dL_law_40 (by decide) (by decide) (by decide) (by decide) (tL_29 hL hi hc hm nx (hs.2.2.2.2.2.2.2.2.2.2.2.2.2.2.2.2.2.2.2.2.2.2.2.2.2.2.2.2.2.1 e29))
  by_cases e30 : x = 30
  · exact g_tsIn (k := 30) (off := 1256) 1296 (hx.trans e30) dL_law_40 (by decide) (by decide) (by decide) (by decide) (tL_30 hL hi hc hm nx (hs.2.2.2.2.2.2.2.2.2.2.2.2.2.2.2.2.2.2.2.2.2.2.2.2.2.2.2.2.2.2.1 e30))
  by_cases e31 : x = 31
  · exact g_tsIn (k := 31) (off := 1305) 1345 (hx.trans e31) dL_law_40 (by decide) (by decide) (by decide) (by decide) (tL_31 hL hi hc hm nx (hs.2.2.2.2.2.2.2.2.2.2.2.2.2.2.2.2.2.2.2.2.2.2.2.2.2.2.2.2.2.2.2.1 e31))
  by_cases e32 : x = 32
  · exact g_tsIn (k := 32) (off := 1354) 1394 (hx.trans e32) dL_law_40 (by decide) (by decide) (by decide) (by decide) (tL_32 hL hi hc hm nx (hs.2.2.2.2.2.2.2.2.2.2.2.2.2.2.2.2.2.2.2.2.2.2.2.2.2.2.2.2.2.2.2.2.1 e32))
  by_cases e33 : x = 33
  · exact g_tsIn (k := 33) (off := 1379) 1419 (hx.trans e33) dL_law_40 (by decide) (by decide) (by decide) (by decide) (tL_33 hL hi hc hm nx (hs.2.2.2.2.2.2.2.2.2.2.2.2.2.2.2.2.2.2.2.2.2.2.2.2.2.2.2.2.2.2.2.2.2.1 e33))
  by_cases e34 : x = 34
  · exact g_tsIn (k := 34) (off := 1416) 1456 (hx.trans e34) dL_law_40 (by decide) (by decide) (by decide) (by decide) (tL_34 hL hi hc hm nx (hs.2.2.2.2.2.2.2.2.2.2.2.2.2.2.2.2.2.2.2.2.2.2.2.2.2.2.2.2.2.2.2.2.2.2.1 e34))
  by_cases e35 : x = 35
  · exact g_tsIn (k := 35) (off := 1453) 1493 (hx.trans e35) dL_law_40 (by decide) (by decide) (by decide) (by decide) (tL_35 hL hi hc hm nx (hs.2.2.2.2.2.2.2.2.2.2.2.2.2.2.2.2.2.2.2.2.2.2.2.2.2.2.2.2.2.2.2.2.2.2.2.1 e35))
  by_cases e36 : x = 36
  · exact g_tsIn (k := 36) (off := 1490) 1530 (hx.trans e36) dL_law_40 (by decide) (by decide) (by decide) (by decide) (tL_36 hL hi hc hm nx (hs.2.2.2.2.2.2.2.2.2.2.2.2.2.2.2.2.2.2.2.2.2.2.2.2.2.2.2.2.2.2.2.2.2.2.2.2.1 e36))
  by_cases e37 : x = 37
  · exact g_tsIn (k := 37) (off := 1527) 1567 (hx.trans e37) dL_law_40 (by decide) (by decide) (by decide) (by decide) (tL_37 hL hi hc hm nx (hs.2.2.2.2.2.2.2.2.2.2.2.2.2.2.2.2.2.2.2.2.2.2.2.2.2.2.2.2.2.2.2.2.2.2.2.2.2.1 e37))
  by_cases e38 : x = 38
  · exact g_tsIn (k := 38) (off := 1576) 1616 (hx.trans e38) dL_law_40 (by decide) (by decide) (by decide) (by decide) (tL_38 hL hi hc hm nx (hs.2.2.2.2.2.2.2.2.2.2.2.2.2.2.2.2.2.2.2.2.2.2.2.2.2.2.2.2.2.2.2.2.2.2.2.2.2.2.1 e38))
  by_cases e39 : x = 39
  · exact g_tsIn (k := 39) (off := 1625) 1665 (hx.trans e39) dL_law_40 (by decide) (by decide) (by decide) (by decide) (tL_39 hL hi hc hm nx (hs.2.2.2.2.2.2.2.2.2.2.2.2.2.2.2.2.2.2.2.2.2.2.2.2.2.2.2.2.2.2.2.2.2.2.2.2.2.2.2.1 e39))
  have hbig : 39 < x.toInt := by
    rcases Int.lt_or_le 39 x.toInt with h | h
    · exact h
    · exfalso
      obtain ⟨n, hn, e⟩ : ∃ n : Nat, n < 40 ∧ x = nI n := by
        refine ⟨x.toInt.toNat, by omega, ?_⟩
        apply Int32.toInt_inj.mp
        rw [nI_toInt (by omega)]
        omega
      rcases (show n = 0 ∨ n = 1 ∨ n = 2 ∨ n = 3 ∨ n = 4 ∨ n = 5 ∨ n = 6 ∨ n = 7 ∨ n = 8 ∨ n = 9 ∨ n = 10 ∨ n = 11 ∨ n = 12 ∨ n = 13 ∨ n = 14 ∨ n = 15 ∨ n = 16 ∨ n = 17 ∨ n = 18 ∨ n = 19 ∨ n = 20 ∨ n = 21 ∨ n = 22 ∨ n = 23 ∨ n = 24 ∨ n = 25 ∨ n = 26 ∨ n = 27 ∨ n = 28 ∨ n = 29 ∨ n = 30 ∨ n = 31 ∨ n = 32 ∨ n = 33 ∨ n = 34 ∨ n = 35 ∨ n = 36 ∨ n = 37 ∨ n = 38 ∨ n = 39 by omega) with rfl | rfl | rfl | rfl | rfl | rfl | rfl | rfl | rfl | rfl | rfl | rfl | rfl | rfl | rfl | rfl | rfl | rfl | rfl | rfl | rfl | rfl | rfl | rfl | rfl | rfl | rfl | rfl | rfl | rfl | rfl | rfl | rfl | rfl | rfl | rfl | rfl | rfl | rfl | rfl
      · exact e0 e
      · exact e1 e
      · exact e2 e
      · exact e3 e
      · exact e4 e
      · exact e5 e
      · exact e6 e
      · exact e7 e
      · exact e8 e
      · exact e9 e
      · exact e10 e
      · exact e11 e
      · exact e12 e
      · exact e13 e
      · exact e14 e
      · exact e15 e
      · exact e16 e
      · exact e17 e
      · exact e18 e
      · exact e19 e
      · exact e20 e
      · exact e21 e
      · exact e22 e
      · exact e23 e
      · exact e24 e
      · exact e25 e
      · exact e26 e
      · exact e27 e
      · exact e28 e
      · exact e29 e
      · exact e30 e
      · exact e31 e
      · exact e32 e
      · exact e33 e
      · exact e34 e
      · exact e35 e
      · exact e36 e
      · exact e37 e
      · exact e38 e
      · exact e39 e
  exact g_tsOut 1690 dL_law_40 (by rw [hx]; exact Or.inr hbig) (by decide) (nx _ _ _ (Nat.le_succ _) (by omega) (hs.2.2.2.2.2.2.2.2.2.2.2.2.2.2.2.2.2.2.2.2.2.2.2.2.2.2.2.2.2.2.2.2.2.2.2.2.2.2.2.2 e0 e1 e2 e3 e4 e5 e6 e7 e8 e9 e10 e11 e12 e13 e14 e15 e16 e17 e18 e19 e20 e21 e22 e23 e24 e25 e26 e27 e28 e29 e30 e31 e32 e33 e34 e35 e36 e37 e38 e39))
set_option maxRecDepth 100000 in
set_option maxHeartbeats 4000000 in
theorem law_loop {E : gE} {b L : Nat} {xs : Nat → Int32} (hL : L < 2 ^ 30) (I : Nat → gM → Prop) (hstep : ∀ k M, 6 * k + 6 ≤ L → I k M → stepL M (xs (6 * k) &&& 63) (xs (6 * k + 1)) (xs (6 * k + 2)) (xs (6 * k + 3)) (xs (6 * k + 4)) (xs (6 * k + 5)) (I (k + 1))) :
    ∀ (n k cs ss : Nat) (M : gM), L < 6 * k + 6 * n → 6 * k ≤ L → cs + n ≤ 601024 → ss + 6 * n ≤ 7293034 → I k M → gK E RL code 7 ret room_1 (gSL E b L xs) lw_Z cs ss 23 (lvL E b (6 * k)) [] M := by
  intro n
  induction n with
  | zero => intro k cs ss M h1 h0; omega
  | succ n ih =>
    intro k cs ss M h1 h0 h2 h3 hI
    have e1 : (Int32.ofNat L).toInt = (L : Int) := nI_toInt (n := L) (by omega)
    have e6 : (6 : Int32).toInt = 6 := by decide
    have es : (Int32.ofNat L - 6).toInt = (L : Int) - 6 := by rw [fb_subI (by rw [e1, e6]; omega) (by rw [e1, e6]; omega), e1, e6]
    have ek : (nI (6 * k)).toInt = ((6 * k : Nat) : Int) := nI_toInt (by omega)
    refine g_iload 4 dL_law_23 rfl ?_
    refine g_aload_n 0 dL_law_25 rfl ?_
    refine g_slen dL_law_26 ?_
    refine g_bipush (v := 6) dL_law_27 (by decide) ?_
    refine g_isub dL_law_29 ?_
    refine g_icmp_gt 1696 dL_law_30 (by decide) (fun _ => ?_) (fun c => ?_)
    · refine g_iconst (v := 1) dL_law_1696 (by decide) ?_
      exact g_lwret (by omega) (by omega) dL_law_1697
    · have hk : 6 * k + 6 ≤ L := by
        rw [Int32.lt_iff_toInt_lt, es, ek] at c
        omega
      refine g_aload_n 0 dL_law_33 rfl ?_
      refine g_iload 4 dL_law_34 rfl ?_
      refine g_sld (vp_in_nI (by omega) (by omega)) dL_law_36 ?_
      rw [nn_nI (show 6 * k < 2 ^ 31 by omega)]
      refine g_bipush (v := 63) dL_law_37 (by decide) ?_
      refine g_iand dL_law_39 ?_
      refine tL_all (K := I (k + 1)) (by omega) (by omega) (by omega) (by omega) (fun c s N hc hs hN => ?_) rfl (and63 _) (hstep k M hk hI)
      refine g_iinc 4 (v := nI (6 * (k + 1))) [(4, .int (nI (6 * (k + 1)))), (0, .ref b), (1, .ref (gla E 0)), (2, .ref (gla E 226)), (3, .ref (gla E 240))] dL_law_1690 rfl (by show nI (6 * k) + nI 6 = _; rw [nI_add]; rfl) (by decide) rfl ?_
      refine g_goto 23 dL_law_1693 (by decide) ?_
      refine g_sub [1, 2, 3, 4, 0] (lvL E b (6 * (k + 1))) rfl ?_
      exact ih (k + 1) c s N (by omega) hk (by omega) (by omega) hN
end
