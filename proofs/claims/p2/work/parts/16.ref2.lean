set_option linter.all false
noncomputable section
def f_X13_whyNot (M : gM) (x1 : Int32) (x2 : Int32) : Int32 :=
  if (f_X13_lacks M x1 x2) = 0 then
    (if (f_X13_struck M x1 x2) = (-2) then
      (if (f_X13_isBroken M x1) = 0 then
        (0)
      else
        (6))
    else
      (5))
  else
    (f_X13_lacks M x1 x2)
def s_X13_whyNot (M : gM) (x1 : Int32) (x2 : Int32) : Prop :=
  (s_X13_lacks M x1 x2) ∧
  (if (f_X13_lacks M x1 x2) = 0 then
    ((s_X13_struck M x1 x2) ∧
    (if (f_X13_struck M x1 x2) = (-2) then
      ((s_X13_isBroken M x1) ∧
      (if (f_X13_isBroken M x1) = 0 then
        (True)
      else
        (True)))
    else
      (True)))
  else
    (True))
set_option maxRecDepth 100000 in
set_option maxHeartbeats 4000000 in
theorem t_X13_whyNot {E : gE} {K : Int32 → Prop} {Q : Option Value → gM → Prop} {M : gM} (hK : ∀ z : Int32, K z → Q (some (.int z)) M)  (x1 : Int32) (x2 : Int32)  (hs : s_X13_whyNot M x1 x2) (hQ : K (f_X13_whyNot M x1 x2)) : gG E RX13 cX13_whyNot 4 (some .int) (rm 6) 0 [(0, .ref (gla E 226)), (1, .int x1), (2, .int x2)] [] M Q := by
  rw [s_X13_whyNot] at hs
  rw [f_X13_whyNot] at hQ
  refine g_aload_n 0 dX13_whyNot_0 rfl ?_
  refine g_iload_n 1 dX13_whyNot_1 rfl ?_
  refine g_iload_n 2 dX13_whyNot_2 rfl ?_
  have h1 := hs.1; have hs := hs.2
  refine g_callV (As := [.int x1, .int x2]) (st := []) 226 (c_X13_lacks E M x1 x2 h1) mt_X13_lacks ml_X13_254 dF_Md rfl rfl sg_X13_lacks rfl (by decide) (Nat.le_of_ble_eq_true rfl) dX13_whyNot_3 ?_
  rintro _ _ ⟨q1, q2⟩; rw [q1, q2]; clear q1 q2
  refine g_istore_n _ dX13_whyNot_6 (by decide) rfl ?_
  refine g_iload_n 0 dX13_whyNot_7 rfl ?_
  refine g_if_eq 13 dX13_whyNot_8 (by decide) (fun c2 => ?_) (fun c2 => ?_)
  · have hs := ifSt hs c2; have hQ := ifQt hQ c2
    refine g_aload_n 1 dX13_whyNot_13 rfl ?_
    refine g_iload_n 2 dX13_whyNot_14 rfl ?_
    refine g_iload_n 3 dX13_whyNot_15 rfl ?_
    have h3 := hs.1; have hs := hs.2
    refine g_callV (As := [.int x1, .int x2]) (st := []) 226 (c_X13_struck E M x1 x2 h3) mt_X13_struck ml_X13_257 dF_Md rfl rfl sg_X13_struck rfl (by decide) (Nat.le_of_ble_eq_true rfl) dX13_whyNot_16 ?_
    rintro _ _ ⟨q1, q2⟩; rw [q1, q2]; clear q1 q2
    refine g_bipush (v := (-2)) dX13_whyNot_19 (by decide) ?_
    refine g_icmp_eq 28 dX13_whyNot_21 (by decide) (fun c4 => ?_) (fun c4 => ?_)
    · have hs := ifSt hs c4; have hQ := ifQt hQ c4
      refine g_aload_n 1 dX13_whyNot_28 rfl ?_
      refine g_iload_n 2 dX13_whyNot_29 rfl ?_
      have h5 := hs.1; have hs := hs.2
      refine g_callV (As := [.int x1]) (st := []) 226 (c_X13_isBroken E M x1 h5) mt_X13_isBroken ml_X13_260 dF_Md rfl rfl sg_X13_isBroken rfl (by decide) (Nat.le_of_ble_eq_true rfl) dX13_whyNot_30 ?_
      rintro _ _ ⟨q1, q2⟩; rw [q1, q2]; clear q1 q2
      refine g_if_eq 41 dX13_whyNot_33 (by decide) (fun c6 => ?_) (fun c6 => ?_)
      · have hs := ifSt hs c6; have hQ := ifQt hQ c6
        refine g_iconst (v := 0) dX13_whyNot_41 (by decide) ?_
        exact g_iret rfl dX13_whyNot_42 (hK _ hQ)
      · have hs := ifSf hs c6; have hQ := ifQf hQ c6
        refine g_bipush (v := 6) dX13_whyNot_36 (by decide) ?_
        refine g_goto 42 dX13_whyNot_38 (by decide) ?_
        exact g_iret rfl dX13_whyNot_42 (hK _ hQ)
    · have hs := ifSf hs c4; have hQ := ifQf hQ c4
      refine g_iconst (v := 5) dX13_whyNot_24 (by decide) ?_
      refine g_goto 42 dX13_whyNot_25 (by decide) ?_
      exact g_iret rfl dX13_whyNot_42 (hK _ hQ)
  · have hs := ifSf hs c2; have hQ := ifQf hQ c2
    refine g_iload_n 0 dX13_whyNot_11 rfl ?_
    exact g_iret rfl dX13_whyNot_12 (hK _ hQ)
theorem c_X13_whyNot (E : gE) (M : gM) (x1 : Int32) (x2 : Int32) (hs : s_X13_whyNot M x1 x2) : gC E yX13_whyNot cX13_whyNot 4 (some .int) (rm 6) [.ref (gla E 226), .int x1, .int x2] M (fun o N => o = some (.int (f_X13_whyNot M x1 x2)) ∧ N = M) :=
  gC.of (by decide +kernel) (Nat.le_of_ble_eq_true rfl) rfl (t_X13_whyNot (K := fun z => z = f_X13_whyNot M x1 x2) (fun z hz => by rw [hz]; exact ⟨rfl, rfl⟩) x1 x2 hs rfl)
def f_X13_struckBy_30 (M : gM)  : Int32 × gM :=
  ((-1), M)
def s_X13_struckBy_30 (M : gM)  : Prop :=
  True
theorem o_X13_struckBy_30 (M : gM)  : offW [67] M (f_X13_struckBy_30 M ).2 := by
  rw [f_X13_struckBy_30]
  exact offR
set_option maxRecDepth 100000 in
set_option maxHeartbeats 4000000 in
theorem t_X13_struckBy_30 {E : gE} {K : Int32 × gM → Prop} {Q : Option Value → gM → Prop} (hK : ∀ z : Int32 × gM, K z → Q (some (.int z.1)) z.2) (M : gM)   (hs : s_X13_struckBy_30 M ) (hQ : K (f_X13_struckBy_30 M )) : gG E RX13 cX13_struckBy 3 (some .int) (rm 6) 30 [] [] M Q := by
  rw [s_X13_struckBy_30] at hs
  rw [f_X13_struckBy_30] at hQ
  refine g_iconst (v := (-1)) dX13_struckBy_30 (by decide) ?_
  exact g_iret rfl dX13_struckBy_31 (hK _ hQ)
def f_X13_struckBy (M : gM) (x1 : Int32) (x2 : Int32) : Int32 × gM :=
  bnd (wrI M 67 0 0 0 0) fun M1 =>
  (if (f_X13_isPaper M1 x1) = 0 then
    (f_X13_struckBy_30 M1)
  else
    (if (f_X13_isThing M1 x2) = 0 then
      (f_X13_struckBy_30 M1)
    else
      ((f_X13_struck M1 x1 x2, M1))))
def s_X13_struckBy (M : gM) (x1 : Int32) (x2 : Int32) : Prop :=
  bndP (wrI M 67 0 0 0 0) fun M1 =>
  ((s_X13_isPaper M1 x1) ∧
  (if (f_X13_isPaper M1 x1) = 0 then
    (s_X13_struckBy_30 M1)
  else
    ((s_X13_isThing M1 x2) ∧
    (if (f_X13_isThing M1 x2) = 0 then
      (s_X13_struckBy_30 M1)
    else
      ((s_X13_struck M1 x1 x2) ∧
      (True))))))
theorem o_X13_struckBy (M : gM) (x1 : Int32) (x2 : Int32) : offW [67] M (f_X13_struckBy M x1 x2).2 := by
  rw [f_X13_struckBy]
  refine offB2 (offR.wI (by decide)) (fun M1 oM1 => ?_)
  refine offI2 ?_ ?_
  · exact oM1.tr (o_X13_struckBy_30 M1)
  · refine offI2 ?_ ?_
    · exact oM1.tr (o_X13_struckBy_30 M1)
    · exact oM1
set_option maxRecDepth 100000 in
set_option maxHeartbeats 4000000 in
theorem t_X13_struckBy {E : gE} {K : Int32 × gM → Prop} {Q : Option Value → gM → Prop} (hK : ∀ z : Int32 × gM, K z → Q (some (.int z.1)) z.2) (M : gM) (x1 : Int32) (x2 : Int32)  (hs : s_X13_struckBy M x1 x2) (hQ : K (f_X13_struckBy M x1 x2)) : gG E RX13 cX13_struckBy 3 (some .int) (rm 6) 0 [(0, .ref (gla E 226)), (1, .int x1), (2, .int x2)] [] M Q := by
  rw [s_X13_struckBy] at hs
  rw [f_X13_struckBy] at hQ
  refine g_aload_n 0 dX13_struckBy_0 rfl ?_
  refine g_iconst (v := 0) dX13_struckBy_1 (by decide) ?_
  refine g_putI 226 fd_X13_61 dF_Md rfl dX13_struckBy_2 (fun M1 hM1 => ?_)
  have hQ := bndQ hQ M1 hM1; have hs := bndS hs M1 hM1
  refine g_aload_n 0 dX13_struckBy_5 rfl ?_
  refine g_iload_n 1 dX13_struckBy_6 rfl ?_
  have h2 := hs.1; have hs := hs.2
  refine g_callV (As := [.int x1]) (st := []) 226 (c_X13_isPaper E M1 x1 h2) mt_X13_isPaper ml_X13_215 dF_Md rfl rfl sg_X13_isPaper rfl (by decide) (Nat.le_of_ble_eq_true rfl) dX13_struckBy_7 ?_
  rintro _ _ ⟨q1, q2⟩; rw [q1, q2]; clear q1 q2
  refine g_if_eq 30 dX13_struckBy_10 (by decide) (fun c3 => ?_) (fun c3 => ?_)
  · have hs := ifSt hs c3; have hQ := ifQt hQ c3
    refine g_sub [] _ rfl ?_
    exact t_X13_struckBy_30 hK M1 hs hQ
  · have hs := ifSf hs c3; have hQ := ifQf hQ c3
    refine g_aload_n 0 dX13_struckBy_13 rfl ?_
    refine g_iload_n 2 dX13_struckBy_14 rfl ?_
    have h4 := hs.1; have hs := hs.2
    refine g_callV (As := [.int x2]) (st := []) 226 (c_X13_isThing E M1 x2 h4) mt_X13_isThing ml_X13_221 dF_Md rfl rfl sg_X13_isThing rfl (by decide) (Nat.le_of_ble_eq_true rfl) dX13_struckBy_15 ?_
    rintro _ _ ⟨q1, q2⟩; rw [q1, q2]; clear q1 q2
    refine g_if_eq 30 dX13_struckBy_18 (by decide) (fun c5 => ?_) (fun c5 => ?_)
    · have hs := ifSt hs c5; have hQ := ifQt hQ c5
      refine g_sub [] _ rfl ?_
      exact t_X13_struckBy_30 hK M1 hs hQ
    · have hs := ifSf hs c5; have hQ := ifQf hQ c5
      refine g_aload_n 0 dX13_struckBy_21 rfl ?_
      refine g_iload_n 1 dX13_struckBy_22 rfl ?_
      refine g_iload_n 2 dX13_struckBy_23 rfl ?_
      have h6 := hs.1; have hs := hs.2
      refine g_callV (As := [.int x1, .int x2]) (st := []) 226 (c_X13_struck E M1 x1 x2 h6) mt_X13_struck ml_X13_257 dF_Md rfl rfl sg_X13_struck rfl (by decide) (Nat.le_of_ble_eq_true rfl) dX13_struckBy_24 ?_
      rintro _ _ ⟨q1, q2⟩; rw [q1, q2]; clear q1 q2
      refine g_goto 31 dX13_struckBy_27 (by decide) ?_
      exact g_iret rfl dX13_struckBy_31 (hK _ hQ)
theorem c_X13_struckBy (E : gE) (M : gM) (x1 : Int32) (x2 : Int32) (hs : s_X13_struckBy M x1 x2) : gC E yX13_struckBy cX13_struckBy 3 (some .int) (rm 6) [.ref (gla E 226), .int x1, .int x2] M (fun o N => o = some (.int (f_X13_struckBy M x1 x2).1) ∧ N = (f_X13_struckBy M x1 x2).2) :=
  gC.of (by decide +kernel) (Nat.le_of_ble_eq_true rfl) rfl (t_X13_struckBy (K := fun z => z = f_X13_struckBy M x1 x2) (fun z hz => by rw [hz]; exact ⟨rfl, rfl⟩) M x1 x2 hs rfl)
def f_X13_goOn (M : gM) : gM :=
  if (rdI M 76 0 0 0) = 0 then
    (bnd (f_X13_token M) fun M3 =>
    (M3))
  else
    (M)
def s_X13_goOn (M : gM) : Prop :=
  if (rdI M 76 0 0 0) = 0 then
    ((s_X13_token M) ∧
    (bndP (f_X13_token M) fun M3 =>
    (True)))
  else
    (True)
theorem o_X13_goOn (M : gM) : offW [71, 72, 73, 74, 75] M (f_X13_goOn M) := by
  rw [f_X13_goOn]
  refine offI ?_ ?_
  · refine offB (offR.tr ((o_X13_token M).mono (by decide))) (fun M3 oM3 => ?_)
    exact oM3
  · exact offR
set_option maxRecDepth 100000 in
set_option maxHeartbeats 4000000 in
theorem t_X13_goOn {E : gE} {K : gM → Prop} {Q : Option Value → gM → Prop} (hK : ∀ z : gM, K z → Q none z) (M : gM)  (hs : s_X13_goOn M) (hQ : K (f_X13_goOn M)) : gG E RX13 cX13_goOn 1 none (rm 7) 0 [(0, .ref (gla E 226))] [] M Q := by
  rw [s_X13_goOn] at hs
  rw [f_X13_goOn] at hQ
  refine g_aload_n 0 dX13_goOn_0 rfl ?_
  refine g_getI 226 fd_X13_111 dF_Md rfl dX13_goOn_1 ?_
  refine g_if_ne 11 dX13_goOn_4 (by decide) (fun c1 => ?_) (fun c1 => ?_)
  · have hs := ifSf hs c1; have hQ := ifQf hQ c1
    exact g_vret rfl dX13_goOn_11 (hK _ hQ)
  · have hs := ifSt hs c1; have hQ := ifQt hQ c1
    refine g_aload_n 0 dX13_goOn_7 rfl ?_
    have h2 := hs.1; have hs := hs.2
    refine g_callV (As := []) (st := []) 226 (c_X13_token E M h2) mt_X13_token ml_X13_117 dF_Md rfl rfl sg_X13_token rfl (by decide) (Nat.le_of_ble_eq_true rfl) dX13_goOn_8 ?_
    rintro _ M3 ⟨rfl, hM3⟩
    have hQ := bndQ hQ M3 hM3; have hs := bndS hs M3 hM3
    exact g_vret rfl dX13_goOn_11 (hK _ hQ)
theorem c_X13_goOn (E : gE) (M : gM)  (hs : s_X13_goOn M) : gC E yX13_goOn cX13_goOn 1 none (rm 7) [.ref (gla E 226)] M (fun o N => o = none ∧ N = f_X13_goOn M) :=
  gC.of (by decide +kernel) (Nat.le_of_ble_eq_true rfl) rfl (t_X13_goOn (K := fun z => z = f_X13_goOn M) (fun z hz => ⟨rfl, hz⟩) M hs rfl)
def f_X13_why_30 (M : gM)  : Int32 × gM :=
  ((-1), M)
def s_X13_why_30 (M : gM)  : Prop :=
  True
theorem o_X13_why_30 (M : gM)  : offW [67] M (f_X13_why_30 M ).2 := by
  rw [f_X13_why_30]
  exact offR
set_option maxRecDepth 100000 in
set_option maxHeartbeats 4000000 in
theorem t_X13_why_30 {E : gE} {K : Int32 × gM → Prop} {Q : Option Value → gM → Prop} (hK : ∀ z : Int32 × gM, K z → Q (some (.int z.1)) z.2) (M : gM)   (hs : s_X13_why_30 M ) (hQ : K (f_X13_why_30 M )) : gG E RX13 cX13_why 3 (some .int) (rm 7) 30 [] [] M Q := by
  rw [s_X13_why_30] at hs
  rw [f_X13_why_30] at hQ
  refine g_iconst (v := (-1)) dX13_why_30 (by decide) ?_
  exact g_iret rfl dX13_why_31 (hK _ hQ)
def f_X13_why (M : gM) (x1 : Int32) (x2 : Int32) : Int32 × gM :=
  bnd (wrI M 67 0 0 0 0) fun M1 =>
  (if (f_X13_isPaper M1 x1) = 0 then
    (f_X13_why_30 M1)
  else
    (if (f_X13_isThing M1 x2) = 0 then
      (f_X13_why_30 M1)
    else
      ((f_X13_whyNot M1 x1 x2, M1))))
def s_X13_why (M : gM) (x1 : Int32) (x2 : Int32) : Prop :=
  bndP (wrI M 67 0 0 0 0) fun M1 =>
  ((s_X13_isPaper M1 x1) ∧
  (if (f_X13_isPaper M1 x1) = 0 then
    (s_X13_why_30 M1)
  else
    ((s_X13_isThing M1 x2) ∧
    (if (f_X13_isThing M1 x2) = 0 then
      (s_X13_why_30 M1)
    else
      ((s_X13_whyNot M1 x1 x2) ∧
      (True))))))
theorem o_X13_why (M : gM) (x1 : Int32) (x2 : Int32) : offW [67] M (f_X13_why M x1 x2).2 := by
  rw [f_X13_why]
  refine offB2 (offR.wI (by decide)) (fun M1 oM1 => ?_)
  refine offI2 ?_ ?_
  · exact oM1.tr (o_X13_why_30 M1)
  · refine offI2 ?_ ?_
    · exact oM1.tr (o_X13_why_30 M1)
    · exact oM1
set_option maxRecDepth 100000 in
set_option maxHeartbeats 4000000 in
theorem t_X13_why {E : gE} {K : Int32 × gM → Prop} {Q : Option Value → gM → Prop} (hK : ∀ z : Int32 × gM, K z → Q (some (.int z.1)) z.2) (M : gM) (x1 : Int32) (x2 : Int32)  (hs : s_X13_why M x1 x2) (hQ : K (f_X13_why M x1 x2)) : gG E RX13 cX13_why 3 (some .int) (rm 7) 0 [(0, .ref (gla E 226)), (1, .int x1), (2, .int x2)] [] M Q := by
  rw [s_X13_why] at hs
  rw [f_X13_why] at hQ
  refine g_aload_n 0 dX13_why_0 rfl ?_
  refine g_iconst (v := 0) dX13_why_1 (by decide) ?_
  refine g_putI 226 fd_X13_61 dF_Md rfl dX13_why_2 (fun M1 hM1 => ?_)
  have hQ := bndQ hQ M1 hM1; have hs := bndS hs M1 hM1
  refine g_aload_n 0 dX13_why_5 rfl ?_
  refine g_iload_n 1 dX13_why_6 rfl ?_
  have h2 := hs.1; have hs := hs.2
  refine g_callV (As := [.int x1]) (st := []) 226 (c_X13_isPaper E M1 x1 h2) mt_X13_isPaper ml_X13_215 dF_Md rfl rfl sg_X13_isPaper rfl (by decide) (Nat.le_of_ble_eq_true rfl) dX13_why_7 ?_
  rintro _ _ ⟨q1, q2⟩; rw [q1, q2]; clear q1 q2
  refine g_if_eq 30 dX13_why_10 (by decide) (fun c3 => ?_) (fun c3 => ?_)
  · have hs := ifSt hs c3; have hQ := ifQt hQ c3
    refine g_sub [] _ rfl ?_
    exact t_X13_why_30 hK M1 hs hQ
  · have hs := ifSf hs c3; have hQ := ifQf hQ c3
    refine g_aload_n 0 dX13_why_13 rfl ?_
    refine g_iload_n 2 dX13_why_14 rfl ?_
    have h4 := hs.1; have hs := hs.2
    refine g_callV (As := [.int x2]) (st := []) 226 (c_X13_isThing E M1 x2 h4) mt_X13_isThing ml_X13_221 dF_Md rfl rfl sg_X13_isThing rfl (by decide) (Nat.le_of_ble_eq_true rfl) dX13_why_15 ?_
    rintro _ _ ⟨q1, q2⟩; rw [q1, q2]; clear q1 q2
    refine g_if_eq 30 dX13_why_18 (by decide) (fun c5 => ?_) (fun c5 => ?_)
    · have hs := ifSt hs c5; have hQ := ifQt hQ c5
      refine g_sub [] _ rfl ?_
      exact t_X13_why_30 hK M1 hs hQ
    · have hs := ifSf hs c5; have hQ := ifQf hQ c5
      refine g_aload_n 0 dX13_why_21 rfl ?_
      refine g_iload_n 1 dX13_why_22 rfl ?_
      refine g_iload_n 2 dX13_why_23 rfl ?_
      have h6 := hs.1; have hs := hs.2
      refine g_callV (As := [.int x1, .int x2]) (st := []) 226 (c_X13_whyNot E M1 x1 x2 h6) mt_X13_whyNot ml_X13_263 dF_Md rfl rfl sg_X13_whyNot rfl (by decide) (Nat.le_of_ble_eq_true rfl) dX13_why_24 ?_
      rintro _ _ ⟨q1, q2⟩; rw [q1, q2]; clear q1 q2
      refine g_goto 31 dX13_why_27 (by decide) ?_
      exact g_iret rfl dX13_why_31 (hK _ hQ)
theorem c_X13_why (E : gE) (M : gM) (x1 : Int32) (x2 : Int32) (hs : s_X13_why M x1 x2) : gC E yX13_why cX13_why 3 (some .int) (rm 7) [.ref (gla E 226), .int x1, .int x2] M (fun o N => o = some (.int (f_X13_why M x1 x2).1) ∧ N = (f_X13_why M x1 x2).2) :=
  gC.of (by decide +kernel) (Nat.le_of_ble_eq_true rfl) rfl (t_X13_why (K := fun z => z = f_X13_why M x1 x2) (fun z hz => by rw [hz]; exact ⟨rfl, rfl⟩) M x1 x2 hs rfl)
def f_X13_countingAt_93 (M : gM) (x1 : Int32) (x2 : Int32) (x3 : Int32) (x4 : Int32) (x6 : Int32) (y0 : Int32) (k3 : Int32 → Int32) (k44 : Int32 → Int32 → Int32) : Int32 :=
  k44 (y0 + 0) (x6 + 1)
def s_X13_countingAt_93 (M : gM) (x1 : Int32) (x2 : Int32) (x3 : Int32) (x4 : Int32) (x6 : Int32) (y0 : Int32) (q3 : Int32 → Prop) (q44 : Int32 → Int32 → Prop) : Prop :=
  q44 (y0 + 0) (x6 + 1)
set_option maxRecDepth 100000 in
set_option maxHeartbeats 4000000 in
theorem t_X13_countingAt_93 {E : gE} {K : Int32 → Prop} {Q : Option Value → gM → Prop} {M : gM} (hK : ∀ z : Int32, K z → Q (some (.int z)) M) (x1 : Int32) (x2 : Int32) (x3 : Int32) (x4 : Int32) (x6 : Int32) (y0 : Int32)  (k3 : Int32 → Int32) (q3 : Int32 → Prop) (hk3 : ∀ (x4 : Int32) , q3 x4 → K (k3 x4) → gG E RX13 cX13_countingAt 7 (some .int) (rm 7) 3 [(0, .ref (gla E 226)), (1, .int x1), (2, .int x2), (3, .int x3), (4, .int x4)] [] M Q) (k44 : Int32 → Int32 → Int32) (q44 : Int32 → Int32 → Prop) (hk44 : ∀ (x5 : Int32) (x6 : Int32) , q44 x5 x6 → K (k44 x5 x6) → gG E RX13 cX13_countingAt 7 (some .int) (rm 7) 44 [(0, .ref (gla E 226)), (1, .int x1), (2, .int x2), (3, .int x3), (4, .int x4), (5, .int x5), (6, .int x6)] [] M Q) (hs : s_X13_countingAt_93 M x1 x2 x3 x4 x6 y0 q3 q44) (hQ : K (f_X13_countingAt_93 M x1 x2 x3 x4 x6 y0 k3 k44)) : gG E RX13 cX13_countingAt 7 (some .int) (rm 7) 93 [(0, .ref (gla E 226)), (1, .int x1), (2, .int x2), (3, .int x3), (4, .int x4), (6, .int x6)] [.int y0] M Q := by
  rw [s_X13_countingAt_93] at hs
  rw [f_X13_countingAt_93] at hQ
  refine g_iconst (v := 0) dX13_countingAt_93 (by decide) ?_
  refine g_iadd dX13_countingAt_94 ?_
  refine g_istore _ dX13_countingAt_95 (by decide) rfl ?_
  refine g_iinc 6 (v := x6 + 1) _ dX13_countingAt_97 rfl rfl (by decide) rfl ?_
  refine g_goto 44 dX13_countingAt_100 (by decide) ?_
  refine g_sub [2, 3, 4, 5, 6, 1, 0] _ rfl ?_
  exact hk44 (y0 + 0) (x6 + 1) hs hQ
def f_X13_countingAt_44 (M : gM) (x1 : Int32) (x2 : Int32) (x3 : Int32) (x4 : Int32) (k3 : Int32 → Int32) : Nat → Int32 → Int32 → Int32
  | 0, _, _ => 0
  | n + 1, x5, x6 =>
    if (rdI M 88 0 0 (nn 2)) ≤ x6 then
      (if x5 = x3 then
        (x4)
      else
        (k3 (x4 + 1)))
    else
      (if (f_X13_of M x6 0) = x1 then
        (if (f_X13_isLater M x6 x4) = 0 then
          (f_X13_countingAt_93 M x1 x2 x3 x4 x6 x5 k3 (f_X13_countingAt_44 M x1 x2 x3 x4 k3 n))
        else
          (if (f_X13_whyNot M x6 x2) = 0 then
            (f_X13_countingAt_44 M x1 x2 x3 x4 k3 n (x5 + 1) (x6 + 1))
          else
            (f_X13_countingAt_93 M x1 x2 x3 x4 x6 x5 k3 (f_X13_countingAt_44 M x1 x2 x3 x4 k3 n))))
      else
        (f_X13_countingAt_93 M x1 x2 x3 x4 x6 x5 k3 (f_X13_countingAt_44 M x1 x2 x3 x4 k3 n)))
def s_X13_countingAt_44 (M : gM) (x1 : Int32) (x2 : Int32) (x3 : Int32) (x4 : Int32) (q3 : Int32 → Prop) : Nat → Int32 → Int32 → Prop
  | 0, _, _ => False
  | n + 1, x5, x6 =>
    (vp_in 2 502) ∧
    (if (rdI M 88 0 0 (nn 2)) ≤ x6 then
      (if x5 = x3 then
        (True)
      else
        (q3 (x4 + 1)))
    else
      ((s_X13_of M x6 0) ∧
      (if (f_X13_of M x6 0) = x1 then
        ((s_X13_isLater M x6 x4) ∧
        (if (f_X13_isLater M x6 x4) = 0 then
          (s_X13_countingAt_93 M x1 x2 x3 x4 x6 x5 q3 (s_X13_countingAt_44 M x1 x2 x3 x4 q3 n))
        else
          ((s_X13_whyNot M x6 x2) ∧
          (if (f_X13_whyNot M x6 x2) = 0 then
            (s_X13_countingAt_44 M x1 x2 x3 x4 q3 n (x5 + 1) (x6 + 1))
          else
            (s_X13_countingAt_93 M x1 x2 x3 x4 x6 x5 q3 (s_X13_countingAt_44 M x1 x2 x3 x4 q3 n))))))
      else
        (s_X13_countingAt_93 M x1 x2 x3 x4 x6 x5 q3 (s_X13_countingAt_44 M x1 x2 x3 x4 q3 n)))))
set_option maxRecDepth 100000 in
set_option maxHeartbeats 4000000 in
theorem t_X13_countingAt_44 {E : gE} {K : Int32 → Prop} {Q : Option Value → gM → Prop} {M : gM} (hK : ∀ z : Int32, K z → Q (some (.int z)) M) (x1 : Int32) (x2 : Int32) (x3 : Int32) (x4 : Int32)  (k3 : Int32 → Int32) (q3 : Int32 → Prop) (hk3 : ∀ (x4 : Int32) , q3 x4 → K (k3 x4) → gG E RX13 cX13_countingAt 7 (some .int) (rm 7) 3 [(0, .ref (gla E 226)), (1, .int x1), (2, .int x2), (3, .int x3), (4, .int x4)] [] M Q) : ∀ (n : Nat) (x5 : Int32) (x6 : Int32) , s_X13_countingAt_44 M x1 x2 x3 x4 q3 n x5 x6 → K (f_X13_countingAt_44 M x1 x2 x3 x4 k3 n x5 x6) → gG E RX13 cX13_countingAt 7 (some .int) (rm 7) 44 [(0, .ref (gla E 226)), (1, .int x1), (2, .int x2), (3, .int x3), (4, .int x4), (5, .int x5), (6, .int x6)] [] M Q := by
  intro n
  induction n with
  | zero => intro x5 x6 hs hQ; exact (hs : False).elim
  | succ n ih =>
    intro x5 x6 hs hQ
    rw [s_X13_countingAt_44] at hs
    rw [f_X13_countingAt_44] at hQ
    refine g_iload 6 dX13_countingAt_44 rfl ?_
    refine g_aload_n 0 dX13_countingAt_46 rfl ?_
    refine g_getR 226 228 fd_X13_13 dF_Md rfl rfl dX13_countingAt_47 ?_
    refine g_iconst (v := 2) dX13_countingAt_50 (by decide) ?_
    have h7 := hs.1; have hs := hs.2
    refine g_iald 228 dF_Md_world h7 dX13_countingAt_51 ?_
    refine g_icmp_ge 103 dX13_countingAt_52 (by decide) (fun c8 => ?_) (fun c8 => ?_)
    · have hs := ifSt hs c8; have hQ := ifQt hQ c8
      refine g_iload 5 dX13_countingAt_103 rfl ?_
      refine g_iload_n 3 dX13_countingAt_105 rfl ?_
      refine g_icmp_ne 112 dX13_countingAt_106 (by decide) (fun c9 => ?_) (fun c9 => ?_)
      · have hs := ifSf hs c9; have hQ := ifQf hQ c9
        refine g_iinc 4 (v := x4 + 1) _ dX13_countingAt_112 rfl rfl (by decide) rfl ?_
        refine g_goto 3 dX13_countingAt_115 (by decide) ?_
        refine g_sub [1, 2, 3, 4, 0] _ rfl ?_
        exact hk3 (x4 + 1) hs hQ
      · have hs := ifSt hs c9; have hQ := ifQt hQ c9
        refine g_iload 4 dX13_countingAt_109 rfl ?_
        exact g_iret rfl dX13_countingAt_111 (hK _ hQ)
    · have hs := ifSf hs c8; have hQ := ifQf hQ c8
      refine g_iload 5 dX13_countingAt_55 rfl ?_
      refine g_aload_n 0 dX13_countingAt_57 rfl ?_
      refine g_iload 6 dX13_countingAt_58 rfl ?_
      refine g_iconst (v := 0) dX13_countingAt_60 (by decide) ?_
      have h10 := hs.1; have hs := hs.2
      refine g_callV (As := [.int x6, .int 0]) (st := [.int x5]) 226 (c_X13_of E M x6 0 h10) mt_X13_of ml_X13_218 dF_Md rfl rfl sg_X13_of rfl (by decide) (Nat.le_of_ble_eq_true rfl) dX13_countingAt_61 ?_
      rintro _ _ ⟨q1, q2⟩; rw [q1, q2]; clear q1 q2
      refine g_iload_n 1 dX13_countingAt_64 rfl ?_
      refine g_icmp_ne 93 dX13_countingAt_65 (by decide) (fun c11 => ?_) (fun c11 => ?_)
      · have hs := ifSf hs c11; have hQ := ifQf hQ c11
        refine g_sub [0, 1, 2, 3, 4, 6] _ rfl ?_
        exact t_X13_countingAt_93 hK x1 x2 x3 x4 x6 x5 k3 q3 hk3 (f_X13_countingAt_44 M x1 x2 x3 x4 k3 n) (s_X13_countingAt_44 M x1 x2 x3 x4 q3 n) ih hs hQ
      · have hs := ifSt hs c11; have hQ := ifQt hQ c11
        refine g_aload_n 0 dX13_countingAt_68 rfl ?_
        refine g_iload 6 dX13_countingAt_69 rfl ?_
        refine g_iload 4 dX13_countingAt_71 rfl ?_
        have h12 := hs.1; have hs := hs.2
        refine g_callV (As := [.int x6, .int x4]) (st := [.int x5]) 226 (c_X13_isLater E M x6 x4 h12) mt_X13_isLater ml_X13_251 dF_Md rfl rfl sg_X13_isLater rfl (by decide) (Nat.le_of_ble_eq_true rfl) dX13_countingAt_73 ?_
        rintro _ _ ⟨q1, q2⟩; rw [q1, q2]; clear q1 q2
        refine g_if_eq 93 dX13_countingAt_76 (by decide) (fun c13 => ?_) (fun c13 => ?_)
        · have hs := ifSt hs c13; have hQ := ifQt hQ c13
          refine g_sub [0, 1, 2, 3, 4, 6] _ rfl ?_
          exact t_X13_countingAt_93 hK x1 x2 x3 x4 x6 x5 k3 q3 hk3 (f_X13_countingAt_44 M x1 x2 x3 x4 k3 n) (s_X13_countingAt_44 M x1 x2 x3 x4 q3 n) ih hs hQ
        · have hs := ifSf hs c13; have hQ := ifQf hQ c13
          refine g_aload_n 0 dX13_countingAt_79 rfl ?_
          refine g_iload 6 dX13_countingAt_80 rfl ?_
          refine g_iload_n 2 dX13_countingAt_82 rfl ?_
          have h14 := hs.1; have hs := hs.2
          refine g_callV (As := [.int x6, .int x2]) (st := [.int x5]) 226 (c_X13_whyNot E M x6 x2 h14) mt_X13_whyNot ml_X13_263 dF_Md rfl rfl sg_X13_whyNot rfl (by decide) (Nat.le_of_ble_eq_true rfl) dX13_countingAt_83 ?_
          rintro _ _ ⟨q1, q2⟩; rw [q1, q2]; clear q1 q2
          refine g_if_ne 93 dX13_countingAt_86 (by decide) (fun c15 => ?_) (fun c15 => ?_)
          · have hs := ifSf hs c15; have hQ := ifQf hQ c15
            refine g_sub [0, 1, 2, 3, 4, 6] _ rfl ?_
            exact t_X13_countingAt_93 hK x1 x2 x3 x4 x6 x5 k3 q3 hk3 (f_X13_countingAt_44 M x1 x2 x3 x4 k3 n) (s_X13_countingAt_44 M x1 x2 x3 x4 q3 n) ih hs hQ
          · have hs := ifSt hs c15; have hQ := ifQt hQ c15
            refine g_iconst (v := 1) dX13_countingAt_89 (by decide) ?_
            refine g_goto 94 dX13_countingAt_90 (by decide) ?_
            refine g_iadd dX13_countingAt_94 ?_
            refine g_istore _ dX13_countingAt_95 (by decide) rfl ?_
            refine g_iinc 6 (v := x6 + 1) _ dX13_countingAt_97 rfl rfl (by decide) rfl ?_
            refine g_goto 44 dX13_countingAt_100 (by decide) ?_
            refine g_sub [2, 3, 4, 5, 6, 1, 0] _ rfl ?_
            exact ih (x5 + 1) (x6 + 1) hs hQ
def f_X13_countingAt_3 (M : gM) (x1 : Int32) (x2 : Int32) (x3 : Int32)  : Nat → Int32 → Int32
  | 0, _ => 0
  | n + 1, x4 =>
    if (rdI M 88 0 0 (nn 2)) ≤ x4 then
      ((-2))
    else
      (if (f_X13_of M x4 0) = x1 then
        (if (f_X13_whyNot M x4 x2) = 0 then
          (f_X13_countingAt_44 M x1 x2 x3 x4 (f_X13_countingAt_3 M x1 x2 x3 n) FU 0 0)
        else
          (f_X13_countingAt_3 M x1 x2 x3 n (x4 + 1)))
      else
        (f_X13_countingAt_3 M x1 x2 x3 n (x4 + 1)))
def s_X13_countingAt_3 (M : gM) (x1 : Int32) (x2 : Int32) (x3 : Int32)  : Nat → Int32 → Prop
  | 0, _ => False
  | n + 1, x4 =>
    (vp_in 2 502) ∧
    (if (rdI M 88 0 0 (nn 2)) ≤ x4 then
      (True)
    else
      ((s_X13_of M x4 0) ∧
      (if (f_X13_of M x4 0) = x1 then
        ((s_X13_whyNot M x4 x2) ∧
        (if (f_X13_whyNot M x4 x2) = 0 then
          (s_X13_countingAt_44 M x1 x2 x3 x4 (s_X13_countingAt_3 M x1 x2 x3 n) FU 0 0)
        else
          (s_X13_countingAt_3 M x1 x2 x3 n (x4 + 1))))
      else
        (s_X13_countingAt_3 M x1 x2 x3 n (x4 + 1)))))
set_option maxRecDepth 100000 in
set_option maxHeartbeats 4000000 in
theorem t_X13_countingAt_3 {E : gE} {K : Int32 → Prop} {Q : Option Value → gM → Prop} {M : gM} (hK : ∀ z : Int32, K z → Q (some (.int z)) M) (x1 : Int32) (x2 : Int32) (x3 : Int32)   : ∀ (n : Nat) (x4 : Int32) , s_X13_countingAt_3 M x1 x2 x3  n x4 → K (f_X13_countingAt_3 M x1 x2 x3  n x4) → gG E RX13 cX13_countingAt 7 (some .int) (rm 7) 3 [(0, .ref (gla E 226)), (1, .int x1), (2, .int x2), (3, .int x3), (4, .int x4)] [] M Q := by
  intro n
  induction n with
  | zero => intro x4 hs hQ; exact (hs : False).elim
  | succ n ih =>
    intro x4 hs hQ
    rw [s_X13_countingAt_3] at hs
    rw [f_X13_countingAt_3] at hQ
    refine g_iload 4 dX13_countingAt_3 rfl ?_
    refine g_aload_n 0 dX13_countingAt_5 rfl ?_
    refine g_getR 226 228 fd_X13_13 dF_Md rfl rfl dX13_countingAt_6 ?_
    refine g_iconst (v := 2) dX13_countingAt_9 (by decide) ?_
    have h1 := hs.1; have hs := hs.2
    refine g_iald 228 dF_Md_world h1 dX13_countingAt_10 ?_
    refine g_icmp_ge 118 dX13_countingAt_11 (by decide) (fun c2 => ?_) (fun c2 => ?_)
    · have hs := ifSt hs c2; have hQ := ifQt hQ c2
      refine g_bipush (v := (-2)) dX13_countingAt_118 (by decide) ?_
      exact g_iret rfl dX13_countingAt_120 (hK _ hQ)
    · have hs := ifSf hs c2; have hQ := ifQf hQ c2
      refine g_aload_n 0 dX13_countingAt_14 rfl ?_
      refine g_iload 4 dX13_countingAt_15 rfl ?_
      refine g_iconst (v := 0) dX13_countingAt_17 (by decide) ?_
      have h3 := hs.1; have hs := hs.2
      refine g_callV (As := [.int x4, .int 0]) (st := []) 226 (c_X13_of E M x4 0 h3) mt_X13_of ml_X13_218 dF_Md rfl rfl sg_X13_of rfl (by decide) (Nat.le_of_ble_eq_true rfl) dX13_countingAt_18 ?_
      rintro _ _ ⟨q1, q2⟩; rw [q1, q2]; clear q1 q2
      refine g_iload_n 1 dX13_countingAt_21 rfl ?_
      refine g_icmp_ne 112 dX13_countingAt_22 (by decide) (fun c4 => ?_) (fun c4 => ?_)
      · have hs := ifSf hs c4; have hQ := ifQf hQ c4
        refine g_iinc 4 (v := x4 + 1) _ dX13_countingAt_112 rfl rfl (by decide) rfl ?_
        refine g_goto 3 dX13_countingAt_115 (by decide) ?_
        refine g_sub [1, 2, 3, 4, 0] _ rfl ?_
        exact ih (x4 + 1) hs hQ
      · have hs := ifSt hs c4; have hQ := ifQt hQ c4
        refine g_aload_n 0 dX13_countingAt_25 rfl ?_
        refine g_iload 4 dX13_countingAt_26 rfl ?_
        refine g_iload_n 2 dX13_countingAt_28 rfl ?_
        have h5 := hs.1; have hs := hs.2
        refine g_callV (As := [.int x4, .int x2]) (st := []) 226 (c_X13_whyNot E M x4 x2 h5) mt_X13_whyNot ml_X13_263 dF_Md rfl rfl sg_X13_whyNot rfl (by decide) (Nat.le_of_ble_eq_true rfl) dX13_countingAt_29 ?_
        rintro _ _ ⟨q1, q2⟩; rw [q1, q2]; clear q1 q2
        refine g_if_eq 38 dX13_countingAt_32 (by decide) (fun c6 => ?_) (fun c6 => ?_)
        · have hs := ifSt hs c6; have hQ := ifQt hQ c6
          refine g_iconst (v := 0) dX13_countingAt_38 (by decide) ?_
          refine g_istore _ dX13_countingAt_39 (by decide) rfl ?_
          refine g_iconst (v := 0) dX13_countingAt_41 (by decide) ?_
          refine g_istore _ dX13_countingAt_42 (by decide) rfl ?_
          refine g_sub [2, 3, 4, 5, 6, 1, 0] _ rfl ?_
          exact t_X13_countingAt_44 hK x1 x2 x3 x4 (f_X13_countingAt_3 M x1 x2 x3 n) (s_X13_countingAt_3 M x1 x2 x3 n) ih FU 0 0 hs hQ
        · have hs := ifSf hs c6; have hQ := ifQf hQ c6
          refine g_goto 112 dX13_countingAt_35 (by decide) ?_
          refine g_iinc 4 (v := x4 + 1) _ dX13_countingAt_112 rfl rfl (by decide) rfl ?_
          refine g_goto 3 dX13_countingAt_115 (by decide) ?_
          refine g_sub [1, 2, 3, 4, 0] _ rfl ?_
          exact ih (x4 + 1) hs hQ
def f_X13_countingAt (M : gM) (x1 : Int32) (x2 : Int32) (x3 : Int32) : Int32 :=
  f_X13_countingAt_3 M x1 x2 x3 FU 0
def s_X13_countingAt (M : gM) (x1 : Int32) (x2 : Int32) (x3 : Int32) : Prop :=
  s_X13_countingAt_3 M x1 x2 x3 FU 0
set_option maxRecDepth 100000 in
set_option maxHeartbeats 4000000 in
theorem t_X13_countingAt {E : gE} {K : Int32 → Prop} {Q : Option Value → gM → Prop} {M : gM} (hK : ∀ z : Int32, K z → Q (some (.int z)) M)  (x1 : Int32) (x2 : Int32) (x3 : Int32)  (hs : s_X13_countingAt M x1 x2 x3) (hQ : K (f_X13_countingAt M x1 x2 x3)) : gG E RX13 cX13_countingAt 7 (some .int) (rm 7) 0 [(0, .ref (gla E 226)), (1, .int x1), (2, .int x2), (3, .int x3)] [] M Q := by
  rw [s_X13_countingAt] at hs
  rw [f_X13_countingAt] at hQ
  refine g_iconst (v := 0) dX13_countingAt_0 (by decide) ?_
  refine g_istore _ dX13_countingAt_1 (by decide) rfl ?_
  refine g_sub [1, 2, 3, 4, 0] _ rfl ?_
  exact t_X13_countingAt_3 hK x1 x2 x3 FU 0 hs hQ
theorem c_X13_countingAt (E : gE) (M : gM) (x1 : Int32) (x2 : Int32) (x3 : Int32) (hs : s_X13_countingAt M x1 x2 x3) : gC E yX13_countingAt cX13_countingAt 7 (some .int) (rm 7) [.ref (gla E 226), .int x1, .int x2, .int x3] M (fun o N => o = some (.int (f_X13_countingAt M x1 x2 x3)) ∧ N = M) :=
  gC.of (by decide +kernel) (Nat.le_of_ble_eq_true rfl) rfl (t_X13_countingAt (K := fun z => z = f_X13_countingAt M x1 x2 x3) (fun z hz => by rw [hz]; exact ⟨rfl, rfl⟩) x1 x2 x3 hs rfl)
def f_X13_number (M : gM) (x1 : Int32) (x2 : Int32) : Int32 × gM :=
  bnd (f_X13_numberHere M x1 x2) fun z2 =>
  (bnd (f_X13_goOn z2.2) fun M4 =>
  ((z2.1, M4)))
def s_X13_number (M : gM) (x1 : Int32) (x2 : Int32) : Prop :=
  (s_X13_numberHere M x1 x2) ∧
  (bndP (f_X13_numberHere M x1 x2) fun z2 =>
  ((s_X13_goOn z2.2) ∧
  (bndP (f_X13_goOn z2.2) fun M4 =>
  (True))))
theorem o_X13_number (M : gM) (x1 : Int32) (x2 : Int32) : offW [71, 72, 73, 74, 75, 76, 77] M (f_X13_number M x1 x2).2 := by
  rw [f_X13_number]
  refine offZ2 (offR.tr ((o_X13_numberHere M x1 x2).mono (by decide))) (fun z2 oz2 => ?_)
  refine offB2 (oz2.tr ((o_X13_goOn z2.2).mono (by decide))) (fun M4 oM4 => ?_)
  exact oM4
set_option maxRecDepth 100000 in
set_option maxHeartbeats 4000000 in
theorem t_X13_number {E : gE} {K : Int32 × gM → Prop} {Q : Option Value → gM → Prop} (hK : ∀ z : Int32 × gM, K z → Q (some (.int z.1)) z.2) (M : gM) (x1 : Int32) (x2 : Int32)  (hs : s_X13_number M x1 x2) (hQ : K (f_X13_number M x1 x2)) : gG E RX13 cX13_number 4 (some .int) (rm 8) 0 [(0, .ref (gla E 226)), (1, .int x1), (2, .int x2)] [] M Q := by
  rw [s_X13_number] at hs
  rw [f_X13_number] at hQ
  refine g_aload_n 0 dX13_number_0 rfl ?_
  refine g_iload_n 1 dX13_number_1 rfl ?_
  refine g_iload_n 2 dX13_number_2 rfl ?_
  have h1 := hs.1; have hs := hs.2
  refine g_callV (As := [.int x1, .int x2]) (st := []) 226 (c_X13_numberHere E M x1 x2 h1) mt_X13_numberHere ml_X13_124 dF_Md rfl rfl sg_X13_numberHere rfl (by decide) (Nat.le_of_ble_eq_true rfl) dX13_number_3 ?_
  rintro _ _ ⟨rfl, rfl⟩
  obtain ⟨z2, hz2⟩ : ∃ z, z = f_X13_numberHere M x1 x2 := ⟨_, rfl⟩
  rw [← hz2]
  have hQ := bndQ hQ z2 hz2; have hs := bndS hs z2 hz2
  refine g_istore_n _ dX13_number_6 (by decide) rfl ?_
  refine g_aload_n 1 dX13_number_7 rfl ?_
  have h3 := hs.1; have hs := hs.2
  refine g_callV (As := []) (st := []) 226 (c_X13_goOn E z2.2 h3) mt_X13_goOn ml_X13_128 dF_Md rfl rfl sg_X13_goOn rfl (by decide) (Nat.le_of_ble_eq_true rfl) dX13_number_8 ?_
  rintro _ M4 ⟨rfl, hM4⟩
  have hQ := bndQ hQ M4 hM4; have hs := bndS hs M4 hM4
  refine g_iload_n 0 dX13_number_11 rfl ?_
  exact g_iret rfl dX13_number_12 (hK _ hQ)
theorem c_X13_number (E : gE) (M : gM) (x1 : Int32) (x2 : Int32) (hs : s_X13_number M x1 x2) : gC E yX13_number cX13_number 4 (some .int) (rm 8) [.ref (gla E 226), .int x1, .int x2] M (fun o N => o = some (.int (f_X13_number M x1 x2).1) ∧ N = (f_X13_number M x1 x2).2) :=
  gC.of (by decide +kernel) (Nat.le_of_ble_eq_true rfl) rfl (t_X13_number (K := fun z => z = f_X13_number M x1 x2) (fun z hz => by rw [hz]; exact ⟨rfl, rfl⟩) M x1 x2 hs rfl)
def f_X13_told (M : gM) (x1 : Int32) : Int32 × gM :=
  bnd (f_X13_toldHere M x1) fun z2 =>
  (bnd (f_X13_goOn z2.2) fun M4 =>
  ((z2.1, M4)))
def s_X13_told (M : gM) (x1 : Int32) : Prop :=
  (s_X13_toldHere M x1) ∧
  (bndP (f_X13_toldHere M x1) fun z2 =>
  ((s_X13_goOn z2.2) ∧
  (bndP (f_X13_goOn z2.2) fun M4 =>
  (True))))
theorem o_X13_told (M : gM) (x1 : Int32) : offW [71, 72, 73, 74, 75, 76, 77] M (f_X13_told M x1).2 := by
  rw [f_X13_told]
  refine offZ2 (offR.tr ((o_X13_toldHere M x1).mono (by decide))) (fun z2 oz2 => ?_)
  refine offB2 (oz2.tr ((o_X13_goOn z2.2).mono (by decide))) (fun M4 oM4 => ?_)
  exact oM4
set_option maxRecDepth 100000 in
set_option maxHeartbeats 4000000 in
theorem t_X13_told {E : gE} {K : Int32 × gM → Prop} {Q : Option Value → gM → Prop} (hK : ∀ z : Int32 × gM, K z → Q (some (.int z.1)) z.2) (M : gM) (x1 : Int32)  (hs : s_X13_told M x1) (hQ : K (f_X13_told M x1)) : gG E RX13 cX13_told 3 (some .int) (rm 8) 0 [(0, .ref (gla E 226)), (1, .int x1)] [] M Q := by
  rw [s_X13_told] at hs
  rw [f_X13_told] at hQ
  refine g_aload_n 0 dX13_told_0 rfl ?_
  refine g_iload_n 1 dX13_told_1 rfl ?_
  have h1 := hs.1; have hs := hs.2
  refine g_callV (As := [.int x1]) (st := []) 226 (c_X13_toldHere E M x1 h1) mt_X13_toldHere ml_X13_139 dF_Md rfl rfl sg_X13_toldHere rfl (by decide) (Nat.le_of_ble_eq_true rfl) dX13_told_2 ?_
  rintro _ _ ⟨rfl, rfl⟩
  obtain ⟨z2, hz2⟩ : ∃ z, z = f_X13_toldHere M x1 := ⟨_, rfl⟩
  rw [← hz2]
  have hQ := bndQ hQ z2 hz2; have hs := bndS hs z2 hz2
  refine g_istore_n _ dX13_told_5 (by decide) rfl ?_
  refine g_aload_n 1 dX13_told_6 rfl ?_
  have h3 := hs.1; have hs := hs.2
  refine g_callV (As := []) (st := []) 226 (c_X13_goOn E z2.2 h3) mt_X13_goOn ml_X13_128 dF_Md rfl rfl sg_X13_goOn rfl (by decide) (Nat.le_of_ble_eq_true rfl) dX13_told_7 ?_
  rintro _ M4 ⟨rfl, hM4⟩
  have hQ := bndQ hQ M4 hM4; have hs := bndS hs M4 hM4
  refine g_iload_n 0 dX13_told_10 rfl ?_
  exact g_iret rfl dX13_told_11 (hK _ hQ)
theorem c_X13_told (E : gE) (M : gM) (x1 : Int32) (hs : s_X13_told M x1) : gC E yX13_told cX13_told 3 (some .int) (rm 8) [.ref (gla E 226), .int x1] M (fun o N => o = some (.int (f_X13_told M x1).1) ∧ N = (f_X13_told M x1).2) :=
  gC.of (by decide +kernel) (Nat.le_of_ble_eq_true rfl) rfl (t_X13_told (K := fun z => z = f_X13_told M x1) (fun z hz => by rw [hz]; exact ⟨rfl, rfl⟩) M x1 hs rfl)
def f_X13_readPart_26 (gv : gM → Int32 → Int32 → Int32 × gM) (M : gM) (x2 : Int32)  : Int32 × gM :=
  bnd (wrI M 89 0 0 (nn (x2 + 4)) 1) fun M58 =>
  ((1, M58))
def s_X13_readPart_26 (gv : gM → Int32 → Int32 → Int32 × gM) (gs : gM → Int32 → Int32 → Prop) (M : gM) (x2 : Int32)  : Prop :=
  (vp_in (x2 + 4) 502) ∧
  (bndP (wrI M 89 0 0 (nn (x2 + 4)) 1) fun M58 =>
  (True))
theorem o_X13_readPart_26 (gv : gM → Int32 → Int32 → Int32 × gM) (hgo : ∀ (M : gM) (a b : Int32), offW [71, 72, 73, 74, 75, 76, 77, 89, 91, 93] M (gv M a b).2) (M : gM) (x2 : Int32)  : offW [71, 72, 73, 74, 75, 76, 77, 89, 91, 93] M (f_X13_readPart_26 gv M x2 ).2 := by
  rw [f_X13_readPart_26]
  refine offB2 (offR.wI (by decide)) (fun M58 oM58 => ?_)
  exact oM58
set_option maxRecDepth 100000 in
set_option maxHeartbeats 4000000 in
theorem t_X13_readPart_26 {E : gE} {K : Int32 × gM → Prop} {Q : Option Value → gM → Prop} (hK : ∀ z : Int32 × gM, K z → Q (some (.int z.1)) z.2) {dg : Nat} (hd : 10 ≤ dg) (gv : gM → Int32 → Int32 → Int32 × gM) (gs : gM → Int32 → Int32 → Prop) (hgv : ∀ (M : gM) (a b : Int32), gs M a b → gC E yX13_readGive cX13_readGive 9 (some .boolean) (rm dg) [.ref (gla E 226), .int a, .int b] M (fun o N => o = some (.int (gv M a b).1) ∧ N = (gv M a b).2)) (M : gM) (x2 : Int32)   (hs : s_X13_readPart_26 gv gs M x2 ) (hQ : K (f_X13_readPart_26 gv M x2 )) : gG E RX13 cX13_readPart 4 (some .boolean) (rm (dg + 1)) 26 [(0, .ref (gla E 226)), (2, .int x2)] [] M Q := by
  rw [s_X13_readPart_26] at hs
  rw [f_X13_readPart_26] at hQ
  refine g_aload_n 0 dX13_readPart_26 rfl ?_
  refine g_getR 226 229 fd_X13_16 dF_Md rfl rfl dX13_readPart_27 ?_
  refine g_iload_n 1 dX13_readPart_30 rfl ?_
  refine g_iconst (v := 4) dX13_readPart_31 (by decide) ?_
  refine g_iadd dX13_readPart_32 ?_
  refine g_iconst (v := 1) dX13_readPart_33 (by decide) ?_
  have h57 := hs.1; have hs := hs.2
  refine g_iast 229 dF_Md_fresh h57 dX13_readPart_34 (fun M58 hM58 => ?_)
  have hQ := bndQ hQ M58 hM58; have hs := bndS hs M58 hM58
  refine g_goto 329 dX13_readPart_35 (by decide) ?_
  refine g_iconst (v := 1) dX13_readPart_329 (by decide) ?_
  exact g_zret rfl (Or.inr rfl) dX13_readPart_330 (hK _ hQ)
def f_X13_readPart_143 (gv : gM → Int32 → Int32 → Int32 × gM) (M : gM) (y1 : Int32) (y2 : Int32) (y3 : Int32)  : Int32 × gM :=
  bnd (wrI M 93 0 0 (nn y1) (y2 ||| y3)) fun M70 =>
  ((1, M70))
def s_X13_readPart_143 (gv : gM → Int32 → Int32 → Int32 × gM) (gs : gM → Int32 → Int32 → Prop) (M : gM) (y1 : Int32) (y2 : Int32) (y3 : Int32)  : Prop :=
  (vp_in y1 65) ∧
  (bndP (wrI M 93 0 0 (nn y1) (y2 ||| y3)) fun M70 =>
  (True))
theorem o_X13_readPart_143 (gv : gM → Int32 → Int32 → Int32 × gM) (hgo : ∀ (M : gM) (a b : Int32), offW [71, 72, 73, 74, 75, 76, 77, 89, 91, 93] M (gv M a b).2) (M : gM) (y1 : Int32) (y2 : Int32) (y3 : Int32)  : offW [71, 72, 73, 74, 75, 76, 77, 89, 91, 93] M (f_X13_readPart_143 gv M y1 y2 y3 ).2 := by
  rw [f_X13_readPart_143]
  refine offB2 (offR.wI (by decide)) (fun M70 oM70 => ?_)
  exact oM70
set_option maxRecDepth 100000 in
set_option maxHeartbeats 4000000 in
theorem t_X13_readPart_143 {E : gE} {K : Int32 × gM → Prop} {Q : Option Value → gM → Prop} (hK : ∀ z : Int32 × gM, K z → Q (some (.int z.1)) z.2) {dg : Nat} (hd : 10 ≤ dg) (gv : gM → Int32 → Int32 → Int32 × gM) (gs : gM → Int32 → Int32 → Prop) (hgv : ∀ (M : gM) (a b : Int32), gs M a b → gC E yX13_readGive cX13_readGive 9 (some .boolean) (rm dg) [.ref (gla E 226), .int a, .int b] M (fun o N => o = some (.int (gv M a b).1) ∧ N = (gv M a b).2)) (M : gM) (y1 : Int32) (y2 : Int32) (y3 : Int32)   (hs : s_X13_readPart_143 gv gs M y1 y2 y3 ) (hQ : K (f_X13_readPart_143 gv M y1 y2 y3 )) : gG E RX13 cX13_readPart 4 (some .boolean) (rm (dg + 1)) 143 [] [.int y3, .int y2, .int y1, .ref (gla E 233)] M Q := by
  rw [s_X13_readPart_143] at hs
  rw [f_X13_readPart_143] at hQ
  refine g_ior dX13_readPart_143 ?_
  have h69 := hs.1; have hs := hs.2
  refine g_iast 233 dF_Md_newNow h69 dX13_readPart_144 (fun M70 hM70 => ?_)
  have hQ := bndQ hQ M70 hM70; have hs := bndS hs M70 hM70
  refine g_goto 329 dX13_readPart_145 (by decide) ?_
  refine g_iconst (v := 1) dX13_readPart_329 (by decide) ?_
  exact g_zret rfl (Or.inr rfl) dX13_readPart_330 (hK _ hQ)
def f_X13_readPart_119 (gv : gM → Int32 → Int32 → Int32 × gM) (M : gM) (x1 : Int32) (x3 : Int32)  : Int32 × gM :=
  if (rdI M 76 0 0 0) = 0 then
    (f_X13_readPart_143 gv M (22 + x1) (rdI M 93 0 0 (nn (22 + x1))) (1 <<< (x3 &&& 31)))
  else
    (f_X13_readPart_143 gv M (22 + x1) (rdI M 93 0 0 (nn (22 + x1))) 0)
def s_X13_readPart_119 (gv : gM → Int32 → Int32 → Int32 × gM) (gs : gM → Int32 → Int32 → Prop) (M : gM) (x1 : Int32) (x3 : Int32)  : Prop :=
  (vp_in (22 + x1) 65) ∧
  (if (rdI M 76 0 0 0) = 0 then
    (s_X13_readPart_143 gv gs M (22 + x1) (rdI M 93 0 0 (nn (22 + x1))) (1 <<< (x3 &&& 31)))
  else
    (s_X13_readPart_143 gv gs M (22 + x1) (rdI M 93 0 0 (nn (22 + x1))) 0))
theorem o_X13_readPart_119 (gv : gM → Int32 → Int32 → Int32 × gM) (hgo : ∀ (M : gM) (a b : Int32), offW [71, 72, 73, 74, 75, 76, 77, 89, 91, 93] M (gv M a b).2) (M : gM) (x1 : Int32) (x3 : Int32)  : offW [71, 72, 73, 74, 75, 76, 77, 89, 91, 93] M (f_X13_readPart_119 gv M x1 x3 ).2 := by
  rw [f_X13_readPart_119]
  refine offI2 ?_ ?_
  · exact (o_X13_readPart_143 gv hgo M (22 + x1) (rdI M 93 0 0 (nn (22 + x1))) (1 <<< (x3 &&& 31)))
  · exact (o_X13_readPart_143 gv hgo M (22 + x1) (rdI M 93 0 0 (nn (22 + x1))) 0)
set_option maxRecDepth 100000 in
set_option maxHeartbeats 4000000 in
theorem t_X13_readPart_119 {E : gE} {K : Int32 × gM → Prop} {Q : Option Value → gM → Prop} (hK : ∀ z : Int32 × gM, K z → Q (some (.int z.1)) z.2) {dg : Nat} (hd : 10 ≤ dg) (gv : gM → Int32 → Int32 → Int32 × gM) (gs : gM → Int32 → Int32 → Prop) (hgv : ∀ (M : gM) (a b : Int32), gs M a b → gC E yX13_readGive cX13_readGive 9 (some .boolean) (rm dg) [.ref (gla E 226), .int a, .int b] M (fun o N => o = some (.int (gv M a b).1) ∧ N = (gv M a b).2)) (M : gM) (x1 : Int32) (x3 : Int32)   (hs : s_X13_readPart_119 gv gs M x1 x3 ) (hQ : K (f_X13_readPart_119 gv M x1 x3 )) : gG E RX13 cX13_readPart 4 (some .boolean) (rm (dg + 1)) 119 [(0, .ref (gla E 226)), (1, .int x1), (3, .int x3)] [] M Q := by
  rw [s_X13_readPart_119] at hs
  rw [f_X13_readPart_119] at hQ
  refine g_aload_n 0 dX13_readPart_119 rfl ?_
  refine g_getR 226 233 fd_X13_28 dF_Md rfl rfl dX13_readPart_120 ?_
  refine g_bipush (v := 22) dX13_readPart_123 (by decide) ?_
  refine g_iload_n 1 dX13_readPart_125 rfl ?_
  refine g_iadd dX13_readPart_126 ?_
  refine g_dup2 dX13_readPart_127 rfl rfl ?_
  have h63 := hs.1; have hs := hs.2
  refine g_iald 233 dF_Md_newNow h63 dX13_readPart_128 ?_
  refine g_aload_n 0 dX13_readPart_129 rfl ?_
  refine g_getI 226 fd_X13_111 dF_Md rfl dX13_readPart_130 ?_
  refine g_if_ne 142 dX13_readPart_133 (by decide) (fun c64 => ?_) (fun c64 => ?_)
  · have hs := ifSf hs c64; have hQ := ifQf hQ c64
    refine g_iconst (v := 0) dX13_readPart_142 (by decide) ?_
    refine g_sub [] _ rfl ?_
    exact t_X13_readPart_143 hK hd gv gs hgv M (22 + x1) (rdI M 93 0 0 (nn (22 + x1))) 0 hs hQ
  · have hs := ifSt hs c64; have hQ := ifQt hQ c64
    refine g_iconst (v := 1) dX13_readPart_136 (by decide) ?_
    refine g_iload_n 2 dX13_readPart_137 rfl ?_
    refine g_ishl dX13_readPart_138 ?_
    refine g_goto 143 dX13_readPart_139 (by decide) ?_
    refine g_sub [] _ rfl ?_
    exact t_X13_readPart_143 hK hd gv gs hgv M (22 + x1) (rdI M 93 0 0 (nn (22 + x1))) (1 <<< (x3 &&& 31)) hs hQ
def f_X13_readPart_114 (gv : gM → Int32 → Int32 → Int32 × gM) (M : gM) (x1 : Int32) (x3 : Int32)  : Int32 × gM :=
  bnd (f_X13_wrong M 3) fun M66 =>
  (f_X13_readPart_119 gv M66 x1 x3)
def s_X13_readPart_114 (gv : gM → Int32 → Int32 → Int32 × gM) (gs : gM → Int32 → Int32 → Prop) (M : gM) (x1 : Int32) (x3 : Int32)  : Prop :=
  (s_X13_wrong M 3) ∧
  (bndP (f_X13_wrong M 3) fun M66 =>
  (s_X13_readPart_119 gv gs M66 x1 x3))
theorem o_X13_readPart_114 (gv : gM → Int32 → Int32 → Int32 × gM) (hgo : ∀ (M : gM) (a b : Int32), offW [71, 72, 73, 74, 75, 76, 77, 89, 91, 93] M (gv M a b).2) (M : gM) (x1 : Int32) (x3 : Int32)  : offW [71, 72, 73, 74, 75, 76, 77, 89, 91, 93] M (f_X13_readPart_114 gv M x1 x3 ).2 := by
  rw [f_X13_readPart_114]
  refine offB2 (offR.tr ((o_X13_wrong M 3).mono (by decide))) (fun M66 oM66 => ?_)
  exact oM66.tr (o_X13_readPart_119 gv hgo M66 x1 x3)
set_option maxRecDepth 100000 in
set_option maxHeartbeats 4000000 in
theorem t_X13_readPart_114 {E : gE} {K : Int32 × gM → Prop} {Q : Option Value → gM → Prop} (hK : ∀ z : Int32 × gM, K z → Q (some (.int z.1)) z.2) {dg : Nat} (hd : 10 ≤ dg) (gv : gM → Int32 → Int32 → Int32 × gM) (gs : gM → Int32 → Int32 → Prop) (hgv : ∀ (M : gM) (a b : Int32), gs M a b → gC E yX13_readGive cX13_readGive 9 (some .boolean) (rm dg) [.ref (gla E 226), .int a, .int b] M (fun o N => o = some (.int (gv M a b).1) ∧ N = (gv M a b).2)) (M : gM) (x1 : Int32) (x3 : Int32)   (hs : s_X13_readPart_114 gv gs M x1 x3 ) (hQ : K (f_X13_readPart_114 gv M x1 x3 )) : gG E RX13 cX13_readPart 4 (some .boolean) (rm (dg + 1)) 114 [(0, .ref (gla E 226)), (1, .int x1), (3, .int x3)] [] M Q := by
  rw [s_X13_readPart_114] at hs
  rw [f_X13_readPart_114] at hQ
  refine g_aload_n 0 dX13_readPart_114 rfl ?_
  refine g_iconst (v := 3) dX13_readPart_115 (by decide) ?_
  have h65 := hs.1; have hs := hs.2
  refine g_callV (As := [.int 3]) (st := []) 226 (c_X13_wrong E M 3 h65) mt_X13_wrong ml_X13_120 dF_Md rfl rfl sg_X13_wrong rfl (rmR (by omega) (by decide)) (Nat.le_of_ble_eq_true rfl) dX13_readPart_116 ?_
  rintro _ M66 ⟨rfl, hM66⟩
  have hQ := bndQ hQ M66 hM66; have hs := bndS hs M66 hM66
  exact t_X13_readPart_119 hK hd gv gs hgv M66 x1 x3 hs hQ
def f_X13_readPart_68 (gv : gM → Int32 → Int32 → Int32 × gM) (M : gM) (x1 : Int32) (x2 : Int32)  : Int32 × gM :=
  bnd (f_X13_goOn M) fun M49 =>
  (bnd (f_X13_toldHere M49 0) fun z51 =>
  (if (rdI z51.2 76 0 0 0) = 0 then
    (if z51.1 = (rdI z51.2 89 0 0 (nn (x2 + 0))) then
      (f_X13_readPart_114 gv z51.2 x1 z51.1)
    else
      (if (((rdI z51.2 93 0 0 (nn (22 + x1))) >>> (z51.1 &&& 31)) &&& 1) = 1 then
        (f_X13_readPart_114 gv z51.2 x1 z51.1)
      else
        (f_X13_readPart_119 gv z51.2 x1 z51.1)))
  else
    (f_X13_readPart_119 gv z51.2 x1 z51.1)))
def s_X13_readPart_68 (gv : gM → Int32 → Int32 → Int32 × gM) (gs : gM → Int32 → Int32 → Prop) (M : gM) (x1 : Int32) (x2 : Int32)  : Prop :=
  (s_X13_goOn M) ∧
  (bndP (f_X13_goOn M) fun M49 =>
  ((s_X13_toldHere M49 0) ∧
  (bndP (f_X13_toldHere M49 0) fun z51 =>
  (if (rdI z51.2 76 0 0 0) = 0 then
    ((vp_in (x2 + 0) 502) ∧
    (if z51.1 = (rdI z51.2 89 0 0 (nn (x2 + 0))) then
      (s_X13_readPart_114 gv gs z51.2 x1 z51.1)
    else
      ((vp_in (22 + x1) 65) ∧
      (if (((rdI z51.2 93 0 0 (nn (22 + x1))) >>> (z51.1 &&& 31)) &&& 1) = 1 then
        (s_X13_readPart_114 gv gs z51.2 x1 z51.1)
      else
        (s_X13_readPart_119 gv gs z51.2 x1 z51.1)))))
  else
    (s_X13_readPart_119 gv gs z51.2 x1 z51.1)))))
theorem o_X13_readPart_68 (gv : gM → Int32 → Int32 → Int32 × gM) (hgo : ∀ (M : gM) (a b : Int32), offW [71, 72, 73, 74, 75, 76, 77, 89, 91, 93] M (gv M a b).2) (M : gM) (x1 : Int32) (x2 : Int32)  : offW [71, 72, 73, 74, 75, 76, 77, 89, 91, 93] M (f_X13_readPart_68 gv M x1 x2 ).2 := by
  rw [f_X13_readPart_68]
  refine offB2 (offR.tr ((o_X13_goOn M).mono (by decide))) (fun M49 oM49 => ?_)
  refine offZ2 (oM49.tr ((o_X13_toldHere M49 0).mono (by decide))) (fun z51 oz51 => ?_)
  refine offI2 ?_ ?_
  · refine offI2 ?_ ?_
    · exact oz51.tr (o_X13_readPart_114 gv hgo z51.2 x1 z51.1)
    · refine offI2 ?_ ?_
      · exact oz51.tr (o_X13_readPart_114 gv hgo z51.2 x1 z51.1)
      · exact oz51.tr (o_X13_readPart_119 gv hgo z51.2 x1 z51.1)
  · exact oz51.tr (o_X13_readPart_119 gv hgo z51.2 x1 z51.1)
set_option maxRecDepth 100000 in
set_option maxHeartbeats 4000000 in
theorem t_X13_readPart_68 {E : gE} {K : Int32 × gM → Prop} {Q : Option Value → gM → Prop} (hK : ∀ z : Int32 × gM, K z → Q (some (.int z.1)) z.2) {dg : Nat} (hd : 10 ≤ dg) (gv : gM → Int32 → Int32 → Int32 × gM) (gs : gM → Int32 → Int32 → Prop) (hgv : ∀ (M : gM) (a b : Int32), gs M a b → gC E yX13_readGive cX13_readGive 9 (some .boolean) (rm dg) [.ref (gla E 226), .int a, .int b] M (fun o N => o = some (.int (gv M a b).1) ∧ N = (gv M a b).2)) (M : gM) (x1 : Int32) (x2 : Int32)   (hs : s_X13_readPart_68 gv gs M x1 x2 ) (hQ : K (f_X13_readPart_68 gv M x1 x2 )) : gG E RX13 cX13_readPart 4 (some .boolean) (rm (dg + 1)) 68 [(0, .ref (gla E 226)), (1, .int x1), (2, .int x2)] [] M Q := by
  rw [s_X13_readPart_68] at hs
  rw [f_X13_readPart_68] at hQ
  refine g_aload_n 0 dX13_readPart_68 rfl ?_
  have h48 := hs.1; have hs := hs.2
  refine g_callV (As := []) (st := []) 226 (c_X13_goOn E M h48) mt_X13_goOn ml_X13_128 dF_Md rfl rfl sg_X13_goOn rfl (rmR (by omega) (by decide)) (Nat.le_of_ble_eq_true rfl) dX13_readPart_69 ?_
  rintro _ M49 ⟨rfl, hM49⟩
  have hQ := bndQ hQ M49 hM49; have hs := bndS hs M49 hM49
  refine g_aload_n 0 dX13_readPart_72 rfl ?_
  refine g_iconst (v := 0) dX13_readPart_73 (by decide) ?_
  have h50 := hs.1; have hs := hs.2
  refine g_callV (As := [.int 0]) (st := []) 226 (c_X13_toldHere E M49 0 h50) mt_X13_toldHere ml_X13_139 dF_Md rfl rfl sg_X13_toldHere rfl (rmR (by omega) (by decide)) (Nat.le_of_ble_eq_true rfl) dX13_readPart_74 ?_
  rintro _ _ ⟨rfl, rfl⟩
  obtain ⟨z51, hz51⟩ : ∃ z, z = f_X13_toldHere M49 0 := ⟨_, rfl⟩
  rw [← hz51]
  have hQ := bndQ hQ z51 hz51; have hs := bndS hs z51 hz51
  refine g_istore_n _ dX13_readPart_77 (by decide) rfl ?_
  refine g_aload_n 1 dX13_readPart_78 rfl ?_
  refine g_getI 226 fd_X13_111 dF_Md rfl dX13_readPart_79 ?_
  refine g_if_ne 119 dX13_readPart_82 (by decide) (fun c52 => ?_) (fun c52 => ?_)
  · have hs := ifSf hs c52; have hQ := ifQf hQ c52
    refine g_sub [1, 2, 0] _ rfl ?_
    exact t_X13_readPart_119 hK hd gv gs hgv z51.2 x1 z51.1 hs hQ
  · have hs := ifSt hs c52; have hQ := ifQt hQ c52
    refine g_iload_n 0 dX13_readPart_85 rfl ?_
    refine g_aload_n 1 dX13_readPart_86 rfl ?_
    refine g_getR 226 229 fd_X13_16 dF_Md rfl rfl dX13_readPart_87 ?_
    refine g_iload_n 3 dX13_readPart_90 rfl ?_
    refine g_iconst (v := 0) dX13_readPart_91 (by decide) ?_
    refine g_iadd dX13_readPart_92 ?_
    have h53 := hs.1; have hs := hs.2
    refine g_iald 229 dF_Md_fresh h53 dX13_readPart_93 ?_
    refine g_icmp_eq 114 dX13_readPart_94 (by decide) (fun c54 => ?_) (fun c54 => ?_)
    · have hs := ifSt hs c54; have hQ := ifQt hQ c54
      refine g_sub [1, 2, 0] _ rfl ?_
      exact t_X13_readPart_114 hK hd gv gs hgv z51.2 x1 z51.1 hs hQ
    · have hs := ifSf hs c54; have hQ := ifQf hQ c54
      refine g_aload_n 1 dX13_readPart_97 rfl ?_
      refine g_getR 226 233 fd_X13_28 dF_Md rfl rfl dX13_readPart_98 ?_
      refine g_bipush (v := 22) dX13_readPart_101 (by decide) ?_
      refine g_iload_n 2 dX13_readPart_103 rfl ?_
      refine g_iadd dX13_readPart_104 ?_
      have h55 := hs.1; have hs := hs.2
      refine g_iald 233 dF_Md_newNow h55 dX13_readPart_105 ?_
      refine g_iload_n 0 dX13_readPart_106 rfl ?_
      refine g_ishr dX13_readPart_107 ?_
      refine g_iconst (v := 1) dX13_readPart_108 (by decide) ?_
      refine g_iand dX13_readPart_109 ?_
      refine g_iconst (v := 1) dX13_readPart_110 (by decide) ?_
      refine g_icmp_ne 119 dX13_readPart_111 (by decide) (fun c56 => ?_) (fun c56 => ?_)
      · have hs := ifSf hs c56; have hQ := ifQf hQ c56
        refine g_sub [1, 2, 0] _ rfl ?_
        exact t_X13_readPart_119 hK hd gv gs hgv z51.2 x1 z51.1 hs hQ
      · have hs := ifSt hs c56; have hQ := ifQt hQ c56
        refine g_sub [1, 2, 0] _ rfl ?_
        exact t_X13_readPart_114 hK hd gv gs hgv z51.2 x1 z51.1 hs hQ
def f_X13_readPart_192 (gv : gM → Int32 → Int32 → Int32 × gM) (M : gM) (x2 : Int32)  : Int32 × gM :=
  bnd (f_X13_goOn M) fun M43 =>
  (bnd (f_X13_toldHere M43 0) fun z45 =>
  (bnd (wrI z45.2 89 0 0 (nn (x2 + 6)) z45.1) fun M47 =>
  ((1, M47))))
def s_X13_readPart_192 (gv : gM → Int32 → Int32 → Int32 × gM) (gs : gM → Int32 → Int32 → Prop) (M : gM) (x2 : Int32)  : Prop :=
  (s_X13_goOn M) ∧
  (bndP (f_X13_goOn M) fun M43 =>
  ((s_X13_toldHere M43 0) ∧
  (bndP (f_X13_toldHere M43 0) fun z45 =>
  ((vp_in (x2 + 6) 502) ∧
  (bndP (wrI z45.2 89 0 0 (nn (x2 + 6)) z45.1) fun M47 =>
  (True))))))
theorem o_X13_readPart_192 (gv : gM → Int32 → Int32 → Int32 × gM) (hgo : ∀ (M : gM) (a b : Int32), offW [71, 72, 73, 74, 75, 76, 77, 89, 91, 93] M (gv M a b).2) (M : gM) (x2 : Int32)  : offW [71, 72, 73, 74, 75, 76, 77, 89, 91, 93] M (f_X13_readPart_192 gv M x2 ).2 := by
  rw [f_X13_readPart_192]
  refine offB2 (offR.tr ((o_X13_goOn M).mono (by decide))) (fun M43 oM43 => ?_)
  refine offZ2 (oM43.tr ((o_X13_toldHere M43 0).mono (by decide))) (fun z45 oz45 => ?_)
  refine offB2 (oz45.wI (by decide)) (fun M47 oM47 => ?_)
  exact oM47
set_option maxRecDepth 100000 in
set_option maxHeartbeats 4000000 in
theorem t_X13_readPart_192 {E : gE} {K : Int32 × gM → Prop} {Q : Option Value → gM → Prop} (hK : ∀ z : Int32 × gM, K z → Q (some (.int z.1)) z.2) {dg : Nat} (hd : 10 ≤ dg) (gv : gM → Int32 → Int32 → Int32 × gM) (gs : gM → Int32 → Int32 → Prop) (hgv : ∀ (M : gM) (a b : Int32), gs M a b → gC E yX13_readGive cX13_readGive 9 (some .boolean) (rm dg) [.ref (gla E 226), .int a, .int b] M (fun o N => o = some (.int (gv M a b).1) ∧ N = (gv M a b).2)) (M : gM) (x2 : Int32)   (hs : s_X13_readPart_192 gv gs M x2 ) (hQ : K (f_X13_readPart_192 gv M x2 )) : gG E RX13 cX13_readPart 4 (some .boolean) (rm (dg + 1)) 192 [(0, .ref (gla E 226)), (2, .int x2)] [] M Q := by
  rw [s_X13_readPart_192] at hs
  rw [f_X13_readPart_192] at hQ
  refine g_aload_n 0 dX13_readPart_192 rfl ?_
  have h42 := hs.1; have hs := hs.2
  refine g_callV (As := []) (st := []) 226 (c_X13_goOn E M h42) mt_X13_goOn ml_X13_128 dF_Md rfl rfl sg_X13_goOn rfl (rmR (by omega) (by decide)) (Nat.le_of_ble_eq_true rfl) dX13_readPart_193 ?_
  rintro _ M43 ⟨rfl, hM43⟩
  have hQ := bndQ hQ M43 hM43; have hs := bndS hs M43 hM43
  refine g_aload_n 0 dX13_readPart_196 rfl ?_
  refine g_getR 226 229 fd_X13_16 dF_Md rfl rfl dX13_readPart_197 ?_
  refine g_iload_n 1 dX13_readPart_200 rfl ?_
  refine g_bipush (v := 6) dX13_readPart_201 (by decide) ?_
  refine g_iadd dX13_readPart_203 ?_
  refine g_aload_n 0 dX13_readPart_204 rfl ?_
  refine g_iconst (v := 0) dX13_readPart_205 (by decide) ?_
  have h44 := hs.1; have hs := hs.2
  refine g_callV (As := [.int 0]) (st := [.int (x2 + 6), .ref (gla E 229)]) 226 (c_X13_toldHere E M43 0 h44) mt_X13_toldHere ml_X13_139 dF_Md rfl rfl sg_X13_toldHere rfl (rmR (by omega) (by decide)) (Nat.le_of_ble_eq_true rfl) dX13_readPart_206 ?_
  rintro _ _ ⟨rfl, rfl⟩
  obtain ⟨z45, hz45⟩ : ∃ z, z = f_X13_toldHere M43 0 := ⟨_, rfl⟩
  rw [← hz45]
  have hQ := bndQ hQ z45 hz45; have hs := bndS hs z45 hz45
  have h46 := hs.1; have hs := hs.2
  refine g_iast 229 dF_Md_fresh h46 dX13_readPart_209 (fun M47 hM47 => ?_)
  have hQ := bndQ hQ M47 hM47; have hs := bndS hs M47 hM47
  refine g_goto 329 dX13_readPart_210 (by decide) ?_
  refine g_iconst (v := 1) dX13_readPart_329 (by decide) ?_
  exact g_zret rfl (Or.inr rfl) dX13_readPart_330 (hK _ hQ)
def f_X13_readPart_322 (gv : gM → Int32 → Int32 → Int32 × gM) (M : gM) (y1 : Int32) (y2 : Int32) (y3 : Int32)  : Int32 × gM :=
  bnd (wrI M 91 0 0 (nn y1) (y2 ||| y3)) fun M68 =>
  ((1, M68))
def s_X13_readPart_322 (gv : gM → Int32 → Int32 → Int32 × gM) (gs : gM → Int32 → Int32 → Prop) (M : gM) (y1 : Int32) (y2 : Int32) (y3 : Int32)  : Prop :=
  (vp_in y1 12) ∧
  (bndP (wrI M 91 0 0 (nn y1) (y2 ||| y3)) fun M68 =>
  (True))
theorem o_X13_readPart_322 (gv : gM → Int32 → Int32 → Int32 × gM) (hgo : ∀ (M : gM) (a b : Int32), offW [71, 72, 73, 74, 75, 76, 77, 89, 91, 93] M (gv M a b).2) (M : gM) (y1 : Int32) (y2 : Int32) (y3 : Int32)  : offW [71, 72, 73, 74, 75, 76, 77, 89, 91, 93] M (f_X13_readPart_322 gv M y1 y2 y3 ).2 := by
  rw [f_X13_readPart_322]
  refine offB2 (offR.wI (by decide)) (fun M68 oM68 => ?_)
  exact oM68
set_option maxRecDepth 100000 in
set_option maxHeartbeats 4000000 in
theorem t_X13_readPart_322 {E : gE} {K : Int32 × gM → Prop} {Q : Option Value → gM → Prop} (hK : ∀ z : Int32 × gM, K z → Q (some (.int z.1)) z.2) {dg : Nat} (hd : 10 ≤ dg) (gv : gM → Int32 → Int32 → Int32 × gM) (gs : gM → Int32 → Int32 → Prop) (hgv : ∀ (M : gM) (a b : Int32), gs M a b → gC E yX13_readGive cX13_readGive 9 (some .boolean) (rm dg) [.ref (gla E 226), .int a, .int b] M (fun o N => o = some (.int (gv M a b).1) ∧ N = (gv M a b).2)) (M : gM) (y1 : Int32) (y2 : Int32) (y3 : Int32)   (hs : s_X13_readPart_322 gv gs M y1 y2 y3 ) (hQ : K (f_X13_readPart_322 gv M y1 y2 y3 )) : gG E RX13 cX13_readPart 4 (some .boolean) (rm (dg + 1)) 322 [] [.int y3, .int y2, .int y1, .ref (gla E 231)] M Q := by
  rw [s_X13_readPart_322] at hs
  rw [f_X13_readPart_322] at hQ
  refine g_ior dX13_readPart_322 ?_
  have h67 := hs.1; have hs := hs.2
  refine g_iast 231 dF_Md_newStrikes h67 dX13_readPart_323 (fun M68 hM68 => ?_)
  have hQ := bndQ hQ M68 hM68; have hs := bndS hs M68 hM68
  refine g_goto 329 dX13_readPart_324 (by decide) ?_
  refine g_iconst (v := 1) dX13_readPart_329 (by decide) ?_
  exact g_zret rfl (Or.inr rfl) dX13_readPart_330 (hK _ hQ)
def f_X13_readPart_301 (gv : gM → Int32 → Int32 → Int32 × gM) (M : gM) (x1 : Int32) (x3 : Int32)  : Int32 × gM :=
  if (rdI M 76 0 0 0) = 0 then
    (f_X13_readPart_322 gv M x1 (rdI M 91 0 0 (nn x1)) (1 <<< (x3 &&& 31)))
  else
    (f_X13_readPart_322 gv M x1 (rdI M 91 0 0 (nn x1)) 0)
def s_X13_readPart_301 (gv : gM → Int32 → Int32 → Int32 × gM) (gs : gM → Int32 → Int32 → Prop) (M : gM) (x1 : Int32) (x3 : Int32)  : Prop :=
  (vp_in x1 12) ∧
  (if (rdI M 76 0 0 0) = 0 then
    (s_X13_readPart_322 gv gs M x1 (rdI M 91 0 0 (nn x1)) (1 <<< (x3 &&& 31)))
  else
    (s_X13_readPart_322 gv gs M x1 (rdI M 91 0 0 (nn x1)) 0))
theorem o_X13_readPart_301 (gv : gM → Int32 → Int32 → Int32 × gM) (hgo : ∀ (M : gM) (a b : Int32), offW [71, 72, 73, 74, 75, 76, 77, 89, 91, 93] M (gv M a b).2) (M : gM) (x1 : Int32) (x3 : Int32)  : offW [71, 72, 73, 74, 75, 76, 77, 89, 91, 93] M (f_X13_readPart_301 gv M x1 x3 ).2 := by
  rw [f_X13_readPart_301]
  refine offI2 ?_ ?_
  · exact (o_X13_readPart_322 gv hgo M x1 (rdI M 91 0 0 (nn x1)) (1 <<< (x3 &&& 31)))
  · exact (o_X13_readPart_322 gv hgo M x1 (rdI M 91 0 0 (nn x1)) 0)
set_option maxRecDepth 100000 in
set_option maxHeartbeats 4000000 in
theorem t_X13_readPart_301 {E : gE} {K : Int32 × gM → Prop} {Q : Option Value → gM → Prop} (hK : ∀ z : Int32 × gM, K z → Q (some (.int z.1)) z.2) {dg : Nat} (hd : 10 ≤ dg) (gv : gM → Int32 → Int32 → Int32 × gM) (gs : gM → Int32 → Int32 → Prop) (hgv : ∀ (M : gM) (a b : Int32), gs M a b → gC E yX13_readGive cX13_readGive 9 (some .boolean) (rm dg) [.ref (gla E 226), .int a, .int b] M (fun o N => o = some (.int (gv M a b).1) ∧ N = (gv M a b).2)) (M : gM) (x1 : Int32) (x3 : Int32)   (hs : s_X13_readPart_301 gv gs M x1 x3 ) (hQ : K (f_X13_readPart_301 gv M x1 x3 )) : gG E RX13 cX13_readPart 4 (some .boolean) (rm (dg + 1)) 301 [(0, .ref (gla E 226)), (1, .int x1), (3, .int x3)] [] M Q := by
  rw [s_X13_readPart_301] at hs
  rw [f_X13_readPart_301] at hQ
  refine g_aload_n 0 dX13_readPart_301 rfl ?_
  refine g_getR 226 231 fd_X13_22 dF_Md rfl rfl dX13_readPart_302 ?_
  refine g_iload_n 1 dX13_readPart_305 rfl ?_
  refine g_dup2 dX13_readPart_306 rfl rfl ?_
  have h59 := hs.1; have hs := hs.2
  refine g_iald 231 dF_Md_newStrikes h59 dX13_readPart_307 ?_
  refine g_aload_n 0 dX13_readPart_308 rfl ?_
  refine g_getI 226 fd_X13_111 dF_Md rfl dX13_readPart_309 ?_
  refine g_if_ne 321 dX13_readPart_312 (by decide) (fun c60 => ?_) (fun c60 => ?_)
  · have hs := ifSf hs c60; have hQ := ifQf hQ c60
    refine g_iconst (v := 0) dX13_readPart_321 (by decide) ?_
    refine g_sub [] _ rfl ?_
    exact t_X13_readPart_322 hK hd gv gs hgv M x1 (rdI M 91 0 0 (nn x1)) 0 hs hQ
  · have hs := ifSt hs c60; have hQ := ifQt hQ c60
    refine g_iconst (v := 1) dX13_readPart_315 (by decide) ?_
    refine g_iload_n 2 dX13_readPart_316 rfl ?_
    refine g_ishl dX13_readPart_317 ?_
    refine g_goto 322 dX13_readPart_318 (by decide) ?_
    refine g_sub [] _ rfl ?_
    exact t_X13_readPart_322 hK hd gv gs hgv M x1 (rdI M 91 0 0 (nn x1)) (1 <<< (x3 &&& 31)) hs hQ
def f_X13_readPart_296 (gv : gM → Int32 → Int32 → Int32 × gM) (M : gM) (x1 : Int32) (x3 : Int32)  : Int32 × gM :=
  bnd (f_X13_wrong M 3) fun M62 =>
  (f_X13_readPart_301 gv M62 x1 x3)
def s_X13_readPart_296 (gv : gM → Int32 → Int32 → Int32 × gM) (gs : gM → Int32 → Int32 → Prop) (M : gM) (x1 : Int32) (x3 : Int32)  : Prop :=
  (s_X13_wrong M 3) ∧
  (bndP (f_X13_wrong M 3) fun M62 =>
  (s_X13_readPart_301 gv gs M62 x1 x3))
theorem o_X13_readPart_296 (gv : gM → Int32 → Int32 → Int32 × gM) (hgo : ∀ (M : gM) (a b : Int32), offW [71, 72, 73, 74, 75, 76, 77, 89, 91, 93] M (gv M a b).2) (M : gM) (x1 : Int32) (x3 : Int32)  : offW [71, 72, 73, 74, 75, 76, 77, 89, 91, 93] M (f_X13_readPart_296 gv M x1 x3 ).2 := by
  rw [f_X13_readPart_296]
  refine offB2 (offR.tr ((o_X13_wrong M 3).mono (by decide))) (fun M62 oM62 => ?_)
  exact oM62.tr (o_X13_readPart_301 gv hgo M62 x1 x3)
set_option maxRecDepth 100000 in
set_option maxHeartbeats 4000000 in
theorem t_X13_readPart_296 {E : gE} {K : Int32 × gM → Prop} {Q : Option Value → gM → Prop} (hK : ∀ z : Int32 × gM, K z → Q (some (.int z.1)) z.2) {dg : Nat} (hd : 10 ≤ dg) (gv : gM → Int32 → Int32 → Int32 × gM) (gs : gM → Int32 → Int32 → Prop) (hgv : ∀ (M : gM) (a b : Int32), gs M a b → gC E yX13_readGive cX13_readGive 9 (some .boolean) (rm dg) [.ref (gla E 226), .int a, .int b] M (fun o N => o = some (.int (gv M a b).1) ∧ N = (gv M a b).2)) (M : gM) (x1 : Int32) (x3 : Int32)   (hs : s_X13_readPart_296 gv gs M x1 x3 ) (hQ : K (f_X13_readPart_296 gv M x1 x3 )) : gG E RX13 cX13_readPart 4 (some .boolean) (rm (dg + 1)) 296 [(0, .ref (gla E 226)), (1, .int x1), (3, .int x3)] [] M Q := by
  rw [s_X13_readPart_296] at hs
  rw [f_X13_readPart_296] at hQ
  refine g_aload_n 0 dX13_readPart_296 rfl ?_
  refine g_iconst (v := 3) dX13_readPart_297 (by decide) ?_
  have h61 := hs.1; have hs := hs.2
  refine g_callV (As := [.int 3]) (st := []) 226 (c_X13_wrong E M 3 h61) mt_X13_wrong ml_X13_120 dF_Md rfl rfl sg_X13_wrong rfl (rmR (by omega) (by decide)) (Nat.le_of_ble_eq_true rfl) dX13_readPart_298 ?_
  rintro _ M62 ⟨rfl, hM62⟩
  have hQ := bndQ hQ M62 hM62; have hs := bndS hs M62 hM62
  exact t_X13_readPart_301 hK hd gv gs hgv M62 x1 x3 hs hQ
def f_X13_readPart_240 (gv : gM → Int32 → Int32 → Int32 × gM) (M : gM) (x1 : Int32) (x2 : Int32)  : Int32 × gM :=
  bnd (f_X13_goOn M) fun M33 =>
  (bnd (f_X13_toldHere M33 2) fun z35 =>
  (if (rdI z35.2 76 0 0 0) = 0 then
    (if (rdI z35.2 89 0 0 (nn ((58 + (7 * z35.1)) + 0))) = (rdI z35.2 89 0 0 (nn (x2 + 0))) then
      (if (((rdI z35.2 91 0 0 (nn x1)) >>> (z35.1 &&& 31)) &&& 1) = 1 then
        (f_X13_readPart_296 gv z35.2 x1 z35.1)
      else
        (f_X13_readPart_301 gv z35.2 x1 z35.1))
    else
      (f_X13_readPart_296 gv z35.2 x1 z35.1))
  else
    (f_X13_readPart_301 gv z35.2 x1 z35.1)))
def s_X13_readPart_240 (gv : gM → Int32 → Int32 → Int32 × gM) (gs : gM → Int32 → Int32 → Prop) (M : gM) (x1 : Int32) (x2 : Int32)  : Prop :=
  (s_X13_goOn M) ∧
  (bndP (f_X13_goOn M) fun M33 =>
  ((s_X13_toldHere M33 2) ∧
  (bndP (f_X13_toldHere M33 2) fun z35 =>
  (if (rdI z35.2 76 0 0 0) = 0 then
    ((vp_in ((58 + (7 * z35.1)) + 0) 502) ∧
    ((vp_in (x2 + 0) 502) ∧
    (if (rdI z35.2 89 0 0 (nn ((58 + (7 * z35.1)) + 0))) = (rdI z35.2 89 0 0 (nn (x2 + 0))) then
      ((vp_in x1 12) ∧
      (if (((rdI z35.2 91 0 0 (nn x1)) >>> (z35.1 &&& 31)) &&& 1) = 1 then
        (s_X13_readPart_296 gv gs z35.2 x1 z35.1)
      else
        (s_X13_readPart_301 gv gs z35.2 x1 z35.1)))
    else
      (s_X13_readPart_296 gv gs z35.2 x1 z35.1))))
  else
    (s_X13_readPart_301 gv gs z35.2 x1 z35.1)))))
theorem o_X13_readPart_240 (gv : gM → Int32 → Int32 → Int32 × gM) (hgo : ∀ (M : gM) (a b : Int32), offW [71, 72, 73, 74, 75, 76, 77, 89, 91, 93] M (gv M a b).2) (M : gM) (x1 : Int32) (x2 : Int32)  : offW [71, 72, 73, 74, 75, 76, 77, 89, 91, 93] M (f_X13_readPart_240 gv M x1 x2 ).2 := by
  rw [f_X13_readPart_240]
  refine offB2 (offR.tr ((o_X13_goOn M).mono (by decide))) (fun M33 oM33 => ?_)
  refine offZ2 (oM33.tr ((o_X13_toldHere M33 2).mono (by decide))) (fun z35 oz35 => ?_)
  refine offI2 ?_ ?_
  · refine offI2 ?_ ?_
    · refine offI2 ?_ ?_
      · exact oz35.tr (o_X13_readPart_296 gv hgo z35.2 x1 z35.1)
      · exact oz35.tr (o_X13_readPart_301 gv hgo z35.2 x1 z35.1)
    · exact oz35.tr (o_X13_readPart_296 gv hgo z35.2 x1 z35.1)
  · exact oz35.tr (o_X13_readPart_301 gv hgo z35.2 x1 z35.1)
set_option maxRecDepth 100000 in
set_option maxHeartbeats 4000000 in
theorem t_X13_readPart_240 {E : gE} {K : Int32 × gM → Prop} {Q : Option Value → gM → Prop} (hK : ∀ z : Int32 × gM, K z → Q (some (.int z.1)) z.2) {dg : Nat} (hd : 10 ≤ dg) (gv : gM → Int32 → Int32 → Int32 × gM) (gs : gM → Int32 → Int32 → Prop) (hgv : ∀ (M : gM) (a b : Int32), gs M a b → gC E yX13_readGive cX13_readGive 9 (some .boolean) (rm dg) [.ref (gla E 226), .int a, .int b] M (fun o N => o = some (.int (gv M a b).1) ∧ N = (gv M a b).2)) (M : gM) (x1 : Int32) (x2 : Int32)   (hs : s_X13_readPart_240 gv gs M x1 x2 ) (hQ : K (f_X13_readPart_240 gv M x1 x2 )) : gG E RX13 cX13_readPart 4 (some .boolean) (rm (dg + 1)) 240 [(0, .ref (gla E 226)), (1, .int x1), (2, .int x2)] [] M Q := by
  rw [s_X13_readPart_240] at hs
  rw [f_X13_readPart_240] at hQ
  refine g_aload_n 0 dX13_readPart_240 rfl ?_
  have h32 := hs.1; have hs := hs.2
  refine g_callV (As := []) (st := []) 226 (c_X13_goOn E M h32) mt_X13_goOn ml_X13_128 dF_Md rfl rfl sg_X13_goOn rfl (rmR (by omega) (by decide)) (Nat.le_of_ble_eq_true rfl) dX13_readPart_241 ?_
  rintro _ M33 ⟨rfl, hM33⟩
  have hQ := bndQ hQ M33 hM33; have hs := bndS hs M33 hM33
  refine g_aload_n 0 dX13_readPart_244 rfl ?_
  refine g_iconst (v := 2) dX13_readPart_245 (by decide) ?_
  have h34 := hs.1; have hs := hs.2
  refine g_callV (As := [.int 2]) (st := []) 226 (c_X13_toldHere E M33 2 h34) mt_X13_toldHere ml_X13_139 dF_Md rfl rfl sg_X13_toldHere rfl (rmR (by omega) (by decide)) (Nat.le_of_ble_eq_true rfl) dX13_readPart_246 ?_
  rintro _ _ ⟨rfl, rfl⟩
  obtain ⟨z35, hz35⟩ : ∃ z, z = f_X13_toldHere M33 2 := ⟨_, rfl⟩
  rw [← hz35]
  have hQ := bndQ hQ z35 hz35; have hs := bndS hs z35 hz35
  refine g_istore_n _ dX13_readPart_249 (by decide) rfl ?_
  refine g_aload_n 1 dX13_readPart_250 rfl ?_
  refine g_getI 226 fd_X13_111 dF_Md rfl dX13_readPart_251 ?_
  refine g_if_ne 301 dX13_readPart_254 (by decide) (fun c36 => ?_) (fun c36 => ?_)
  · have hs := ifSf hs c36; have hQ := ifQf hQ c36
    refine g_sub [1, 2, 0] _ rfl ?_
    exact t_X13_readPart_301 hK hd gv gs hgv z35.2 x1 z35.1 hs hQ
  · have hs := ifSt hs c36; have hQ := ifQt hQ c36
    refine g_aload_n 1 dX13_readPart_257 rfl ?_
    refine g_getR 226 229 fd_X13_16 dF_Md rfl rfl dX13_readPart_258 ?_
    refine g_bipush (v := 58) dX13_readPart_261 (by decide) ?_
    refine g_bipush (v := 7) dX13_readPart_263 (by decide) ?_
    refine g_iload_n 0 dX13_readPart_265 rfl ?_
    refine g_imul dX13_readPart_266 ?_
    refine g_iadd dX13_readPart_267 ?_
    refine g_iconst (v := 0) dX13_readPart_268 (by decide) ?_
    refine g_iadd dX13_readPart_269 ?_
    have h37 := hs.1; have hs := hs.2
    refine g_iald 229 dF_Md_fresh h37 dX13_readPart_270 ?_
    refine g_aload_n 1 dX13_readPart_271 rfl ?_
    refine g_getR 226 229 fd_X13_16 dF_Md rfl rfl dX13_readPart_272 ?_
    refine g_iload_n 3 dX13_readPart_275 rfl ?_
    refine g_iconst (v := 0) dX13_readPart_276 (by decide) ?_
    refine g_iadd dX13_readPart_277 ?_
    have h38 := hs.1; have hs := hs.2
    refine g_iald 229 dF_Md_fresh h38 dX13_readPart_278 ?_
    refine g_icmp_ne 296 dX13_readPart_279 (by decide) (fun c39 => ?_) (fun c39 => ?_)
    · have hs := ifSf hs c39; have hQ := ifQf hQ c39
      refine g_sub [1, 2, 0] _ rfl ?_
      exact t_X13_readPart_296 hK hd gv gs hgv z35.2 x1 z35.1 hs hQ
    · have hs := ifSt hs c39; have hQ := ifQt hQ c39
      refine g_aload_n 1 dX13_readPart_282 rfl ?_
      refine g_getR 226 231 fd_X13_22 dF_Md rfl rfl dX13_readPart_283 ?_
      refine g_iload_n 2 dX13_readPart_286 rfl ?_
      have h40 := hs.1; have hs := hs.2
      refine g_iald 231 dF_Md_newStrikes h40 dX13_readPart_287 ?_
      refine g_iload_n 0 dX13_readPart_288 rfl ?_
      refine g_ishr dX13_readPart_289 ?_
      refine g_iconst (v := 1) dX13_readPart_290 (by decide) ?_
      refine g_iand dX13_readPart_291 ?_
      refine g_iconst (v := 1) dX13_readPart_292 (by decide) ?_
      refine g_icmp_ne 301 dX13_readPart_293 (by decide) (fun c41 => ?_) (fun c41 => ?_)
      · have hs := ifSf hs c41; have hQ := ifQf hQ c41
        refine g_sub [1, 2, 0] _ rfl ?_
        exact t_X13_readPart_301 hK hd gv gs hgv z35.2 x1 z35.1 hs hQ
      · have hs := ifSt hs c41; have hQ := ifQt hQ c41
        refine g_sub [1, 2, 0] _ rfl ?_
        exact t_X13_readPart_296 hK hd gv gs hgv z35.2 x1 z35.1 hs hQ
def f_X13_readPart (gv : gM → Int32 → Int32 → Int32 × gM) (M : gM) (x1 : Int32) (x2 : Int32) : Int32 × gM :=
  if (f_X13_isWord M 8) = 0 then
    (if (f_X13_isWord M 14) = 0 then
      (if (f_X13_isWord M 15) = 0 then
        (if (f_X13_isWord M 19) = 0 then
          (if (f_X13_isWord M 20) = 0 then
            ((0, M))
          else
            (if (f_J6_bitCount_0f7a4 M (rdI M 91 0 0 (nn x1))) = 3 then
              (bnd (f_X13_wrong M 2) fun M15 =>
              (f_X13_readPart_240 gv M15 x1 x2))
            else
              (f_X13_readPart_240 gv M x1 x2)))
        else
          (if (rdI M 89 0 0 (nn (x2 + 6))) = (-2) then
            (f_X13_readPart_192 gv M x2)
          else
            (bnd (f_X13_wrong M 3) fun M19 =>
            (f_X13_readPart_192 gv M19 x2))))
      else
        (bnd (gv M x1 x2) fun z21 =>
        ((z21.1, z21.2))))
    else
      (if (f_J6_bitCount_0f7a4 M (rdI M 93 0 0 (nn (22 + x1)))) = 4 then
        (bnd (f_X13_wrong M 2) fun M27 =>
        (f_X13_readPart_68 gv M27 x1 x2))
      else
        (f_X13_readPart_68 gv M x1 x2)))
  else
    (if (rdI M 89 0 0 (nn (x2 + 4))) = 1 then
      (bnd (f_X13_wrong M 3) fun M31 =>
      (f_X13_readPart_26 gv M31 x2))
    else
      (f_X13_readPart_26 gv M x2))
def s_X13_readPart (gv : gM → Int32 → Int32 → Int32 × gM) (gs : gM → Int32 → Int32 → Prop) (M : gM) (x1 : Int32) (x2 : Int32) : Prop :=
  (s_X13_isWord M 8) ∧
  (if (f_X13_isWord M 8) = 0 then
    ((s_X13_isWord M 14) ∧
    (if (f_X13_isWord M 14) = 0 then
      ((s_X13_isWord M 15) ∧
      (if (f_X13_isWord M 15) = 0 then
        ((s_X13_isWord M 19) ∧
        (if (f_X13_isWord M 19) = 0 then
          ((s_X13_isWord M 20) ∧
          (if (f_X13_isWord M 20) = 0 then
            (True)
          else
            ((vp_in x1 12) ∧
            ((s_J6_bitCount_0f7a4 M (rdI M 91 0 0 (nn x1))) ∧
            (if (f_J6_bitCount_0f7a4 M (rdI M 91 0 0 (nn x1))) = 3 then
              ((s_X13_wrong M 2) ∧
              (bndP (f_X13_wrong M 2) fun M15 =>
              (s_X13_readPart_240 gv gs M15 x1 x2)))
            else
              (s_X13_readPart_240 gv gs M x1 x2))))))
        else
          ((vp_in (x2 + 6) 502) ∧
          (if (rdI M 89 0 0 (nn (x2 + 6))) = (-2) then
            (s_X13_readPart_192 gv gs M x2)
          else
            ((s_X13_wrong M 3) ∧
            (bndP (f_X13_wrong M 3) fun M19 =>
            (s_X13_readPart_192 gv gs M19 x2)))))))
      else
        ((gs M x1 x2) ∧
        (bndP (gv M x1 x2) fun z21 =>
        ((gB z21.1) ∧
        (True))))))
    else
      ((vp_in (22 + x1) 65) ∧
      ((s_J6_bitCount_0f7a4 M (rdI M 93 0 0 (nn (22 + x1)))) ∧
      (if (f_J6_bitCount_0f7a4 M (rdI M 93 0 0 (nn (22 + x1)))) = 4 then
        ((s_X13_wrong M 2) ∧
        (bndP (f_X13_wrong M 2) fun M27 =>
        (s_X13_readPart_68 gv gs M27 x1 x2)))
      else
        (s_X13_readPart_68 gv gs M x1 x2))))))
  else
    ((vp_in (x2 + 4) 502) ∧
    (if (rdI M 89 0 0 (nn (x2 + 4))) = 1 then
      ((s_X13_wrong M 3) ∧
      (bndP (f_X13_wrong M 3) fun M31 =>
      (s_X13_readPart_26 gv gs M31 x2)))
    else
      (s_X13_readPart_26 gv gs M x2))))
theorem o_X13_readPart (gv : gM → Int32 → Int32 → Int32 × gM) (hgo : ∀ (M : gM) (a b : Int32), offW [71, 72, 73, 74, 75, 76, 77, 89, 91, 93] M (gv M a b).2) (M : gM) (x1 : Int32) (x2 : Int32) : offW [71, 72, 73, 74, 75, 76, 77, 89, 91, 93] M (f_X13_readPart gv M x1 x2).2 := by
  rw [f_X13_readPart]
  refine offI2 ?_ ?_
  · refine offI2 ?_ ?_
    · refine offI2 ?_ ?_
      · refine offI2 ?_ ?_
        · refine offI2 ?_ ?_
          · exact offR
          · refine offI2 ?_ ?_
            · refine offB2 (offR.tr ((o_X13_wrong M 2).mono (by decide))) (fun M15 oM15 => ?_)
              exact oM15.tr (o_X13_readPart_240 gv hgo M15 x1 x2)
            · exact (o_X13_readPart_240 gv hgo M x1 x2)
        · refine offI2 ?_ ?_
          · exact (o_X13_readPart_192 gv hgo M x2)
          · refine offB2 (offR.tr ((o_X13_wrong M 3).mono (by decide))) (fun M19 oM19 => ?_)
            exact oM19.tr (o_X13_readPart_192 gv hgo M19 x2)
      · refine offZ2 (offR.tr ((hgo M x1 x2).mono (by decide))) (fun z21 oz21 => ?_)
        exact oz21
    · refine offI2 ?_ ?_
      · refine offB2 (offR.tr ((o_X13_wrong M 2).mono (by decide))) (fun M27 oM27 => ?_)
        exact oM27.tr (o_X13_readPart_68 gv hgo M27 x1 x2)
      · exact (o_X13_readPart_68 gv hgo M x1 x2)
  · refine offI2 ?_ ?_
    · refine offB2 (offR.tr ((o_X13_wrong M 3).mono (by decide))) (fun M31 oM31 => ?_)
      exact oM31.tr (o_X13_readPart_26 gv hgo M31 x2)
    · exact (o_X13_readPart_26 gv hgo M x2)
set_option maxRecDepth 100000 in
set_option maxHeartbeats 4000000 in
theorem t_X13_readPart {E : gE} {K : Int32 × gM → Prop} {Q : Option Value → gM → Prop} (hK : ∀ z : Int32 × gM, K z → Q (some (.int z.1)) z.2) {dg : Nat} (hd : 10 ≤ dg) (gv : gM → Int32 → Int32 → Int32 × gM) (gs : gM → Int32 → Int32 → Prop) (hgv : ∀ (M : gM) (a b : Int32), gs M a b → gC E yX13_readGive cX13_readGive 9 (some .boolean) (rm dg) [.ref (gla E 226), .int a, .int b] M (fun o N => o = some (.int (gv M a b).1) ∧ N = (gv M a b).2)) (M : gM) (x1 : Int32) (x2 : Int32)  (hs : s_X13_readPart gv gs M x1 x2) (hQ : K (f_X13_readPart gv M x1 x2)) : gG E RX13 cX13_readPart 4 (some .boolean) (rm (dg + 1)) 0 [(0, .ref (gla E 226)), (1, .int x1), (2, .int x2)] [] M Q := by
  rw [s_X13_readPart] at hs
  rw [f_X13_readPart] at hQ
  refine g_aload_n 0 dX13_readPart_0 rfl ?_
  refine g_bipush (v := 8) dX13_readPart_1 (by decide) ?_
  have h1 := hs.1; have hs := hs.2
  refine g_callV (As := [.int 8]) (st := []) 226 (c_X13_isWord E M 8 h1) mt_X13_isWord ml_X13_145 dF_Md rfl rfl sg_X13_isWord rfl (rmR (by omega) (by decide)) (Nat.le_of_ble_eq_true rfl) dX13_readPart_3 ?_
  rintro _ _ ⟨q1, q2⟩; rw [q1, q2]; clear q1 q2
  refine g_if_eq 38 dX13_readPart_6 (by decide) (fun c2 => ?_) (fun c2 => ?_)
  · have hs := ifSt hs c2; have hQ := ifQt hQ c2
    refine g_aload_n 0 dX13_readPart_38 rfl ?_
    refine g_bipush (v := 14) dX13_readPart_39 (by decide) ?_
    have h3 := hs.1; have hs := hs.2
    refine g_callV (As := [.int 14]) (st := []) 226 (c_X13_isWord E M 14 h3) mt_X13_isWord ml_X13_145 dF_Md rfl rfl sg_X13_isWord rfl (rmR (by omega) (by decide)) (Nat.le_of_ble_eq_true rfl) dX13_readPart_41 ?_
    rintro _ _ ⟨q1, q2⟩; rw [q1, q2]; clear q1 q2
    refine g_if_eq 148 dX13_readPart_44 (by decide) (fun c4 => ?_) (fun c4 => ?_)
    · have hs := ifSt hs c4; have hQ := ifQt hQ c4
      refine g_aload_n 0 dX13_readPart_148 rfl ?_
      refine g_bipush (v := 15) dX13_readPart_149 (by decide) ?_
      have h5 := hs.1; have hs := hs.2
      refine g_callV (As := [.int 15]) (st := []) 226 (c_X13_isWord E M 15 h5) mt_X13_isWord ml_X13_145 dF_Md rfl rfl sg_X13_isWord rfl (rmR (by omega) (by decide)) (Nat.le_of_ble_eq_true rfl) dX13_readPart_151 ?_
      rintro _ _ ⟨q1, q2⟩; rw [q1, q2]; clear q1 q2
      refine g_if_eq 164 dX13_readPart_154 (by decide) (fun c6 => ?_) (fun c6 => ?_)
      · have hs := ifSt hs c6; have hQ := ifQt hQ c6
        refine g_aload_n 0 dX13_readPart_164 rfl ?_
        refine g_bipush (v := 19) dX13_readPart_165 (by decide) ?_
        have h7 := hs.1; have hs := hs.2
        refine g_callV (As := [.int 19]) (st := []) 226 (c_X13_isWord E M 19 h7) mt_X13_isWord ml_X13_145 dF_Md rfl rfl sg_X13_isWord rfl (rmR (by omega) (by decide)) (Nat.le_of_ble_eq_true rfl) dX13_readPart_167 ?_
        rintro _ _ ⟨q1, q2⟩; rw [q1, q2]; clear q1 q2
        refine g_if_eq 213 dX13_readPart_170 (by decide) (fun c8 => ?_) (fun c8 => ?_)
        · have hs := ifSt hs c8; have hQ := ifQt hQ c8
          refine g_aload_n 0 dX13_readPart_213 rfl ?_
          refine g_bipush (v := 20) dX13_readPart_214 (by decide) ?_
          have h9 := hs.1; have hs := hs.2
          refine g_callV (As := [.int 20]) (st := []) 226 (c_X13_isWord E M 20 h9) mt_X13_isWord ml_X13_145 dF_Md rfl rfl sg_X13_isWord rfl (rmR (by omega) (by decide)) (Nat.le_of_ble_eq_true rfl) dX13_readPart_216 ?_
          rintro _ _ ⟨q1, q2⟩; rw [q1, q2]; clear q1 q2
          refine g_if_eq 327 dX13_readPart_219 (by decide) (fun c10 => ?_) (fun c10 => ?_)
          · have hs := ifSt hs c10; have hQ := ifQt hQ c10
            refine g_iconst (v := 0) dX13_readPart_327 (by decide) ?_
            exact g_zret rfl (Or.inl rfl) dX13_readPart_328 (hK _ hQ)
          · have hs := ifSf hs c10; have hQ := ifQf hQ c10
            refine g_aload_n 0 dX13_readPart_222 rfl ?_
            refine g_getR 226 231 fd_X13_22 dF_Md rfl rfl dX13_readPart_223 ?_
            refine g_iload_n 1 dX13_readPart_226 rfl ?_
            have h11 := hs.1; have hs := hs.2
            refine g_iald 231 dF_Md_newStrikes h11 dX13_readPart_227 ?_
            have h12 := hs.1; have hs := hs.2
            refine g_callS (As := [.int (rdI M 91 0 0 (nn x1))]) (st := []) (c_J6_bitCount_0f7a4 E M (rdI M 91 0 0 (nn x1)) h12) mt_J6_bitCount_0f7a4 ml_X13_154 sg_J6_bitCount_0f7a4 rfl (rmR (by omega) (by decide)) (Nat.le_of_ble_eq_true rfl) dX13_readPart_228 ?_
            rintro _ _ ⟨q1, q2⟩; rw [q1, q2]; clear q1 q2
            refine g_iconst (v := 3) dX13_readPart_231 (by decide) ?_
            refine g_icmp_ne 240 dX13_readPart_232 (by decide) (fun c13 => ?_) (fun c13 => ?_)
            · have hs := ifSf hs c13; have hQ := ifQf hQ c13
              exact t_X13_readPart_240 hK hd gv gs hgv M x1 x2 hs hQ
            · have hs := ifSt hs c13; have hQ := ifQt hQ c13
              refine g_aload_n 0 dX13_readPart_235 rfl ?_
              refine g_iconst (v := 2) dX13_readPart_236 (by decide) ?_
              have h14 := hs.1; have hs := hs.2
              refine g_callV (As := [.int 2]) (st := []) 226 (c_X13_wrong E M 2 h14) mt_X13_wrong ml_X13_120 dF_Md rfl rfl sg_X13_wrong rfl (rmR (by omega) (by decide)) (Nat.le_of_ble_eq_true rfl) dX13_readPart_237 ?_
              rintro _ M15 ⟨rfl, hM15⟩
              have hQ := bndQ hQ M15 hM15; have hs := bndS hs M15 hM15
              exact t_X13_readPart_240 hK hd gv gs hgv M15 x1 x2 hs hQ
        · have hs := ifSf hs c8; have hQ := ifQf hQ c8
          refine g_aload_n 0 dX13_readPart_173 rfl ?_
          refine g_getR 226 229 fd_X13_16 dF_Md rfl rfl dX13_readPart_174 ?_
          refine g_iload_n 2 dX13_readPart_177 rfl ?_
          refine g_bipush (v := 6) dX13_readPart_178 (by decide) ?_
          refine g_iadd dX13_readPart_180 ?_
          have h16 := hs.1; have hs := hs.2
          refine g_iald 229 dF_Md_fresh h16 dX13_readPart_181 ?_
          refine g_bipush (v := (-2)) dX13_readPart_182 (by decide) ?_
          refine g_icmp_eq 192 dX13_readPart_184 (by decide) (fun c17 => ?_) (fun c17 => ?_)
          · have hs := ifSt hs c17; have hQ := ifQt hQ c17
            refine g_sub [0, 2] _ rfl ?_
            exact t_X13_readPart_192 hK hd gv gs hgv M x2 hs hQ
          · have hs := ifSf hs c17; have hQ := ifQf hQ c17
            refine g_aload_n 0 dX13_readPart_187 rfl ?_
            refine g_iconst (v := 3) dX13_readPart_188 (by decide) ?_
            have h18 := hs.1; have hs := hs.2
            refine g_callV (As := [.int 3]) (st := []) 226 (c_X13_wrong E M 3 h18) mt_X13_wrong ml_X13_120 dF_Md rfl rfl sg_X13_wrong rfl (rmR (by omega) (by decide)) (Nat.le_of_ble_eq_true rfl) dX13_readPart_189 ?_
            rintro _ M19 ⟨rfl, hM19⟩
            have hQ := bndQ hQ M19 hM19; have hs := bndS hs M19 hM19
            refine g_sub [0, 2] _ rfl ?_
            exact t_X13_readPart_192 hK hd gv gs hgv M19 x2 hs hQ
      · have hs := ifSf hs c6; have hQ := ifQf hQ c6
        refine g_aload_n 0 dX13_readPart_157 rfl ?_
        refine g_iload_n 1 dX13_readPart_158 rfl ?_
        refine g_iload_n 2 dX13_readPart_159 rfl ?_
        have h20 := hs.1; have hs := hs.2
        refine g_callV (As := [.int x1, .int x2]) (st := []) 226 (hgv M x1 x2 h20) mt_X13_readGive ml_X13_167 dF_Md rfl rfl sg_X13_readGive rfl (rmR (by omega) (by decide)) (Nat.le_of_ble_eq_true rfl) dX13_readPart_160 ?_
        rintro _ _ ⟨rfl, rfl⟩
        obtain ⟨z21, hz21⟩ : ∃ z, z = gv M x1 x2 := ⟨_, rfl⟩
        rw [← hz21]
        have hQ := bndQ hQ z21 hz21; have hs := bndS hs z21 hz21
        have h22 := hs.1; have hs := hs.2
        exact g_zret rfl h22 dX13_readPart_163 (hK _ hQ)
    · have hs := ifSf hs c4; have hQ := ifQf hQ c4
      refine g_aload_n 0 dX13_readPart_47 rfl ?_
      refine g_getR 226 233 fd_X13_28 dF_Md rfl rfl dX13_readPart_48 ?_
      refine g_bipush (v := 22) dX13_readPart_51 (by decide) ?_
      refine g_iload_n 1 dX13_readPart_53 rfl ?_
      refine g_iadd dX13_readPart_54 ?_
      have h23 := hs.1; have hs := hs.2
      refine g_iald 233 dF_Md_newNow h23 dX13_readPart_55 ?_
      have h24 := hs.1; have hs := hs.2
      refine g_callS (As := [.int (rdI M 93 0 0 (nn (22 + x1)))]) (st := []) (c_J6_bitCount_0f7a4 E M (rdI M 93 0 0 (nn (22 + x1))) h24) mt_J6_bitCount_0f7a4 ml_X13_154 sg_J6_bitCount_0f7a4 rfl (rmR (by omega) (by decide)) (Nat.le_of_ble_eq_true rfl) dX13_readPart_56 ?_
      rintro _ _ ⟨q1, q2⟩; rw [q1, q2]; clear q1 q2
      refine g_iconst (v := 4) dX13_readPart_59 (by decide) ?_
      refine g_icmp_ne 68 dX13_readPart_60 (by decide) (fun c25 => ?_) (fun c25 => ?_)
      · have hs := ifSf hs c25; have hQ := ifQf hQ c25
        exact t_X13_readPart_68 hK hd gv gs hgv M x1 x2 hs hQ
      · have hs := ifSt hs c25; have hQ := ifQt hQ c25
        refine g_aload_n 0 dX13_readPart_63 rfl ?_
        refine g_iconst (v := 2) dX13_readPart_64 (by decide) ?_
        have h26 := hs.1; have hs := hs.2
        refine g_callV (As := [.int 2]) (st := []) 226 (c_X13_wrong E M 2 h26) mt_X13_wrong ml_X13_120 dF_Md rfl rfl sg_X13_wrong rfl (rmR (by omega) (by decide)) (Nat.le_of_ble_eq_true rfl) dX13_readPart_65 ?_
        rintro _ M27 ⟨rfl, hM27⟩
        have hQ := bndQ hQ M27 hM27; have hs := bndS hs M27 hM27
        exact t_X13_readPart_68 hK hd gv gs hgv M27 x1 x2 hs hQ
  · have hs := ifSf hs c2; have hQ := ifQf hQ c2
    refine g_aload_n 0 dX13_readPart_9 rfl ?_
    refine g_getR 226 229 fd_X13_16 dF_Md rfl rfl dX13_readPart_10 ?_
    refine g_iload_n 2 dX13_readPart_13 rfl ?_
    refine g_iconst (v := 4) dX13_readPart_14 (by decide) ?_
    refine g_iadd dX13_readPart_15 ?_
    have h28 := hs.1; have hs := hs.2
    refine g_iald 229 dF_Md_fresh h28 dX13_readPart_16 ?_
    refine g_iconst (v := 1) dX13_readPart_17 (by decide) ?_
    refine g_icmp_ne 26 dX13_readPart_18 (by decide) (fun c29 => ?_) (fun c29 => ?_)
    · have hs := ifSf hs c29; have hQ := ifQf hQ c29
      refine g_sub [0, 2] _ rfl ?_
      exact t_X13_readPart_26 hK hd gv gs hgv M x2 hs hQ
    · have hs := ifSt hs c29; have hQ := ifQt hQ c29
      refine g_aload_n 0 dX13_readPart_21 rfl ?_
      refine g_iconst (v := 3) dX13_readPart_22 (by decide) ?_
      have h30 := hs.1; have hs := hs.2
      refine g_callV (As := [.int 3]) (st := []) 226 (c_X13_wrong E M 3 h30) mt_X13_wrong ml_X13_120 dF_Md rfl rfl sg_X13_wrong rfl (rmR (by omega) (by decide)) (Nat.le_of_ble_eq_true rfl) dX13_readPart_23 ?_
      rintro _ M31 ⟨rfl, hM31⟩
      have hQ := bndQ hQ M31 hM31; have hs := bndS hs M31 hM31
      refine g_sub [0, 2] _ rfl ?_
      exact t_X13_readPart_26 hK hd gv gs hgv M31 x2 hs hQ
theorem c_X13_readPart (E : gE) {dg : Nat} (hd : 10 ≤ dg) (gv : gM → Int32 → Int32 → Int32 × gM) (gs : gM → Int32 → Int32 → Prop) (hgv : ∀ (M : gM) (a b : Int32), gs M a b → gC E yX13_readGive cX13_readGive 9 (some .boolean) (rm dg) [.ref (gla E 226), .int a, .int b] M (fun o N => o = some (.int (gv M a b).1) ∧ N = (gv M a b).2)) (M : gM) (x1 : Int32) (x2 : Int32) (hs : s_X13_readPart gv gs M x1 x2) : gC E yX13_readPart cX13_readPart 4 (some .boolean) (rm (dg + 1)) [.ref (gla E 226), .int x1, .int x2] M (fun o N => o = some (.int (f_X13_readPart gv M x1 x2).1) ∧ N = (f_X13_readPart gv M x1 x2).2) :=
  gC.of (by decide +kernel) (Nat.le_of_ble_eq_true rfl) rfl (t_X13_readPart (K := fun z => z = f_X13_readPart gv M x1 x2) (fun z hz => by rw [hz]; exact ⟨rfl, rfl⟩) hd gv gs hgv M x1 x2 hs rfl)
def f_X13_readGive_b_108 (gv : gM → Int32 → Int32 → Int32 × gM) (M : gM) (x1 : Int32) (x2 : Int32) (x3 : Int32) (x4 : Int32) (x5 : Int32) (x6 : Int32) (x7 : Int32)  : Int32 × gM :=
  if (rdI M 76 0 0 0) = 0 then
    (bnd (142 + (5 * ((6 * x1) + (rdI M 89 0 0 (nn (x2 + 5)))))) fun v28 =>
    (bnd (wrI M 89 0 0 (nn v28) x3) fun M30 =>
    (bnd (wrI M30 89 0 0 (nn (v28 + 1)) x4) fun M32 =>
    (bnd (wrI M32 89 0 0 (nn (v28 + 2)) x5) fun M34 =>
    (bnd (wrI M34 89 0 0 (nn (v28 + 3)) x6) fun M36 =>
    (bnd (wrI M36 89 0 0 (nn (v28 + 4)) x7) fun M38 =>
    (bnd (wrI M38 89 0 0 (nn (x2 + 5)) ((rdI M38 89 0 0 (nn (x2 + 5))) + 1)) fun M41 =>
    (bnd (f_X13_readPart gv M41 x1 x2) fun z43 =>
    ((z43.1, z43.2))))))))))
  else
    ((0, M))
def s_X13_readGive_b_108 (gv : gM → Int32 → Int32 → Int32 × gM) (gs : gM → Int32 → Int32 → Prop) (M : gM) (x1 : Int32) (x2 : Int32) (x3 : Int32) (x4 : Int32) (x5 : Int32) (x6 : Int32) (x7 : Int32)  : Prop :=
  if (rdI M 76 0 0 0) = 0 then
    ((vp_in (x2 + 5) 502) ∧
    (bndP (142 + (5 * ((6 * x1) + (rdI M 89 0 0 (nn (x2 + 5)))))) fun v28 =>
    ((vp_in v28 502) ∧
    (bndP (wrI M 89 0 0 (nn v28) x3) fun M30 =>
    ((vp_in (v28 + 1) 502) ∧
    (bndP (wrI M30 89 0 0 (nn (v28 + 1)) x4) fun M32 =>
    ((vp_in (v28 + 2) 502) ∧
    (bndP (wrI M32 89 0 0 (nn (v28 + 2)) x5) fun M34 =>
    ((vp_in (v28 + 3) 502) ∧
    (bndP (wrI M34 89 0 0 (nn (v28 + 3)) x6) fun M36 =>
    ((vp_in (v28 + 4) 502) ∧
    (bndP (wrI M36 89 0 0 (nn (v28 + 4)) x7) fun M38 =>
    ((vp_in (x2 + 5) 502) ∧
    ((vp_in (x2 + 5) 502) ∧
    (bndP (wrI M38 89 0 0 (nn (x2 + 5)) ((rdI M38 89 0 0 (nn (x2 + 5))) + 1)) fun M41 =>
    ((s_X13_readPart gv gs M41 x1 x2) ∧
    (bndP (f_X13_readPart gv M41 x1 x2) fun z43 =>
    ((gB z43.1) ∧
    (True)))))))))))))))))))
  else
    (True)
theorem o_X13_readGive_b_108 (gv : gM → Int32 → Int32 → Int32 × gM) (hgo : ∀ (M : gM) (a b : Int32), offW [71, 72, 73, 74, 75, 76, 77, 89, 91, 93] M (gv M a b).2) (M : gM) (x1 : Int32) (x2 : Int32) (x3 : Int32) (x4 : Int32) (x5 : Int32) (x6 : Int32) (x7 : Int32)  : offW [71, 72, 73, 74, 75, 76, 77, 89, 91, 93] M (f_X13_readGive_b_108 gv M x1 x2 x3 x4 x5 x6 x7 ).2 := by
  rw [f_X13_readGive_b_108]
  refine offI2 ?_ ?_
  · refine offV2 (fun v28 => ?_)
    refine offB2 (offR.wI (by decide)) (fun M30 oM30 => ?_)
    refine offB2 (oM30.wI (by decide)) (fun M32 oM32 => ?_)
    refine offB2 (oM32.wI (by decide)) (fun M34 oM34 => ?_)
    refine offB2 (oM34.wI (by decide)) (fun M36 oM36 => ?_)
    refine offB2 (oM36.wI (by decide)) (fun M38 oM38 => ?_)
    refine offB2 (oM38.wI (by decide)) (fun M41 oM41 => ?_)
    refine offZ2 (oM41.tr ((o_X13_readPart gv hgo M41 x1 x2).mono (by decide))) (fun z43 oz43 => ?_)
    exact oz43
  · exact offR
set_option maxRecDepth 100000 in
set_option maxHeartbeats 4000000 in
theorem t_X13_readGive_b_108 {E : gE} {K : Int32 × gM → Prop} {Q : Option Value → gM → Prop} (hK : ∀ z : Int32 × gM, K z → Q (some (.int z.1)) z.2) {dg : Nat} (hd : 10 ≤ dg) (gv : gM → Int32 → Int32 → Int32 × gM) (gs : gM → Int32 → Int32 → Prop) (hgv : ∀ (M : gM) (a b : Int32), gs M a b → gC E yX13_readGive cX13_readGive 9 (some .boolean) (rm dg) [.ref (gla E 226), .int a, .int b] M (fun o N => o = some (.int (gv M a b).1) ∧ N = (gv M a b).2)) (M : gM) (x1 : Int32) (x2 : Int32) (x3 : Int32) (x4 : Int32) (x5 : Int32) (x6 : Int32) (x7 : Int32)   (hs : s_X13_readGive_b_108 gv gs M x1 x2 x3 x4 x5 x6 x7 ) (hQ : K (f_X13_readGive_b_108 gv M x1 x2 x3 x4 x5 x6 x7 )) : gG E RX13 cX13_readGive 9 (some .boolean) (rm (dg + 2)) 108 [(0, .ref (gla E 226)), (1, .int x1), (2, .int x2), (3, .int x3), (4, .int x4), (5, .int x5), (6, .int x6), (7, .int x7)] [] M Q := by
  rw [s_X13_readGive_b_108] at hs
  rw [f_X13_readGive_b_108] at hQ
  refine g_aload_n 0 dX13_readGive_108 rfl ?_
  refine g_getI 226 fd_X13_111 dF_Md rfl dX13_readGive_109 ?_
  refine g_if_eq 117 dX13_readGive_112 (by decide) (fun c26 => ?_) (fun c26 => ?_)
  · have hs := ifSt hs c26; have hQ := ifQt hQ c26
    refine g_sipush (v := 142) dX13_readGive_117 (by decide) ?_
    refine g_iconst (v := 5) dX13_readGive_120 (by decide) ?_
    refine g_bipush (v := 6) dX13_readGive_121 (by decide) ?_
    refine g_iload_n 1 dX13_readGive_123 rfl ?_
    refine g_imul dX13_readGive_124 ?_
    refine g_aload_n 0 dX13_readGive_125 rfl ?_
    refine g_getR 226 229 fd_X13_16 dF_Md rfl rfl dX13_readGive_126 ?_
    refine g_iload_n 2 dX13_readGive_129 rfl ?_
    refine g_iconst (v := 5) dX13_readGive_130 (by decide) ?_
    refine g_iadd dX13_readGive_131 ?_
    have h27 := hs.1; have hs := hs.2
    refine g_iald 229 dF_Md_fresh h27 dX13_readGive_132 ?_
    refine g_iadd dX13_readGive_133 ?_
    refine g_imul dX13_readGive_134 ?_
    refine g_iadd dX13_readGive_135 ?_
    refine g_topI (fun v28 hv28 => ?_)
    have hQ := bndQ hQ v28 hv28; have hs := bndS hs v28 hv28
    refine g_istore _ dX13_readGive_136 (by decide) rfl ?_
    refine g_aload_n 1 dX13_readGive_138 rfl ?_
    refine g_getR 226 229 fd_X13_16 dF_Md rfl rfl dX13_readGive_139 ?_
    refine g_iload 0 dX13_readGive_142 rfl ?_
    refine g_iload_n 4 dX13_readGive_144 rfl ?_
    have h29 := hs.1; have hs := hs.2
    refine g_iast 229 dF_Md_fresh h29 dX13_readGive_145 (fun M30 hM30 => ?_)
    have hQ := bndQ hQ M30 hM30; have hs := bndS hs M30 hM30
    refine g_aload_n 1 dX13_readGive_146 rfl ?_
    refine g_getR 226 229 fd_X13_16 dF_Md rfl rfl dX13_readGive_147 ?_
    refine g_iload 0 dX13_readGive_150 rfl ?_
    refine g_iconst (v := 1) dX13_readGive_152 (by decide) ?_
    refine g_iadd dX13_readGive_153 ?_
    refine g_iload 5 dX13_readGive_154 rfl ?_
    have h31 := hs.1; have hs := hs.2
    refine g_iast 229 dF_Md_fresh h31 dX13_readGive_156 (fun M32 hM32 => ?_)
    have hQ := bndQ hQ M32 hM32; have hs := bndS hs M32 hM32
    refine g_aload_n 1 dX13_readGive_157 rfl ?_
    refine g_getR 226 229 fd_X13_16 dF_Md rfl rfl dX13_readGive_158 ?_
    refine g_iload 0 dX13_readGive_161 rfl ?_
    refine g_iconst (v := 2) dX13_readGive_163 (by decide) ?_
    refine g_iadd dX13_readGive_164 ?_
    refine g_iload 6 dX13_readGive_165 rfl ?_
    have h33 := hs.1; have hs := hs.2
    refine g_iast 229 dF_Md_fresh h33 dX13_readGive_167 (fun M34 hM34 => ?_)
    have hQ := bndQ hQ M34 hM34; have hs := bndS hs M34 hM34
    refine g_aload_n 1 dX13_readGive_168 rfl ?_
    refine g_getR 226 229 fd_X13_16 dF_Md rfl rfl dX13_readGive_169 ?_
    refine g_iload 0 dX13_readGive_172 rfl ?_
    refine g_iconst (v := 3) dX13_readGive_174 (by decide) ?_
    refine g_iadd dX13_readGive_175 ?_
    refine g_iload 7 dX13_readGive_176 rfl ?_
    have h35 := hs.1; have hs := hs.2
    refine g_iast 229 dF_Md_fresh h35 dX13_readGive_178 (fun M36 hM36 => ?_)
    have hQ := bndQ hQ M36 hM36; have hs := bndS hs M36 hM36
    refine g_aload_n 1 dX13_readGive_179 rfl ?_
    refine g_getR 226 229 fd_X13_16 dF_Md rfl rfl dX13_readGive_180 ?_
    refine g_iload 0 dX13_readGive_183 rfl ?_
    refine g_iconst (v := 4) dX13_readGive_185 (by decide) ?_
    refine g_iadd dX13_readGive_186 ?_
    refine g_iload 8 dX13_readGive_187 rfl ?_
    have h37 := hs.1; have hs := hs.2
    refine g_iast 229 dF_Md_fresh h37 dX13_readGive_189 (fun M38 hM38 => ?_)
    have hQ := bndQ hQ M38 hM38; have hs := bndS hs M38 hM38
    refine g_aload_n 1 dX13_readGive_190 rfl ?_
    refine g_getR 226 229 fd_X13_16 dF_Md rfl rfl dX13_readGive_191 ?_
    refine g_iload_n 3 dX13_readGive_194 rfl ?_
    refine g_iconst (v := 5) dX13_readGive_195 (by decide) ?_
    refine g_iadd dX13_readGive_196 ?_
    refine g_dup2 dX13_readGive_197 rfl rfl ?_
    have h39 := hs.1; have hs := hs.2
    refine g_iald 229 dF_Md_fresh h39 dX13_readGive_198 ?_
    refine g_iconst (v := 1) dX13_readGive_199 (by decide) ?_
    refine g_iadd dX13_readGive_200 ?_
    have h40 := hs.1; have hs := hs.2
    refine g_iast 229 dF_Md_fresh h40 dX13_readGive_201 (fun M41 hM41 => ?_)
    have hQ := bndQ hQ M41 hM41; have hs := bndS hs M41 hM41
    refine g_aload_n 1 dX13_readGive_202 rfl ?_
    refine g_iload_n 2 dX13_readGive_203 rfl ?_
    refine g_iload_n 3 dX13_readGive_204 rfl ?_
    have h42 := hs.1; have hs := hs.2
    refine g_callV (As := [.int x1, .int x2]) (st := []) 226 (c_X13_readPart E hd gv gs hgv M41 x1 x2 h42) mt_X13_readPart ml_X13_163 dF_Md rfl rfl sg_X13_readPart rfl (rmR (by omega) (by decide)) (Nat.le_of_ble_eq_true rfl) dX13_readGive_205 ?_
    rintro _ _ ⟨rfl, rfl⟩
    obtain ⟨z43, hz43⟩ : ∃ z, z = f_X13_readPart gv M41 x1 x2 := ⟨_, rfl⟩
    rw [← hz43]
    have hQ := bndQ hQ z43 hz43; have hs := bndS hs z43 hz43
    have h44 := hs.1; have hs := hs.2
    exact g_zret rfl h44 dX13_readGive_208 (hK _ hQ)
  · have hs := ifSf hs c26; have hQ := ifQf hQ c26
    refine g_iconst (v := 0) dX13_readGive_115 (by decide) ?_
    exact g_zret rfl (Or.inl rfl) dX13_readGive_116 (hK _ hQ)
def f_X13_readGive_b_88 (gv : gM → Int32 → Int32 → Int32 × gM) (M : gM) (x1 : Int32) (x2 : Int32) (x3 : Int32) (x4 : Int32) (x5 : Int32) (x6 : Int32) (x7 : Int32)  : Int32 × gM :=
  if (f_X13_isWord M 18) = 0 then
    (f_X13_readGive_b_108 gv M x1 x2 x3 x4 x5 x6 x7)
  else
    (bnd (f_X13_goOn M) fun M23 =>
    (bnd (f_X13_told M23 0) fun z25 =>
    (f_X13_readGive_b_108 gv z25.2 x1 x2 x3 x4 x5 x6 z25.1)))
def s_X13_readGive_b_88 (gv : gM → Int32 → Int32 → Int32 × gM) (gs : gM → Int32 → Int32 → Prop) (M : gM) (x1 : Int32) (x2 : Int32) (x3 : Int32) (x4 : Int32) (x5 : Int32) (x6 : Int32) (x7 : Int32)  : Prop :=
  (s_X13_isWord M 18) ∧
  (if (f_X13_isWord M 18) = 0 then
    (s_X13_readGive_b_108 gv gs M x1 x2 x3 x4 x5 x6 x7)
  else
    ((s_X13_goOn M) ∧
    (bndP (f_X13_goOn M) fun M23 =>
    ((s_X13_told M23 0) ∧
    (bndP (f_X13_told M23 0) fun z25 =>
    (s_X13_readGive_b_108 gv gs z25.2 x1 x2 x3 x4 x5 x6 z25.1))))))
theorem o_X13_readGive_b_88 (gv : gM → Int32 → Int32 → Int32 × gM) (hgo : ∀ (M : gM) (a b : Int32), offW [71, 72, 73, 74, 75, 76, 77, 89, 91, 93] M (gv M a b).2) (M : gM) (x1 : Int32) (x2 : Int32) (x3 : Int32) (x4 : Int32) (x5 : Int32) (x6 : Int32) (x7 : Int32)  : offW [71, 72, 73, 74, 75, 76, 77, 89, 91, 93] M (f_X13_readGive_b_88 gv M x1 x2 x3 x4 x5 x6 x7 ).2 := by
  rw [f_X13_readGive_b_88]
  refine offI2 ?_ ?_
  · exact (o_X13_readGive_b_108 gv hgo M x1 x2 x3 x4 x5 x6 x7)
  · refine offB2 (offR.tr ((o_X13_goOn M).mono (by decide))) (fun M23 oM23 => ?_)
    refine offZ2 (oM23.tr ((o_X13_told M23 0).mono (by decide))) (fun z25 oz25 => ?_)
    exact oz25.tr (o_X13_readGive_b_108 gv hgo z25.2 x1 x2 x3 x4 x5 x6 z25.1)
set_option maxRecDepth 100000 in
set_option maxHeartbeats 4000000 in
theorem t_X13_readGive_b_88 {E : gE} {K : Int32 × gM → Prop} {Q : Option Value → gM → Prop} (hK : ∀ z : Int32 × gM, K z → Q (some (.int z.1)) z.2) {dg : Nat} (hd : 10 ≤ dg) (gv : gM → Int32 → Int32 → Int32 × gM) (gs : gM → Int32 → Int32 → Prop) (hgv : ∀ (M : gM) (a b : Int32), gs M a b → gC E yX13_readGive cX13_readGive 9 (some .boolean) (rm dg) [.ref (gla E 226), .int a, .int b] M (fun o N => o = some (.int (gv M a b).1) ∧ N = (gv M a b).2)) (M : gM) (x1 : Int32) (x2 : Int32) (x3 : Int32) (x4 : Int32) (x5 : Int32) (x6 : Int32) (x7 : Int32)   (hs : s_X13_readGive_b_88 gv gs M x1 x2 x3 x4 x5 x6 x7 ) (hQ : K (f_X13_readGive_b_88 gv M x1 x2 x3 x4 x5 x6 x7 )) : gG E RX13 cX13_readGive 9 (some .boolean) (rm (dg + 2)) 88 [(0, .ref (gla E 226)), (1, .int x1), (2, .int x2), (3, .int x3), (4, .int x4), (5, .int x5), (6, .int x6), (7, .int x7)] [] M Q := by
  rw [s_X13_readGive_b_88] at hs
  rw [f_X13_readGive_b_88] at hQ
  refine g_aload_n 0 dX13_readGive_88 rfl ?_
  refine g_bipush (v := 18) dX13_readGive_89 (by decide) ?_
  have h20 := hs.1; have hs := hs.2
  refine g_callV (As := [.int 18]) (st := []) 226 (c_X13_isWord E M 18 h20) mt_X13_isWord ml_X13_145 dF_Md rfl rfl sg_X13_isWord rfl (rmR (by omega) (by decide)) (Nat.le_of_ble_eq_true rfl) dX13_readGive_91 ?_
  rintro _ _ ⟨q1, q2⟩; rw [q1, q2]; clear q1 q2
  refine g_if_eq 108 dX13_readGive_94 (by decide) (fun c21 => ?_) (fun c21 => ?_)
  · have hs := ifSt hs c21; have hQ := ifQt hQ c21
    exact t_X13_readGive_b_108 hK hd gv gs hgv M x1 x2 x3 x4 x5 x6 x7 hs hQ
  · have hs := ifSf hs c21; have hQ := ifQf hQ c21
    refine g_aload_n 0 dX13_readGive_97 rfl ?_
    have h22 := hs.1; have hs := hs.2
    refine g_callV (As := []) (st := []) 226 (c_X13_goOn E M h22) mt_X13_goOn ml_X13_128 dF_Md rfl rfl sg_X13_goOn rfl (rmR (by omega) (by decide)) (Nat.le_of_ble_eq_true rfl) dX13_readGive_98 ?_
    rintro _ M23 ⟨rfl, hM23⟩
    have hQ := bndQ hQ M23 hM23; have hs := bndS hs M23 hM23
    refine g_aload_n 0 dX13_readGive_101 rfl ?_
    refine g_iconst (v := 0) dX13_readGive_102 (by decide) ?_
    have h24 := hs.1; have hs := hs.2
    refine g_callV (As := [.int 0]) (st := []) 226 (c_X13_told E M23 0 h24) mt_X13_told ml_X13_151 dF_Md rfl rfl sg_X13_told rfl (rmR (by omega) (by decide)) (Nat.le_of_ble_eq_true rfl) dX13_readGive_103 ?_
    rintro _ _ ⟨rfl, rfl⟩
    obtain ⟨z25, hz25⟩ : ∃ z, z = f_X13_told M23 0 := ⟨_, rfl⟩
    rw [← hz25]
    have hQ := bndQ hQ z25 hz25; have hs := bndS hs z25 hz25
    refine g_istore _ dX13_readGive_106 (by decide) rfl ?_
    refine g_sub [1, 2, 3, 4, 5, 6, 7, 0] _ rfl ?_
    exact t_X13_readGive_b_108 hK hd gv gs hgv z25.2 x1 x2 x3 x4 x5 x6 z25.1 hs hQ
def f_X13_readGive_b_62 (gv : gM → Int32 → Int32 → Int32 × gM) (M : gM) (x1 : Int32) (x2 : Int32) (x3 : Int32) (x4 : Int32) (y0 : Int32)  : Int32 × gM :=
  if y0 ≤ 0 then
    (f_X13_readGive_b_88 gv M x1 x2 x3 x4 y0 (-2) (-2))
  else
    (bnd (f_X13_goOn M) fun M17 =>
    (bnd (f_X13_told M17 0) fun z19 =>
    (f_X13_readGive_b_88 gv z19.2 x1 x2 x3 x4 y0 z19.1 (-2))))
def s_X13_readGive_b_62 (gv : gM → Int32 → Int32 → Int32 × gM) (gs : gM → Int32 → Int32 → Prop) (M : gM) (x1 : Int32) (x2 : Int32) (x3 : Int32) (x4 : Int32) (y0 : Int32)  : Prop :=
  if y0 ≤ 0 then
    (s_X13_readGive_b_88 gv gs M x1 x2 x3 x4 y0 (-2) (-2))
  else
    ((s_X13_goOn M) ∧
    (bndP (f_X13_goOn M) fun M17 =>
    ((s_X13_told M17 0) ∧
    (bndP (f_X13_told M17 0) fun z19 =>
    (s_X13_readGive_b_88 gv gs z19.2 x1 x2 x3 x4 y0 z19.1 (-2))))))
theorem o_X13_readGive_b_62 (gv : gM → Int32 → Int32 → Int32 × gM) (hgo : ∀ (M : gM) (a b : Int32), offW [71, 72, 73, 74, 75, 76, 77, 89, 91, 93] M (gv M a b).2) (M : gM) (x1 : Int32) (x2 : Int32) (x3 : Int32) (x4 : Int32) (y0 : Int32)  : offW [71, 72, 73, 74, 75, 76, 77, 89, 91, 93] M (f_X13_readGive_b_62 gv M x1 x2 x3 x4 y0 ).2 := by
  rw [f_X13_readGive_b_62]
  refine offI2 ?_ ?_
  · exact (o_X13_readGive_b_88 gv hgo M x1 x2 x3 x4 y0 (-2) (-2))
  · refine offB2 (offR.tr ((o_X13_goOn M).mono (by decide))) (fun M17 oM17 => ?_)
    refine offZ2 (oM17.tr ((o_X13_told M17 0).mono (by decide))) (fun z19 oz19 => ?_)
    exact oz19.tr (o_X13_readGive_b_88 gv hgo z19.2 x1 x2 x3 x4 y0 z19.1 (-2))
set_option maxRecDepth 100000 in
set_option maxHeartbeats 4000000 in
theorem t_X13_readGive_b_62 {E : gE} {K : Int32 × gM → Prop} {Q : Option Value → gM → Prop} (hK : ∀ z : Int32 × gM, K z → Q (some (.int z.1)) z.2) {dg : Nat} (hd : 10 ≤ dg) (gv : gM → Int32 → Int32 → Int32 × gM) (gs : gM → Int32 → Int32 → Prop) (hgv : ∀ (M : gM) (a b : Int32), gs M a b → gC E yX13_readGive cX13_readGive 9 (some .boolean) (rm dg) [.ref (gla E 226), .int a, .int b] M (fun o N => o = some (.int (gv M a b).1) ∧ N = (gv M a b).2)) (M : gM) (x1 : Int32) (x2 : Int32) (x3 : Int32) (x4 : Int32) (y0 : Int32)   (hs : s_X13_readGive_b_62 gv gs M x1 x2 x3 x4 y0 ) (hQ : K (f_X13_readGive_b_62 gv M x1 x2 x3 x4 y0 )) : gG E RX13 cX13_readGive 9 (some .boolean) (rm (dg + 2)) 62 [(0, .ref (gla E 226)), (1, .int x1), (2, .int x2), (3, .int x3), (4, .int x4)] [.int y0] M Q := by
  rw [s_X13_readGive_b_62] at hs
  rw [f_X13_readGive_b_62] at hQ
  refine g_istore _ dX13_readGive_62 (by decide) rfl ?_
  refine g_bipush (v := (-2)) dX13_readGive_64 (by decide) ?_
  refine g_istore _ dX13_readGive_66 (by decide) rfl ?_
  refine g_bipush (v := (-2)) dX13_readGive_68 (by decide) ?_
  refine g_istore _ dX13_readGive_70 (by decide) rfl ?_
  refine g_iload 2 dX13_readGive_72 rfl ?_
  refine g_if_le 88 dX13_readGive_74 (by decide) (fun c15 => ?_) (fun c15 => ?_)
  · have hs := ifSt hs c15; have hQ := ifQt hQ c15
    refine g_sub [3, 4, 5, 6, 7, 2, 1, 0] _ rfl ?_
    exact t_X13_readGive_b_88 hK hd gv gs hgv M x1 x2 x3 x4 y0 (-2) (-2) hs hQ
  · have hs := ifSf hs c15; have hQ := ifQf hQ c15
    refine g_aload_n 3 dX13_readGive_77 rfl ?_
    have h16 := hs.1; have hs := hs.2
    refine g_callV (As := []) (st := []) 226 (c_X13_goOn E M h16) mt_X13_goOn ml_X13_128 dF_Md rfl rfl sg_X13_goOn rfl (rmR (by omega) (by decide)) (Nat.le_of_ble_eq_true rfl) dX13_readGive_78 ?_
    rintro _ M17 ⟨rfl, hM17⟩
    have hQ := bndQ hQ M17 hM17; have hs := bndS hs M17 hM17
    refine g_aload_n 3 dX13_readGive_81 rfl ?_
    refine g_iconst (v := 0) dX13_readGive_82 (by decide) ?_
    have h18 := hs.1; have hs := hs.2
    refine g_callV (As := [.int 0]) (st := []) 226 (c_X13_told E M17 0 h18) mt_X13_told ml_X13_151 dF_Md rfl rfl sg_X13_told rfl (rmR (by omega) (by decide)) (Nat.le_of_ble_eq_true rfl) dX13_readGive_83 ?_
    rintro _ _ ⟨rfl, rfl⟩
    obtain ⟨z19, hz19⟩ : ∃ z, z = f_X13_told M17 0 := ⟨_, rfl⟩
    rw [← hz19]
    have hQ := bndQ hQ z19 hz19; have hs := bndS hs z19 hz19
    refine g_istore _ dX13_readGive_86 (by decide) rfl ?_
    refine g_sub [3, 4, 5, 6, 7, 2, 0, 1] _ rfl ?_
    exact t_X13_readGive_b_88 hK hd gv gs hgv z19.2 x1 x2 x3 x4 y0 z19.1 (-2) hs hQ
def f_X13_readGive_b_18 (gv : gM → Int32 → Int32 → Int32 × gM) (M : gM) (x1 : Int32) (x2 : Int32)  : Int32 × gM :=
  bnd (f_X13_goOn M) fun M6 =>
  (bnd (f_X13_told M6 1) fun z8 =>
  (bnd (f_X13_told z8.2 0) fun z10 =>
  (if (f_X13_isWord z10.2 16) = 0 then
    (if (f_X13_isWord z10.2 17) = 0 then
      (f_X13_readGive_b_62 gv z10.2 x1 x2 z8.1 z10.1 0)
    else
      (f_X13_readGive_b_62 gv z10.2 x1 x2 z8.1 z10.1 2))
  else
    (f_X13_readGive_b_62 gv z10.2 x1 x2 z8.1 z10.1 1))))
def s_X13_readGive_b_18 (gv : gM → Int32 → Int32 → Int32 × gM) (gs : gM → Int32 → Int32 → Prop) (M : gM) (x1 : Int32) (x2 : Int32)  : Prop :=
  (s_X13_goOn M) ∧
  (bndP (f_X13_goOn M) fun M6 =>
  ((s_X13_told M6 1) ∧
  (bndP (f_X13_told M6 1) fun z8 =>
  ((s_X13_told z8.2 0) ∧
  (bndP (f_X13_told z8.2 0) fun z10 =>
  ((s_X13_isWord z10.2 16) ∧
  (if (f_X13_isWord z10.2 16) = 0 then
    ((s_X13_isWord z10.2 17) ∧
    (if (f_X13_isWord z10.2 17) = 0 then
      (s_X13_readGive_b_62 gv gs z10.2 x1 x2 z8.1 z10.1 0)
    else
      (s_X13_readGive_b_62 gv gs z10.2 x1 x2 z8.1 z10.1 2)))
  else
    (s_X13_readGive_b_62 gv gs z10.2 x1 x2 z8.1 z10.1 1))))))))
theorem o_X13_readGive_b_18 (gv : gM → Int32 → Int32 → Int32 × gM) (hgo : ∀ (M : gM) (a b : Int32), offW [71, 72, 73, 74, 75, 76, 77, 89, 91, 93] M (gv M a b).2) (M : gM) (x1 : Int32) (x2 : Int32)  : offW [71, 72, 73, 74, 75, 76, 77, 89, 91, 93] M (f_X13_readGive_b_18 gv M x1 x2 ).2 := by
  rw [f_X13_readGive_b_18]
  refine offB2 (offR.tr ((o_X13_goOn M).mono (by decide))) (fun M6 oM6 => ?_)
  refine offZ2 (oM6.tr ((o_X13_told M6 1).mono (by decide))) (fun z8 oz8 => ?_)
  refine offZ2 (oz8.tr ((o_X13_told z8.2 0).mono (by decide))) (fun z10 oz10 => ?_)
  refine offI2 ?_ ?_
  · refine offI2 ?_ ?_
    · exact oz10.tr (o_X13_readGive_b_62 gv hgo z10.2 x1 x2 z8.1 z10.1 0)
    · exact oz10.tr (o_X13_readGive_b_62 gv hgo z10.2 x1 x2 z8.1 z10.1 2)
  · exact oz10.tr (o_X13_readGive_b_62 gv hgo z10.2 x1 x2 z8.1 z10.1 1)
set_option maxRecDepth 100000 in
set_option maxHeartbeats 4000000 in
theorem t_X13_readGive_b_18 {E : gE} {K : Int32 × gM → Prop} {Q : Option Value → gM → Prop} (hK : ∀ z : Int32 × gM, K z → Q (some (.int z.1)) z.2) {dg : Nat} (hd : 10 ≤ dg) (gv : gM → Int32 → Int32 → Int32 × gM) (gs : gM → Int32 → Int32 → Prop) (hgv : ∀ (M : gM) (a b : Int32), gs M a b → gC E yX13_readGive cX13_readGive 9 (some .boolean) (rm dg) [.ref (gla E 226), .int a, .int b] M (fun o N => o = some (.int (gv M a b).1) ∧ N = (gv M a b).2)) (M : gM) (x1 : Int32) (x2 : Int32)   (hs : s_X13_readGive_b_18 gv gs M x1 x2 ) (hQ : K (f_X13_readGive_b_18 gv M x1 x2 )) : gG E RX13 cX13_readGive 9 (some .boolean) (rm (dg + 2)) 18 [(0, .ref (gla E 226)), (1, .int x1), (2, .int x2)] [] M Q := by
  rw [s_X13_readGive_b_18] at hs
  rw [f_X13_readGive_b_18] at hQ
  refine g_aload_n 0 dX13_readGive_18 rfl ?_
  have h5 := hs.1; have hs := hs.2
  refine g_callV (As := []) (st := []) 226 (c_X13_goOn E M h5) mt_X13_goOn ml_X13_128 dF_Md rfl rfl sg_X13_goOn rfl (rmR (by omega) (by decide)) (Nat.le_of_ble_eq_true rfl) dX13_readGive_19 ?_
  rintro _ M6 ⟨rfl, hM6⟩
  have hQ := bndQ hQ M6 hM6; have hs := bndS hs M6 hM6
  refine g_aload_n 0 dX13_readGive_22 rfl ?_
  refine g_iconst (v := 1) dX13_readGive_23 (by decide) ?_
  have h7 := hs.1; have hs := hs.2
  refine g_callV (As := [.int 1]) (st := []) 226 (c_X13_told E M6 1 h7) mt_X13_told ml_X13_151 dF_Md rfl rfl sg_X13_told rfl (rmR (by omega) (by decide)) (Nat.le_of_ble_eq_true rfl) dX13_readGive_24 ?_
  rintro _ _ ⟨rfl, rfl⟩
  obtain ⟨z8, hz8⟩ : ∃ z, z = f_X13_told M6 1 := ⟨_, rfl⟩
  rw [← hz8]
  have hQ := bndQ hQ z8 hz8; have hs := bndS hs z8 hz8
  refine g_istore_n _ dX13_readGive_27 (by decide) rfl ?_
  refine g_aload_n 1 dX13_readGive_28 rfl ?_
  refine g_iconst (v := 0) dX13_readGive_29 (by decide) ?_
  have h9 := hs.1; have hs := hs.2
  refine g_callV (As := [.int 0]) (st := []) 226 (c_X13_told E z8.2 0 h9) mt_X13_told ml_X13_151 dF_Md rfl rfl sg_X13_told rfl (rmR (by omega) (by decide)) (Nat.le_of_ble_eq_true rfl) dX13_readGive_30 ?_
  rintro _ _ ⟨rfl, rfl⟩
  obtain ⟨z10, hz10⟩ : ∃ z, z = f_X13_told z8.2 0 := ⟨_, rfl⟩
  rw [← hz10]
  have hQ := bndQ hQ z10 hz10; have hs := bndS hs z10 hz10
  refine g_istore _ dX13_readGive_33 (by decide) rfl ?_
  refine g_aload_n 2 dX13_readGive_35 rfl ?_
  refine g_bipush (v := 16) dX13_readGive_36 (by decide) ?_
  have h11 := hs.1; have hs := hs.2
  refine g_callV (As := [.int 16]) (st := []) 226 (c_X13_isWord E z10.2 16 h11) mt_X13_isWord ml_X13_145 dF_Md rfl rfl sg_X13_isWord rfl (rmR (by omega) (by decide)) (Nat.le_of_ble_eq_true rfl) dX13_readGive_38 ?_
  rintro _ _ ⟨q1, q2⟩; rw [q1, q2]; clear q1 q2
  refine g_if_eq 48 dX13_readGive_41 (by decide) (fun c12 => ?_) (fun c12 => ?_)
  · have hs := ifSt hs c12; have hQ := ifQt hQ c12
    refine g_aload_n 2 dX13_readGive_48 rfl ?_
    refine g_bipush (v := 17) dX13_readGive_49 (by decide) ?_
    have h13 := hs.1; have hs := hs.2
    refine g_callV (As := [.int 17]) (st := []) 226 (c_X13_isWord E z10.2 17 h13) mt_X13_isWord ml_X13_145 dF_Md rfl rfl sg_X13_isWord rfl (rmR (by omega) (by decide)) (Nat.le_of_ble_eq_true rfl) dX13_readGive_51 ?_
    rintro _ _ ⟨q1, q2⟩; rw [q1, q2]; clear q1 q2
    refine g_if_eq 61 dX13_readGive_54 (by decide) (fun c14 => ?_) (fun c14 => ?_)
    · have hs := ifSt hs c14; have hQ := ifQt hQ c14
      refine g_iconst (v := 0) dX13_readGive_61 (by decide) ?_
      refine g_sub [2, 3, 4, 1, 0] _ rfl ?_
      exact t_X13_readGive_b_62 hK hd gv gs hgv z10.2 x1 x2 z8.1 z10.1 0 hs hQ
    · have hs := ifSf hs c14; have hQ := ifQf hQ c14
      refine g_iconst (v := 2) dX13_readGive_57 (by decide) ?_
      refine g_goto 62 dX13_readGive_58 (by decide) ?_
      refine g_sub [2, 3, 4, 1, 0] _ rfl ?_
      exact t_X13_readGive_b_62 hK hd gv gs hgv z10.2 x1 x2 z8.1 z10.1 2 hs hQ
  · have hs := ifSf hs c12; have hQ := ifQf hQ c12
    refine g_iconst (v := 1) dX13_readGive_44 (by decide) ?_
    refine g_goto 62 dX13_readGive_45 (by decide) ?_
    refine g_sub [2, 3, 4, 1, 0] _ rfl ?_
    exact t_X13_readGive_b_62 hK hd gv gs hgv z10.2 x1 x2 z8.1 z10.1 1 hs hQ
def f_X13_readGive_b (gv : gM → Int32 → Int32 → Int32 × gM) (M : gM) (x1 : Int32) (x2 : Int32) : Int32 × gM :=
  if (rdI M 89 0 0 (nn (x2 + 5))) = 6 then
    (bnd (f_X13_wrong M 2) fun M4 =>
    (f_X13_readGive_b_18 gv M4 x1 x2))
  else
    (f_X13_readGive_b_18 gv M x1 x2)
def s_X13_readGive_b (gv : gM → Int32 → Int32 → Int32 × gM) (gs : gM → Int32 → Int32 → Prop) (M : gM) (x1 : Int32) (x2 : Int32) : Prop :=
  (vp_in (x2 + 5) 502) ∧
  (if (rdI M 89 0 0 (nn (x2 + 5))) = 6 then
    ((s_X13_wrong M 2) ∧
    (bndP (f_X13_wrong M 2) fun M4 =>
    (s_X13_readGive_b_18 gv gs M4 x1 x2)))
  else
    (s_X13_readGive_b_18 gv gs M x1 x2))
theorem o_X13_readGive_b (gv : gM → Int32 → Int32 → Int32 × gM) (hgo : ∀ (M : gM) (a b : Int32), offW [71, 72, 73, 74, 75, 76, 77, 89, 91, 93] M (gv M a b).2) (M : gM) (x1 : Int32) (x2 : Int32) : offW [71, 72, 73, 74, 75, 76, 77, 89, 91, 93] M (f_X13_readGive_b gv M x1 x2).2 := by
  rw [f_X13_readGive_b]
  refine offI2 ?_ ?_
  · refine offB2 (offR.tr ((o_X13_wrong M 2).mono (by decide))) (fun M4 oM4 => ?_)
    exact oM4.tr (o_X13_readGive_b_18 gv hgo M4 x1 x2)
  · exact (o_X13_readGive_b_18 gv hgo M x1 x2)
set_option maxRecDepth 100000 in
set_option maxHeartbeats 4000000 in
theorem t_X13_readGive_b {E : gE} {K : Int32 × gM → Prop} {Q : Option Value → gM → Prop} (hK : ∀ z : Int32 × gM, K z → Q (some (.int z.1)) z.2) {dg : Nat} (hd : 10 ≤ dg) (gv : gM → Int32 → Int32 → Int32 × gM) (gs : gM → Int32 → Int32 → Prop) (hgv : ∀ (M : gM) (a b : Int32), gs M a b → gC E yX13_readGive cX13_readGive 9 (some .boolean) (rm dg) [.ref (gla E 226), .int a, .int b] M (fun o N => o = some (.int (gv M a b).1) ∧ N = (gv M a b).2)) (M : gM) (x1 : Int32) (x2 : Int32)  (hs : s_X13_readGive_b gv gs M x1 x2) (hQ : K (f_X13_readGive_b gv M x1 x2)) : gG E RX13 cX13_readGive 9 (some .boolean) (rm (dg + 2)) 0 [(0, .ref (gla E 226)), (1, .int x1), (2, .int x2)] [] M Q := by
  rw [s_X13_readGive_b] at hs
  rw [f_X13_readGive_b] at hQ
  refine g_aload_n 0 dX13_readGive_0 rfl ?_
  refine g_getR 226 229 fd_X13_16 dF_Md rfl rfl dX13_readGive_1 ?_
  refine g_iload_n 2 dX13_readGive_4 rfl ?_
  refine g_iconst (v := 5) dX13_readGive_5 (by decide) ?_
  refine g_iadd dX13_readGive_6 ?_
  have h1 := hs.1; have hs := hs.2
  refine g_iald 229 dF_Md_fresh h1 dX13_readGive_7 ?_
  refine g_bipush (v := 6) dX13_readGive_8 (by decide) ?_
  refine g_icmp_ne 18 dX13_readGive_10 (by decide) (fun c2 => ?_) (fun c2 => ?_)
  · have hs := ifSf hs c2; have hQ := ifQf hQ c2
    exact t_X13_readGive_b_18 hK hd gv gs hgv M x1 x2 hs hQ
  · have hs := ifSt hs c2; have hQ := ifQt hQ c2
    refine g_aload_n 0 dX13_readGive_13 rfl ?_
    refine g_iconst (v := 2) dX13_readGive_14 (by decide) ?_
    have h3 := hs.1; have hs := hs.2
    refine g_callV (As := [.int 2]) (st := []) 226 (c_X13_wrong E M 2 h3) mt_X13_wrong ml_X13_120 dF_Md rfl rfl sg_X13_wrong rfl (rmR (by omega) (by decide)) (Nat.le_of_ble_eq_true rfl) dX13_readGive_15 ?_
    rintro _ M4 ⟨rfl, hM4⟩
    have hQ := bndQ hQ M4 hM4; have hs := bndS hs M4 hM4
    exact t_X13_readGive_b_18 hK hd gv gs hgv M4 x1 x2 hs hQ
theorem c_X13_readGive_b (E : gE) {dg : Nat} (hd : 10 ≤ dg) (gv : gM → Int32 → Int32 → Int32 × gM) (gs : gM → Int32 → Int32 → Prop) (hgv : ∀ (M : gM) (a b : Int32), gs M a b → gC E yX13_readGive cX13_readGive 9 (some .boolean) (rm dg) [.ref (gla E 226), .int a, .int b] M (fun o N => o = some (.int (gv M a b).1) ∧ N = (gv M a b).2)) (M : gM) (x1 : Int32) (x2 : Int32) (hs : s_X13_readGive_b gv gs M x1 x2) : gC E yX13_readGive cX13_readGive 9 (some .boolean) (rm (dg + 2)) [.ref (gla E 226), .int x1, .int x2] M (fun o N => o = some (.int (f_X13_readGive_b gv M x1 x2).1) ∧ N = (f_X13_readGive_b gv M x1 x2).2) :=
  gC.of (by decide +kernel) (Nat.le_of_ble_eq_true rfl) rfl (t_X13_readGive_b (K := fun z => z = f_X13_readGive_b gv M x1 x2) (fun z hz => by rw [hz]; exact ⟨rfl, rfl⟩) hd gv gs hgv M x1 x2 hs rfl)
/-- the depth of gives: a number that nothing unfolds -/
noncomputable def DG : Nat := Classical.choose (⟨16, rfl⟩ : ∃ n : Nat, n = 16)
theorem DG_eq : DG = 16 := Classical.choose_spec (⟨16, rfl⟩ : ∃ n : Nat, n = 16)
def f_X13_readGive : Nat → gM → Int32 → Int32 → Int32 × gM
  | 0, M, _, _ => (0, M)
  | D + 1, M, a, b => f_X13_readGive_b (f_X13_readGive D) M a b
def s_X13_readGive : Nat → gM → Int32 → Int32 → Prop
  | 0, _, _, _ => False
  | D + 1, M, a, b => s_X13_readGive_b (f_X13_readGive D) (s_X13_readGive D) M a b
theorem o_X13_readGive : ∀ (D : Nat) (M : gM) (a b : Int32), offW [71, 72, 73, 74, 75, 76, 77, 89, 91, 93] M (f_X13_readGive D M a b).2 := by
  intro D
  induction D with
  | zero => intro M a b; exact offR
  | succ D ih => intro M a b; exact o_X13_readGive_b (f_X13_readGive D) ih M a b
theorem c_X13_readGive (E : gE) : ∀ (D : Nat) (M : gM) (a b : Int32), s_X13_readGive D M a b → gC E yX13_readGive cX13_readGive 9 (some .boolean) (rm (10 + 2 * D)) [.ref (gla E 226), .int a, .int b] M (fun o N => o = some (.int (f_X13_readGive D M a b).1) ∧ N = (f_X13_readGive D M a b).2) := by
  intro D
  induction D with
  | zero => intro M a b hs; exact (hs : False).elim
  | succ D ih => intro M a b hs; exact c_X13_readGive_b E (dg := 10 + 2 * D) (by omega) (f_X13_readGive D) (s_X13_readGive D) ih M a b hs
theorem c_X13_giveDG (E : gE) (M : gM) (a b : Int32) (hs : s_X13_readGive DG M a b) : gC E yX13_readGive cX13_readGive 9 (some .boolean) (rm 42) [.ref (gla E 226), .int a, .int b] M (fun o N => o = some (.int (f_X13_readGive DG M a b).1) ∧ N = (f_X13_readGive DG M a b).2) := by
  have h := c_X13_readGive E DG M a b hs
  rw [show 10 + 2 * DG = 42 from by rw [DG_eq]] at h
  exact h
def f_X13_newName_40 (M : gM) (x1 : Int32)  : gM :=
  if (rdI M 76 0 0 0) = 0 then
    (bnd (wrI M 95 0 0 (nn ((12 * x1) + (rdI M 89 0 0 (nn x1)))) (rdI M 75 0 0 0)) fun M16 =>
    (bnd (f_X13_goOn M16) fun M18 =>
    (M18)))
  else
    (bnd (f_X13_goOn M) fun M13 =>
    (M13))
def s_X13_newName_40 (M : gM) (x1 : Int32)  : Prop :=
  if (rdI M 76 0 0 0) = 0 then
    ((vp_in x1 502) ∧
    ((vp_in ((12 * x1) + (rdI M 89 0 0 (nn x1))) 36) ∧
    (bndP (wrI M 95 0 0 (nn ((12 * x1) + (rdI M 89 0 0 (nn x1)))) (rdI M 75 0 0 0)) fun M16 =>
    ((s_X13_goOn M16) ∧
    (bndP (f_X13_goOn M16) fun M18 =>
    (True))))))
  else
    ((s_X13_goOn M) ∧
    (bndP (f_X13_goOn M) fun M13 =>
    (True)))
theorem o_X13_newName_40 (M : gM) (x1 : Int32)  : offW [71, 72, 73, 74, 75, 76, 77, 95] M (f_X13_newName_40 M x1 ) := by
  rw [f_X13_newName_40]
  refine offI ?_ ?_
  · refine offB (offR.wI (by decide)) (fun M16 oM16 => ?_)
    refine offB (oM16.tr ((o_X13_goOn M16).mono (by decide))) (fun M18 oM18 => ?_)
    exact oM18
  · refine offB (offR.tr ((o_X13_goOn M).mono (by decide))) (fun M13 oM13 => ?_)
    exact oM13
set_option maxRecDepth 100000 in
set_option maxHeartbeats 4000000 in
theorem t_X13_newName_40 {E : gE} {K : gM → Prop} {Q : Option Value → gM → Prop} (hK : ∀ z : gM, K z → Q none z) (M : gM) (x1 : Int32)   (hs : s_X13_newName_40 M x1 ) (hQ : K (f_X13_newName_40 M x1 )) : gG E RX13 cX13_newName 2 none (rm 8) 40 [(0, .ref (gla E 226)), (1, .int x1)] [] M Q := by
  rw [s_X13_newName_40] at hs
  rw [f_X13_newName_40] at hQ
  refine g_aload_n 0 dX13_newName_40 rfl ?_
  refine g_getI 226 fd_X13_111 dF_Md rfl dX13_newName_41 ?_
  refine g_if_ne 67 dX13_newName_44 (by decide) (fun c11 => ?_) (fun c11 => ?_)
  · have hs := ifSf hs c11; have hQ := ifQf hQ c11
    refine g_aload_n 0 dX13_newName_67 rfl ?_
    have h12 := hs.1; have hs := hs.2
    refine g_callV (As := []) (st := []) 226 (c_X13_goOn E M h12) mt_X13_goOn ml_X13_128 dF_Md rfl rfl sg_X13_goOn rfl (by decide) (Nat.le_of_ble_eq_true rfl) dX13_newName_68 ?_
    rintro _ M13 ⟨rfl, hM13⟩
    have hQ := bndQ hQ M13 hM13; have hs := bndS hs M13 hM13
    exact g_vret rfl dX13_newName_71 (hK _ hQ)
  · have hs := ifSt hs c11; have hQ := ifQt hQ c11
    refine g_aload_n 0 dX13_newName_47 rfl ?_
    refine g_getR 226 235 fd_X13_34 dF_Md rfl rfl dX13_newName_48 ?_
    refine g_bipush (v := 12) dX13_newName_51 (by decide) ?_
    refine g_iload_n 1 dX13_newName_53 rfl ?_
    refine g_imul dX13_newName_54 ?_
    refine g_aload_n 0 dX13_newName_55 rfl ?_
    refine g_getR 226 229 fd_X13_16 dF_Md rfl rfl dX13_newName_56 ?_
    refine g_iload_n 1 dX13_newName_59 rfl ?_
    have h14 := hs.1; have hs := hs.2
    refine g_iald 229 dF_Md_fresh h14 dX13_newName_60 ?_
    refine g_iadd dX13_newName_61 ?_
    refine g_aload_n 0 dX13_newName_62 rfl ?_
    refine g_getI 226 fd_X13_87 dF_Md rfl dX13_newName_63 ?_
    have h15 := hs.1; have hs := hs.2
    refine g_iast 235 dF_Md_name h15 dX13_newName_66 (fun M16 hM16 => ?_)
    have hQ := bndQ hQ M16 hM16; have hs := bndS hs M16 hM16
    refine g_aload_n 0 dX13_newName_67 rfl ?_
    have h17 := hs.1; have hs := hs.2
    refine g_callV (As := []) (st := []) 226 (c_X13_goOn E M16 h17) mt_X13_goOn ml_X13_128 dF_Md rfl rfl sg_X13_goOn rfl (by decide) (Nat.le_of_ble_eq_true rfl) dX13_newName_68 ?_
    rintro _ M18 ⟨rfl, hM18⟩
    have hQ := bndQ hQ M18 hM18; have hs := bndS hs M18 hM18
    exact g_vret rfl dX13_newName_71 (hK _ hQ)
def f_X13_newName_19 (M : gM) (x1 : Int32)  : gM :=
  if (rdI M 76 0 0 0) = 0 then
    (if (f_X13_namedHere M x1) = (-1) then
      (f_X13_newName_40 M x1)
    else
      (bnd (f_X13_wrong M 3) fun M10 =>
      (f_X13_newName_40 M10 x1)))
  else
    (f_X13_newName_40 M x1)
def s_X13_newName_19 (M : gM) (x1 : Int32)  : Prop :=
  if (rdI M 76 0 0 0) = 0 then
    ((s_X13_namedHere M x1) ∧
    (if (f_X13_namedHere M x1) = (-1) then
      (s_X13_newName_40 M x1)
    else
      ((s_X13_wrong M 3) ∧
      (bndP (f_X13_wrong M 3) fun M10 =>
      (s_X13_newName_40 M10 x1)))))
  else
    (s_X13_newName_40 M x1)
theorem o_X13_newName_19 (M : gM) (x1 : Int32)  : offW [71, 72, 73, 74, 75, 76, 77, 95] M (f_X13_newName_19 M x1 ) := by
  rw [f_X13_newName_19]
  refine offI ?_ ?_
  · refine offI ?_ ?_
    · exact (o_X13_newName_40 M x1)
    · refine offB (offR.tr ((o_X13_wrong M 3).mono (by decide))) (fun M10 oM10 => ?_)
      exact oM10.tr (o_X13_newName_40 M10 x1)
  · exact (o_X13_newName_40 M x1)
set_option maxRecDepth 100000 in
set_option maxHeartbeats 4000000 in
theorem t_X13_newName_19 {E : gE} {K : gM → Prop} {Q : Option Value → gM → Prop} (hK : ∀ z : gM, K z → Q none z) (M : gM) (x1 : Int32)   (hs : s_X13_newName_19 M x1 ) (hQ : K (f_X13_newName_19 M x1 )) : gG E RX13 cX13_newName 2 none (rm 8) 19 [(0, .ref (gla E 226)), (1, .int x1)] [] M Q := by
  rw [s_X13_newName_19] at hs
  rw [f_X13_newName_19] at hQ
  refine g_aload_n 0 dX13_newName_19 rfl ?_
  refine g_getI 226 fd_X13_111 dF_Md rfl dX13_newName_20 ?_
  refine g_if_ne 40 dX13_newName_23 (by decide) (fun c6 => ?_) (fun c6 => ?_)
  · have hs := ifSf hs c6; have hQ := ifQf hQ c6
    exact t_X13_newName_40 hK M x1 hs hQ
  · have hs := ifSt hs c6; have hQ := ifQt hQ c6
    refine g_aload_n 0 dX13_newName_26 rfl ?_
    refine g_iload_n 1 dX13_newName_27 rfl ?_
    have h7 := hs.1; have hs := hs.2
    refine g_callV (As := [.int x1]) (st := []) 226 (c_X13_namedHere E M x1 h7) mt_X13_namedHere ml_X13_135 dF_Md rfl rfl sg_X13_namedHere rfl (by decide) (Nat.le_of_ble_eq_true rfl) dX13_newName_28 ?_
    rintro _ _ ⟨q1, q2⟩; rw [q1, q2]; clear q1 q2
    refine g_iconst (v := (-1)) dX13_newName_31 (by decide) ?_
    refine g_icmp_eq 40 dX13_newName_32 (by decide) (fun c8 => ?_) (fun c8 => ?_)
    · have hs := ifSt hs c8; have hQ := ifQt hQ c8
      exact t_X13_newName_40 hK M x1 hs hQ
    · have hs := ifSf hs c8; have hQ := ifQf hQ c8
      refine g_aload_n 0 dX13_newName_35 rfl ?_
      refine g_iconst (v := 3) dX13_newName_36 (by decide) ?_
      have h9 := hs.1; have hs := hs.2
      refine g_callV (As := [.int 3]) (st := []) 226 (c_X13_wrong E M 3 h9) mt_X13_wrong ml_X13_120 dF_Md rfl rfl sg_X13_wrong rfl (by decide) (Nat.le_of_ble_eq_true rfl) dX13_newName_37 ?_
      rintro _ M10 ⟨rfl, hM10⟩
      have hQ := bndQ hQ M10 hM10; have hs := bndS hs M10 hM10
      exact t_X13_newName_40 hK M10 x1 hs hQ
def f_X13_newName (M : gM) (x1 : Int32) : gM :=
  if (rdI M 76 0 0 0) = 0 then
    (if (f_X13_isOther M) = 0 then
      (bnd (f_X13_wrong M 1) fun M5 =>
      (f_X13_newName_19 M5 x1))
    else
      (f_X13_newName_19 M x1))
  else
    (f_X13_newName_19 M x1)
def s_X13_newName (M : gM) (x1 : Int32) : Prop :=
  if (rdI M 76 0 0 0) = 0 then
    ((s_X13_isOther M) ∧
    (if (f_X13_isOther M) = 0 then
      ((s_X13_wrong M 1) ∧
      (bndP (f_X13_wrong M 1) fun M5 =>
      (s_X13_newName_19 M5 x1)))
    else
      (s_X13_newName_19 M x1)))
  else
    (s_X13_newName_19 M x1)
theorem o_X13_newName (M : gM) (x1 : Int32) : offW [71, 72, 73, 74, 75, 76, 77, 95] M (f_X13_newName M x1) := by
  rw [f_X13_newName]
  refine offI ?_ ?_
  · refine offI ?_ ?_
    · refine offB (offR.tr ((o_X13_wrong M 1).mono (by decide))) (fun M5 oM5 => ?_)
      exact oM5.tr (o_X13_newName_19 M5 x1)
    · exact (o_X13_newName_19 M x1)
  · exact (o_X13_newName_19 M x1)
set_option maxRecDepth 100000 in
set_option maxHeartbeats 4000000 in
theorem t_X13_newName {E : gE} {K : gM → Prop} {Q : Option Value → gM → Prop} (hK : ∀ z : gM, K z → Q none z) (M : gM) (x1 : Int32)  (hs : s_X13_newName M x1) (hQ : K (f_X13_newName M x1)) : gG E RX13 cX13_newName 2 none (rm 8) 0 [(0, .ref (gla E 226)), (1, .int x1)] [] M Q := by
  rw [s_X13_newName] at hs
  rw [f_X13_newName] at hQ
  refine g_aload_n 0 dX13_newName_0 rfl ?_
  refine g_getI 226 fd_X13_111 dF_Md rfl dX13_newName_1 ?_
  refine g_if_ne 19 dX13_newName_4 (by decide) (fun c1 => ?_) (fun c1 => ?_)
  · have hs := ifSf hs c1; have hQ := ifQf hQ c1
    exact t_X13_newName_19 hK M x1 hs hQ
  · have hs := ifSt hs c1; have hQ := ifQt hQ c1
    refine g_aload_n 0 dX13_newName_7 rfl ?_
    have h2 := hs.1; have hs := hs.2
    refine g_callV (As := []) (st := []) 226 (c_X13_isOther E M h2) mt_X13_isOther ml_X13_131 dF_Md rfl rfl sg_X13_isOther rfl (by decide) (Nat.le_of_ble_eq_true rfl) dX13_newName_8 ?_
    rintro _ _ ⟨q1, q2⟩; rw [q1, q2]; clear q1 q2
    refine g_if_ne 19 dX13_newName_11 (by decide) (fun c3 => ?_) (fun c3 => ?_)
    · have hs := ifSf hs c3; have hQ := ifQf hQ c3
      exact t_X13_newName_19 hK M x1 hs hQ
    · have hs := ifSt hs c3; have hQ := ifQt hQ c3
      refine g_aload_n 0 dX13_newName_14 rfl ?_
      refine g_iconst (v := 1) dX13_newName_15 (by decide) ?_
      have h4 := hs.1; have hs := hs.2
      refine g_callV (As := [.int 1]) (st := []) 226 (c_X13_wrong E M 1 h4) mt_X13_wrong ml_X13_120 dF_Md rfl rfl sg_X13_wrong rfl (by decide) (Nat.le_of_ble_eq_true rfl) dX13_newName_16 ?_
      rintro _ M5 ⟨rfl, hM5⟩
      have hQ := bndQ hQ M5 hM5; have hs := bndS hs M5 hM5
      exact t_X13_newName_19 hK M5 x1 hs hQ
theorem c_X13_newName (E : gE) (M : gM) (x1 : Int32) (hs : s_X13_newName M x1) : gC E yX13_newName cX13_newName 2 none (rm 8) [.ref (gla E 226), .int x1] M (fun o N => o = none ∧ N = f_X13_newName M x1) :=
  gC.of (by decide +kernel) (Nat.le_of_ble_eq_true rfl) rfl (t_X13_newName (K := fun z => z = f_X13_newName M x1) (fun z hz => ⟨rfl, hz⟩) M x1 hs rfl)
def f_X13_counting_35 (M : gM)  : Int32 × gM :=
  ((-1), M)
def s_X13_counting_35 (M : gM)  : Prop :=
  True
theorem o_X13_counting_35 (M : gM)  : offW [67] M (f_X13_counting_35 M ).2 := by
  rw [f_X13_counting_35]
  exact offR
set_option maxRecDepth 100000 in
set_option maxHeartbeats 4000000 in
theorem t_X13_counting_35 {E : gE} {K : Int32 × gM → Prop} {Q : Option Value → gM → Prop} (hK : ∀ z : Int32 × gM, K z → Q (some (.int z.1)) z.2) (M : gM)   (hs : s_X13_counting_35 M ) (hQ : K (f_X13_counting_35 M )) : gG E RX13 cX13_counting 4 (some .int) (rm 8) 35 [] [] M Q := by
  rw [s_X13_counting_35] at hs
  rw [f_X13_counting_35] at hQ
  refine g_iconst (v := (-1)) dX13_counting_35 (by decide) ?_
  exact g_iret rfl dX13_counting_36 (hK _ hQ)
def f_X13_counting (M : gM) (x1 : Int32) (x2 : Int32) (x3 : Int32) : Int32 × gM :=
  bnd (wrI M 67 0 0 0 0) fun M1 =>
  (if (f_X13_isPerson M1 x1) = 0 then
    (f_X13_counting_35 M1)
  else
    (if (f_X13_isThing M1 x2) = 0 then
      (f_X13_counting_35 M1)
    else
      (if x3 < 0 then
        (f_X13_counting_35 M1)
      else
        ((f_X13_countingAt M1 x1 x2 x3, M1)))))
def s_X13_counting (M : gM) (x1 : Int32) (x2 : Int32) (x3 : Int32) : Prop :=
  bndP (wrI M 67 0 0 0 0) fun M1 =>
  ((s_X13_isPerson M1 x1) ∧
  (if (f_X13_isPerson M1 x1) = 0 then
    (s_X13_counting_35 M1)
  else
    ((s_X13_isThing M1 x2) ∧
    (if (f_X13_isThing M1 x2) = 0 then
      (s_X13_counting_35 M1)
    else
      (if x3 < 0 then
        (s_X13_counting_35 M1)
      else
        ((s_X13_countingAt M1 x1 x2 x3) ∧
        (True)))))))
theorem o_X13_counting (M : gM) (x1 : Int32) (x2 : Int32) (x3 : Int32) : offW [67] M (f_X13_counting M x1 x2 x3).2 := by
  rw [f_X13_counting]
  refine offB2 (offR.wI (by decide)) (fun M1 oM1 => ?_)
  refine offI2 ?_ ?_
  · exact oM1.tr (o_X13_counting_35 M1)
  · refine offI2 ?_ ?_
    · exact oM1.tr (o_X13_counting_35 M1)
    · refine offI2 ?_ ?_
      · exact oM1.tr (o_X13_counting_35 M1)
      · exact oM1
set_option maxRecDepth 100000 in
set_option maxHeartbeats 4000000 in
theorem t_X13_counting {E : gE} {K : Int32 × gM → Prop} {Q : Option Value → gM → Prop} (hK : ∀ z : Int32 × gM, K z → Q (some (.int z.1)) z.2) (M : gM) (x1 : Int32) (x2 : Int32) (x3 : Int32)  (hs : s_X13_counting M x1 x2 x3) (hQ : K (f_X13_counting M x1 x2 x3)) : gG E RX13 cX13_counting 4 (some .int) (rm 8) 0 [(0, .ref (gla E 226)), (1, .int x1), (2, .int x2), (3, .int x3)] [] M Q := by
  rw [s_X13_counting] at hs
  rw [f_X13_counting] at hQ
  refine g_aload_n 0 dX13_counting_0 rfl ?_
  refine g_iconst (v := 0) dX13_counting_1 (by decide) ?_
  refine g_putI 226 fd_X13_61 dF_Md rfl dX13_counting_2 (fun M1 hM1 => ?_)
  have hQ := bndQ hQ M1 hM1; have hs := bndS hs M1 hM1
  refine g_aload_n 0 dX13_counting_5 rfl ?_
  refine g_iload_n 1 dX13_counting_6 rfl ?_
  have h2 := hs.1; have hs := hs.2
  refine g_callV (As := [.int x1]) (st := []) 226 (c_X13_isPerson E M1 x1 h2) mt_X13_isPerson ml_X13_206 dF_Md rfl rfl sg_X13_isPerson rfl (by decide) (Nat.le_of_ble_eq_true rfl) dX13_counting_7 ?_
  rintro _ _ ⟨q1, q2⟩; rw [q1, q2]; clear q1 q2
  refine g_if_eq 35 dX13_counting_10 (by decide) (fun c3 => ?_) (fun c3 => ?_)
  · have hs := ifSt hs c3; have hQ := ifQt hQ c3
    refine g_sub [] _ rfl ?_
    exact t_X13_counting_35 hK M1 hs hQ
  · have hs := ifSf hs c3; have hQ := ifQf hQ c3
    refine g_aload_n 0 dX13_counting_13 rfl ?_
    refine g_iload_n 2 dX13_counting_14 rfl ?_
    have h4 := hs.1; have hs := hs.2
    refine g_callV (As := [.int x2]) (st := []) 226 (c_X13_isThing E M1 x2 h4) mt_X13_isThing ml_X13_221 dF_Md rfl rfl sg_X13_isThing rfl (by decide) (Nat.le_of_ble_eq_true rfl) dX13_counting_15 ?_
    rintro _ _ ⟨q1, q2⟩; rw [q1, q2]; clear q1 q2
    refine g_if_eq 35 dX13_counting_18 (by decide) (fun c5 => ?_) (fun c5 => ?_)
    · have hs := ifSt hs c5; have hQ := ifQt hQ c5
      refine g_sub [] _ rfl ?_
      exact t_X13_counting_35 hK M1 hs hQ
    · have hs := ifSf hs c5; have hQ := ifQf hQ c5
      refine g_iload_n 3 dX13_counting_21 rfl ?_
      refine g_if_lt 35 dX13_counting_22 (by decide) (fun c6 => ?_) (fun c6 => ?_)
      · have hs := ifSt hs c6; have hQ := ifQt hQ c6
        refine g_sub [] _ rfl ?_
        exact t_X13_counting_35 hK M1 hs hQ
      · have hs := ifSf hs c6; have hQ := ifQf hQ c6
        refine g_aload_n 0 dX13_counting_25 rfl ?_
        refine g_iload_n 1 dX13_counting_26 rfl ?_
        refine g_iload_n 2 dX13_counting_27 rfl ?_
        refine g_iload_n 3 dX13_counting_28 rfl ?_
        have h7 := hs.1; have hs := hs.2
        refine g_callV (As := [.int x1, .int x2, .int x3]) (st := []) 226 (c_X13_countingAt E M1 x1 x2 x3 h7) mt_X13_countingAt ml_X13_266 dF_Md rfl rfl sg_X13_countingAt rfl (by decide) (Nat.le_of_ble_eq_true rfl) dX13_counting_29 ?_
        rintro _ _ ⟨q1, q2⟩; rw [q1, q2]; clear q1 q2
        refine g_goto 36 dX13_counting_32 (by decide) ?_
        exact g_iret rfl dX13_counting_36 (hK _ hQ)
theorem c_X13_counting (E : gE) (M : gM) (x1 : Int32) (x2 : Int32) (x3 : Int32) (hs : s_X13_counting M x1 x2 x3) : gC E yX13_counting cX13_counting 4 (some .int) (rm 8) [.ref (gla E 226), .int x1, .int x2, .int x3] M (fun o N => o = some (.int (f_X13_counting M x1 x2 x3).1) ∧ N = (f_X13_counting M x1 x2 x3).2) :=
  gC.of (by decide +kernel) (Nat.le_of_ble_eq_true rfl) rfl (t_X13_counting (K := fun z => z = f_X13_counting M x1 x2 x3) (fun z hz => by rw [hz]; exact ⟨rfl, rfl⟩) M x1 x2 x3 hs rfl)
def f_X13_laysTaker_157 (M : gM)  : gM :=
  if (rdI M 80 0 0 0) = (-2) then
    (bnd (wrI M 81 0 0 0 (-2)) fun M23 =>
    (M23))
  else
    (bnd (wrI M 81 0 0 0 (rdI M 81 0 0 0)) fun M22 =>
    (M22))
def s_X13_laysTaker_157 (M : gM)  : Prop :=
  if (rdI M 80 0 0 0) = (-2) then
    (bndP (wrI M 81 0 0 0 (-2)) fun M23 =>
    (True))
  else
    (bndP (wrI M 81 0 0 0 (rdI M 81 0 0 0)) fun M22 =>
    (True))
theorem o_X13_laysTaker_157 (M : gM)  : offW [80, 81] M (f_X13_laysTaker_157 M ) := by
  rw [f_X13_laysTaker_157]
  refine offI ?_ ?_
  · refine offB (offR.wI (by decide)) (fun M23 oM23 => ?_)
    exact oM23
  · refine offB (offR.wI (by decide)) (fun M22 oM22 => ?_)
    exact oM22
set_option maxRecDepth 100000 in
set_option maxHeartbeats 4000000 in
theorem t_X13_laysTaker_157 {E : gE} {K : gM → Prop} {Q : Option Value → gM → Prop} (hK : ∀ z : gM, K z → Q none z) (M : gM)   (hs : s_X13_laysTaker_157 M ) (hQ : K (f_X13_laysTaker_157 M )) : gG E RX13 cX13_laysTaker 5 none (rm 8) 157 [(0, .ref (gla E 226))] [] M Q := by
  rw [s_X13_laysTaker_157] at hs
  rw [f_X13_laysTaker_157] at hQ
  refine g_aload_n 0 dX13_laysTaker_157 rfl ?_
  refine g_aload_n 0 dX13_laysTaker_158 rfl ?_
  refine g_getI 226 fd_X13_274 dF_Md rfl dX13_laysTaker_159 ?_
  refine g_bipush (v := (-2)) dX13_laysTaker_162 (by decide) ?_
  refine g_icmp_ne 172 dX13_laysTaker_164 (by decide) (fun c21 => ?_) (fun c21 => ?_)
  · have hs := ifSf hs c21; have hQ := ifQf hQ c21
    refine g_aload_n 0 dX13_laysTaker_172 rfl ?_
    refine g_getI 226 fd_X13_277 dF_Md rfl dX13_laysTaker_173 ?_
    refine g_putI 226 fd_X13_277 dF_Md rfl dX13_laysTaker_176 (fun M22 hM22 => ?_)
    have hQ := bndQ hQ M22 hM22; have hs := bndS hs M22 hM22
    exact g_vret rfl dX13_laysTaker_179 (hK _ hQ)
  · have hs := ifSt hs c21; have hQ := ifQt hQ c21
    refine g_bipush (v := (-2)) dX13_laysTaker_167 (by decide) ?_
    refine g_goto 176 dX13_laysTaker_169 (by decide) ?_
    refine g_putI 226 fd_X13_277 dF_Md rfl dX13_laysTaker_176 (fun M23 hM23 => ?_)
    have hQ := bndQ hQ M23 hM23; have hs := bndS hs M23 hM23
    exact g_vret rfl dX13_laysTaker_179 (hK _ hQ)
def f_X13_laysTaker_80 (x1 : Int32) (x2 : Int32) (x3 : Int32)  : Nat → gM → Int32 → gM
  | 0, M, _ => M
  | n + 1, M, x4 =>
    if (rdI M 80 0 0 0) = (-2) then
      (if (f_X13_countingAt M x1 x2 x4) = (-2) then
        (f_X13_laysTaker_157 M)
      else
        (bnd (wrI M 81 0 0 0 (f_X13_countingAt M x1 x2 x4)) fun M15 =>
        (if (f_X13_mayTake M15 (rdI M15 81 0 0 0) x2 (f_X13_of M15 (rdI M15 81 0 0 0) 6) x3) = 0 then
          (f_X13_laysTaker_80 x1 x2 x3 n M15 (x4 + 1))
        else
          (bnd (wrI M15 80 0 0 0 (f_X13_of M15 (rdI M15 81 0 0 0) 6)) fun M20 =>
          (f_X13_laysTaker_80 x1 x2 x3 n M20 (x4 + 1))))))
    else
      (f_X13_laysTaker_157 M)
def s_X13_laysTaker_80 (x1 : Int32) (x2 : Int32) (x3 : Int32)  : Nat → gM → Int32 → Prop
  | 0, _, _ => False
  | n + 1, M, x4 =>
    if (rdI M 80 0 0 0) = (-2) then
      ((s_X13_countingAt M x1 x2 x4) ∧
      (if (f_X13_countingAt M x1 x2 x4) = (-2) then
        (s_X13_laysTaker_157 M)
      else
        ((s_X13_countingAt M x1 x2 x4) ∧
        (bndP (wrI M 81 0 0 0 (f_X13_countingAt M x1 x2 x4)) fun M15 =>
        ((s_X13_of M15 (rdI M15 81 0 0 0) 6) ∧
        ((s_X13_mayTake M15 (rdI M15 81 0 0 0) x2 (f_X13_of M15 (rdI M15 81 0 0 0) 6) x3) ∧
        (if (f_X13_mayTake M15 (rdI M15 81 0 0 0) x2 (f_X13_of M15 (rdI M15 81 0 0 0) 6) x3) = 0 then
          (s_X13_laysTaker_80 x1 x2 x3 n M15 (x4 + 1))
        else
          ((s_X13_of M15 (rdI M15 81 0 0 0) 6) ∧
          (bndP (wrI M15 80 0 0 0 (f_X13_of M15 (rdI M15 81 0 0 0) 6)) fun M20 =>
          (s_X13_laysTaker_80 x1 x2 x3 n M20 (x4 + 1)))))))))))
    else
      (s_X13_laysTaker_157 M)
theorem o_X13_laysTaker_80 (x1 : Int32) (x2 : Int32) (x3 : Int32)  : ∀ (n : Nat) (M : gM) (x4 : Int32), offW [80, 81] M (f_X13_laysTaker_80 x1 x2 x3  n M x4) := by
  intro n
  induction n with
  | zero => intro M x4; exact offR
  | succ n ih =>
    intro M x4
    rw [f_X13_laysTaker_80]
    refine offI ?_ ?_
    · refine offI ?_ ?_
      · exact (o_X13_laysTaker_157 M)
      · refine offB (offR.wI (by decide)) (fun M15 oM15 => ?_)
        refine offI ?_ ?_
        · exact oM15.tr (ih M15 (x4 + 1))
        · refine offB (oM15.wI (by decide)) (fun M20 oM20 => ?_)
          exact oM20.tr (ih M20 (x4 + 1))
    · exact (o_X13_laysTaker_157 M)
set_option maxRecDepth 100000 in
set_option maxHeartbeats 4000000 in
theorem t_X13_laysTaker_80 {E : gE} {K : gM → Prop} {Q : Option Value → gM → Prop} (hK : ∀ z : gM, K z → Q none z) (x1 : Int32) (x2 : Int32) (x3 : Int32)   : ∀ (n : Nat) (M : gM) (x4 : Int32) , s_X13_laysTaker_80 x1 x2 x3  n M x4 → K (f_X13_laysTaker_80 x1 x2 x3  n M x4) → gG E RX13 cX13_laysTaker 5 none (rm 8) 80 [(0, .ref (gla E 226)), (1, .int x1), (2, .int x2), (3, .int x3), (4, .int x4)] [] M Q := by
  intro n
  induction n with
  | zero => intro M x4 hs hQ; exact (hs : False).elim
  | succ n ih =>
    intro M x4 hs hQ
    rw [s_X13_laysTaker_80] at hs
    rw [f_X13_laysTaker_80] at hQ
    refine g_aload_n 0 dX13_laysTaker_80 rfl ?_
    refine g_getI 226 fd_X13_274 dF_Md rfl dX13_laysTaker_81 ?_
    refine g_bipush (v := (-2)) dX13_laysTaker_84 (by decide) ?_
    refine g_icmp_ne 157 dX13_laysTaker_86 (by decide) (fun c11 => ?_) (fun c11 => ?_)
    · have hs := ifSf hs c11; have hQ := ifQf hQ c11
      refine g_sub [0] _ rfl ?_
      exact t_X13_laysTaker_157 hK M hs hQ
    · have hs := ifSt hs c11; have hQ := ifQt hQ c11
      refine g_aload_n 0 dX13_laysTaker_89 rfl ?_
      refine g_iload_n 1 dX13_laysTaker_90 rfl ?_
      refine g_iload_n 2 dX13_laysTaker_91 rfl ?_
      refine g_iload 4 dX13_laysTaker_92 rfl ?_
      have h12 := hs.1; have hs := hs.2
      refine g_callV (As := [.int x1, .int x2, .int x4]) (st := []) 226 (c_X13_countingAt E M x1 x2 x4 h12) mt_X13_countingAt ml_X13_266 dF_Md rfl rfl sg_X13_countingAt rfl (by decide) (Nat.le_of_ble_eq_true rfl) dX13_laysTaker_94 ?_
      rintro _ _ ⟨q1, q2⟩; rw [q1, q2]; clear q1 q2
      refine g_bipush (v := (-2)) dX13_laysTaker_97 (by decide) ?_
      refine g_icmp_eq 157 dX13_laysTaker_99 (by decide) (fun c13 => ?_) (fun c13 => ?_)
      · have hs := ifSt hs c13; have hQ := ifQt hQ c13
        refine g_sub [0] _ rfl ?_
        exact t_X13_laysTaker_157 hK M hs hQ
      · have hs := ifSf hs c13; have hQ := ifQf hQ c13
        refine g_aload_n 0 dX13_laysTaker_102 rfl ?_
        refine g_aload_n 0 dX13_laysTaker_103 rfl ?_
        refine g_iload_n 1 dX13_laysTaker_104 rfl ?_
        refine g_iload_n 2 dX13_laysTaker_105 rfl ?_
        refine g_iload 4 dX13_laysTaker_106 rfl ?_
        have h14 := hs.1; have hs := hs.2
        refine g_callV (As := [.int x1, .int x2, .int x4]) (st := [.ref (gla E 226)]) 226 (c_X13_countingAt E M x1 x2 x4 h14) mt_X13_countingAt ml_X13_266 dF_Md rfl rfl sg_X13_countingAt rfl (by decide) (Nat.le_of_ble_eq_true rfl) dX13_laysTaker_108 ?_
        rintro _ _ ⟨q1, q2⟩; rw [q1, q2]; clear q1 q2
        refine g_putI 226 fd_X13_277 dF_Md rfl dX13_laysTaker_111 (fun M15 hM15 => ?_)
        have hQ := bndQ hQ M15 hM15; have hs := bndS hs M15 hM15
        refine g_aload_n 0 dX13_laysTaker_114 rfl ?_
        refine g_aload_n 0 dX13_laysTaker_115 rfl ?_
        refine g_getI 226 fd_X13_277 dF_Md rfl dX13_laysTaker_116 ?_
        refine g_iload_n 2 dX13_laysTaker_119 rfl ?_
        refine g_aload_n 0 dX13_laysTaker_120 rfl ?_
        refine g_aload_n 0 dX13_laysTaker_121 rfl ?_
        refine g_getI 226 fd_X13_277 dF_Md rfl dX13_laysTaker_122 ?_
        refine g_bipush (v := 6) dX13_laysTaker_125 (by decide) ?_
        have h16 := hs.1; have hs := hs.2
        refine g_callV (As := [.int (rdI M15 81 0 0 0), .int 6]) (st := [.int x2, .int (rdI M15 81 0 0 0), .ref (gla E 226)]) 226 (c_X13_of E M15 (rdI M15 81 0 0 0) 6 h16) mt_X13_of ml_X13_218 dF_Md rfl rfl sg_X13_of rfl (by decide) (Nat.le_of_ble_eq_true rfl) dX13_laysTaker_127 ?_
        rintro _ _ ⟨q1, q2⟩; rw [q1, q2]; clear q1 q2
        refine g_iload_n 3 dX13_laysTaker_130 rfl ?_
        have h17 := hs.1; have hs := hs.2
        refine g_callV (As := [.int (rdI M15 81 0 0 0), .int x2, .int (f_X13_of M15 (rdI M15 81 0 0 0) 6), .int x3]) (st := []) 226 (c_X13_mayTake E M15 (rdI M15 81 0 0 0) x2 (f_X13_of M15 (rdI M15 81 0 0 0) 6) x3 h17) mt_X13_mayTake ml_X13_270 dF_Md rfl rfl sg_X13_mayTake rfl (by decide) (Nat.le_of_ble_eq_true rfl) dX13_laysTaker_131 ?_
        rintro _ _ ⟨q1, q2⟩; rw [q1, q2]; clear q1 q2
        refine g_if_eq 151 dX13_laysTaker_134 (by decide) (fun c18 => ?_) (fun c18 => ?_)
        · have hs := ifSt hs c18; have hQ := ifQt hQ c18
          refine g_iinc 4 (v := x4 + 1) _ dX13_laysTaker_151 rfl rfl (by decide) rfl ?_
          refine g_goto 80 dX13_laysTaker_154 (by decide) ?_
          refine g_sub [1, 2, 3, 4, 0] _ rfl ?_
          exact ih M15 (x4 + 1) hs hQ
        · have hs := ifSf hs c18; have hQ := ifQf hQ c18
          refine g_aload_n 0 dX13_laysTaker_137 rfl ?_
          refine g_aload_n 0 dX13_laysTaker_138 rfl ?_
          refine g_aload_n 0 dX13_laysTaker_139 rfl ?_
          refine g_getI 226 fd_X13_277 dF_Md rfl dX13_laysTaker_140 ?_
          refine g_bipush (v := 6) dX13_laysTaker_143 (by decide) ?_
          have h19 := hs.1; have hs := hs.2
          refine g_callV (As := [.int (rdI M15 81 0 0 0), .int 6]) (st := [.ref (gla E 226)]) 226 (c_X13_of E M15 (rdI M15 81 0 0 0) 6 h19) mt_X13_of ml_X13_218 dF_Md rfl rfl sg_X13_of rfl (by decide) (Nat.le_of_ble_eq_true rfl) dX13_laysTaker_145 ?_
          rintro _ _ ⟨q1, q2⟩; rw [q1, q2]; clear q1 q2
          refine g_putI 226 fd_X13_274 dF_Md rfl dX13_laysTaker_148 (fun M20 hM20 => ?_)
          have hQ := bndQ hQ M20 hM20; have hs := bndS hs M20 hM20
          refine g_iinc 4 (v := x4 + 1) _ dX13_laysTaker_151 rfl rfl (by decide) rfl ?_
          refine g_goto 80 dX13_laysTaker_154 (by decide) ?_
          refine g_sub [1, 2, 3, 4, 0] _ rfl ?_
          exact ih M20 (x4 + 1) hs hQ
def f_X13_laysTaker_21 (x1 : Int32) (x2 : Int32) (x3 : Int32)  : Nat → gM → Int32 → gM
  | 0, M, _ => M
  | n + 1, M, x4 =>
    if (rdI M 80 0 0 0) = (-2) then
      (if (f_X13_countingAt M x1 x2 x4) = (-2) then
        (f_X13_laysTaker_80 x1 x2 x3 FU M 0)
      else
        (bnd (wrI M 81 0 0 0 (f_X13_countingAt M x1 x2 x4)) fun M8 =>
        (bnd (wrI M8 80 0 0 0 (f_X13_takerBy M8 (rdI M8 81 0 0 0) x2 x3 (-2))) fun M10 =>
        (f_X13_laysTaker_21 x1 x2 x3 n M10 (x4 + 1)))))
    else
      (f_X13_laysTaker_80 x1 x2 x3 FU M 0)
def s_X13_laysTaker_21 (x1 : Int32) (x2 : Int32) (x3 : Int32)  : Nat → gM → Int32 → Prop
  | 0, _, _ => False
  | n + 1, M, x4 =>
    if (rdI M 80 0 0 0) = (-2) then
      ((s_X13_countingAt M x1 x2 x4) ∧
      (if (f_X13_countingAt M x1 x2 x4) = (-2) then
        (s_X13_laysTaker_80 x1 x2 x3 FU M 0)
      else
        ((s_X13_countingAt M x1 x2 x4) ∧
        (bndP (wrI M 81 0 0 0 (f_X13_countingAt M x1 x2 x4)) fun M8 =>
        ((s_X13_takerBy M8 (rdI M8 81 0 0 0) x2 x3 (-2)) ∧
        (bndP (wrI M8 80 0 0 0 (f_X13_takerBy M8 (rdI M8 81 0 0 0) x2 x3 (-2))) fun M10 =>
        (s_X13_laysTaker_21 x1 x2 x3 n M10 (x4 + 1))))))))
    else
      (s_X13_laysTaker_80 x1 x2 x3 FU M 0)
theorem o_X13_laysTaker_21 (x1 : Int32) (x2 : Int32) (x3 : Int32)  : ∀ (n : Nat) (M : gM) (x4 : Int32), offW [80, 81] M (f_X13_laysTaker_21 x1 x2 x3  n M x4) := by
  intro n
  induction n with
  | zero => intro M x4; exact offR
  | succ n ih =>
    intro M x4
    rw [f_X13_laysTaker_21]
    refine offI ?_ ?_
    · refine offI ?_ ?_
      · exact (o_X13_laysTaker_80 x1 x2 x3 FU M 0)
      · refine offB (offR.wI (by decide)) (fun M8 oM8 => ?_)
        refine offB (oM8.wI (by decide)) (fun M10 oM10 => ?_)
        exact oM10.tr (ih M10 (x4 + 1))
    · exact (o_X13_laysTaker_80 x1 x2 x3 FU M 0)
set_option maxRecDepth 100000 in
set_option maxHeartbeats 4000000 in
theorem t_X13_laysTaker_21 {E : gE} {K : gM → Prop} {Q : Option Value → gM → Prop} (hK : ∀ z : gM, K z → Q none z) (x1 : Int32) (x2 : Int32) (x3 : Int32)   : ∀ (n : Nat) (M : gM) (x4 : Int32) , s_X13_laysTaker_21 x1 x2 x3  n M x4 → K (f_X13_laysTaker_21 x1 x2 x3  n M x4) → gG E RX13 cX13_laysTaker 5 none (rm 8) 21 [(0, .ref (gla E 226)), (1, .int x1), (2, .int x2), (3, .int x3), (4, .int x4)] [] M Q := by
  intro n
  induction n with
  | zero => intro M x4 hs hQ; exact (hs : False).elim
  | succ n ih =>
    intro M x4 hs hQ
    rw [s_X13_laysTaker_21] at hs
    rw [f_X13_laysTaker_21] at hQ
    refine g_aload_n 0 dX13_laysTaker_21 rfl ?_
    refine g_getI 226 fd_X13_274 dF_Md rfl dX13_laysTaker_22 ?_
    refine g_bipush (v := (-2)) dX13_laysTaker_25 (by decide) ?_
    refine g_icmp_ne 77 dX13_laysTaker_27 (by decide) (fun c4 => ?_) (fun c4 => ?_)
    · have hs := ifSf hs c4; have hQ := ifQf hQ c4
      refine g_iconst (v := 0) dX13_laysTaker_77 (by decide) ?_
      refine g_istore _ dX13_laysTaker_78 (by decide) rfl ?_
      refine g_sub [1, 2, 3, 4, 0] _ rfl ?_
      exact t_X13_laysTaker_80 hK x1 x2 x3 FU M 0 hs hQ
    · have hs := ifSt hs c4; have hQ := ifQt hQ c4
      refine g_aload_n 0 dX13_laysTaker_30 rfl ?_
      refine g_iload_n 1 dX13_laysTaker_31 rfl ?_
      refine g_iload_n 2 dX13_laysTaker_32 rfl ?_
      refine g_iload 4 dX13_laysTaker_33 rfl ?_
      have h5 := hs.1; have hs := hs.2
      refine g_callV (As := [.int x1, .int x2, .int x4]) (st := []) 226 (c_X13_countingAt E M x1 x2 x4 h5) mt_X13_countingAt ml_X13_266 dF_Md rfl rfl sg_X13_countingAt rfl (by decide) (Nat.le_of_ble_eq_true rfl) dX13_laysTaker_35 ?_
      rintro _ _ ⟨q1, q2⟩; rw [q1, q2]; clear q1 q2
      refine g_bipush (v := (-2)) dX13_laysTaker_38 (by decide) ?_
      refine g_icmp_eq 77 dX13_laysTaker_40 (by decide) (fun c6 => ?_) (fun c6 => ?_)
      · have hs := ifSt hs c6; have hQ := ifQt hQ c6
        refine g_iconst (v := 0) dX13_laysTaker_77 (by decide) ?_
        refine g_istore _ dX13_laysTaker_78 (by decide) rfl ?_
        refine g_sub [1, 2, 3, 4, 0] _ rfl ?_
        exact t_X13_laysTaker_80 hK x1 x2 x3 FU M 0 hs hQ
      · have hs := ifSf hs c6; have hQ := ifQf hQ c6
        refine g_aload_n 0 dX13_laysTaker_43 rfl ?_
        refine g_aload_n 0 dX13_laysTaker_44 rfl ?_
        refine g_iload_n 1 dX13_laysTaker_45 rfl ?_
        refine g_iload_n 2 dX13_laysTaker_46 rfl ?_
        refine g_iload 4 dX13_laysTaker_47 rfl ?_
        have h7 := hs.1; have hs := hs.2
        refine g_callV (As := [.int x1, .int x2, .int x4]) (st := [.ref (gla E 226)]) 226 (c_X13_countingAt E M x1 x2 x4 h7) mt_X13_countingAt ml_X13_266 dF_Md rfl rfl sg_X13_countingAt rfl (by decide) (Nat.le_of_ble_eq_true rfl) dX13_laysTaker_49 ?_
        rintro _ _ ⟨q1, q2⟩; rw [q1, q2]; clear q1 q2
        refine g_putI 226 fd_X13_277 dF_Md rfl dX13_laysTaker_52 (fun M8 hM8 => ?_)
        have hQ := bndQ hQ M8 hM8; have hs := bndS hs M8 hM8
        refine g_aload_n 0 dX13_laysTaker_55 rfl ?_
        refine g_aload_n 0 dX13_laysTaker_56 rfl ?_
        refine g_aload_n 0 dX13_laysTaker_57 rfl ?_
        refine g_getI 226 fd_X13_277 dF_Md rfl dX13_laysTaker_58 ?_
        refine g_iload_n 2 dX13_laysTaker_61 rfl ?_
        refine g_iload_n 3 dX13_laysTaker_62 rfl ?_
        refine g_bipush (v := (-2)) dX13_laysTaker_63 (by decide) ?_
        have h9 := hs.1; have hs := hs.2
        refine g_callV (As := [.int (rdI M8 81 0 0 0), .int x2, .int x3, .int (-2)]) (st := [.ref (gla E 226)]) 226 (c_X13_takerBy E M8 (rdI M8 81 0 0 0) x2 x3 (-2) h9) mt_X13_takerBy ml_X13_280 dF_Md rfl rfl sg_X13_takerBy rfl (by decide) (Nat.le_of_ble_eq_true rfl) dX13_laysTaker_65 ?_
        rintro _ _ ⟨q1, q2⟩; rw [q1, q2]; clear q1 q2
        refine g_putI 226 fd_X13_274 dF_Md rfl dX13_laysTaker_68 (fun M10 hM10 => ?_)
        have hQ := bndQ hQ M10 hM10; have hs := bndS hs M10 hM10
        refine g_iinc 4 (v := x4 + 1) _ dX13_laysTaker_71 rfl rfl (by decide) rfl ?_
        refine g_goto 21 dX13_laysTaker_74 (by decide) ?_
        refine g_sub [1, 2, 3, 4, 0] _ rfl ?_
        exact ih M10 (x4 + 1) hs hQ
def f_X13_laysTaker (M : gM) (x1 : Int32) (x2 : Int32) : gM :=
  bnd (wrI M 80 0 0 0 (-2)) fun M1 =>
  (bnd (wrI M1 81 0 0 0 (-2)) fun M2 =>
  (f_X13_laysTaker_21 x1 x2 (f_X13_diesOn M2 x1) FU M2 0))
def s_X13_laysTaker (M : gM) (x1 : Int32) (x2 : Int32) : Prop :=
  bndP (wrI M 80 0 0 0 (-2)) fun M1 =>
  (bndP (wrI M1 81 0 0 0 (-2)) fun M2 =>
  ((s_X13_diesOn M2 x1) ∧
  (s_X13_laysTaker_21 x1 x2 (f_X13_diesOn M2 x1) FU M2 0)))
theorem o_X13_laysTaker (M : gM) (x1 : Int32) (x2 : Int32) : offW [80, 81] M (f_X13_laysTaker M x1 x2) := by
  rw [f_X13_laysTaker]
  refine offB (offR.wI (by decide)) (fun M1 oM1 => ?_)
  refine offB (oM1.wI (by decide)) (fun M2 oM2 => ?_)
  exact oM2.tr (o_X13_laysTaker_21 x1 x2 (f_X13_diesOn M2 x1) FU M2 0)
set_option maxRecDepth 100000 in
set_option maxHeartbeats 4000000 in
theorem t_X13_laysTaker {E : gE} {K : gM → Prop} {Q : Option Value → gM → Prop} (hK : ∀ z : gM, K z → Q none z) (M : gM) (x1 : Int32) (x2 : Int32)  (hs : s_X13_laysTaker M x1 x2) (hQ : K (f_X13_laysTaker M x1 x2)) : gG E RX13 cX13_laysTaker 5 none (rm 8) 0 [(0, .ref (gla E 226)), (1, .int x1), (2, .int x2)] [] M Q := by
  rw [s_X13_laysTaker] at hs
  rw [f_X13_laysTaker] at hQ
  refine g_aload_n 0 dX13_laysTaker_0 rfl ?_
  refine g_bipush (v := (-2)) dX13_laysTaker_1 (by decide) ?_
  refine g_putI 226 fd_X13_274 dF_Md rfl dX13_laysTaker_3 (fun M1 hM1 => ?_)
  have hQ := bndQ hQ M1 hM1; have hs := bndS hs M1 hM1
  refine g_aload_n 0 dX13_laysTaker_6 rfl ?_
  refine g_bipush (v := (-2)) dX13_laysTaker_7 (by decide) ?_
  refine g_putI 226 fd_X13_277 dF_Md rfl dX13_laysTaker_9 (fun M2 hM2 => ?_)
  have hQ := bndQ hQ M2 hM2; have hs := bndS hs M2 hM2
  refine g_aload_n 0 dX13_laysTaker_12 rfl ?_
  refine g_iload_n 1 dX13_laysTaker_13 rfl ?_
  have h3 := hs.1; have hs := hs.2
  refine g_callV (As := [.int x1]) (st := []) 226 (c_X13_diesOn E M2 x1 h3) mt_X13_diesOn ml_X13_203 dF_Md rfl rfl sg_X13_diesOn rfl (by decide) (Nat.le_of_ble_eq_true rfl) dX13_laysTaker_14 ?_
  rintro _ _ ⟨q1, q2⟩; rw [q1, q2]; clear q1 q2
  refine g_istore_n _ dX13_laysTaker_17 (by decide) rfl ?_
  refine g_iconst (v := 0) dX13_laysTaker_18 (by decide) ?_
  refine g_istore _ dX13_laysTaker_19 (by decide) rfl ?_
  refine g_sub [2, 3, 4, 1, 0] _ rfl ?_
  exact t_X13_laysTaker_21 hK x1 x2 (f_X13_diesOn M2 x1) FU M2 0 hs hQ
theorem c_X13_laysTaker (E : gE) (M : gM) (x1 : Int32) (x2 : Int32) (hs : s_X13_laysTaker M x1 x2) : gC E yX13_laysTaker cX13_laysTaker 5 none (rm 8) [.ref (gla E 226), .int x1, .int x2] M (fun o N => o = none ∧ N = f_X13_laysTaker M x1 x2) :=
  gC.of (by decide +kernel) (Nat.le_of_ble_eq_true rfl) rfl (t_X13_laysTaker (K := fun z => z = f_X13_laysTaker M x1 x2) (fun z hz => ⟨rfl, hz⟩) M x1 x2 hs rfl)
def f_X13_readLand_153 (M : gM) (x2 : Int32) (x3 : Int32) (k61 : gM → gM) : gM :=
  bnd (wrI M 89 0 0 (nn (x2 + x3)) 1) fun M34 =>
  (bnd (f_X13_goOn M34) fun M36 =>
  (k61 M36))
def s_X13_readLand_153 (M : gM) (x2 : Int32) (x3 : Int32) (q61 : gM → Prop) : Prop :=
  (vp_in (x2 + x3) 502) ∧
  (bndP (wrI M 89 0 0 (nn (x2 + x3)) 1) fun M34 =>
  ((s_X13_goOn M34) ∧
  (bndP (f_X13_goOn M34) fun M36 =>
  (q61 M36))))
theorem o_X13_readLand_153 (M : gM) (x2 : Int32) (x3 : Int32) (k61 : gM → gM) (ho61 : ∀ (M : gM), offW [71, 72, 73, 74, 75, 76, 77, 89, 96] M (k61 M)) : offW [71, 72, 73, 74, 75, 76, 77, 89, 96] M (f_X13_readLand_153 M x2 x3 k61) := by
  rw [f_X13_readLand_153]
  refine offB (offR.wI (by decide)) (fun M34 oM34 => ?_)
  refine offB (oM34.tr ((o_X13_goOn M34).mono (by decide))) (fun M36 oM36 => ?_)
  exact oM36.tr (ho61 M36)
set_option maxRecDepth 100000 in
set_option maxHeartbeats 4000000 in
theorem t_X13_readLand_153 {E : gE} {K : gM → Prop} {Q : Option Value → gM → Prop} (hK : ∀ z : gM, K z → Q none z) (M : gM) (x2 : Int32) (x3 : Int32)  (k61 : gM → gM) (q61 : gM → Prop) (hk61 : ∀ (M : gM) , q61 M → K (k61 M) → gG E RX13 cX13_readLand 4 none (rm 9) 61 [(0, .ref (gla E 226)), (2, .int x2)] [] M Q) (hs : s_X13_readLand_153 M x2 x3 q61) (hQ : K (f_X13_readLand_153 M x2 x3 k61)) : gG E RX13 cX13_readLand 4 none (rm 9) 153 [(0, .ref (gla E 226)), (2, .int x2), (3, .int x3)] [] M Q := by
  rw [s_X13_readLand_153] at hs
  rw [f_X13_readLand_153] at hQ
  refine g_aload_n 0 dX13_readLand_153 rfl ?_
  refine g_getR 226 229 fd_X13_16 dF_Md rfl rfl dX13_readLand_154 ?_
  refine g_iload_n 1 dX13_readLand_157 rfl ?_
  refine g_iload_n 2 dX13_readLand_158 rfl ?_
  refine g_iadd dX13_readLand_159 ?_
  refine g_iconst (v := 1) dX13_readLand_160 (by decide) ?_
  have h33 := hs.1; have hs := hs.2
  refine g_iast 229 dF_Md_fresh h33 dX13_readLand_161 (fun M34 hM34 => ?_)
  have hQ := bndQ hQ M34 hM34; have hs := bndS hs M34 hM34
  refine g_aload_n 0 dX13_readLand_162 rfl ?_
  have h35 := hs.1; have hs := hs.2
  refine g_callV (As := []) (st := []) 226 (c_X13_goOn E M34 h35) mt_X13_goOn ml_X13_128 dF_Md rfl rfl sg_X13_goOn rfl (by decide) (Nat.le_of_ble_eq_true rfl) dX13_readLand_163 ?_
  rintro _ M36 ⟨rfl, hM36⟩
  have hQ := bndQ hQ M36 hM36; have hs := bndS hs M36 hM36
  refine g_goto 61 dX13_readLand_166 (by decide) ?_
  refine g_sub [0, 1] _ rfl ?_
  exact hk61 M36 hs hQ
def f_X13_readLand_135 (M : gM) (x2 : Int32) (y0 : Int32) (k61 : gM → gM) : gM :=
  if (rdI M 89 0 0 (nn (x2 + y0))) = 1 then
    (bnd (f_X13_wrong M 3) fun M32 =>
    (f_X13_readLand_153 M32 x2 y0 k61))
  else
    (f_X13_readLand_153 M x2 y0 k61)
def s_X13_readLand_135 (M : gM) (x2 : Int32) (y0 : Int32) (q61 : gM → Prop) : Prop :=
  (vp_in (x2 + y0) 502) ∧
  (if (rdI M 89 0 0 (nn (x2 + y0))) = 1 then
    ((s_X13_wrong M 3) ∧
    (bndP (f_X13_wrong M 3) fun M32 =>
    (s_X13_readLand_153 M32 x2 y0 q61)))
  else
    (s_X13_readLand_153 M x2 y0 q61))
theorem o_X13_readLand_135 (M : gM) (x2 : Int32) (y0 : Int32) (k61 : gM → gM) (ho61 : ∀ (M : gM), offW [71, 72, 73, 74, 75, 76, 77, 89, 96] M (k61 M)) : offW [71, 72, 73, 74, 75, 76, 77, 89, 96] M (f_X13_readLand_135 M x2 y0 k61) := by
  rw [f_X13_readLand_135]
  refine offI ?_ ?_
  · refine offB (offR.tr ((o_X13_wrong M 3).mono (by decide))) (fun M32 oM32 => ?_)
    exact oM32.tr (o_X13_readLand_153 M32 x2 y0 k61 ho61)
  · exact (o_X13_readLand_153 M x2 y0 k61 ho61)
set_option maxRecDepth 100000 in
set_option maxHeartbeats 4000000 in
theorem t_X13_readLand_135 {E : gE} {K : gM → Prop} {Q : Option Value → gM → Prop} (hK : ∀ z : gM, K z → Q none z) (M : gM) (x2 : Int32) (y0 : Int32)  (k61 : gM → gM) (q61 : gM → Prop) (hk61 : ∀ (M : gM) , q61 M → K (k61 M) → gG E RX13 cX13_readLand 4 none (rm 9) 61 [(0, .ref (gla E 226)), (2, .int x2)] [] M Q) (hs : s_X13_readLand_135 M x2 y0 q61) (hQ : K (f_X13_readLand_135 M x2 y0 k61)) : gG E RX13 cX13_readLand 4 none (rm 9) 135 [(0, .ref (gla E 226)), (2, .int x2)] [.int y0] M Q := by
  rw [s_X13_readLand_135] at hs
  rw [f_X13_readLand_135] at hQ
  refine g_istore_n _ dX13_readLand_135 (by decide) rfl ?_
  refine g_aload_n 1 dX13_readLand_136 rfl ?_
  refine g_getR 226 229 fd_X13_16 dF_Md rfl rfl dX13_readLand_137 ?_
  refine g_iload_n 2 dX13_readLand_140 rfl ?_
  refine g_iload_n 0 dX13_readLand_141 rfl ?_
  refine g_iadd dX13_readLand_142 ?_
  have h29 := hs.1; have hs := hs.2
  refine g_iald 229 dF_Md_fresh h29 dX13_readLand_143 ?_
  refine g_iconst (v := 1) dX13_readLand_144 (by decide) ?_
  refine g_icmp_ne 153 dX13_readLand_145 (by decide) (fun c30 => ?_) (fun c30 => ?_)
  · have hs := ifSf hs c30; have hQ := ifQf hQ c30
    refine g_sub [1, 2, 0] _ rfl ?_
    exact t_X13_readLand_153 hK M x2 y0 k61 q61 hk61 hs hQ
  · have hs := ifSt hs c30; have hQ := ifQt hQ c30
    refine g_aload_n 1 dX13_readLand_148 rfl ?_
    refine g_iconst (v := 3) dX13_readLand_149 (by decide) ?_
    have h31 := hs.1; have hs := hs.2
    refine g_callV (As := [.int 3]) (st := []) 226 (c_X13_wrong E M 3 h31) mt_X13_wrong ml_X13_120 dF_Md rfl rfl sg_X13_wrong rfl (by decide) (Nat.le_of_ble_eq_true rfl) dX13_readLand_150 ?_
    rintro _ M32 ⟨rfl, hM32⟩
    have hQ := bndQ hQ M32 hM32; have hs := bndS hs M32 hM32
    refine g_sub [1, 2, 0] _ rfl ?_
    exact t_X13_readLand_153 hK M32 x2 y0 k61 q61 hk61 hs hQ
def f_X13_readLand_96 (M : gM) (x2 : Int32) (k61 : gM → gM) : gM :=
  if (rdI M 74 0 0 0) = 8 then
    (f_X13_readLand_135 M x2 1 k61)
  else
    (if (rdI M 74 0 0 0) = 3 then
      (f_X13_readLand_135 M x2 2 k61)
    else
      (if (rdI M 74 0 0 0) = 9 then
        (f_X13_readLand_135 M x2 3 k61)
      else
        (f_X13_readLand_135 M x2 4 k61)))
def s_X13_readLand_96 (M : gM) (x2 : Int32) (q61 : gM → Prop) : Prop :=
  if (rdI M 74 0 0 0) = 8 then
    (s_X13_readLand_135 M x2 1 q61)
  else
    (if (rdI M 74 0 0 0) = 3 then
      (s_X13_readLand_135 M x2 2 q61)
    else
      (if (rdI M 74 0 0 0) = 9 then
        (s_X13_readLand_135 M x2 3 q61)
      else
        (s_X13_readLand_135 M x2 4 q61)))
theorem o_X13_readLand_96 (M : gM) (x2 : Int32) (k61 : gM → gM) (ho61 : ∀ (M : gM), offW [71, 72, 73, 74, 75, 76, 77, 89, 96] M (k61 M)) : offW [71, 72, 73, 74, 75, 76, 77, 89, 96] M (f_X13_readLand_96 M x2 k61) := by
  rw [f_X13_readLand_96]
  refine offI ?_ ?_
  · exact (o_X13_readLand_135 M x2 1 k61 ho61)
  · refine offI ?_ ?_
    · exact (o_X13_readLand_135 M x2 2 k61 ho61)
    · refine offI ?_ ?_
      · exact (o_X13_readLand_135 M x2 3 k61 ho61)
      · exact (o_X13_readLand_135 M x2 4 k61 ho61)
set_option maxRecDepth 100000 in
set_option maxHeartbeats 4000000 in
theorem t_X13_readLand_96 {E : gE} {K : gM → Prop} {Q : Option Value → gM → Prop} (hK : ∀ z : gM, K z → Q none z) (M : gM) (x2 : Int32)  (k61 : gM → gM) (q61 : gM → Prop) (hk61 : ∀ (M : gM) , q61 M → K (k61 M) → gG E RX13 cX13_readLand 4 none (rm 9) 61 [(0, .ref (gla E 226)), (2, .int x2)] [] M Q) (hs : s_X13_readLand_96 M x2 q61) (hQ : K (f_X13_readLand_96 M x2 k61)) : gG E RX13 cX13_readLand 4 none (rm 9) 96 [(0, .ref (gla E 226)), (2, .int x2)] [] M Q := by
  rw [s_X13_readLand_96] at hs
  rw [f_X13_readLand_96] at hQ
  refine g_aload_n 0 dX13_readLand_96 rfl ?_
  refine g_getI 226 fd_X13_93 dF_Md rfl dX13_readLand_97 ?_
  refine g_bipush (v := 8) dX13_readLand_100 (by decide) ?_
  refine g_icmp_ne 109 dX13_readLand_102 (by decide) (fun c26 => ?_) (fun c26 => ?_)
  · have hs := ifSf hs c26; have hQ := ifQf hQ c26
    refine g_aload_n 0 dX13_readLand_109 rfl ?_
    refine g_getI 226 fd_X13_93 dF_Md rfl dX13_readLand_110 ?_
    refine g_iconst (v := 3) dX13_readLand_113 (by decide) ?_
    refine g_icmp_ne 121 dX13_readLand_114 (by decide) (fun c27 => ?_) (fun c27 => ?_)
    · have hs := ifSf hs c27; have hQ := ifQf hQ c27
      refine g_aload_n 0 dX13_readLand_121 rfl ?_
      refine g_getI 226 fd_X13_93 dF_Md rfl dX13_readLand_122 ?_
      refine g_bipush (v := 9) dX13_readLand_125 (by decide) ?_
      refine g_icmp_ne 134 dX13_readLand_127 (by decide) (fun c28 => ?_) (fun c28 => ?_)
      · have hs := ifSf hs c28; have hQ := ifQf hQ c28
        refine g_iconst (v := 4) dX13_readLand_134 (by decide) ?_
        exact t_X13_readLand_135 hK M x2 4 k61 q61 hk61 hs hQ
      · have hs := ifSt hs c28; have hQ := ifQt hQ c28
        refine g_iconst (v := 3) dX13_readLand_130 (by decide) ?_
        refine g_goto 135 dX13_readLand_131 (by decide) ?_
        exact t_X13_readLand_135 hK M x2 3 k61 q61 hk61 hs hQ
    · have hs := ifSt hs c27; have hQ := ifQt hQ c27
      refine g_iconst (v := 2) dX13_readLand_117 (by decide) ?_
      refine g_goto 135 dX13_readLand_118 (by decide) ?_
      exact t_X13_readLand_135 hK M x2 2 k61 q61 hk61 hs hQ
  · have hs := ifSt hs c26; have hQ := ifQt hQ c26
    refine g_iconst (v := 1) dX13_readLand_105 (by decide) ?_
    refine g_goto 135 dX13_readLand_106 (by decide) ?_
    exact t_X13_readLand_135 hK M x2 1 k61 q61 hk61 hs hQ
def f_X13_readLand_61 (x2 : Int32)  : Nat → gM → gM
  | 0, M => M
  | n + 1, M =>
    if (f_X13_isWord M 8) = 0 then
      (if (f_X13_isWord M 3) = 0 then
        (if (f_X13_isWord M 9) = 0 then
          (if (f_X13_isWord M 10) = 0 then
            (M)
          else
            (f_X13_readLand_96 M x2 (f_X13_readLand_61 x2 n)))
        else
          (f_X13_readLand_96 M x2 (f_X13_readLand_61 x2 n)))
      else
        (f_X13_readLand_96 M x2 (f_X13_readLand_61 x2 n)))
    else
      (f_X13_readLand_96 M x2 (f_X13_readLand_61 x2 n))
def s_X13_readLand_61 (x2 : Int32)  : Nat → gM → Prop
  | 0, _ => False
  | n + 1, M =>
    (s_X13_isWord M 8) ∧
    (if (f_X13_isWord M 8) = 0 then
      ((s_X13_isWord M 3) ∧
      (if (f_X13_isWord M 3) = 0 then
        ((s_X13_isWord M 9) ∧
        (if (f_X13_isWord M 9) = 0 then
          ((s_X13_isWord M 10) ∧
          (if (f_X13_isWord M 10) = 0 then
            (True)
          else
            (s_X13_readLand_96 M x2 (s_X13_readLand_61 x2 n))))
        else
          (s_X13_readLand_96 M x2 (s_X13_readLand_61 x2 n))))
      else
        (s_X13_readLand_96 M x2 (s_X13_readLand_61 x2 n))))
    else
      (s_X13_readLand_96 M x2 (s_X13_readLand_61 x2 n)))
theorem o_X13_readLand_61 (x2 : Int32)  : ∀ (n : Nat) (M : gM), offW [71, 72, 73, 74, 75, 76, 77, 89, 96] M (f_X13_readLand_61 x2  n M) := by
  intro n
  induction n with
  | zero => intro M; exact offR
  | succ n ih =>
    intro M
    rw [f_X13_readLand_61]
    refine offI ?_ ?_
    · refine offI ?_ ?_
      · refine offI ?_ ?_
        · refine offI ?_ ?_
          · exact offR
          · exact (o_X13_readLand_96 M x2 (f_X13_readLand_61 x2 n) ih)
        · exact (o_X13_readLand_96 M x2 (f_X13_readLand_61 x2 n) ih)
      · exact (o_X13_readLand_96 M x2 (f_X13_readLand_61 x2 n) ih)
    · exact (o_X13_readLand_96 M x2 (f_X13_readLand_61 x2 n) ih)
set_option maxRecDepth 100000 in
set_option maxHeartbeats 4000000 in
theorem t_X13_readLand_61 {E : gE} {K : gM → Prop} {Q : Option Value → gM → Prop} (hK : ∀ z : gM, K z → Q none z) (x2 : Int32)   : ∀ (n : Nat) (M : gM) , s_X13_readLand_61 x2  n M → K (f_X13_readLand_61 x2  n M) → gG E RX13 cX13_readLand 4 none (rm 9) 61 [(0, .ref (gla E 226)), (2, .int x2)] [] M Q := by
  intro n
  induction n with
  | zero => intro M hs hQ; exact (hs : False).elim
  | succ n ih =>
    intro M hs hQ
    rw [s_X13_readLand_61] at hs
    rw [f_X13_readLand_61] at hQ
    refine g_aload_n 0 dX13_readLand_61 rfl ?_
    refine g_bipush (v := 8) dX13_readLand_62 (by decide) ?_
    have h18 := hs.1; have hs := hs.2
    refine g_callV (As := [.int 8]) (st := []) 226 (c_X13_isWord E M 8 h18) mt_X13_isWord ml_X13_145 dF_Md rfl rfl sg_X13_isWord rfl (by decide) (Nat.le_of_ble_eq_true rfl) dX13_readLand_64 ?_
    rintro _ _ ⟨q1, q2⟩; rw [q1, q2]; clear q1 q2
    refine g_if_ne 96 dX13_readLand_67 (by decide) (fun c19 => ?_) (fun c19 => ?_)
    · have hs := ifSf hs c19; have hQ := ifQf hQ c19
      exact t_X13_readLand_96 hK M x2 (f_X13_readLand_61 x2 n) (s_X13_readLand_61 x2 n) ih hs hQ
    · have hs := ifSt hs c19; have hQ := ifQt hQ c19
      refine g_aload_n 0 dX13_readLand_70 rfl ?_
      refine g_iconst (v := 3) dX13_readLand_71 (by decide) ?_
      have h20 := hs.1; have hs := hs.2
      refine g_callV (As := [.int 3]) (st := []) 226 (c_X13_isWord E M 3 h20) mt_X13_isWord ml_X13_145 dF_Md rfl rfl sg_X13_isWord rfl (by decide) (Nat.le_of_ble_eq_true rfl) dX13_readLand_72 ?_
      rintro _ _ ⟨q1, q2⟩; rw [q1, q2]; clear q1 q2
      refine g_if_ne 96 dX13_readLand_75 (by decide) (fun c21 => ?_) (fun c21 => ?_)
      · have hs := ifSf hs c21; have hQ := ifQf hQ c21
        exact t_X13_readLand_96 hK M x2 (f_X13_readLand_61 x2 n) (s_X13_readLand_61 x2 n) ih hs hQ
      · have hs := ifSt hs c21; have hQ := ifQt hQ c21
        refine g_aload_n 0 dX13_readLand_78 rfl ?_
        refine g_bipush (v := 9) dX13_readLand_79 (by decide) ?_
        have h22 := hs.1; have hs := hs.2
        refine g_callV (As := [.int 9]) (st := []) 226 (c_X13_isWord E M 9 h22) mt_X13_isWord ml_X13_145 dF_Md rfl rfl sg_X13_isWord rfl (by decide) (Nat.le_of_ble_eq_true rfl) dX13_readLand_81 ?_
        rintro _ _ ⟨q1, q2⟩; rw [q1, q2]; clear q1 q2
        refine g_if_ne 96 dX13_readLand_84 (by decide) (fun c23 => ?_) (fun c23 => ?_)
        · have hs := ifSf hs c23; have hQ := ifQf hQ c23
          exact t_X13_readLand_96 hK M x2 (f_X13_readLand_61 x2 n) (s_X13_readLand_61 x2 n) ih hs hQ
        · have hs := ifSt hs c23; have hQ := ifQt hQ c23
          refine g_aload_n 0 dX13_readLand_87 rfl ?_
          refine g_bipush (v := 10) dX13_readLand_88 (by decide) ?_
          have h24 := hs.1; have hs := hs.2
          refine g_callV (As := [.int 10]) (st := []) 226 (c_X13_isWord E M 10 h24) mt_X13_isWord ml_X13_145 dF_Md rfl rfl sg_X13_isWord rfl (by decide) (Nat.le_of_ble_eq_true rfl) dX13_readLand_90 ?_
          rintro _ _ ⟨q1, q2⟩; rw [q1, q2]; clear q1 q2
          refine g_if_eq 169 dX13_readLand_93 (by decide) (fun c25 => ?_) (fun c25 => ?_)
          · have hs := ifSt hs c25; have hQ := ifQt hQ c25
            exact g_vret rfl dX13_readLand_169 (hK _ hQ)
          · have hs := ifSf hs c25; have hQ := ifQf hQ c25
            exact t_X13_readLand_96 hK M x2 (f_X13_readLand_61 x2 n) (s_X13_readLand_61 x2 n) ih hs hQ
def f_X13_readLand_32 (M : gM) (x1 : Int32)  : gM :=
  bnd (f_X13_goOn M) fun M11 =>
  (bnd (wrI M11 96 0 0 (nn x1) (nZ 1)) fun M13 =>
  (bnd (f_X13_number M13 0 4) fun z15 =>
  (bnd (wrI z15.2 89 0 0 (nn (4 + (5 * x1))) z15.1) fun M17 =>
  (f_X13_readLand_61 (4 + (5 * x1)) FU M17))))
def s_X13_readLand_32 (M : gM) (x1 : Int32)  : Prop :=
  (s_X13_goOn M) ∧
  (bndP (f_X13_goOn M) fun M11 =>
  ((vp_in x1 2) ∧
  (bndP (wrI M11 96 0 0 (nn x1) (nZ 1)) fun M13 =>
  ((s_X13_number M13 0 4) ∧
  (bndP (f_X13_number M13 0 4) fun z15 =>
  ((vp_in (4 + (5 * x1)) 502) ∧
  (bndP (wrI z15.2 89 0 0 (nn (4 + (5 * x1))) z15.1) fun M17 =>
  (s_X13_readLand_61 (4 + (5 * x1)) FU M17))))))))
theorem o_X13_readLand_32 (M : gM) (x1 : Int32)  : offW [71, 72, 73, 74, 75, 76, 77, 89, 96] M (f_X13_readLand_32 M x1 ) := by
  rw [f_X13_readLand_32]
  refine offB (offR.tr ((o_X13_goOn M).mono (by decide))) (fun M11 oM11 => ?_)
  refine offB (oM11.wI (by decide)) (fun M13 oM13 => ?_)
  refine offZ (oM13.tr ((o_X13_number M13 0 4).mono (by decide))) (fun z15 oz15 => ?_)
  refine offB (oz15.wI (by decide)) (fun M17 oM17 => ?_)
  exact oM17.tr (o_X13_readLand_61 (4 + (5 * x1)) FU M17)
set_option maxRecDepth 100000 in
set_option maxHeartbeats 4000000 in
theorem t_X13_readLand_32 {E : gE} {K : gM → Prop} {Q : Option Value → gM → Prop} (hK : ∀ z : gM, K z → Q none z) (M : gM) (x1 : Int32)   (hs : s_X13_readLand_32 M x1 ) (hQ : K (f_X13_readLand_32 M x1 )) : gG E RX13 cX13_readLand 4 none (rm 9) 32 [(0, .ref (gla E 226)), (1, .int x1)] [] M Q := by
  rw [s_X13_readLand_32] at hs
  rw [f_X13_readLand_32] at hQ
  refine g_aload_n 0 dX13_readLand_32 rfl ?_
  have h10 := hs.1; have hs := hs.2
  refine g_callV (As := []) (st := []) 226 (c_X13_goOn E M h10) mt_X13_goOn ml_X13_128 dF_Md rfl rfl sg_X13_goOn rfl (by decide) (Nat.le_of_ble_eq_true rfl) dX13_readLand_33 ?_
  rintro _ M11 ⟨rfl, hM11⟩
  have hQ := bndQ hQ M11 hM11; have hs := bndS hs M11 hM11
  refine g_aload_n 0 dX13_readLand_36 rfl ?_
  refine g_getR 226 236 fd_X13_41 dF_Md rfl rfl dX13_readLand_37 ?_
  refine g_iload_n 1 dX13_readLand_40 rfl ?_
  refine g_iconst (v := 1) dX13_readLand_41 (by decide) ?_
  have h12 := hs.1; have hs := hs.2
  refine g_zast 236 dF_Md_hasLand h12 dX13_readLand_42 (fun M13 hM13 => ?_)
  have hQ := bndQ hQ M13 hM13; have hs := bndS hs M13 hM13
  refine g_iconst (v := 4) dX13_readLand_43 (by decide) ?_
  refine g_iconst (v := 5) dX13_readLand_44 (by decide) ?_
  refine g_iload_n 1 dX13_readLand_45 rfl ?_
  refine g_imul dX13_readLand_46 ?_
  refine g_iadd dX13_readLand_47 ?_
  refine g_istore_n _ dX13_readLand_48 (by decide) rfl ?_
  refine g_aload_n 1 dX13_readLand_49 rfl ?_
  refine g_getR 226 229 fd_X13_16 dF_Md rfl rfl dX13_readLand_50 ?_
  refine g_iload_n 0 dX13_readLand_53 rfl ?_
  refine g_aload_n 1 dX13_readLand_54 rfl ?_
  refine g_iconst (v := 0) dX13_readLand_55 (by decide) ?_
  refine g_iconst (v := 4) dX13_readLand_56 (by decide) ?_
  have h14 := hs.1; have hs := hs.2
  refine g_callV (As := [.int 0, .int 4]) (st := [.int (4 + (5 * x1)), .ref (gla E 229)]) 226 (c_X13_number E M13 0 4 h14) mt_X13_number ml_X13_142 dF_Md rfl rfl sg_X13_number rfl (by decide) (Nat.le_of_ble_eq_true rfl) dX13_readLand_57 ?_
  rintro _ _ ⟨rfl, rfl⟩
  obtain ⟨z15, hz15⟩ : ∃ z, z = f_X13_number M13 0 4 := ⟨_, rfl⟩
  rw [← hz15]
  have hQ := bndQ hQ z15 hz15; have hs := bndS hs z15 hz15
  have h16 := hs.1; have hs := hs.2
  refine g_iast 229 dF_Md_fresh h16 dX13_readLand_60 (fun M17 hM17 => ?_)
  have hQ := bndQ hQ M17 hM17; have hs := bndS hs M17 hM17
  refine g_sub [1, 0] _ rfl ?_
  exact t_X13_readLand_61 hK (4 + (5 * x1)) FU M17 hs hQ
def f_X13_readLand (M : gM) : gM :=
  bnd (f_X13_goOn M) fun M2 =>
  (bnd (f_X13_numberHere M2 0 1) fun z4 =>
  (if (rdI z4.2 76 0 0 0) = 0 then
    (if (rdI z4.2 96 0 0 (nn z4.1)) = 0 then
      (f_X13_readLand_32 z4.2 z4.1)
    else
      (bnd (f_X13_wrong z4.2 3) fun M9 =>
      (f_X13_readLand_32 M9 z4.1)))
  else
    (f_X13_readLand_32 z4.2 z4.1)))
def s_X13_readLand (M : gM) : Prop :=
  (s_X13_goOn M) ∧
  (bndP (f_X13_goOn M) fun M2 =>
  ((s_X13_numberHere M2 0 1) ∧
  (bndP (f_X13_numberHere M2 0 1) fun z4 =>
  (if (rdI z4.2 76 0 0 0) = 0 then
    ((vp_in z4.1 2) ∧
    (if (rdI z4.2 96 0 0 (nn z4.1)) = 0 then
      (s_X13_readLand_32 z4.2 z4.1)
    else
      ((s_X13_wrong z4.2 3) ∧
      (bndP (f_X13_wrong z4.2 3) fun M9 =>
      (s_X13_readLand_32 M9 z4.1)))))
  else
    (s_X13_readLand_32 z4.2 z4.1)))))
theorem o_X13_readLand (M : gM) : offW [71, 72, 73, 74, 75, 76, 77, 89, 96] M (f_X13_readLand M) := by
  rw [f_X13_readLand]
  refine offB (offR.tr ((o_X13_goOn M).mono (by decide))) (fun M2 oM2 => ?_)
  refine offZ (oM2.tr ((o_X13_numberHere M2 0 1).mono (by decide))) (fun z4 oz4 => ?_)
  refine offI ?_ ?_
  · refine offI ?_ ?_
    · exact oz4.tr (o_X13_readLand_32 z4.2 z4.1)
    · refine offB (oz4.tr ((o_X13_wrong z4.2 3).mono (by decide))) (fun M9 oM9 => ?_)
      exact oM9.tr (o_X13_readLand_32 M9 z4.1)
  · exact oz4.tr (o_X13_readLand_32 z4.2 z4.1)
set_option maxRecDepth 100000 in
set_option maxHeartbeats 4000000 in
theorem t_X13_readLand {E : gE} {K : gM → Prop} {Q : Option Value → gM → Prop} (hK : ∀ z : gM, K z → Q none z) (M : gM)  (hs : s_X13_readLand M) (hQ : K (f_X13_readLand M)) : gG E RX13 cX13_readLand 4 none (rm 9) 0 [(0, .ref (gla E 226))] [] M Q := by
  rw [s_X13_readLand] at hs
  rw [f_X13_readLand] at hQ
  refine g_aload_n 0 dX13_readLand_0 rfl ?_
  have h1 := hs.1; have hs := hs.2
  refine g_callV (As := []) (st := []) 226 (c_X13_goOn E M h1) mt_X13_goOn ml_X13_128 dF_Md rfl rfl sg_X13_goOn rfl (by decide) (Nat.le_of_ble_eq_true rfl) dX13_readLand_1 ?_
  rintro _ M2 ⟨rfl, hM2⟩
  have hQ := bndQ hQ M2 hM2; have hs := bndS hs M2 hM2
  refine g_aload_n 0 dX13_readLand_4 rfl ?_
  refine g_iconst (v := 0) dX13_readLand_5 (by decide) ?_
  refine g_iconst (v := 1) dX13_readLand_6 (by decide) ?_
  have h3 := hs.1; have hs := hs.2
  refine g_callV (As := [.int 0, .int 1]) (st := []) 226 (c_X13_numberHere E M2 0 1 h3) mt_X13_numberHere ml_X13_124 dF_Md rfl rfl sg_X13_numberHere rfl (by decide) (Nat.le_of_ble_eq_true rfl) dX13_readLand_7 ?_
  rintro _ _ ⟨rfl, rfl⟩
  obtain ⟨z4, hz4⟩ : ∃ z, z = f_X13_numberHere M2 0 1 := ⟨_, rfl⟩
  rw [← hz4]
  have hQ := bndQ hQ z4 hz4; have hs := bndS hs z4 hz4
  refine g_istore_n _ dX13_readLand_10 (by decide) rfl ?_
  refine g_aload_n 1 dX13_readLand_11 rfl ?_
  refine g_getI 226 fd_X13_111 dF_Md rfl dX13_readLand_12 ?_
  refine g_if_ne 32 dX13_readLand_15 (by decide) (fun c5 => ?_) (fun c5 => ?_)
  · have hs := ifSf hs c5; have hQ := ifQf hQ c5
    refine g_sub [1, 0] _ rfl ?_
    exact t_X13_readLand_32 hK z4.2 z4.1 hs hQ
  · have hs := ifSt hs c5; have hQ := ifQt hQ c5
    refine g_aload_n 1 dX13_readLand_18 rfl ?_
    refine g_getR 226 236 fd_X13_41 dF_Md rfl rfl dX13_readLand_19 ?_
    refine g_iload_n 0 dX13_readLand_22 rfl ?_
    have h6 := hs.1; have hs := hs.2
    refine g_zald 236 dF_Md_hasLand h6 dX13_readLand_23 ?_
    refine g_if_eq 32 dX13_readLand_24 (by decide) (fun c7 => ?_) (fun c7 => ?_)
    · have hs := ifSt hs c7; have hQ := ifQt hQ c7
      refine g_sub [1, 0] _ rfl ?_
      exact t_X13_readLand_32 hK z4.2 z4.1 hs hQ
    · have hs := ifSf hs c7; have hQ := ifQf hQ c7
      refine g_aload_n 1 dX13_readLand_27 rfl ?_
      refine g_iconst (v := 3) dX13_readLand_28 (by decide) ?_
      have h8 := hs.1; have hs := hs.2
      refine g_callV (As := [.int 3]) (st := []) 226 (c_X13_wrong E z4.2 3 h8) mt_X13_wrong ml_X13_120 dF_Md rfl rfl sg_X13_wrong rfl (by decide) (Nat.le_of_ble_eq_true rfl) dX13_readLand_29 ?_
      rintro _ M9 ⟨rfl, hM9⟩
      have hQ := bndQ hQ M9 hM9; have hs := bndS hs M9 hM9
      refine g_sub [1, 0] _ rfl ?_
      exact t_X13_readLand_32 hK M9 z4.1 hs hQ
theorem c_X13_readLand (E : gE) (M : gM)  (hs : s_X13_readLand M) : gC E yX13_readLand cX13_readLand 4 none (rm 9) [.ref (gla E 226)] M (fun o N => o = none ∧ N = f_X13_readLand M) :=
  gC.of (by decide +kernel) (Nat.le_of_ble_eq_true rfl) rfl (t_X13_readLand (K := fun z => z = f_X13_readLand M) (fun z hz => ⟨rfl, hz⟩) M hs rfl)
def f_X13_readPerson_16 (M : gM)  : gM :=
  bnd (f_X13_goOn M) fun M6 =>
  (bnd (f_X13_newName M6 0) fun M8 =>
  (bnd (f_X13_number M8 0 1) fun z10 =>
  (if (rdI z10.2 76 0 0 0) = 0 then
    (bnd (wrI z10.2 89 0 0 (nn (14 + (rdI z10.2 89 0 0 (nn 0)))) z10.1) fun M14 =>
    (bnd (wrI M14 89 0 0 (nn 0) ((rdI M14 89 0 0 (nn 0)) + 1)) fun M17 =>
    (M17)))
  else
    (z10.2))))
def s_X13_readPerson_16 (M : gM)  : Prop :=
  (s_X13_goOn M) ∧
  (bndP (f_X13_goOn M) fun M6 =>
  ((s_X13_newName M6 0) ∧
  (bndP (f_X13_newName M6 0) fun M8 =>
  ((s_X13_number M8 0 1) ∧
  (bndP (f_X13_number M8 0 1) fun z10 =>
  (if (rdI z10.2 76 0 0 0) = 0 then
    ((vp_in 0 502) ∧
    ((vp_in (14 + (rdI z10.2 89 0 0 (nn 0))) 502) ∧
    (bndP (wrI z10.2 89 0 0 (nn (14 + (rdI z10.2 89 0 0 (nn 0)))) z10.1) fun M14 =>
    ((vp_in 0 502) ∧
    ((vp_in 0 502) ∧
    (bndP (wrI M14 89 0 0 (nn 0) ((rdI M14 89 0 0 (nn 0)) + 1)) fun M17 =>
    (True)))))))
  else
    (True)))))))
theorem o_X13_readPerson_16 (M : gM)  : offW [71, 72, 73, 74, 75, 76, 77, 89, 95] M (f_X13_readPerson_16 M ) := by
  rw [f_X13_readPerson_16]
  refine offB (offR.tr ((o_X13_goOn M).mono (by decide))) (fun M6 oM6 => ?_)
  refine offB (oM6.tr ((o_X13_newName M6 0).mono (by decide))) (fun M8 oM8 => ?_)
  refine offZ (oM8.tr ((o_X13_number M8 0 1).mono (by decide))) (fun z10 oz10 => ?_)
  refine offI ?_ ?_
  · refine offB (oz10.wI (by decide)) (fun M14 oM14 => ?_)
    refine offB (oM14.wI (by decide)) (fun M17 oM17 => ?_)
    exact oM17
  · exact oz10
set_option maxRecDepth 100000 in
set_option maxHeartbeats 4000000 in
theorem t_X13_readPerson_16 {E : gE} {K : gM → Prop} {Q : Option Value → gM → Prop} (hK : ∀ z : gM, K z → Q none z) (M : gM)   (hs : s_X13_readPerson_16 M ) (hQ : K (f_X13_readPerson_16 M )) : gG E RX13 cX13_readPerson 2 none (rm 9) 16 [(0, .ref (gla E 226))] [] M Q := by
  rw [s_X13_readPerson_16] at hs
  rw [f_X13_readPerson_16] at hQ
  refine g_aload_n 0 dX13_readPerson_16 rfl ?_
  have h5 := hs.1; have hs := hs.2
  refine g_callV (As := []) (st := []) 226 (c_X13_goOn E M h5) mt_X13_goOn ml_X13_128 dF_Md rfl rfl sg_X13_goOn rfl (by decide) (Nat.le_of_ble_eq_true rfl) dX13_readPerson_17 ?_
  rintro _ M6 ⟨rfl, hM6⟩
  have hQ := bndQ hQ M6 hM6; have hs := bndS hs M6 hM6
  refine g_aload_n 0 dX13_readPerson_20 rfl ?_
  refine g_iconst (v := 0) dX13_readPerson_21 (by decide) ?_
  have h7 := hs.1; have hs := hs.2
  refine g_callV (As := [.int 0]) (st := []) 226 (c_X13_newName E M6 0 h7) mt_X13_newName ml_X13_148 dF_Md rfl rfl sg_X13_newName rfl (by decide) (Nat.le_of_ble_eq_true rfl) dX13_readPerson_22 ?_
  rintro _ M8 ⟨rfl, hM8⟩
  have hQ := bndQ hQ M8 hM8; have hs := bndS hs M8 hM8
  refine g_aload_n 0 dX13_readPerson_25 rfl ?_
  refine g_iconst (v := 0) dX13_readPerson_26 (by decide) ?_
  refine g_iconst (v := 1) dX13_readPerson_27 (by decide) ?_
  have h9 := hs.1; have hs := hs.2
  refine g_callV (As := [.int 0, .int 1]) (st := []) 226 (c_X13_number E M8 0 1 h9) mt_X13_number ml_X13_142 dF_Md rfl rfl sg_X13_number rfl (by decide) (Nat.le_of_ble_eq_true rfl) dX13_readPerson_28 ?_
  rintro _ _ ⟨rfl, rfl⟩
  obtain ⟨z10, hz10⟩ : ∃ z, z = f_X13_number M8 0 1 := ⟨_, rfl⟩
  rw [← hz10]
  have hQ := bndQ hQ z10 hz10; have hs := bndS hs z10 hz10
  refine g_istore_n _ dX13_readPerson_31 (by decide) rfl ?_
  refine g_aload_n 1 dX13_readPerson_32 rfl ?_
  refine g_getI 226 fd_X13_111 dF_Md rfl dX13_readPerson_33 ?_
  refine g_if_eq 40 dX13_readPerson_36 (by decide) (fun c11 => ?_) (fun c11 => ?_)
  · have hs := ifSt hs c11; have hQ := ifQt hQ c11
    refine g_aload_n 1 dX13_readPerson_40 rfl ?_
    refine g_getR 226 229 fd_X13_16 dF_Md rfl rfl dX13_readPerson_41 ?_
    refine g_bipush (v := 14) dX13_readPerson_44 (by decide) ?_
    refine g_aload_n 1 dX13_readPerson_46 rfl ?_
    refine g_getR 226 229 fd_X13_16 dF_Md rfl rfl dX13_readPerson_47 ?_
    refine g_iconst (v := 0) dX13_readPerson_50 (by decide) ?_
    have h12 := hs.1; have hs := hs.2
    refine g_iald 229 dF_Md_fresh h12 dX13_readPerson_51 ?_
    refine g_iadd dX13_readPerson_52 ?_
    refine g_iload_n 0 dX13_readPerson_53 rfl ?_
    have h13 := hs.1; have hs := hs.2
    refine g_iast 229 dF_Md_fresh h13 dX13_readPerson_54 (fun M14 hM14 => ?_)
    have hQ := bndQ hQ M14 hM14; have hs := bndS hs M14 hM14
    refine g_aload_n 1 dX13_readPerson_55 rfl ?_
    refine g_getR 226 229 fd_X13_16 dF_Md rfl rfl dX13_readPerson_56 ?_
    refine g_iconst (v := 0) dX13_readPerson_59 (by decide) ?_
    refine g_dup2 dX13_readPerson_60 rfl rfl ?_
    have h15 := hs.1; have hs := hs.2
    refine g_iald 229 dF_Md_fresh h15 dX13_readPerson_61 ?_
    refine g_iconst (v := 1) dX13_readPerson_62 (by decide) ?_
    refine g_iadd dX13_readPerson_63 ?_
    have h16 := hs.1; have hs := hs.2
    refine g_iast 229 dF_Md_fresh h16 dX13_readPerson_64 (fun M17 hM17 => ?_)
    have hQ := bndQ hQ M17 hM17; have hs := bndS hs M17 hM17
    exact g_vret rfl dX13_readPerson_65 (hK _ hQ)
  · have hs := ifSf hs c11; have hQ := ifQf hQ c11
    exact g_vret rfl dX13_readPerson_39 (hK _ hQ)
def f_X13_readPerson (M : gM) : gM :=
  if (rdI M 89 0 0 (nn 0)) = 10 then
    (bnd (f_X13_wrong M 2) fun M4 =>
    (f_X13_readPerson_16 M4))
  else
    (f_X13_readPerson_16 M)
def s_X13_readPerson (M : gM) : Prop :=
  (vp_in 0 502) ∧
  (if (rdI M 89 0 0 (nn 0)) = 10 then
    ((s_X13_wrong M 2) ∧
    (bndP (f_X13_wrong M 2) fun M4 =>
    (s_X13_readPerson_16 M4)))
  else
    (s_X13_readPerson_16 M))
theorem o_X13_readPerson (M : gM) : offW [71, 72, 73, 74, 75, 76, 77, 89, 95] M (f_X13_readPerson M) := by
  rw [f_X13_readPerson]
  refine offI ?_ ?_
  · refine offB (offR.tr ((o_X13_wrong M 2).mono (by decide))) (fun M4 oM4 => ?_)
    exact oM4.tr (o_X13_readPerson_16 M4)
  · exact (o_X13_readPerson_16 M)
set_option maxRecDepth 100000 in
set_option maxHeartbeats 4000000 in
theorem t_X13_readPerson {E : gE} {K : gM → Prop} {Q : Option Value → gM → Prop} (hK : ∀ z : gM, K z → Q none z) (M : gM)  (hs : s_X13_readPerson M) (hQ : K (f_X13_readPerson M)) : gG E RX13 cX13_readPerson 2 none (rm 9) 0 [(0, .ref (gla E 226))] [] M Q := by
  rw [s_X13_readPerson] at hs
  rw [f_X13_readPerson] at hQ
  refine g_aload_n 0 dX13_readPerson_0 rfl ?_
  refine g_getR 226 229 fd_X13_16 dF_Md rfl rfl dX13_readPerson_1 ?_
  refine g_iconst (v := 0) dX13_readPerson_4 (by decide) ?_
  have h1 := hs.1; have hs := hs.2
  refine g_iald 229 dF_Md_fresh h1 dX13_readPerson_5 ?_
  refine g_bipush (v := 10) dX13_readPerson_6 (by decide) ?_
  refine g_icmp_ne 16 dX13_readPerson_8 (by decide) (fun c2 => ?_) (fun c2 => ?_)
  · have hs := ifSf hs c2; have hQ := ifQf hQ c2
    exact t_X13_readPerson_16 hK M hs hQ
  · have hs := ifSt hs c2; have hQ := ifQt hQ c2
    refine g_aload_n 0 dX13_readPerson_11 rfl ?_
    refine g_iconst (v := 2) dX13_readPerson_12 (by decide) ?_
    have h3 := hs.1; have hs := hs.2
    refine g_callV (As := [.int 2]) (st := []) 226 (c_X13_wrong E M 2 h3) mt_X13_wrong ml_X13_120 dF_Md rfl rfl sg_X13_wrong rfl (by decide) (Nat.le_of_ble_eq_true rfl) dX13_readPerson_13 ?_
    rintro _ M4 ⟨rfl, hM4⟩
    have hQ := bndQ hQ M4 hM4; have hs := bndS hs M4 hM4
    exact t_X13_readPerson_16 hK M4 hs hQ
theorem c_X13_readPerson (E : gE) (M : gM)  (hs : s_X13_readPerson M) : gC E yX13_readPerson cX13_readPerson 2 none (rm 9) [.ref (gla E 226)] M (fun o N => o = none ∧ N = f_X13_readPerson M) :=
  gC.of (by decide +kernel) (Nat.le_of_ble_eq_true rfl) rfl (t_X13_readPerson (K := fun z => z = f_X13_readPerson M) (fun z hz => ⟨rfl, hz⟩) M hs rfl)
def f_X13_readChild_66 (M : gM) (x1 : Int32) (x2 : Int32)  : gM :=
  if (rdI M 76 0 0 0) = 0 then
    (bnd (wrI M 89 0 0 (nn (24 + x1)) ((rdI M 89 0 0 (nn (24 + x1))) ||| (1 <<< (x2 &&& 31)))) fun M19 =>
    (bnd (f_X13_goOn M19) fun M21 =>
    (M21)))
  else
    (bnd (f_X13_goOn M) fun M16 =>
    (M16))
def s_X13_readChild_66 (M : gM) (x1 : Int32) (x2 : Int32)  : Prop :=
  if (rdI M 76 0 0 0) = 0 then
    ((vp_in (24 + x1) 502) ∧
    ((vp_in (24 + x1) 502) ∧
    (bndP (wrI M 89 0 0 (nn (24 + x1)) ((rdI M 89 0 0 (nn (24 + x1))) ||| (1 <<< (x2 &&& 31)))) fun M19 =>
    ((s_X13_goOn M19) ∧
    (bndP (f_X13_goOn M19) fun M21 =>
    (True))))))
  else
    ((s_X13_goOn M) ∧
    (bndP (f_X13_goOn M) fun M16 =>
    (True)))
theorem o_X13_readChild_66 (M : gM) (x1 : Int32) (x2 : Int32)  : offW [71, 72, 73, 74, 75, 76, 77, 89] M (f_X13_readChild_66 M x1 x2 ) := by
  rw [f_X13_readChild_66]
  refine offI ?_ ?_
  · refine offB (offR.wI (by decide)) (fun M19 oM19 => ?_)
    refine offB (oM19.tr ((o_X13_goOn M19).mono (by decide))) (fun M21 oM21 => ?_)
    exact oM21
  · refine offB (offR.tr ((o_X13_goOn M).mono (by decide))) (fun M16 oM16 => ?_)
    exact oM16
set_option maxRecDepth 100000 in
set_option maxHeartbeats 4000000 in
theorem t_X13_readChild_66 {E : gE} {K : gM → Prop} {Q : Option Value → gM → Prop} (hK : ∀ z : gM, K z → Q none z) (M : gM) (x1 : Int32) (x2 : Int32)   (hs : s_X13_readChild_66 M x1 x2 ) (hQ : K (f_X13_readChild_66 M x1 x2 )) : gG E RX13 cX13_readChild 3 none (rm 9) 66 [(0, .ref (gla E 226)), (1, .int x1), (2, .int x2)] [] M Q := by
  rw [s_X13_readChild_66] at hs
  rw [f_X13_readChild_66] at hQ
  refine g_aload_n 0 dX13_readChild_66 rfl ?_
  refine g_getI 226 fd_X13_111 dF_Md rfl dX13_readChild_67 ?_
  refine g_if_ne 88 dX13_readChild_70 (by decide) (fun c14 => ?_) (fun c14 => ?_)
  · have hs := ifSf hs c14; have hQ := ifQf hQ c14
    refine g_aload_n 0 dX13_readChild_88 rfl ?_
    have h15 := hs.1; have hs := hs.2
    refine g_callV (As := []) (st := []) 226 (c_X13_goOn E M h15) mt_X13_goOn ml_X13_128 dF_Md rfl rfl sg_X13_goOn rfl (by decide) (Nat.le_of_ble_eq_true rfl) dX13_readChild_89 ?_
    rintro _ M16 ⟨rfl, hM16⟩
    have hQ := bndQ hQ M16 hM16; have hs := bndS hs M16 hM16
    exact g_vret rfl dX13_readChild_92 (hK _ hQ)
  · have hs := ifSt hs c14; have hQ := ifQt hQ c14
    refine g_aload_n 0 dX13_readChild_73 rfl ?_
    refine g_getR 226 229 fd_X13_16 dF_Md rfl rfl dX13_readChild_74 ?_
    refine g_bipush (v := 24) dX13_readChild_77 (by decide) ?_
    refine g_iload_n 1 dX13_readChild_79 rfl ?_
    refine g_iadd dX13_readChild_80 ?_
    refine g_dup2 dX13_readChild_81 rfl rfl ?_
    have h17 := hs.1; have hs := hs.2
    refine g_iald 229 dF_Md_fresh h17 dX13_readChild_82 ?_
    refine g_iconst (v := 1) dX13_readChild_83 (by decide) ?_
    refine g_iload_n 2 dX13_readChild_84 rfl ?_
    refine g_ishl dX13_readChild_85 ?_
    refine g_ior dX13_readChild_86 ?_
    have h18 := hs.1; have hs := hs.2
    refine g_iast 229 dF_Md_fresh h18 dX13_readChild_87 (fun M19 hM19 => ?_)
    have hQ := bndQ hQ M19 hM19; have hs := bndS hs M19 hM19
    refine g_aload_n 0 dX13_readChild_88 rfl ?_
    have h20 := hs.1; have hs := hs.2
    refine g_callV (As := []) (st := []) 226 (c_X13_goOn E M19 h20) mt_X13_goOn ml_X13_128 dF_Md rfl rfl sg_X13_goOn rfl (by decide) (Nat.le_of_ble_eq_true rfl) dX13_readChild_89 ?_
    rintro _ M21 ⟨rfl, hM21⟩
    have hQ := bndQ hQ M21 hM21; have hs := bndS hs M21 hM21
    exact g_vret rfl dX13_readChild_92 (hK _ hQ)
def f_X13_readChild_61 (M : gM) (x1 : Int32) (x2 : Int32)  : gM :=
  bnd (f_X13_wrong M 3) fun M23 =>
  (f_X13_readChild_66 M23 x1 x2)
def s_X13_readChild_61 (M : gM) (x1 : Int32) (x2 : Int32)  : Prop :=
  (s_X13_wrong M 3) ∧
  (bndP (f_X13_wrong M 3) fun M23 =>
  (s_X13_readChild_66 M23 x1 x2))
theorem o_X13_readChild_61 (M : gM) (x1 : Int32) (x2 : Int32)  : offW [71, 72, 73, 74, 75, 76, 77, 89] M (f_X13_readChild_61 M x1 x2 ) := by
  rw [f_X13_readChild_61]
  refine offB (offR.tr ((o_X13_wrong M 3).mono (by decide))) (fun M23 oM23 => ?_)
  exact oM23.tr (o_X13_readChild_66 M23 x1 x2)
set_option maxRecDepth 100000 in
set_option maxHeartbeats 4000000 in
theorem t_X13_readChild_61 {E : gE} {K : gM → Prop} {Q : Option Value → gM → Prop} (hK : ∀ z : gM, K z → Q none z) (M : gM) (x1 : Int32) (x2 : Int32)   (hs : s_X13_readChild_61 M x1 x2 ) (hQ : K (f_X13_readChild_61 M x1 x2 )) : gG E RX13 cX13_readChild 3 none (rm 9) 61 [(0, .ref (gla E 226)), (1, .int x1), (2, .int x2)] [] M Q := by
  rw [s_X13_readChild_61] at hs
  rw [f_X13_readChild_61] at hQ
  refine g_aload_n 0 dX13_readChild_61 rfl ?_
  refine g_iconst (v := 3) dX13_readChild_62 (by decide) ?_
  have h22 := hs.1; have hs := hs.2
  refine g_callV (As := [.int 3]) (st := []) 226 (c_X13_wrong E M 3 h22) mt_X13_wrong ml_X13_120 dF_Md rfl rfl sg_X13_wrong rfl (by decide) (Nat.le_of_ble_eq_true rfl) dX13_readChild_63 ?_
  rintro _ M23 ⟨rfl, hM23⟩
  have hQ := bndQ hQ M23 hM23; have hs := bndS hs M23 hM23
  exact t_X13_readChild_66 hK M23 x1 x2 hs hQ
def f_X13_readChild (M : gM) : gM :=
  bnd (f_X13_goOn M) fun M2 =>
  (bnd (f_X13_told M2 0) fun z4 =>
  (bnd (f_X13_toldHere z4.2 0) fun z6 =>
  (if (rdI z6.2 76 0 0 0) = 0 then
    (if z4.1 ≤ z6.1 then
      (f_X13_readChild_61 z6.2 z4.1 z6.1)
    else
      (if (((rdI z6.2 89 0 0 (nn (24 + z4.1))) >>> (z6.1 &&& 31)) &&& 1) = 1 then
        (f_X13_readChild_61 z6.2 z4.1 z6.1)
      else
        (if (f_J6_bitCount_0f7a4 z6.2 (rdI z6.2 89 0 0 (nn (24 + z4.1)))) = 2 then
          (f_X13_readChild_61 z6.2 z4.1 z6.1)
        else
          (f_X13_readChild_66 z6.2 z4.1 z6.1))))
  else
    (f_X13_readChild_66 z6.2 z4.1 z6.1))))
def s_X13_readChild (M : gM) : Prop :=
  (s_X13_goOn M) ∧
  (bndP (f_X13_goOn M) fun M2 =>
  ((s_X13_told M2 0) ∧
  (bndP (f_X13_told M2 0) fun z4 =>
  ((s_X13_toldHere z4.2 0) ∧
  (bndP (f_X13_toldHere z4.2 0) fun z6 =>
  (if (rdI z6.2 76 0 0 0) = 0 then
    (if z4.1 ≤ z6.1 then
      (s_X13_readChild_61 z6.2 z4.1 z6.1)
    else
      ((vp_in (24 + z4.1) 502) ∧
      (if (((rdI z6.2 89 0 0 (nn (24 + z4.1))) >>> (z6.1 &&& 31)) &&& 1) = 1 then
        (s_X13_readChild_61 z6.2 z4.1 z6.1)
      else
        ((vp_in (24 + z4.1) 502) ∧
        ((s_J6_bitCount_0f7a4 z6.2 (rdI z6.2 89 0 0 (nn (24 + z4.1)))) ∧
        (if (f_J6_bitCount_0f7a4 z6.2 (rdI z6.2 89 0 0 (nn (24 + z4.1)))) = 2 then
          (s_X13_readChild_61 z6.2 z4.1 z6.1)
        else
          (s_X13_readChild_66 z6.2 z4.1 z6.1)))))))
  else
    (s_X13_readChild_66 z6.2 z4.1 z6.1)))))))
theorem o_X13_readChild (M : gM) : offW [71, 72, 73, 74, 75, 76, 77, 89] M (f_X13_readChild M) := by
  rw [f_X13_readChild]
  refine offB (offR.tr ((o_X13_goOn M).mono (by decide))) (fun M2 oM2 => ?_)
  refine offZ (oM2.tr ((o_X13_told M2 0).mono (by decide))) (fun z4 oz4 => ?_)
  refine offZ (oz4.tr ((o_X13_toldHere z4.2 0).mono (by decide))) (fun z6 oz6 => ?_)
  refine offI ?_ ?_
  · refine offI ?_ ?_
    · exact oz6.tr (o_X13_readChild_61 z6.2 z4.1 z6.1)
    · refine offI ?_ ?_
      · exact oz6.tr (o_X13_readChild_61 z6.2 z4.1 z6.1)
      · refine offI ?_ ?_
        · exact oz6.tr (o_X13_readChild_61 z6.2 z4.1 z6.1)
        · exact oz6.tr (o_X13_readChild_66 z6.2 z4.1 z6.1)
  · exact oz6.tr (o_X13_readChild_66 z6.2 z4.1 z6.1)
set_option maxRecDepth 100000 in
set_option maxHeartbeats 4000000 in
theorem t_X13_readChild {E : gE} {K : gM → Prop} {Q : Option Value → gM → Prop} (hK : ∀ z : gM, K z → Q none z) (M : gM)  (hs : s_X13_readChild M) (hQ : K (f_X13_readChild M)) : gG E RX13 cX13_readChild 3 none (rm 9) 0 [(0, .ref (gla E 226))] [] M Q := by
  rw [s_X13_readChild] at hs
  rw [f_X13_readChild] at hQ
  refine g_aload_n 0 dX13_readChild_0 rfl ?_
  have h1 := hs.1; have hs := hs.2
  refine g_callV (As := []) (st := []) 226 (c_X13_goOn E M h1) mt_X13_goOn ml_X13_128 dF_Md rfl rfl sg_X13_goOn rfl (by decide) (Nat.le_of_ble_eq_true rfl) dX13_readChild_1 ?_
  rintro _ M2 ⟨rfl, hM2⟩
  have hQ := bndQ hQ M2 hM2; have hs := bndS hs M2 hM2
  refine g_aload_n 0 dX13_readChild_4 rfl ?_
  refine g_iconst (v := 0) dX13_readChild_5 (by decide) ?_
  have h3 := hs.1; have hs := hs.2
  refine g_callV (As := [.int 0]) (st := []) 226 (c_X13_told E M2 0 h3) mt_X13_told ml_X13_151 dF_Md rfl rfl sg_X13_told rfl (by decide) (Nat.le_of_ble_eq_true rfl) dX13_readChild_6 ?_
  rintro _ _ ⟨rfl, rfl⟩
  obtain ⟨z4, hz4⟩ : ∃ z, z = f_X13_told M2 0 := ⟨_, rfl⟩
  rw [← hz4]
  have hQ := bndQ hQ z4 hz4; have hs := bndS hs z4 hz4
  refine g_istore_n _ dX13_readChild_9 (by decide) rfl ?_
  refine g_aload_n 1 dX13_readChild_10 rfl ?_
  refine g_iconst (v := 0) dX13_readChild_11 (by decide) ?_
  have h5 := hs.1; have hs := hs.2
  refine g_callV (As := [.int 0]) (st := []) 226 (c_X13_toldHere E z4.2 0 h5) mt_X13_toldHere ml_X13_139 dF_Md rfl rfl sg_X13_toldHere rfl (by decide) (Nat.le_of_ble_eq_true rfl) dX13_readChild_12 ?_
  rintro _ _ ⟨rfl, rfl⟩
  obtain ⟨z6, hz6⟩ : ∃ z, z = f_X13_toldHere z4.2 0 := ⟨_, rfl⟩
  rw [← hz6]
  have hQ := bndQ hQ z6 hz6; have hs := bndS hs z6 hz6
  refine g_istore_n _ dX13_readChild_15 (by decide) rfl ?_
  refine g_aload_n 2 dX13_readChild_16 rfl ?_
  refine g_getI 226 fd_X13_111 dF_Md rfl dX13_readChild_17 ?_
  refine g_if_ne 66 dX13_readChild_20 (by decide) (fun c7 => ?_) (fun c7 => ?_)
  · have hs := ifSf hs c7; have hQ := ifQf hQ c7
    refine g_sub [2, 1, 0] _ rfl ?_
    exact t_X13_readChild_66 hK z6.2 z4.1 z6.1 hs hQ
  · have hs := ifSt hs c7; have hQ := ifQt hQ c7
    refine g_iload_n 1 dX13_readChild_23 rfl ?_
    refine g_iload_n 0 dX13_readChild_24 rfl ?_
    refine g_icmp_le 61 dX13_readChild_25 (by decide) (fun c8 => ?_) (fun c8 => ?_)
    · have hs := ifSt hs c8; have hQ := ifQt hQ c8
      refine g_sub [2, 1, 0] _ rfl ?_
      exact t_X13_readChild_61 hK z6.2 z4.1 z6.1 hs hQ
    · have hs := ifSf hs c8; have hQ := ifQf hQ c8
      refine g_aload_n 2 dX13_readChild_28 rfl ?_
      refine g_getR 226 229 fd_X13_16 dF_Md rfl rfl dX13_readChild_29 ?_
      refine g_bipush (v := 24) dX13_readChild_32 (by decide) ?_
      refine g_iload_n 1 dX13_readChild_34 rfl ?_
      refine g_iadd dX13_readChild_35 ?_
      have h9 := hs.1; have hs := hs.2
      refine g_iald 229 dF_Md_fresh h9 dX13_readChild_36 ?_
      refine g_iload_n 0 dX13_readChild_37 rfl ?_
      refine g_ishr dX13_readChild_38 ?_
      refine g_iconst (v := 1) dX13_readChild_39 (by decide) ?_
      refine g_iand dX13_readChild_40 ?_
      refine g_iconst (v := 1) dX13_readChild_41 (by decide) ?_
      refine g_icmp_eq 61 dX13_readChild_42 (by decide) (fun c10 => ?_) (fun c10 => ?_)
      · have hs := ifSt hs c10; have hQ := ifQt hQ c10
        refine g_sub [2, 1, 0] _ rfl ?_
        exact t_X13_readChild_61 hK z6.2 z4.1 z6.1 hs hQ
      · have hs := ifSf hs c10; have hQ := ifQf hQ c10
        refine g_aload_n 2 dX13_readChild_45 rfl ?_
        refine g_getR 226 229 fd_X13_16 dF_Md rfl rfl dX13_readChild_46 ?_
        refine g_bipush (v := 24) dX13_readChild_49 (by decide) ?_
        refine g_iload_n 1 dX13_readChild_51 rfl ?_
        refine g_iadd dX13_readChild_52 ?_
        have h11 := hs.1; have hs := hs.2
        refine g_iald 229 dF_Md_fresh h11 dX13_readChild_53 ?_
        have h12 := hs.1; have hs := hs.2
        refine g_callS (As := [.int (rdI z6.2 89 0 0 (nn (24 + z4.1)))]) (st := []) (c_J6_bitCount_0f7a4 E z6.2 (rdI z6.2 89 0 0 (nn (24 + z4.1))) h12) mt_J6_bitCount_0f7a4 ml_X13_154 sg_J6_bitCount_0f7a4 rfl (by decide) (Nat.le_of_ble_eq_true rfl) dX13_readChild_54 ?_
        rintro _ _ ⟨q1, q2⟩; rw [q1, q2]; clear q1 q2
        refine g_iconst (v := 2) dX13_readChild_57 (by decide) ?_
        refine g_icmp_ne 66 dX13_readChild_58 (by decide) (fun c13 => ?_) (fun c13 => ?_)
        · have hs := ifSf hs c13; have hQ := ifQf hQ c13
          refine g_sub [2, 1, 0] _ rfl ?_
          exact t_X13_readChild_66 hK z6.2 z4.1 z6.1 hs hQ
        · have hs := ifSt hs c13; have hQ := ifQt hQ c13
          refine g_sub [2, 1, 0] _ rfl ?_
          exact t_X13_readChild_61 hK z6.2 z4.1 z6.1 hs hQ
theorem c_X13_readChild (E : gE) (M : gM)  (hs : s_X13_readChild M) : gC E yX13_readChild cX13_readChild 3 none (rm 9) [.ref (gla E 226)] M (fun o N => o = none ∧ N = f_X13_readChild M) :=
  gC.of (by decide +kernel) (Nat.le_of_ble_eq_true rfl) rfl (t_X13_readChild (K := fun z => z = f_X13_readChild M) (fun z hz => ⟨rfl, hz⟩) M hs rfl)
def f_X13_readWed_50 (M : gM) (x1 : Int32) (x2 : Int32)  : gM :=
  bnd (f_X13_goOn M) fun M16 =>
  (bnd (f_X13_number M16 0 9999) fun z18 =>
  (if (rdI z18.2 76 0 0 0) = 0 then
    (bnd (f_X13_weds_newNow z18.2 x1 x2 z18.1) fun M21 =>
    (M21))
  else
    (z18.2)))
def s_X13_readWed_50 (M : gM) (x1 : Int32) (x2 : Int32)  : Prop :=
  (s_X13_goOn M) ∧
  (bndP (f_X13_goOn M) fun M16 =>
  ((s_X13_number M16 0 9999) ∧
  (bndP (f_X13_number M16 0 9999) fun z18 =>
  (if (rdI z18.2 76 0 0 0) = 0 then
    ((s_X13_weds_newNow z18.2 x1 x2 z18.1) ∧
    (bndP (f_X13_weds_newNow z18.2 x1 x2 z18.1) fun M21 =>
    (True)))
  else
    (True)))))
theorem o_X13_readWed_50 (M : gM) (x1 : Int32) (x2 : Int32)  : offW [71, 72, 73, 74, 75, 76, 77, 93] M (f_X13_readWed_50 M x1 x2 ) := by
  rw [f_X13_readWed_50]
  refine offB (offR.tr ((o_X13_goOn M).mono (by decide))) (fun M16 oM16 => ?_)
  refine offZ (oM16.tr ((o_X13_number M16 0 9999).mono (by decide))) (fun z18 oz18 => ?_)
  refine offI ?_ ?_
  · refine offB (oz18.tr ((o_X13_weds_newNow z18.2 x1 x2 z18.1).mono (by decide))) (fun M21 oM21 => ?_)
    exact oM21
  · exact oz18
set_option maxRecDepth 100000 in
set_option maxHeartbeats 4000000 in
theorem t_X13_readWed_50 {E : gE} {K : gM → Prop} {Q : Option Value → gM → Prop} (hK : ∀ z : gM, K z → Q none z) (M : gM) (x1 : Int32) (x2 : Int32)   (hs : s_X13_readWed_50 M x1 x2 ) (hQ : K (f_X13_readWed_50 M x1 x2 )) : gG E RX13 cX13_readWed 4 none (rm 9) 50 [(0, .ref (gla E 226)), (1, .int x1), (2, .int x2)] [] M Q := by
  rw [s_X13_readWed_50] at hs
  rw [f_X13_readWed_50] at hQ
  refine g_aload_n 0 dX13_readWed_50 rfl ?_
  have h15 := hs.1; have hs := hs.2
  refine g_callV (As := []) (st := []) 226 (c_X13_goOn E M h15) mt_X13_goOn ml_X13_128 dF_Md rfl rfl sg_X13_goOn rfl (by decide) (Nat.le_of_ble_eq_true rfl) dX13_readWed_51 ?_
  rintro _ M16 ⟨rfl, hM16⟩
  have hQ := bndQ hQ M16 hM16; have hs := bndS hs M16 hM16
  refine g_aload_n 0 dX13_readWed_54 rfl ?_
  refine g_iconst (v := 0) dX13_readWed_55 (by decide) ?_
  refine g_sipush (v := 9999) dX13_readWed_56 (by decide) ?_
  have h17 := hs.1; have hs := hs.2
  refine g_callV (As := [.int 0, .int 9999]) (st := []) 226 (c_X13_number E M16 0 9999 h17) mt_X13_number ml_X13_142 dF_Md rfl rfl sg_X13_number rfl (by decide) (Nat.le_of_ble_eq_true rfl) dX13_readWed_59 ?_
  rintro _ _ ⟨rfl, rfl⟩
  obtain ⟨z18, hz18⟩ : ∃ z, z = f_X13_number M16 0 9999 := ⟨_, rfl⟩
  rw [← hz18]
  have hQ := bndQ hQ z18 hz18; have hs := bndS hs z18 hz18
  refine g_istore_n _ dX13_readWed_62 (by decide) rfl ?_
  refine g_aload_n 1 dX13_readWed_63 rfl ?_
  refine g_getI 226 fd_X13_111 dF_Md rfl dX13_readWed_64 ?_
  refine g_if_ne 80 dX13_readWed_67 (by decide) (fun c19 => ?_) (fun c19 => ?_)
  · have hs := ifSf hs c19; have hQ := ifQf hQ c19
    exact g_vret rfl dX13_readWed_80 (hK _ hQ)
  · have hs := ifSt hs c19; have hQ := ifQt hQ c19
    refine g_aload_n 1 dX13_readWed_70 rfl ?_
    refine g_getR 226 233 fd_X13_28 dF_Md rfl rfl dX13_readWed_71 ?_
    refine g_iload_n 2 dX13_readWed_74 rfl ?_
    refine g_iload_n 3 dX13_readWed_75 rfl ?_
    refine g_iload_n 0 dX13_readWed_76 rfl ?_
    have h20 := hs.1; have hs := hs.2
    refine g_callS (As := [.ref (gla E 233), .int x1, .int x2, .int z18.1]) (st := []) (c_X13_weds_newNow E z18.2 x1 x2 z18.1 h20) mt_X13_weds ml_X13_159 sg_X13_weds rfl (by decide) (Nat.le_of_ble_eq_true rfl) dX13_readWed_77 ?_
    rintro _ M21 ⟨rfl, hM21⟩
    have hQ := bndQ hQ M21 hM21; have hs := bndS hs M21 hM21
    exact g_vret rfl dX13_readWed_80 (hK _ hQ)
def f_X13_readWed_17 (M : gM)  : gM :=
  bnd (f_X13_goOn M) fun M6 =>
  (bnd (f_X13_told M6 0) fun z8 =>
  (bnd (f_X13_toldHere z8.2 0) fun z10 =>
  (if (rdI z10.2 76 0 0 0) = 0 then
    (if z8.1 = z10.1 then
      (bnd (f_X13_wrong z10.2 3) fun M14 =>
      (f_X13_readWed_50 M14 z8.1 z10.1))
    else
      (f_X13_readWed_50 z10.2 z8.1 z10.1))
  else
    (f_X13_readWed_50 z10.2 z8.1 z10.1))))
def s_X13_readWed_17 (M : gM)  : Prop :=
  (s_X13_goOn M) ∧
  (bndP (f_X13_goOn M) fun M6 =>
  ((s_X13_told M6 0) ∧
  (bndP (f_X13_told M6 0) fun z8 =>
  ((s_X13_toldHere z8.2 0) ∧
  (bndP (f_X13_toldHere z8.2 0) fun z10 =>
  (if (rdI z10.2 76 0 0 0) = 0 then
    (if z8.1 = z10.1 then
      ((s_X13_wrong z10.2 3) ∧
      (bndP (f_X13_wrong z10.2 3) fun M14 =>
      (s_X13_readWed_50 M14 z8.1 z10.1)))
    else
      (s_X13_readWed_50 z10.2 z8.1 z10.1))
  else
    (s_X13_readWed_50 z10.2 z8.1 z10.1)))))))
theorem o_X13_readWed_17 (M : gM)  : offW [71, 72, 73, 74, 75, 76, 77, 93] M (f_X13_readWed_17 M ) := by
  rw [f_X13_readWed_17]
  refine offB (offR.tr ((o_X13_goOn M).mono (by decide))) (fun M6 oM6 => ?_)
  refine offZ (oM6.tr ((o_X13_told M6 0).mono (by decide))) (fun z8 oz8 => ?_)
  refine offZ (oz8.tr ((o_X13_toldHere z8.2 0).mono (by decide))) (fun z10 oz10 => ?_)
  refine offI ?_ ?_
  · refine offI ?_ ?_
    · refine offB (oz10.tr ((o_X13_wrong z10.2 3).mono (by decide))) (fun M14 oM14 => ?_)
      exact oM14.tr (o_X13_readWed_50 M14 z8.1 z10.1)
    · exact oz10.tr (o_X13_readWed_50 z10.2 z8.1 z10.1)
  · exact oz10.tr (o_X13_readWed_50 z10.2 z8.1 z10.1)
set_option maxRecDepth 100000 in
set_option maxHeartbeats 4000000 in
theorem t_X13_readWed_17 {E : gE} {K : gM → Prop} {Q : Option Value → gM → Prop} (hK : ∀ z : gM, K z → Q none z) (M : gM)   (hs : s_X13_readWed_17 M ) (hQ : K (f_X13_readWed_17 M )) : gG E RX13 cX13_readWed 4 none (rm 9) 17 [(0, .ref (gla E 226))] [] M Q := by
  rw [s_X13_readWed_17] at hs
  rw [f_X13_readWed_17] at hQ
  refine g_aload_n 0 dX13_readWed_17 rfl ?_
  have h5 := hs.1; have hs := hs.2
  refine g_callV (As := []) (st := []) 226 (c_X13_goOn E M h5) mt_X13_goOn ml_X13_128 dF_Md rfl rfl sg_X13_goOn rfl (by decide) (Nat.le_of_ble_eq_true rfl) dX13_readWed_18 ?_
  rintro _ M6 ⟨rfl, hM6⟩
  have hQ := bndQ hQ M6 hM6; have hs := bndS hs M6 hM6
  refine g_aload_n 0 dX13_readWed_21 rfl ?_
  refine g_iconst (v := 0) dX13_readWed_22 (by decide) ?_
  have h7 := hs.1; have hs := hs.2
  refine g_callV (As := [.int 0]) (st := []) 226 (c_X13_told E M6 0 h7) mt_X13_told ml_X13_151 dF_Md rfl rfl sg_X13_told rfl (by decide) (Nat.le_of_ble_eq_true rfl) dX13_readWed_23 ?_
  rintro _ _ ⟨rfl, rfl⟩
  obtain ⟨z8, hz8⟩ : ∃ z, z = f_X13_told M6 0 := ⟨_, rfl⟩
  rw [← hz8]
  have hQ := bndQ hQ z8 hz8; have hs := bndS hs z8 hz8
  refine g_istore_n _ dX13_readWed_26 (by decide) rfl ?_
  refine g_aload_n 1 dX13_readWed_27 rfl ?_
  refine g_iconst (v := 0) dX13_readWed_28 (by decide) ?_
  have h9 := hs.1; have hs := hs.2
  refine g_callV (As := [.int 0]) (st := []) 226 (c_X13_toldHere E z8.2 0 h9) mt_X13_toldHere ml_X13_139 dF_Md rfl rfl sg_X13_toldHere rfl (by decide) (Nat.le_of_ble_eq_true rfl) dX13_readWed_29 ?_
  rintro _ _ ⟨rfl, rfl⟩
  obtain ⟨z10, hz10⟩ : ∃ z, z = f_X13_toldHere z8.2 0 := ⟨_, rfl⟩
  rw [← hz10]
  have hQ := bndQ hQ z10 hz10; have hs := bndS hs z10 hz10
  refine g_istore_n _ dX13_readWed_32 (by decide) rfl ?_
  refine g_aload_n 2 dX13_readWed_33 rfl ?_
  refine g_getI 226 fd_X13_111 dF_Md rfl dX13_readWed_34 ?_
  refine g_if_ne 50 dX13_readWed_37 (by decide) (fun c11 => ?_) (fun c11 => ?_)
  · have hs := ifSf hs c11; have hQ := ifQf hQ c11
    refine g_sub [2, 1, 0] _ rfl ?_
    exact t_X13_readWed_50 hK z10.2 z8.1 z10.1 hs hQ
  · have hs := ifSt hs c11; have hQ := ifQt hQ c11
    refine g_iload_n 1 dX13_readWed_40 rfl ?_
    refine g_iload_n 0 dX13_readWed_41 rfl ?_
    refine g_icmp_ne 50 dX13_readWed_42 (by decide) (fun c12 => ?_) (fun c12 => ?_)
    · have hs := ifSf hs c12; have hQ := ifQf hQ c12
      refine g_sub [2, 1, 0] _ rfl ?_
      exact t_X13_readWed_50 hK z10.2 z8.1 z10.1 hs hQ
    · have hs := ifSt hs c12; have hQ := ifQt hQ c12
      refine g_aload_n 2 dX13_readWed_45 rfl ?_
      refine g_iconst (v := 3) dX13_readWed_46 (by decide) ?_
      have h13 := hs.1; have hs := hs.2
      refine g_callV (As := [.int 3]) (st := []) 226 (c_X13_wrong E z10.2 3 h13) mt_X13_wrong ml_X13_120 dF_Md rfl rfl sg_X13_wrong rfl (by decide) (Nat.le_of_ble_eq_true rfl) dX13_readWed_47 ?_
      rintro _ M14 ⟨rfl, hM14⟩
      have hQ := bndQ hQ M14 hM14; have hs := bndS hs M14 hM14
      refine g_sub [2, 1, 0] _ rfl ?_
      exact t_X13_readWed_50 hK M14 z8.1 z10.1 hs hQ
def f_X13_readWed (M : gM) : gM :=
  if (rdI M 93 0 0 (nn 64)) = 6 then
    (bnd (f_X13_wrong M 2) fun M4 =>
    (f_X13_readWed_17 M4))
  else
    (f_X13_readWed_17 M)
def s_X13_readWed (M : gM) : Prop :=
  (vp_in 64 65) ∧
  (if (rdI M 93 0 0 (nn 64)) = 6 then
    ((s_X13_wrong M 2) ∧
    (bndP (f_X13_wrong M 2) fun M4 =>
    (s_X13_readWed_17 M4)))
  else
    (s_X13_readWed_17 M))
theorem o_X13_readWed (M : gM) : offW [71, 72, 73, 74, 75, 76, 77, 93] M (f_X13_readWed M) := by
  rw [f_X13_readWed]
  refine offI ?_ ?_
  · refine offB (offR.tr ((o_X13_wrong M 2).mono (by decide))) (fun M4 oM4 => ?_)
    exact oM4.tr (o_X13_readWed_17 M4)
  · exact (o_X13_readWed_17 M)
set_option maxRecDepth 100000 in
set_option maxHeartbeats 4000000 in
theorem t_X13_readWed {E : gE} {K : gM → Prop} {Q : Option Value → gM → Prop} (hK : ∀ z : gM, K z → Q none z) (M : gM)  (hs : s_X13_readWed M) (hQ : K (f_X13_readWed M)) : gG E RX13 cX13_readWed 4 none (rm 9) 0 [(0, .ref (gla E 226))] [] M Q := by
  rw [s_X13_readWed] at hs
  rw [f_X13_readWed] at hQ
  refine g_aload_n 0 dX13_readWed_0 rfl ?_
  refine g_getR 226 233 fd_X13_28 dF_Md rfl rfl dX13_readWed_1 ?_
  refine g_bipush (v := 64) dX13_readWed_4 (by decide) ?_
  have h1 := hs.1; have hs := hs.2
  refine g_iald 233 dF_Md_newNow h1 dX13_readWed_6 ?_
  refine g_bipush (v := 6) dX13_readWed_7 (by decide) ?_
  refine g_icmp_ne 17 dX13_readWed_9 (by decide) (fun c2 => ?_) (fun c2 => ?_)
  · have hs := ifSf hs c2; have hQ := ifQf hQ c2
    exact t_X13_readWed_17 hK M hs hQ
  · have hs := ifSt hs c2; have hQ := ifQt hQ c2
    refine g_aload_n 0 dX13_readWed_12 rfl ?_
    refine g_iconst (v := 2) dX13_readWed_13 (by decide) ?_
    have h3 := hs.1; have hs := hs.2
    refine g_callV (As := [.int 2]) (st := []) 226 (c_X13_wrong E M 2 h3) mt_X13_wrong ml_X13_120 dF_Md rfl rfl sg_X13_wrong rfl (by decide) (Nat.le_of_ble_eq_true rfl) dX13_readWed_14 ?_
    rintro _ M4 ⟨rfl, hM4⟩
    have hQ := bndQ hQ M4 hM4; have hs := bndS hs M4 hM4
    exact t_X13_readWed_17 hK M4 hs hQ
theorem c_X13_readWed (E : gE) (M : gM)  (hs : s_X13_readWed M) : gC E yX13_readWed cX13_readWed 4 none (rm 9) [.ref (gla E 226)] M (fun o N => o = none ∧ N = f_X13_readWed M) :=
  gC.of (by decide +kernel) (Nat.le_of_ble_eq_true rfl) rfl (t_X13_readWed (K := fun z => z = f_X13_readWed M) (fun z hz => ⟨rfl, hz⟩) M hs rfl)
def f_X13_readThing_16 (M : gM)  : gM :=
  bnd (f_X13_goOn M) fun M6 =>
  (bnd (f_X13_newName M6 1) fun M8 =>
  (bnd (f_X13_told M8 0) fun z10 =>
  (bnd (f_X13_number z10.2 0 1) fun z12 =>
  (bnd (f_X13_number z12.2 1 9999) fun z14 =>
  (if (rdI z14.2 76 0 0 0) = 0 then
    (bnd (34 + (3 * (rdI z14.2 89 0 0 (nn 1)))) fun v17 =>
    (bnd (wrI z14.2 89 0 0 (nn v17) z10.1) fun M19 =>
    (bnd (wrI M19 89 0 0 (nn (v17 + 1)) z12.1) fun M21 =>
    (bnd (wrI M21 89 0 0 (nn (v17 + 2)) z14.1) fun M23 =>
    (bnd (wrI M23 89 0 0 (nn 1) ((rdI M23 89 0 0 (nn 1)) + 1)) fun M26 =>
    (M26))))))
  else
    (z14.2))))))
def s_X13_readThing_16 (M : gM)  : Prop :=
  (s_X13_goOn M) ∧
  (bndP (f_X13_goOn M) fun M6 =>
  ((s_X13_newName M6 1) ∧
  (bndP (f_X13_newName M6 1) fun M8 =>
  ((s_X13_told M8 0) ∧
  (bndP (f_X13_told M8 0) fun z10 =>
  ((s_X13_number z10.2 0 1) ∧
  (bndP (f_X13_number z10.2 0 1) fun z12 =>
  ((s_X13_number z12.2 1 9999) ∧
  (bndP (f_X13_number z12.2 1 9999) fun z14 =>
  (if (rdI z14.2 76 0 0 0) = 0 then
    ((vp_in 1 502) ∧
    (bndP (34 + (3 * (rdI z14.2 89 0 0 (nn 1)))) fun v17 =>
    ((vp_in v17 502) ∧
    (bndP (wrI z14.2 89 0 0 (nn v17) z10.1) fun M19 =>
    ((vp_in (v17 + 1) 502) ∧
    (bndP (wrI M19 89 0 0 (nn (v17 + 1)) z12.1) fun M21 =>
    ((vp_in (v17 + 2) 502) ∧
    (bndP (wrI M21 89 0 0 (nn (v17 + 2)) z14.1) fun M23 =>
    ((vp_in 1 502) ∧
    ((vp_in 1 502) ∧
    (bndP (wrI M23 89 0 0 (nn 1) ((rdI M23 89 0 0 (nn 1)) + 1)) fun M26 =>
    (True))))))))))))
  else
    (True)))))))))))
theorem o_X13_readThing_16 (M : gM)  : offW [71, 72, 73, 74, 75, 76, 77, 89, 95] M (f_X13_readThing_16 M ) := by
  rw [f_X13_readThing_16]
  refine offB (offR.tr ((o_X13_goOn M).mono (by decide))) (fun M6 oM6 => ?_)
  refine offB (oM6.tr ((o_X13_newName M6 1).mono (by decide))) (fun M8 oM8 => ?_)
  refine offZ (oM8.tr ((o_X13_told M8 0).mono (by decide))) (fun z10 oz10 => ?_)
  refine offZ (oz10.tr ((o_X13_number z10.2 0 1).mono (by decide))) (fun z12 oz12 => ?_)
  refine offZ (oz12.tr ((o_X13_number z12.2 1 9999).mono (by decide))) (fun z14 oz14 => ?_)
  refine offI ?_ ?_
  · refine offV (fun v17 => ?_)
    refine offB (oz14.wI (by decide)) (fun M19 oM19 => ?_)
    refine offB (oM19.wI (by decide)) (fun M21 oM21 => ?_)
    refine offB (oM21.wI (by decide)) (fun M23 oM23 => ?_)
    refine offB (oM23.wI (by decide)) (fun M26 oM26 => ?_)
    exact oM26
  · exact oz14
set_option maxRecDepth 100000 in
set_option maxHeartbeats 4000000 in
theorem t_X13_readThing_16 {E : gE} {K : gM → Prop} {Q : Option Value → gM → Prop} (hK : ∀ z : gM, K z → Q none z) (M : gM)   (hs : s_X13_readThing_16 M ) (hQ : K (f_X13_readThing_16 M )) : gG E RX13 cX13_readThing 5 none (rm 9) 16 [(0, .ref (gla E 226))] [] M Q := by
  rw [s_X13_readThing_16] at hs
  rw [f_X13_readThing_16] at hQ
  refine g_aload_n 0 dX13_readThing_16 rfl ?_
  have h5 := hs.1; have hs := hs.2
  refine g_callV (As := []) (st := []) 226 (c_X13_goOn E M h5) mt_X13_goOn ml_X13_128 dF_Md rfl rfl sg_X13_goOn rfl (by decide) (Nat.le_of_ble_eq_true rfl) dX13_readThing_17 ?_
  rintro _ M6 ⟨rfl, hM6⟩
  have hQ := bndQ hQ M6 hM6; have hs := bndS hs M6 hM6
  refine g_aload_n 0 dX13_readThing_20 rfl ?_
  refine g_iconst (v := 1) dX13_readThing_21 (by decide) ?_
  have h7 := hs.1; have hs := hs.2
  refine g_callV (As := [.int 1]) (st := []) 226 (c_X13_newName E M6 1 h7) mt_X13_newName ml_X13_148 dF_Md rfl rfl sg_X13_newName rfl (by decide) (Nat.le_of_ble_eq_true rfl) dX13_readThing_22 ?_
  rintro _ M8 ⟨rfl, hM8⟩
  have hQ := bndQ hQ M8 hM8; have hs := bndS hs M8 hM8
  refine g_aload_n 0 dX13_readThing_25 rfl ?_
  refine g_iconst (v := 0) dX13_readThing_26 (by decide) ?_
  have h9 := hs.1; have hs := hs.2
  refine g_callV (As := [.int 0]) (st := []) 226 (c_X13_told E M8 0 h9) mt_X13_told ml_X13_151 dF_Md rfl rfl sg_X13_told rfl (by decide) (Nat.le_of_ble_eq_true rfl) dX13_readThing_27 ?_
  rintro _ _ ⟨rfl, rfl⟩
  obtain ⟨z10, hz10⟩ : ∃ z, z = f_X13_told M8 0 := ⟨_, rfl⟩
  rw [← hz10]
  have hQ := bndQ hQ z10 hz10; have hs := bndS hs z10 hz10
  refine g_istore_n _ dX13_readThing_30 (by decide) rfl ?_
  refine g_aload_n 1 dX13_readThing_31 rfl ?_
  refine g_iconst (v := 0) dX13_readThing_32 (by decide) ?_
  refine g_iconst (v := 1) dX13_readThing_33 (by decide) ?_
  have h11 := hs.1; have hs := hs.2
  refine g_callV (As := [.int 0, .int 1]) (st := []) 226 (c_X13_number E z10.2 0 1 h11) mt_X13_number ml_X13_142 dF_Md rfl rfl sg_X13_number rfl (by decide) (Nat.le_of_ble_eq_true rfl) dX13_readThing_34 ?_
  rintro _ _ ⟨rfl, rfl⟩
  obtain ⟨z12, hz12⟩ : ∃ z, z = f_X13_number z10.2 0 1 := ⟨_, rfl⟩
  rw [← hz12]
  have hQ := bndQ hQ z12 hz12; have hs := bndS hs z12 hz12
  refine g_istore_n _ dX13_readThing_37 (by decide) rfl ?_
  refine g_aload_n 2 dX13_readThing_38 rfl ?_
  refine g_iconst (v := 1) dX13_readThing_39 (by decide) ?_
  refine g_sipush (v := 9999) dX13_readThing_40 (by decide) ?_
  have h13 := hs.1; have hs := hs.2
  refine g_callV (As := [.int 1, .int 9999]) (st := []) 226 (c_X13_number E z12.2 1 9999 h13) mt_X13_number ml_X13_142 dF_Md rfl rfl sg_X13_number rfl (by decide) (Nat.le_of_ble_eq_true rfl) dX13_readThing_43 ?_
  rintro _ _ ⟨rfl, rfl⟩
  obtain ⟨z14, hz14⟩ : ∃ z, z = f_X13_number z12.2 1 9999 := ⟨_, rfl⟩
  rw [← hz14]
  have hQ := bndQ hQ z14 hz14; have hs := bndS hs z14 hz14
  refine g_istore_n _ dX13_readThing_46 (by decide) rfl ?_
  refine g_aload_n 3 dX13_readThing_47 rfl ?_
  refine g_getI 226 fd_X13_111 dF_Md rfl dX13_readThing_48 ?_
  refine g_if_eq 55 dX13_readThing_51 (by decide) (fun c15 => ?_) (fun c15 => ?_)
  · have hs := ifSt hs c15; have hQ := ifQt hQ c15
    refine g_bipush (v := 34) dX13_readThing_55 (by decide) ?_
    refine g_iconst (v := 3) dX13_readThing_57 (by decide) ?_
    refine g_aload_n 3 dX13_readThing_58 rfl ?_
    refine g_getR 226 229 fd_X13_16 dF_Md rfl rfl dX13_readThing_59 ?_
    refine g_iconst (v := 1) dX13_readThing_62 (by decide) ?_
    have h16 := hs.1; have hs := hs.2
    refine g_iald 229 dF_Md_fresh h16 dX13_readThing_63 ?_
    refine g_imul dX13_readThing_64 ?_
    refine g_iadd dX13_readThing_65 ?_
    refine g_topI (fun v17 hv17 => ?_)
    have hQ := bndQ hQ v17 hv17; have hs := bndS hs v17 hv17
    refine g_istore _ dX13_readThing_66 (by decide) rfl ?_
    refine g_aload_n 4 dX13_readThing_68 rfl ?_
    refine g_getR 226 229 fd_X13_16 dF_Md rfl rfl dX13_readThing_69 ?_
    refine g_iload 0 dX13_readThing_72 rfl ?_
    refine g_iload_n 3 dX13_readThing_74 rfl ?_
    have h18 := hs.1; have hs := hs.2
    refine g_iast 229 dF_Md_fresh h18 dX13_readThing_75 (fun M19 hM19 => ?_)
    have hQ := bndQ hQ M19 hM19; have hs := bndS hs M19 hM19
    refine g_aload_n 4 dX13_readThing_76 rfl ?_
    refine g_getR 226 229 fd_X13_16 dF_Md rfl rfl dX13_readThing_77 ?_
    refine g_iload 0 dX13_readThing_80 rfl ?_
    refine g_iconst (v := 1) dX13_readThing_82 (by decide) ?_
    refine g_iadd dX13_readThing_83 ?_
    refine g_iload_n 2 dX13_readThing_84 rfl ?_
    have h20 := hs.1; have hs := hs.2
    refine g_iast 229 dF_Md_fresh h20 dX13_readThing_85 (fun M21 hM21 => ?_)
    have hQ := bndQ hQ M21 hM21; have hs := bndS hs M21 hM21
    refine g_aload_n 4 dX13_readThing_86 rfl ?_
    refine g_getR 226 229 fd_X13_16 dF_Md rfl rfl dX13_readThing_87 ?_
    refine g_iload 0 dX13_readThing_90 rfl ?_
    refine g_iconst (v := 2) dX13_readThing_92 (by decide) ?_
    refine g_iadd dX13_readThing_93 ?_
    refine g_iload_n 1 dX13_readThing_94 rfl ?_
    have h22 := hs.1; have hs := hs.2
    refine g_iast 229 dF_Md_fresh h22 dX13_readThing_95 (fun M23 hM23 => ?_)
    have hQ := bndQ hQ M23 hM23; have hs := bndS hs M23 hM23
    refine g_aload_n 4 dX13_readThing_96 rfl ?_
    refine g_getR 226 229 fd_X13_16 dF_Md rfl rfl dX13_readThing_97 ?_
    refine g_iconst (v := 1) dX13_readThing_100 (by decide) ?_
    refine g_dup2 dX13_readThing_101 rfl rfl ?_
    have h24 := hs.1; have hs := hs.2
    refine g_iald 229 dF_Md_fresh h24 dX13_readThing_102 ?_
    refine g_iconst (v := 1) dX13_readThing_103 (by decide) ?_
    refine g_iadd dX13_readThing_104 ?_
    have h25 := hs.1; have hs := hs.2
    refine g_iast 229 dF_Md_fresh h25 dX13_readThing_105 (fun M26 hM26 => ?_)
    have hQ := bndQ hQ M26 hM26; have hs := bndS hs M26 hM26
    exact g_vret rfl dX13_readThing_106 (hK _ hQ)
  · have hs := ifSf hs c15; have hQ := ifQf hQ c15
    exact g_vret rfl dX13_readThing_54 (hK _ hQ)
def f_X13_readThing (M : gM) : gM :=
  if (rdI M 89 0 0 (nn 1)) = 8 then
    (bnd (f_X13_wrong M 2) fun M4 =>
    (f_X13_readThing_16 M4))
  else
    (f_X13_readThing_16 M)
def s_X13_readThing (M : gM) : Prop :=
  (vp_in 1 502) ∧
  (if (rdI M 89 0 0 (nn 1)) = 8 then
    ((s_X13_wrong M 2) ∧
    (bndP (f_X13_wrong M 2) fun M4 =>
    (s_X13_readThing_16 M4)))
  else
    (s_X13_readThing_16 M))
theorem o_X13_readThing (M : gM) : offW [71, 72, 73, 74, 75, 76, 77, 89, 95] M (f_X13_readThing M) := by
  rw [f_X13_readThing]
  refine offI ?_ ?_
  · refine offB (offR.tr ((o_X13_wrong M 2).mono (by decide))) (fun M4 oM4 => ?_)
    exact oM4.tr (o_X13_readThing_16 M4)
  · exact (o_X13_readThing_16 M)
set_option maxRecDepth 100000 in
set_option maxHeartbeats 4000000 in
theorem t_X13_readThing {E : gE} {K : gM → Prop} {Q : Option Value → gM → Prop} (hK : ∀ z : gM, K z → Q none z) (M : gM)  (hs : s_X13_readThing M) (hQ : K (f_X13_readThing M)) : gG E RX13 cX13_readThing 5 none (rm 9) 0 [(0, .ref (gla E 226))] [] M Q := by
  rw [s_X13_readThing] at hs
  rw [f_X13_readThing] at hQ
  refine g_aload_n 0 dX13_readThing_0 rfl ?_
  refine g_getR 226 229 fd_X13_16 dF_Md rfl rfl dX13_readThing_1 ?_
  refine g_iconst (v := 1) dX13_readThing_4 (by decide) ?_
  have h1 := hs.1; have hs := hs.2
  refine g_iald 229 dF_Md_fresh h1 dX13_readThing_5 ?_
  refine g_bipush (v := 8) dX13_readThing_6 (by decide) ?_
  refine g_icmp_ne 16 dX13_readThing_8 (by decide) (fun c2 => ?_) (fun c2 => ?_)
  · have hs := ifSf hs c2; have hQ := ifQf hQ c2
    exact t_X13_readThing_16 hK M hs hQ
  · have hs := ifSt hs c2; have hQ := ifQt hQ c2
    refine g_aload_n 0 dX13_readThing_11 rfl ?_
    refine g_iconst (v := 2) dX13_readThing_12 (by decide) ?_
    have h3 := hs.1; have hs := hs.2
    refine g_callV (As := [.int 2]) (st := []) 226 (c_X13_wrong E M 2 h3) mt_X13_wrong ml_X13_120 dF_Md rfl rfl sg_X13_wrong rfl (by decide) (Nat.le_of_ble_eq_true rfl) dX13_readThing_13 ?_
    rintro _ M4 ⟨rfl, hM4⟩
    have hQ := bndQ hQ M4 hM4; have hs := bndS hs M4 hM4
    exact t_X13_readThing_16 hK M4 hs hQ
theorem c_X13_readThing (E : gE) (M : gM)  (hs : s_X13_readThing M) : gC E yX13_readThing cX13_readThing 5 none (rm 9) [.ref (gla E 226)] M (fun o N => o = none ∧ N = f_X13_readThing M) :=
  gC.of (by decide +kernel) (Nat.le_of_ble_eq_true rfl) rfl (t_X13_readThing (K := fun z => z = f_X13_readThing M) (fun z hz => ⟨rfl, hz⟩) M hs rfl)
def f_X13_readLost_36 (M : gM) (x1 : Int32)  : gM :=
  bnd (f_X13_goOn M) fun M11 =>
  (bnd (f_X13_number M11 0 3) fun z13 =>
  (if (rdI z13.2 76 0 0 0) = 0 then
    (bnd (wrI z13.2 93 0 0 (nn (10 + x1)) z13.1) fun M16 =>
    (M16))
  else
    (z13.2)))
def s_X13_readLost_36 (M : gM) (x1 : Int32)  : Prop :=
  (s_X13_goOn M) ∧
  (bndP (f_X13_goOn M) fun M11 =>
  ((s_X13_number M11 0 3) ∧
  (bndP (f_X13_number M11 0 3) fun z13 =>
  (if (rdI z13.2 76 0 0 0) = 0 then
    ((vp_in (10 + x1) 65) ∧
    (bndP (wrI z13.2 93 0 0 (nn (10 + x1)) z13.1) fun M16 =>
    (True)))
  else
    (True)))))
theorem o_X13_readLost_36 (M : gM) (x1 : Int32)  : offW [71, 72, 73, 74, 75, 76, 77, 93] M (f_X13_readLost_36 M x1 ) := by
  rw [f_X13_readLost_36]
  refine offB (offR.tr ((o_X13_goOn M).mono (by decide))) (fun M11 oM11 => ?_)
  refine offZ (oM11.tr ((o_X13_number M11 0 3).mono (by decide))) (fun z13 oz13 => ?_)
  refine offI ?_ ?_
  · refine offB (oz13.wI (by decide)) (fun M16 oM16 => ?_)
    exact oM16
  · exact oz13
set_option maxRecDepth 100000 in
set_option maxHeartbeats 4000000 in
theorem t_X13_readLost_36 {E : gE} {K : gM → Prop} {Q : Option Value → gM → Prop} (hK : ∀ z : gM, K z → Q none z) (M : gM) (x1 : Int32)   (hs : s_X13_readLost_36 M x1 ) (hQ : K (f_X13_readLost_36 M x1 )) : gG E RX13 cX13_readLost 3 none (rm 9) 36 [(0, .ref (gla E 226)), (1, .int x1)] [] M Q := by
  rw [s_X13_readLost_36] at hs
  rw [f_X13_readLost_36] at hQ
  refine g_aload_n 0 dX13_readLost_36 rfl ?_
  have h10 := hs.1; have hs := hs.2
  refine g_callV (As := []) (st := []) 226 (c_X13_goOn E M h10) mt_X13_goOn ml_X13_128 dF_Md rfl rfl sg_X13_goOn rfl (by decide) (Nat.le_of_ble_eq_true rfl) dX13_readLost_37 ?_
  rintro _ M11 ⟨rfl, hM11⟩
  have hQ := bndQ hQ M11 hM11; have hs := bndS hs M11 hM11
  refine g_aload_n 0 dX13_readLost_40 rfl ?_
  refine g_iconst (v := 0) dX13_readLost_41 (by decide) ?_
  refine g_iconst (v := 3) dX13_readLost_42 (by decide) ?_
  have h12 := hs.1; have hs := hs.2
  refine g_callV (As := [.int 0, .int 3]) (st := []) 226 (c_X13_number E M11 0 3 h12) mt_X13_number ml_X13_142 dF_Md rfl rfl sg_X13_number rfl (by decide) (Nat.le_of_ble_eq_true rfl) dX13_readLost_43 ?_
  rintro _ _ ⟨rfl, rfl⟩
  obtain ⟨z13, hz13⟩ : ∃ z, z = f_X13_number M11 0 3 := ⟨_, rfl⟩
  rw [← hz13]
  have hQ := bndQ hQ z13 hz13; have hs := bndS hs z13 hz13
  refine g_istore_n _ dX13_readLost_46 (by decide) rfl ?_
  refine g_aload_n 1 dX13_readLost_47 rfl ?_
  refine g_getI 226 fd_X13_111 dF_Md rfl dX13_readLost_48 ?_
  refine g_if_ne 64 dX13_readLost_51 (by decide) (fun c14 => ?_) (fun c14 => ?_)
  · have hs := ifSf hs c14; have hQ := ifQf hQ c14
    exact g_vret rfl dX13_readLost_64 (hK _ hQ)
  · have hs := ifSt hs c14; have hQ := ifQt hQ c14
    refine g_aload_n 1 dX13_readLost_54 rfl ?_
    refine g_getR 226 233 fd_X13_28 dF_Md rfl rfl dX13_readLost_55 ?_
    refine g_bipush (v := 10) dX13_readLost_58 (by decide) ?_
    refine g_iload_n 2 dX13_readLost_60 rfl ?_
    refine g_iadd dX13_readLost_61 ?_
    refine g_iload_n 0 dX13_readLost_62 rfl ?_
    have h15 := hs.1; have hs := hs.2
    refine g_iast 233 dF_Md_newNow h15 dX13_readLost_63 (fun M16 hM16 => ?_)
    have hQ := bndQ hQ M16 hM16; have hs := bndS hs M16 hM16
    exact g_vret rfl dX13_readLost_64 (hK _ hQ)
def f_X13_readLost (M : gM) : gM :=
  bnd (f_X13_goOn M) fun M2 =>
  (bnd (f_X13_toldHere M2 2) fun z4 =>
  (if (rdI z4.2 76 0 0 0) = 0 then
    (if (rdI z4.2 93 0 0 (nn (10 + z4.1))) = (-2) then
      (f_X13_readLost_36 z4.2 z4.1)
    else
      (bnd (f_X13_wrong z4.2 3) fun M9 =>
      (f_X13_readLost_36 M9 z4.1)))
  else
    (f_X13_readLost_36 z4.2 z4.1)))
def s_X13_readLost (M : gM) : Prop :=
  (s_X13_goOn M) ∧
  (bndP (f_X13_goOn M) fun M2 =>
  ((s_X13_toldHere M2 2) ∧
  (bndP (f_X13_toldHere M2 2) fun z4 =>
  (if (rdI z4.2 76 0 0 0) = 0 then
    ((vp_in (10 + z4.1) 65) ∧
    (if (rdI z4.2 93 0 0 (nn (10 + z4.1))) = (-2) then
      (s_X13_readLost_36 z4.2 z4.1)
    else
      ((s_X13_wrong z4.2 3) ∧
      (bndP (f_X13_wrong z4.2 3) fun M9 =>
      (s_X13_readLost_36 M9 z4.1)))))
  else
    (s_X13_readLost_36 z4.2 z4.1)))))
theorem o_X13_readLost (M : gM) : offW [71, 72, 73, 74, 75, 76, 77, 93] M (f_X13_readLost M) := by
  rw [f_X13_readLost]
  refine offB (offR.tr ((o_X13_goOn M).mono (by decide))) (fun M2 oM2 => ?_)
  refine offZ (oM2.tr ((o_X13_toldHere M2 2).mono (by decide))) (fun z4 oz4 => ?_)
  refine offI ?_ ?_
  · refine offI ?_ ?_
    · exact oz4.tr (o_X13_readLost_36 z4.2 z4.1)
    · refine offB (oz4.tr ((o_X13_wrong z4.2 3).mono (by decide))) (fun M9 oM9 => ?_)
      exact oM9.tr (o_X13_readLost_36 M9 z4.1)
  · exact oz4.tr (o_X13_readLost_36 z4.2 z4.1)
set_option maxRecDepth 100000 in
set_option maxHeartbeats 4000000 in
theorem t_X13_readLost {E : gE} {K : gM → Prop} {Q : Option Value → gM → Prop} (hK : ∀ z : gM, K z → Q none z) (M : gM)  (hs : s_X13_readLost M) (hQ : K (f_X13_readLost M)) : gG E RX13 cX13_readLost 3 none (rm 9) 0 [(0, .ref (gla E 226))] [] M Q := by
  rw [s_X13_readLost] at hs
  rw [f_X13_readLost] at hQ
  refine g_aload_n 0 dX13_readLost_0 rfl ?_
  have h1 := hs.1; have hs := hs.2
  refine g_callV (As := []) (st := []) 226 (c_X13_goOn E M h1) mt_X13_goOn ml_X13_128 dF_Md rfl rfl sg_X13_goOn rfl (by decide) (Nat.le_of_ble_eq_true rfl) dX13_readLost_1 ?_
  rintro _ M2 ⟨rfl, hM2⟩
  have hQ := bndQ hQ M2 hM2; have hs := bndS hs M2 hM2
  refine g_aload_n 0 dX13_readLost_4 rfl ?_
  refine g_iconst (v := 2) dX13_readLost_5 (by decide) ?_
  have h3 := hs.1; have hs := hs.2
  refine g_callV (As := [.int 2]) (st := []) 226 (c_X13_toldHere E M2 2 h3) mt_X13_toldHere ml_X13_139 dF_Md rfl rfl sg_X13_toldHere rfl (by decide) (Nat.le_of_ble_eq_true rfl) dX13_readLost_6 ?_
  rintro _ _ ⟨rfl, rfl⟩
  obtain ⟨z4, hz4⟩ : ∃ z, z = f_X13_toldHere M2 2 := ⟨_, rfl⟩
  rw [← hz4]
  have hQ := bndQ hQ z4 hz4; have hs := bndS hs z4 hz4
  refine g_istore_n _ dX13_readLost_9 (by decide) rfl ?_
  refine g_aload_n 1 dX13_readLost_10 rfl ?_
  refine g_getI 226 fd_X13_111 dF_Md rfl dX13_readLost_11 ?_
  refine g_if_ne 36 dX13_readLost_14 (by decide) (fun c5 => ?_) (fun c5 => ?_)
  · have hs := ifSf hs c5; have hQ := ifQf hQ c5
    refine g_sub [1, 0] _ rfl ?_
    exact t_X13_readLost_36 hK z4.2 z4.1 hs hQ
  · have hs := ifSt hs c5; have hQ := ifQt hQ c5
    refine g_aload_n 1 dX13_readLost_17 rfl ?_
    refine g_getR 226 233 fd_X13_28 dF_Md rfl rfl dX13_readLost_18 ?_
    refine g_bipush (v := 10) dX13_readLost_21 (by decide) ?_
    refine g_iload_n 0 dX13_readLost_23 rfl ?_
    refine g_iadd dX13_readLost_24 ?_
    have h6 := hs.1; have hs := hs.2
    refine g_iald 233 dF_Md_newNow h6 dX13_readLost_25 ?_
    refine g_bipush (v := (-2)) dX13_readLost_26 (by decide) ?_
    refine g_icmp_eq 36 dX13_readLost_28 (by decide) (fun c7 => ?_) (fun c7 => ?_)
    · have hs := ifSt hs c7; have hQ := ifQt hQ c7
      refine g_sub [1, 0] _ rfl ?_
      exact t_X13_readLost_36 hK z4.2 z4.1 hs hQ
    · have hs := ifSf hs c7; have hQ := ifQf hQ c7
      refine g_aload_n 1 dX13_readLost_31 rfl ?_
      refine g_iconst (v := 3) dX13_readLost_32 (by decide) ?_
      have h8 := hs.1; have hs := hs.2
      refine g_callV (As := [.int 3]) (st := []) 226 (c_X13_wrong E z4.2 3 h8) mt_X13_wrong ml_X13_120 dF_Md rfl rfl sg_X13_wrong rfl (by decide) (Nat.le_of_ble_eq_true rfl) dX13_readLost_33 ?_
      rintro _ M9 ⟨rfl, hM9⟩
      have hQ := bndQ hQ M9 hM9; have hs := bndS hs M9 hM9
      refine g_sub [1, 0] _ rfl ?_
      exact t_X13_readLost_36 hK M9 z4.1 hs hQ
theorem c_X13_readLost (E : gE) (M : gM)  (hs : s_X13_readLost M) : gC E yX13_readLost cX13_readLost 3 none (rm 9) [.ref (gla E 226)] M (fun o N => o = none ∧ N = f_X13_readLost M) :=
  gC.of (by decide +kernel) (Nat.le_of_ble_eq_true rfl) rfl (t_X13_readLost (K := fun z => z = f_X13_readLost M) (fun z hz => ⟨rfl, hz⟩) M hs rfl)
def f_X13_readDies_35 (M : gM) (x1 : Int32)  : gM :=
  bnd (f_X13_goOn M) fun M11 =>
  (bnd (f_X13_number M11 0 9999) fun z13 =>
  (if (rdI z13.2 76 0 0 0) = 0 then
    (bnd (wrI z13.2 93 0 0 (nn (0 + x1)) z13.1) fun M16 =>
    (M16))
  else
    (z13.2)))
def s_X13_readDies_35 (M : gM) (x1 : Int32)  : Prop :=
  (s_X13_goOn M) ∧
  (bndP (f_X13_goOn M) fun M11 =>
  ((s_X13_number M11 0 9999) ∧
  (bndP (f_X13_number M11 0 9999) fun z13 =>
  (if (rdI z13.2 76 0 0 0) = 0 then
    ((vp_in (0 + x1) 65) ∧
    (bndP (wrI z13.2 93 0 0 (nn (0 + x1)) z13.1) fun M16 =>
    (True)))
  else
    (True)))))
theorem o_X13_readDies_35 (M : gM) (x1 : Int32)  : offW [71, 72, 73, 74, 75, 76, 77, 93] M (f_X13_readDies_35 M x1 ) := by
  rw [f_X13_readDies_35]
  refine offB (offR.tr ((o_X13_goOn M).mono (by decide))) (fun M11 oM11 => ?_)
  refine offZ (oM11.tr ((o_X13_number M11 0 9999).mono (by decide))) (fun z13 oz13 => ?_)
  refine offI ?_ ?_
  · refine offB (oz13.wI (by decide)) (fun M16 oM16 => ?_)
    exact oM16
  · exact oz13
set_option maxRecDepth 100000 in
set_option maxHeartbeats 4000000 in
theorem t_X13_readDies_35 {E : gE} {K : gM → Prop} {Q : Option Value → gM → Prop} (hK : ∀ z : gM, K z → Q none z) (M : gM) (x1 : Int32)   (hs : s_X13_readDies_35 M x1 ) (hQ : K (f_X13_readDies_35 M x1 )) : gG E RX13 cX13_readDies 3 none (rm 9) 35 [(0, .ref (gla E 226)), (1, .int x1)] [] M Q := by
  rw [s_X13_readDies_35] at hs
  rw [f_X13_readDies_35] at hQ
  refine g_aload_n 0 dX13_readDies_35 rfl ?_
  have h10 := hs.1; have hs := hs.2
  refine g_callV (As := []) (st := []) 226 (c_X13_goOn E M h10) mt_X13_goOn ml_X13_128 dF_Md rfl rfl sg_X13_goOn rfl (by decide) (Nat.le_of_ble_eq_true rfl) dX13_readDies_36 ?_
  rintro _ M11 ⟨rfl, hM11⟩
  have hQ := bndQ hQ M11 hM11; have hs := bndS hs M11 hM11
  refine g_aload_n 0 dX13_readDies_39 rfl ?_
  refine g_iconst (v := 0) dX13_readDies_40 (by decide) ?_
  refine g_sipush (v := 9999) dX13_readDies_41 (by decide) ?_
  have h12 := hs.1; have hs := hs.2
  refine g_callV (As := [.int 0, .int 9999]) (st := []) 226 (c_X13_number E M11 0 9999 h12) mt_X13_number ml_X13_142 dF_Md rfl rfl sg_X13_number rfl (by decide) (Nat.le_of_ble_eq_true rfl) dX13_readDies_44 ?_
  rintro _ _ ⟨rfl, rfl⟩
  obtain ⟨z13, hz13⟩ : ∃ z, z = f_X13_number M11 0 9999 := ⟨_, rfl⟩
  rw [← hz13]
  have hQ := bndQ hQ z13 hz13; have hs := bndS hs z13 hz13
  refine g_istore_n _ dX13_readDies_47 (by decide) rfl ?_
  refine g_aload_n 1 dX13_readDies_48 rfl ?_
  refine g_getI 226 fd_X13_111 dF_Md rfl dX13_readDies_49 ?_
  refine g_if_ne 64 dX13_readDies_52 (by decide) (fun c14 => ?_) (fun c14 => ?_)
  · have hs := ifSf hs c14; have hQ := ifQf hQ c14
    exact g_vret rfl dX13_readDies_64 (hK _ hQ)
  · have hs := ifSt hs c14; have hQ := ifQt hQ c14
    refine g_aload_n 1 dX13_readDies_55 rfl ?_
    refine g_getR 226 233 fd_X13_28 dF_Md rfl rfl dX13_readDies_56 ?_
    refine g_iconst (v := 0) dX13_readDies_59 (by decide) ?_
    refine g_iload_n 2 dX13_readDies_60 rfl ?_
    refine g_iadd dX13_readDies_61 ?_
    refine g_iload_n 0 dX13_readDies_62 rfl ?_
    have h15 := hs.1; have hs := hs.2
    refine g_iast 233 dF_Md_newNow h15 dX13_readDies_63 (fun M16 hM16 => ?_)
    have hQ := bndQ hQ M16 hM16; have hs := bndS hs M16 hM16
    exact g_vret rfl dX13_readDies_64 (hK _ hQ)
def f_X13_readDies (M : gM) : gM :=
  bnd (f_X13_goOn M) fun M2 =>
  (bnd (f_X13_toldHere M2 0) fun z4 =>
  (if (rdI z4.2 76 0 0 0) = 0 then
    (if (rdI z4.2 93 0 0 (nn (0 + z4.1))) = (-2) then
      (f_X13_readDies_35 z4.2 z4.1)
    else
      (bnd (f_X13_wrong z4.2 3) fun M9 =>
      (f_X13_readDies_35 M9 z4.1)))
  else
    (f_X13_readDies_35 z4.2 z4.1)))
def s_X13_readDies (M : gM) : Prop :=
  (s_X13_goOn M) ∧
  (bndP (f_X13_goOn M) fun M2 =>
  ((s_X13_toldHere M2 0) ∧
  (bndP (f_X13_toldHere M2 0) fun z4 =>
  (if (rdI z4.2 76 0 0 0) = 0 then
    ((vp_in (0 + z4.1) 65) ∧
    (if (rdI z4.2 93 0 0 (nn (0 + z4.1))) = (-2) then
      (s_X13_readDies_35 z4.2 z4.1)
    else
      ((s_X13_wrong z4.2 3) ∧
      (bndP (f_X13_wrong z4.2 3) fun M9 =>
      (s_X13_readDies_35 M9 z4.1)))))
  else
    (s_X13_readDies_35 z4.2 z4.1)))))
theorem o_X13_readDies (M : gM) : offW [71, 72, 73, 74, 75, 76, 77, 93] M (f_X13_readDies M) := by
  rw [f_X13_readDies]
  refine offB (offR.tr ((o_X13_goOn M).mono (by decide))) (fun M2 oM2 => ?_)
  refine offZ (oM2.tr ((o_X13_toldHere M2 0).mono (by decide))) (fun z4 oz4 => ?_)
  refine offI ?_ ?_
  · refine offI ?_ ?_
    · exact oz4.tr (o_X13_readDies_35 z4.2 z4.1)
    · refine offB (oz4.tr ((o_X13_wrong z4.2 3).mono (by decide))) (fun M9 oM9 => ?_)
      exact oM9.tr (o_X13_readDies_35 M9 z4.1)
  · exact oz4.tr (o_X13_readDies_35 z4.2 z4.1)
set_option maxRecDepth 100000 in
set_option maxHeartbeats 4000000 in
theorem t_X13_readDies {E : gE} {K : gM → Prop} {Q : Option Value → gM → Prop} (hK : ∀ z : gM, K z → Q none z) (M : gM)  (hs : s_X13_readDies M) (hQ : K (f_X13_readDies M)) : gG E RX13 cX13_readDies 3 none (rm 9) 0 [(0, .ref (gla E 226))] [] M Q := by
  rw [s_X13_readDies] at hs
  rw [f_X13_readDies] at hQ
  refine g_aload_n 0 dX13_readDies_0 rfl ?_
  have h1 := hs.1; have hs := hs.2
  refine g_callV (As := []) (st := []) 226 (c_X13_goOn E M h1) mt_X13_goOn ml_X13_128 dF_Md rfl rfl sg_X13_goOn rfl (by decide) (Nat.le_of_ble_eq_true rfl) dX13_readDies_1 ?_
  rintro _ M2 ⟨rfl, hM2⟩
  have hQ := bndQ hQ M2 hM2; have hs := bndS hs M2 hM2
  refine g_aload_n 0 dX13_readDies_4 rfl ?_
  refine g_iconst (v := 0) dX13_readDies_5 (by decide) ?_
  have h3 := hs.1; have hs := hs.2
  refine g_callV (As := [.int 0]) (st := []) 226 (c_X13_toldHere E M2 0 h3) mt_X13_toldHere ml_X13_139 dF_Md rfl rfl sg_X13_toldHere rfl (by decide) (Nat.le_of_ble_eq_true rfl) dX13_readDies_6 ?_
  rintro _ _ ⟨rfl, rfl⟩
  obtain ⟨z4, hz4⟩ : ∃ z, z = f_X13_toldHere M2 0 := ⟨_, rfl⟩
  rw [← hz4]
  have hQ := bndQ hQ z4 hz4; have hs := bndS hs z4 hz4
  refine g_istore_n _ dX13_readDies_9 (by decide) rfl ?_
  refine g_aload_n 1 dX13_readDies_10 rfl ?_
  refine g_getI 226 fd_X13_111 dF_Md rfl dX13_readDies_11 ?_
  refine g_if_ne 35 dX13_readDies_14 (by decide) (fun c5 => ?_) (fun c5 => ?_)
  · have hs := ifSf hs c5; have hQ := ifQf hQ c5
    refine g_sub [1, 0] _ rfl ?_
    exact t_X13_readDies_35 hK z4.2 z4.1 hs hQ
  · have hs := ifSt hs c5; have hQ := ifQt hQ c5
    refine g_aload_n 1 dX13_readDies_17 rfl ?_
    refine g_getR 226 233 fd_X13_28 dF_Md rfl rfl dX13_readDies_18 ?_
    refine g_iconst (v := 0) dX13_readDies_21 (by decide) ?_
    refine g_iload_n 0 dX13_readDies_22 rfl ?_
    refine g_iadd dX13_readDies_23 ?_
    have h6 := hs.1; have hs := hs.2
    refine g_iald 233 dF_Md_newNow h6 dX13_readDies_24 ?_
    refine g_bipush (v := (-2)) dX13_readDies_25 (by decide) ?_
    refine g_icmp_eq 35 dX13_readDies_27 (by decide) (fun c7 => ?_) (fun c7 => ?_)
    · have hs := ifSt hs c7; have hQ := ifQt hQ c7
      refine g_sub [1, 0] _ rfl ?_
      exact t_X13_readDies_35 hK z4.2 z4.1 hs hQ
    · have hs := ifSf hs c7; have hQ := ifQf hQ c7
      refine g_aload_n 1 dX13_readDies_30 rfl ?_
      refine g_iconst (v := 3) dX13_readDies_31 (by decide) ?_
      have h8 := hs.1; have hs := hs.2
      refine g_callV (As := [.int 3]) (st := []) 226 (c_X13_wrong E z4.2 3 h8) mt_X13_wrong ml_X13_120 dF_Md rfl rfl sg_X13_wrong rfl (by decide) (Nat.le_of_ble_eq_true rfl) dX13_readDies_32 ?_
      rintro _ M9 ⟨rfl, hM9⟩
      have hQ := bndQ hQ M9 hM9; have hs := bndS hs M9 hM9
      refine g_sub [1, 0] _ rfl ?_
      exact t_X13_readDies_35 hK M9 z4.1 hs hQ
theorem c_X13_readDies (E : gE) (M : gM)  (hs : s_X13_readDies M) : gC E yX13_readDies cX13_readDies 3 none (rm 9) [.ref (gla E 226)] M (fun o N => o = none ∧ N = f_X13_readDies M) :=
  gC.of (by decide +kernel) (Nat.le_of_ble_eq_true rfl) rfl (t_X13_readDies (K := fun z => z = f_X13_readDies M) (fun z hz => ⟨rfl, hz⟩) M hs rfl)
def f_X13_taker (M : gM) (x1 : Int32) (x2 : Int32) : Int32 × gM :=
  bnd (wrI M 67 0 0 0 0) fun M1 =>
  (if (f_X13_isPerson M1 x1) = 0 then
    (((-1), M1))
  else
    (if (f_X13_isThing M1 x2) = 0 then
      (((-1), M1))
    else
      (if (f_X13_diesOn M1 x1) = (-2) then
        (((-3), M1))
      else
        (bnd (f_X13_laysTaker M1 x1 x2) fun M9 =>
        ((rdI M9 80 0 0 0, M9))))))
def s_X13_taker (M : gM) (x1 : Int32) (x2 : Int32) : Prop :=
  bndP (wrI M 67 0 0 0 0) fun M1 =>
  ((s_X13_isPerson M1 x1) ∧
  (if (f_X13_isPerson M1 x1) = 0 then
    (True)
  else
    ((s_X13_isThing M1 x2) ∧
    (if (f_X13_isThing M1 x2) = 0 then
      (True)
    else
      ((s_X13_diesOn M1 x1) ∧
      (if (f_X13_diesOn M1 x1) = (-2) then
        (True)
      else
        ((s_X13_laysTaker M1 x1 x2) ∧
        (bndP (f_X13_laysTaker M1 x1 x2) fun M9 =>
        (True)))))))))
theorem o_X13_taker (M : gM) (x1 : Int32) (x2 : Int32) : offW [67, 80, 81] M (f_X13_taker M x1 x2).2 := by
  rw [f_X13_taker]
  refine offB2 (offR.wI (by decide)) (fun M1 oM1 => ?_)
  refine offI2 ?_ ?_
  · exact oM1
  · refine offI2 ?_ ?_
    · exact oM1
    · refine offI2 ?_ ?_
      · exact oM1
      · refine offB2 (oM1.tr ((o_X13_laysTaker M1 x1 x2).mono (by decide))) (fun M9 oM9 => ?_)
        exact oM9
set_option maxRecDepth 100000 in
set_option maxHeartbeats 4000000 in
theorem t_X13_taker {E : gE} {K : Int32 × gM → Prop} {Q : Option Value → gM → Prop} (hK : ∀ z : Int32 × gM, K z → Q (some (.int z.1)) z.2) (M : gM) (x1 : Int32) (x2 : Int32)  (hs : s_X13_taker M x1 x2) (hQ : K (f_X13_taker M x1 x2)) : gG E RX13 cX13_taker 3 (some .int) (rm 9) 0 [(0, .ref (gla E 226)), (1, .int x1), (2, .int x2)] [] M Q := by
  rw [s_X13_taker] at hs
  rw [f_X13_taker] at hQ
  refine g_aload_n 0 dX13_taker_0 rfl ?_
  refine g_iconst (v := 0) dX13_taker_1 (by decide) ?_
  refine g_putI 226 fd_X13_61 dF_Md rfl dX13_taker_2 (fun M1 hM1 => ?_)
  have hQ := bndQ hQ M1 hM1; have hs := bndS hs M1 hM1
  refine g_aload_n 0 dX13_taker_5 rfl ?_
  refine g_iload_n 1 dX13_taker_6 rfl ?_
  have h2 := hs.1; have hs := hs.2
  refine g_callV (As := [.int x1]) (st := []) 226 (c_X13_isPerson E M1 x1 h2) mt_X13_isPerson ml_X13_206 dF_Md rfl rfl sg_X13_isPerson rfl (by decide) (Nat.le_of_ble_eq_true rfl) dX13_taker_7 ?_
  rintro _ _ ⟨q1, q2⟩; rw [q1, q2]; clear q1 q2
  refine g_if_eq 21 dX13_taker_10 (by decide) (fun c3 => ?_) (fun c3 => ?_)
  · have hs := ifSt hs c3; have hQ := ifQt hQ c3
    refine g_iconst (v := (-1)) dX13_taker_21 (by decide) ?_
    exact g_iret rfl dX13_taker_22 (hK _ hQ)
  · have hs := ifSf hs c3; have hQ := ifQf hQ c3
    refine g_aload_n 0 dX13_taker_13 rfl ?_
    refine g_iload_n 2 dX13_taker_14 rfl ?_
    have h4 := hs.1; have hs := hs.2
    refine g_callV (As := [.int x2]) (st := []) 226 (c_X13_isThing E M1 x2 h4) mt_X13_isThing ml_X13_221 dF_Md rfl rfl sg_X13_isThing rfl (by decide) (Nat.le_of_ble_eq_true rfl) dX13_taker_15 ?_
    rintro _ _ ⟨q1, q2⟩; rw [q1, q2]; clear q1 q2
    refine g_if_ne 23 dX13_taker_18 (by decide) (fun c5 => ?_) (fun c5 => ?_)
    · have hs := ifSf hs c5; have hQ := ifQf hQ c5
      refine g_aload_n 0 dX13_taker_23 rfl ?_
      refine g_iload_n 1 dX13_taker_24 rfl ?_
      have h6 := hs.1; have hs := hs.2
      refine g_callV (As := [.int x1]) (st := []) 226 (c_X13_diesOn E M1 x1 h6) mt_X13_diesOn ml_X13_203 dF_Md rfl rfl sg_X13_diesOn rfl (by decide) (Nat.le_of_ble_eq_true rfl) dX13_taker_25 ?_
      rintro _ _ ⟨q1, q2⟩; rw [q1, q2]; clear q1 q2
      refine g_bipush (v := (-2)) dX13_taker_28 (by decide) ?_
      refine g_icmp_ne 36 dX13_taker_30 (by decide) (fun c7 => ?_) (fun c7 => ?_)
      · have hs := ifSf hs c7; have hQ := ifQf hQ c7
        refine g_aload_n 0 dX13_taker_36 rfl ?_
        refine g_iload_n 1 dX13_taker_37 rfl ?_
        refine g_iload_n 2 dX13_taker_38 rfl ?_
        have h8 := hs.1; have hs := hs.2
        refine g_callV (As := [.int x1, .int x2]) (st := []) 226 (c_X13_laysTaker E M1 x1 x2 h8) mt_X13_laysTaker ml_X13_284 dF_Md rfl rfl sg_X13_laysTaker rfl (by decide) (Nat.le_of_ble_eq_true rfl) dX13_taker_39 ?_
        rintro _ M9 ⟨rfl, hM9⟩
        have hQ := bndQ hQ M9 hM9; have hs := bndS hs M9 hM9
        refine g_aload_n 0 dX13_taker_42 rfl ?_
        refine g_getI 226 fd_X13_274 dF_Md rfl dX13_taker_43 ?_
        exact g_iret rfl dX13_taker_46 (hK _ hQ)
      · have hs := ifSt hs c7; have hQ := ifQt hQ c7
        refine g_bipush (v := (-3)) dX13_taker_33 (by decide) ?_
        exact g_iret rfl dX13_taker_35 (hK _ hQ)
    · have hs := ifSt hs c5; have hQ := ifQt hQ c5
      refine g_iconst (v := (-1)) dX13_taker_21 (by decide) ?_
      exact g_iret rfl dX13_taker_22 (hK _ hQ)
theorem c_X13_taker (E : gE) (M : gM) (x1 : Int32) (x2 : Int32) (hs : s_X13_taker M x1 x2) : gC E yX13_taker cX13_taker 3 (some .int) (rm 9) [.ref (gla E 226), .int x1, .int x2] M (fun o N => o = some (.int (f_X13_taker M x1 x2).1) ∧ N = (f_X13_taker M x1 x2).2) :=
  gC.of (by decide +kernel) (Nat.le_of_ble_eq_true rfl) rfl (t_X13_taker (K := fun z => z = f_X13_taker M x1 x2) (fun z hz => by rw [hz]; exact ⟨rfl, rfl⟩) M x1 x2 hs rfl)
def f_X13_takerBy_ (M : gM) (x1 : Int32) (x2 : Int32) : Int32 × gM :=
  bnd (wrI M 67 0 0 0 0) fun M1 =>
  (if (f_X13_isPerson M1 x1) = 0 then
    (((-1), M1))
  else
    (if (f_X13_isThing M1 x2) = 0 then
      (((-1), M1))
    else
      (if (f_X13_diesOn M1 x1) = (-2) then
        (((-3), M1))
      else
        (bnd (f_X13_laysTaker M1 x1 x2) fun M9 =>
        ((rdI M9 81 0 0 0, M9))))))
def s_X13_takerBy_ (M : gM) (x1 : Int32) (x2 : Int32) : Prop :=
  bndP (wrI M 67 0 0 0 0) fun M1 =>
  ((s_X13_isPerson M1 x1) ∧
  (if (f_X13_isPerson M1 x1) = 0 then
    (True)
  else
    ((s_X13_isThing M1 x2) ∧
    (if (f_X13_isThing M1 x2) = 0 then
      (True)
    else
      ((s_X13_diesOn M1 x1) ∧
      (if (f_X13_diesOn M1 x1) = (-2) then
        (True)
      else
        ((s_X13_laysTaker M1 x1 x2) ∧
        (bndP (f_X13_laysTaker M1 x1 x2) fun M9 =>
        (True)))))))))
theorem o_X13_takerBy_ (M : gM) (x1 : Int32) (x2 : Int32) : offW [67, 80, 81] M (f_X13_takerBy_ M x1 x2).2 := by
  rw [f_X13_takerBy_]
  refine offB2 (offR.wI (by decide)) (fun M1 oM1 => ?_)
  refine offI2 ?_ ?_
  · exact oM1
  · refine offI2 ?_ ?_
    · exact oM1
    · refine offI2 ?_ ?_
      · exact oM1
      · refine offB2 (oM1.tr ((o_X13_laysTaker M1 x1 x2).mono (by decide))) (fun M9 oM9 => ?_)
        exact oM9
set_option maxRecDepth 100000 in
set_option maxHeartbeats 4000000 in
theorem t_X13_takerBy_ {E : gE} {K : Int32 × gM → Prop} {Q : Option Value → gM → Prop} (hK : ∀ z : Int32 × gM, K z → Q (some (.int z.1)) z.2) (M : gM) (x1 : Int32) (x2 : Int32)  (hs : s_X13_takerBy_ M x1 x2) (hQ : K (f_X13_takerBy_ M x1 x2)) : gG E RX13 cX13_takerBy_ 3 (some .int) (rm 9) 0 [(0, .ref (gla E 226)), (1, .int x1), (2, .int x2)] [] M Q := by
  rw [s_X13_takerBy_] at hs
  rw [f_X13_takerBy_] at hQ
  refine g_aload_n 0 dX13_takerBy__0 rfl ?_
  refine g_iconst (v := 0) dX13_takerBy__1 (by decide) ?_
  refine g_putI 226 fd_X13_61 dF_Md rfl dX13_takerBy__2 (fun M1 hM1 => ?_)
  have hQ := bndQ hQ M1 hM1; have hs := bndS hs M1 hM1
  refine g_aload_n 0 dX13_takerBy__5 rfl ?_
  refine g_iload_n 1 dX13_takerBy__6 rfl ?_
  have h2 := hs.1; have hs := hs.2
  refine g_callV (As := [.int x1]) (st := []) 226 (c_X13_isPerson E M1 x1 h2) mt_X13_isPerson ml_X13_206 dF_Md rfl rfl sg_X13_isPerson rfl (by decide) (Nat.le_of_ble_eq_true rfl) dX13_takerBy__7 ?_
  rintro _ _ ⟨q1, q2⟩; rw [q1, q2]; clear q1 q2
  refine g_if_eq 21 dX13_takerBy__10 (by decide) (fun c3 => ?_) (fun c3 => ?_)
  · have hs := ifSt hs c3; have hQ := ifQt hQ c3
    refine g_iconst (v := (-1)) dX13_takerBy__21 (by decide) ?_
    exact g_iret rfl dX13_takerBy__22 (hK _ hQ)
  · have hs := ifSf hs c3; have hQ := ifQf hQ c3
    refine g_aload_n 0 dX13_takerBy__13 rfl ?_
    refine g_iload_n 2 dX13_takerBy__14 rfl ?_
    have h4 := hs.1; have hs := hs.2
    refine g_callV (As := [.int x2]) (st := []) 226 (c_X13_isThing E M1 x2 h4) mt_X13_isThing ml_X13_221 dF_Md rfl rfl sg_X13_isThing rfl (by decide) (Nat.le_of_ble_eq_true rfl) dX13_takerBy__15 ?_
    rintro _ _ ⟨q1, q2⟩; rw [q1, q2]; clear q1 q2
    refine g_if_ne 23 dX13_takerBy__18 (by decide) (fun c5 => ?_) (fun c5 => ?_)
    · have hs := ifSf hs c5; have hQ := ifQf hQ c5
      refine g_aload_n 0 dX13_takerBy__23 rfl ?_
      refine g_iload_n 1 dX13_takerBy__24 rfl ?_
      have h6 := hs.1; have hs := hs.2
      refine g_callV (As := [.int x1]) (st := []) 226 (c_X13_diesOn E M1 x1 h6) mt_X13_diesOn ml_X13_203 dF_Md rfl rfl sg_X13_diesOn rfl (by decide) (Nat.le_of_ble_eq_true rfl) dX13_takerBy__25 ?_
      rintro _ _ ⟨q1, q2⟩; rw [q1, q2]; clear q1 q2
      refine g_bipush (v := (-2)) dX13_takerBy__28 (by decide) ?_
      refine g_icmp_ne 36 dX13_takerBy__30 (by decide) (fun c7 => ?_) (fun c7 => ?_)
      · have hs := ifSf hs c7; have hQ := ifQf hQ c7
        refine g_aload_n 0 dX13_takerBy__36 rfl ?_
        refine g_iload_n 1 dX13_takerBy__37 rfl ?_
        refine g_iload_n 2 dX13_takerBy__38 rfl ?_
        have h8 := hs.1; have hs := hs.2
        refine g_callV (As := [.int x1, .int x2]) (st := []) 226 (c_X13_laysTaker E M1 x1 x2 h8) mt_X13_laysTaker ml_X13_284 dF_Md rfl rfl sg_X13_laysTaker rfl (by decide) (Nat.le_of_ble_eq_true rfl) dX13_takerBy__39 ?_
        rintro _ M9 ⟨rfl, hM9⟩
        have hQ := bndQ hQ M9 hM9; have hs := bndS hs M9 hM9
        refine g_aload_n 0 dX13_takerBy__42 rfl ?_
        refine g_getI 226 fd_X13_277 dF_Md rfl dX13_takerBy__43 ?_
        exact g_iret rfl dX13_takerBy__46 (hK _ hQ)
      · have hs := ifSt hs c7; have hQ := ifQt hQ c7
        refine g_bipush (v := (-3)) dX13_takerBy__33 (by decide) ?_
        exact g_iret rfl dX13_takerBy__35 (hK _ hQ)
    · have hs := ifSt hs c5; have hQ := ifQt hQ c5
      refine g_iconst (v := (-1)) dX13_takerBy__21 (by decide) ?_
      exact g_iret rfl dX13_takerBy__22 (hK _ hQ)
theorem c_X13_takerBy_ (E : gE) (M : gM) (x1 : Int32) (x2 : Int32) (hs : s_X13_takerBy_ M x1 x2) : gC E yX13_takerBy_ cX13_takerBy_ 3 (some .int) (rm 9) [.ref (gla E 226), .int x1, .int x2] M (fun o N => o = some (.int (f_X13_takerBy_ M x1 x2).1) ∧ N = (f_X13_takerBy_ M x1 x2).2) :=
  gC.of (by decide +kernel) (Nat.le_of_ble_eq_true rfl) rfl (t_X13_takerBy_ (K := fun z => z = f_X13_takerBy_ M x1 x2) (fun z hz => by rw [hz]; exact ⟨rfl, rfl⟩) M x1 x2 hs rfl)
def f_X13_goesOn_134 (M : gM) (x3 : Int64) (x5 : Int64) (x7 : Int32)  : gM :=
  bnd (f_X13_comes M x7 x3 x5) fun M27 =>
  (M27)
def s_X13_goesOn_134 (M : gM) (x3 : Int64) (x5 : Int64) (x7 : Int32)  : Prop :=
  (s_X13_comes M x7 x3 x5) ∧
  (bndP (f_X13_comes M x7 x3 x5) fun M27 =>
  (True))
theorem o_X13_goesOn_134 (M : gM) (x3 : Int64) (x5 : Int64) (x7 : Int32)  : offW [80, 81, 97, 98] M (f_X13_goesOn_134 M x3 x5 x7 ) := by
  rw [f_X13_goesOn_134]
  refine offB (offR.tr ((o_X13_comes M x7 x3 x5).mono (by decide))) (fun M27 oM27 => ?_)
  exact oM27
set_option maxRecDepth 100000 in
set_option maxHeartbeats 4000000 in
theorem t_X13_goesOn_134 {E : gE} {K : gM → Prop} {Q : Option Value → gM → Prop} (hK : ∀ z : gM, K z → Q none z) (M : gM) (x3 : Int64) (x5 : Int64) (x7 : Int32)   (hs : s_X13_goesOn_134 M x3 x5 x7 ) (hQ : K (f_X13_goesOn_134 M x3 x5 x7 )) : gG E RX13 cX13_goesOn 9 none (rm 9) 134 [(0, .ref (gla E 226)), (3, .long x3), (5, .long x5), (7, .int x7)] [] M Q := by
  rw [s_X13_goesOn_134] at hs
  rw [f_X13_goesOn_134] at hQ
  refine g_aload_n 0 dX13_goesOn_134 rfl ?_
  refine g_iload 3 dX13_goesOn_135 rfl ?_
  refine g_lload_n 1 dX13_goesOn_137 rfl ?_
  refine g_lload 2 dX13_goesOn_138 rfl ?_
  have h26 := hs.1; have hs := hs.2
  refine g_callV (As := [.int x7, .long x3, .long x5]) (st := []) 226 (c_X13_comes E M x7 x3 x5 h26) mt_X13_comes ml_X13_297 dF_Md rfl rfl sg_X13_comes rfl (by decide) (Nat.le_of_ble_eq_true rfl) dX13_goesOn_140 ?_
  rintro _ M27 ⟨rfl, hM27⟩
  have hQ := bndQ hQ M27 hM27; have hs := bndS hs M27 hM27
  exact g_vret rfl dX13_goesOn_143 (hK _ hQ)
def f_X13_goesOn (M : gM) (x1 : Int32) (x2 : Int32) : gM :=
  if (lg_cmp (rdJ M 97 0 0 (nn x1)) 0) = 0 then
    (M)
  else
    (bnd (wrJ M 97 0 0 (nn x1) 0) fun M5 =>
    (bnd (wrJ M5 98 0 0 (nn x1) 1) fun M7 =>
    (bnd (f_X13_laysTaker M7 x1 x2) fun M9 =>
    (bnd (f_X13_living_ M9 (f_X13_childrenOf M9 x1) (f_X13_diesOn M9 x1) 0) fun v13 =>
    (if (rdI M9 80 0 0 0) = (-2) then
      (bnd (f_X13_alike M9 (f_X13_heirsOf M9 x1) (rdJ M 97 0 0 (nn x1)) (rdJ M 98 0 0 (nn x1))) fun M25 =>
      (M25))
    else
      (if (f_X13_has M9 (f_X13_landOf M9 x2) 4) = 0 then
        (f_X13_goesOn_134 M9 (rdJ M 97 0 0 (nn x1)) (rdJ M 98 0 0 (nn x1)) (rdI M9 80 0 0 0))
      else
        (if v13 = 0 then
          (f_X13_goesOn_134 M9 (rdJ M 97 0 0 (nn x1)) (rdJ M 98 0 0 (nn x1)) (rdI M9 80 0 0 0))
        else
          (bnd (f_X13_alike M9 v13 (rdJ M 97 0 0 (nn x1)) (2 * (rdJ M 98 0 0 (nn x1)))) fun M20 =>
          (bnd (f_X13_comes M20 (rdI M9 80 0 0 0) (rdJ M 97 0 0 (nn x1)) (2 * (rdJ M 98 0 0 (nn x1)))) fun M22 =>
          (M22))))))))))
def s_X13_goesOn (M : gM) (x1 : Int32) (x2 : Int32) : Prop :=
  (vp_in x1 11) ∧
  ((vp_in x1 11) ∧
  (if (lg_cmp (rdJ M 97 0 0 (nn x1)) 0) = 0 then
    (True)
  else
    ((vp_in x1 11) ∧
    (bndP (wrJ M 97 0 0 (nn x1) 0) fun M5 =>
    ((vp_in x1 11) ∧
    (bndP (wrJ M5 98 0 0 (nn x1) 1) fun M7 =>
    ((s_X13_laysTaker M7 x1 x2) ∧
    (bndP (f_X13_laysTaker M7 x1 x2) fun M9 =>
    ((s_X13_childrenOf M9 x1) ∧
    ((s_X13_diesOn M9 x1) ∧
    ((s_X13_living_ M9 (f_X13_childrenOf M9 x1) (f_X13_diesOn M9 x1) 0) ∧
    (bndP (f_X13_living_ M9 (f_X13_childrenOf M9 x1) (f_X13_diesOn M9 x1) 0) fun v13 =>
    (if (rdI M9 80 0 0 0) = (-2) then
      ((s_X13_heirsOf M9 x1) ∧
      ((s_X13_alike M9 (f_X13_heirsOf M9 x1) (rdJ M 97 0 0 (nn x1)) (rdJ M 98 0 0 (nn x1))) ∧
      (bndP (f_X13_alike M9 (f_X13_heirsOf M9 x1) (rdJ M 97 0 0 (nn x1)) (rdJ M 98 0 0 (nn x1))) fun M25 =>
      (True))))
    else
      ((s_X13_landOf M9 x2) ∧
      ((s_X13_has M9 (f_X13_landOf M9 x2) 4) ∧
      (if (f_X13_has M9 (f_X13_landOf M9 x2) 4) = 0 then
        (s_X13_goesOn_134 M9 (rdJ M 97 0 0 (nn x1)) (rdJ M 98 0 0 (nn x1)) (rdI M9 80 0 0 0))
      else
        (if v13 = 0 then
          (s_X13_goesOn_134 M9 (rdJ M 97 0 0 (nn x1)) (rdJ M 98 0 0 (nn x1)) (rdI M9 80 0 0 0))
        else
          ((s_X13_alike M9 v13 (rdJ M 97 0 0 (nn x1)) (2 * (rdJ M 98 0 0 (nn x1)))) ∧
          (bndP (f_X13_alike M9 v13 (rdJ M 97 0 0 (nn x1)) (2 * (rdJ M 98 0 0 (nn x1)))) fun M20 =>
          ((s_X13_comes M20 (rdI M9 80 0 0 0) (rdJ M 97 0 0 (nn x1)) (2 * (rdJ M 98 0 0 (nn x1)))) ∧
          (bndP (f_X13_comes M20 (rdI M9 80 0 0 0) (rdJ M 97 0 0 (nn x1)) (2 * (rdJ M 98 0 0 (nn x1)))) fun M22 =>
          (True))))))))))))))))))))))
theorem o_X13_goesOn (M : gM) (x1 : Int32) (x2 : Int32) : offW [80, 81, 97, 98] M (f_X13_goesOn M x1 x2) := by
  rw [f_X13_goesOn]
  refine offI ?_ ?_
  · exact offR
  · refine offB (offR.wJ (by decide)) (fun M5 oM5 => ?_)
    refine offB (oM5.wJ (by decide)) (fun M7 oM7 => ?_)
    refine offB (oM7.tr ((o_X13_laysTaker M7 x1 x2).mono (by decide))) (fun M9 oM9 => ?_)
    refine offV (fun v13 => ?_)
    refine offI ?_ ?_
    · refine offB (oM9.tr ((o_X13_alike M9 (f_X13_heirsOf M9 x1) (rdJ M 97 0 0 (nn x1)) (rdJ M 98 0 0 (nn x1))).mono (by decide))) (fun M25 oM25 => ?_)
      exact oM25
    · refine offI ?_ ?_
      · exact oM9.tr (o_X13_goesOn_134 M9 (rdJ M 97 0 0 (nn x1)) (rdJ M 98 0 0 (nn x1)) (rdI M9 80 0 0 0))
      · refine offI ?_ ?_
        · exact oM9.tr (o_X13_goesOn_134 M9 (rdJ M 97 0 0 (nn x1)) (rdJ M 98 0 0 (nn x1)) (rdI M9 80 0 0 0))
        · refine offB (oM9.tr ((o_X13_alike M9 v13 (rdJ M 97 0 0 (nn x1)) (2 * (rdJ M 98 0 0 (nn x1)))).mono (by decide))) (fun M20 oM20 => ?_)
          refine offB (oM20.tr ((o_X13_comes M20 (rdI M9 80 0 0 0) (rdJ M 97 0 0 (nn x1)) (2 * (rdJ M 98 0 0 (nn x1)))).mono (by decide))) (fun M22 oM22 => ?_)
          exact oM22
set_option maxRecDepth 100000 in
set_option maxHeartbeats 4000000 in
theorem t_X13_goesOn {E : gE} {K : gM → Prop} {Q : Option Value → gM → Prop} (hK : ∀ z : gM, K z → Q none z) (M : gM) (x1 : Int32) (x2 : Int32)  (hs : s_X13_goesOn M x1 x2) (hQ : K (f_X13_goesOn M x1 x2)) : gG E RX13 cX13_goesOn 9 none (rm 9) 0 [(0, .ref (gla E 226)), (1, .int x1), (2, .int x2)] [] M Q := by
  rw [s_X13_goesOn] at hs
  rw [f_X13_goesOn] at hQ
  refine g_aload_n 0 dX13_goesOn_0 rfl ?_
  refine g_getR 226 237 fd_X13_45 dF_Md rfl rfl dX13_goesOn_1 ?_
  refine g_iload_n 1 dX13_goesOn_4 rfl ?_
  have h1 := hs.1; have hs := hs.2
  refine g_lald 237 dF_Md_above h1 dX13_goesOn_5 ?_
  refine g_lstore_n _ dX13_goesOn_6 (by decide) rfl ?_
  refine g_aload_n 1 dX13_goesOn_7 rfl ?_
  refine g_getR 226 238 fd_X13_49 dF_Md rfl rfl dX13_goesOn_8 ?_
  refine g_iload_n 2 dX13_goesOn_11 rfl ?_
  have h2 := hs.1; have hs := hs.2
  refine g_lald 238 dF_Md_below h2 dX13_goesOn_12 ?_
  refine g_lstore _ dX13_goesOn_13 (by decide) rfl ?_
  refine g_lload_n 1 dX13_goesOn_15 rfl ?_
  refine g_lconst (v := 0) dX13_goesOn_16 (by decide) ?_
  refine g_lcmp dX13_goesOn_17 ?_
  refine g_if_ne 22 dX13_goesOn_18 (by decide) (fun c3 => ?_) (fun c3 => ?_)
  · have hs := ifSf hs c3; have hQ := ifQf hQ c3
    refine g_aload_n 2 dX13_goesOn_22 rfl ?_
    refine g_getR 226 237 fd_X13_45 dF_Md rfl rfl dX13_goesOn_23 ?_
    refine g_iload_n 3 dX13_goesOn_26 rfl ?_
    refine g_lconst (v := 0) dX13_goesOn_27 (by decide) ?_
    have h4 := hs.1; have hs := hs.2
    refine g_last 237 dF_Md_above h4 dX13_goesOn_28 (fun M5 hM5 => ?_)
    have hQ := bndQ hQ M5 hM5; have hs := bndS hs M5 hM5
    refine g_aload_n 2 dX13_goesOn_29 rfl ?_
    refine g_getR 226 238 fd_X13_49 dF_Md rfl rfl dX13_goesOn_30 ?_
    refine g_iload_n 3 dX13_goesOn_33 rfl ?_
    refine g_lconst (v := 1) dX13_goesOn_34 (by decide) ?_
    have h6 := hs.1; have hs := hs.2
    refine g_last 238 dF_Md_below h6 dX13_goesOn_35 (fun M7 hM7 => ?_)
    have hQ := bndQ hQ M7 hM7; have hs := bndS hs M7 hM7
    refine g_aload_n 2 dX13_goesOn_36 rfl ?_
    refine g_iload_n 3 dX13_goesOn_37 rfl ?_
    refine g_iload_n 4 dX13_goesOn_38 rfl ?_
    have h8 := hs.1; have hs := hs.2
    refine g_callV (As := [.int x1, .int x2]) (st := []) 226 (c_X13_laysTaker E M7 x1 x2 h8) mt_X13_laysTaker ml_X13_284 dF_Md rfl rfl sg_X13_laysTaker rfl (by decide) (Nat.le_of_ble_eq_true rfl) dX13_goesOn_39 ?_
    rintro _ M9 ⟨rfl, hM9⟩
    have hQ := bndQ hQ M9 hM9; have hs := bndS hs M9 hM9
    refine g_aload_n 2 dX13_goesOn_42 rfl ?_
    refine g_getI 226 fd_X13_274 dF_Md rfl dX13_goesOn_43 ?_
    refine g_istore _ dX13_goesOn_46 (by decide) rfl ?_
    refine g_aload_n 3 dX13_goesOn_48 rfl ?_
    refine g_aload_n 3 dX13_goesOn_49 rfl ?_
    refine g_iload_n 4 dX13_goesOn_50 rfl ?_
    have h10 := hs.1; have hs := hs.2
    refine g_callV (As := [.int x1]) (st := [.ref (gla E 226)]) 226 (c_X13_childrenOf E M9 x1 h10) mt_X13_childrenOf ml_X13_209 dF_Md rfl rfl sg_X13_childrenOf rfl (by decide) (Nat.le_of_ble_eq_true rfl) dX13_goesOn_51 ?_
    rintro _ _ ⟨q1, q2⟩; rw [q1, q2]; clear q1 q2
    refine g_aload_n 3 dX13_goesOn_54 rfl ?_
    refine g_iload_n 4 dX13_goesOn_55 rfl ?_
    have h11 := hs.1; have hs := hs.2
    refine g_callV (As := [.int x1]) (st := [.int (f_X13_childrenOf M9 x1), .ref (gla E 226)]) 226 (c_X13_diesOn E M9 x1 h11) mt_X13_diesOn ml_X13_203 dF_Md rfl rfl sg_X13_diesOn rfl (by decide) (Nat.le_of_ble_eq_true rfl) dX13_goesOn_56 ?_
    rintro _ _ ⟨q1, q2⟩; rw [q1, q2]; clear q1 q2
    refine g_iconst (v := 0) dX13_goesOn_59 (by decide) ?_
    have h12 := hs.1; have hs := hs.2
    refine g_callV (As := [.int (f_X13_childrenOf M9 x1), .int (f_X13_diesOn M9 x1), .int 0]) (st := []) 226 (c_X13_living_ E M9 (f_X13_childrenOf M9 x1) (f_X13_diesOn M9 x1) 0 h12) mt_X13_living_ ml_X13_288 dF_Md rfl rfl sg_X13_living_ rfl (by decide) (Nat.le_of_ble_eq_true rfl) dX13_goesOn_60 ?_
    rintro _ _ ⟨q1, q2⟩; rw [q1, q2]; clear q1 q2
    refine g_topI (fun v13 hv13 => ?_)
    have hQ := bndQ hQ v13 hv13; have hs := bndS hs v13 hv13
    refine g_istore _ dX13_goesOn_63 (by decide) rfl ?_
    refine g_iload 1 dX13_goesOn_65 rfl ?_
    refine g_bipush (v := (-2)) dX13_goesOn_67 (by decide) ?_
    refine g_icmp_ne 87 dX13_goesOn_69 (by decide) (fun c14 => ?_) (fun c14 => ?_)
    · have hs := ifSf hs c14; have hQ := ifQf hQ c14
      refine g_aload_n 4 dX13_goesOn_87 rfl ?_
      refine g_aload_n 4 dX13_goesOn_88 rfl ?_
      refine g_iload_n 6 dX13_goesOn_89 rfl ?_
      have h15 := hs.1; have hs := hs.2
      refine g_callV (As := [.int x2]) (st := [.ref (gla E 226)]) 226 (c_X13_landOf E M9 x2 h15) mt_X13_landOf ml_X13_248 dF_Md rfl rfl sg_X13_landOf rfl (by decide) (Nat.le_of_ble_eq_true rfl) dX13_goesOn_90 ?_
      rintro _ _ ⟨q1, q2⟩; rw [q1, q2]; clear q1 q2
      refine g_iconst (v := 4) dX13_goesOn_93 (by decide) ?_
      have h16 := hs.1; have hs := hs.2
      refine g_callV (As := [.int (f_X13_landOf M9 x2), .int 4]) (st := []) 226 (c_X13_has E M9 (f_X13_landOf M9 x2) 4 h16) mt_X13_has ml_X13_239 dF_Md rfl rfl sg_X13_has rfl (by decide) (Nat.le_of_ble_eq_true rfl) dX13_goesOn_94 ?_
      rintro _ _ ⟨q1, q2⟩; rw [q1, q2]; clear q1 q2
      refine g_if_eq 134 dX13_goesOn_97 (by decide) (fun c17 => ?_) (fun c17 => ?_)
      · have hs := ifSt hs c17; have hQ := ifQt hQ c17
        refine g_sub [4, 3, 2, 1] _ rfl ?_
        exact t_X13_goesOn_134 hK M9 (rdJ M 97 0 0 (nn x1)) (rdJ M 98 0 0 (nn x1)) (rdI M9 80 0 0 0) hs hQ
      · have hs := ifSf hs c17; have hQ := ifQf hQ c17
        refine g_iload 0 dX13_goesOn_100 rfl ?_
        refine g_if_eq 134 dX13_goesOn_102 (by decide) (fun c18 => ?_) (fun c18 => ?_)
        · have hs := ifSt hs c18; have hQ := ifQt hQ c18
          refine g_sub [4, 3, 2, 1] _ rfl ?_
          exact t_X13_goesOn_134 hK M9 (rdJ M 97 0 0 (nn x1)) (rdJ M 98 0 0 (nn x1)) (rdI M9 80 0 0 0) hs hQ
        · have hs := ifSf hs c18; have hQ := ifQf hQ c18
          refine g_aload_n 4 dX13_goesOn_105 rfl ?_
          refine g_iload 0 dX13_goesOn_106 rfl ?_
          refine g_lload_n 3 dX13_goesOn_108 rfl ?_
          refine g_ldc2 kc_X13_304 dX13_goesOn_109 ?_
          refine g_lload 2 dX13_goesOn_112 rfl ?_
          refine g_lmul dX13_goesOn_114 ?_
          have h19 := hs.1; have hs := hs.2
          refine g_callV (As := [.int v13, .long (rdJ M 97 0 0 (nn x1)), .long (2 * (rdJ M 98 0 0 (nn x1)))]) (st := []) 226 (c_X13_alike E M9 v13 (rdJ M 97 0 0 (nn x1)) (2 * (rdJ M 98 0 0 (nn x1))) h19) mt_X13_alike ml_X13_301 dF_Md rfl rfl sg_X13_alike rfl (by decide) (Nat.le_of_ble_eq_true rfl) dX13_goesOn_115 ?_
          rintro _ M20 ⟨rfl, hM20⟩
          have hQ := bndQ hQ M20 hM20; have hs := bndS hs M20 hM20
          refine g_aload_n 4 dX13_goesOn_118 rfl ?_
          refine g_iload 1 dX13_goesOn_119 rfl ?_
          refine g_lload_n 3 dX13_goesOn_121 rfl ?_
          refine g_ldc2 kc_X13_304 dX13_goesOn_122 ?_
          refine g_lload 2 dX13_goesOn_125 rfl ?_
          refine g_lmul dX13_goesOn_127 ?_
          have h21 := hs.1; have hs := hs.2
          refine g_callV (As := [.int (rdI M9 80 0 0 0), .long (rdJ M 97 0 0 (nn x1)), .long (2 * (rdJ M 98 0 0 (nn x1)))]) (st := []) 226 (c_X13_comes E M20 (rdI M9 80 0 0 0) (rdJ M 97 0 0 (nn x1)) (2 * (rdJ M 98 0 0 (nn x1))) h21) mt_X13_comes ml_X13_297 dF_Md rfl rfl sg_X13_comes rfl (by decide) (Nat.le_of_ble_eq_true rfl) dX13_goesOn_128 ?_
          rintro _ M22 ⟨rfl, hM22⟩
          have hQ := bndQ hQ M22 hM22; have hs := bndS hs M22 hM22
          refine g_goto 143 dX13_goesOn_131 (by decide) ?_
          exact g_vret rfl dX13_goesOn_143 (hK _ hQ)
    · have hs := ifSt hs c14; have hQ := ifQt hQ c14
      refine g_aload_n 4 dX13_goesOn_72 rfl ?_
      refine g_aload_n 4 dX13_goesOn_73 rfl ?_
      refine g_iload_n 5 dX13_goesOn_74 rfl ?_
      have h23 := hs.1; have hs := hs.2
      refine g_callV (As := [.int x1]) (st := [.ref (gla E 226)]) 226 (c_X13_heirsOf E M9 x1 h23) mt_X13_heirsOf ml_X13_290 dF_Md rfl rfl sg_X13_heirsOf rfl (by decide) (Nat.le_of_ble_eq_true rfl) dX13_goesOn_75 ?_
      rintro _ _ ⟨q1, q2⟩; rw [q1, q2]; clear q1 q2
      refine g_lload_n 3 dX13_goesOn_78 rfl ?_
      refine g_lload 2 dX13_goesOn_79 rfl ?_
      have h24 := hs.1; have hs := hs.2
      refine g_callV (As := [.int (f_X13_heirsOf M9 x1), .long (rdJ M 97 0 0 (nn x1)), .long (rdJ M 98 0 0 (nn x1))]) (st := []) 226 (c_X13_alike E M9 (f_X13_heirsOf M9 x1) (rdJ M 97 0 0 (nn x1)) (rdJ M 98 0 0 (nn x1)) h24) mt_X13_alike ml_X13_301 dF_Md rfl rfl sg_X13_alike rfl (by decide) (Nat.le_of_ble_eq_true rfl) dX13_goesOn_81 ?_
      rintro _ M25 ⟨rfl, hM25⟩
      have hQ := bndQ hQ M25 hM25; have hs := bndS hs M25 hM25
      refine g_goto 143 dX13_goesOn_84 (by decide) ?_
      exact g_vret rfl dX13_goesOn_143 (hK _ hQ)
  · have hs := ifSt hs c3; have hQ := ifQt hQ c3
    exact g_vret rfl dX13_goesOn_21 (hK _ hQ)
theorem c_X13_goesOn (E : gE) (M : gM) (x1 : Int32) (x2 : Int32) (hs : s_X13_goesOn M x1 x2) : gC E yX13_goesOn cX13_goesOn 9 none (rm 9) [.ref (gla E 226), .int x1, .int x2] M (fun o N => o = none ∧ N = f_X13_goesOn M x1 x2) :=
  gC.of (by decide +kernel) (Nat.le_of_ble_eq_true rfl) rfl (t_X13_goesOn (K := fun z => z = f_X13_goesOn M x1 x2) (fun z hz => ⟨rfl, hz⟩) M x1 x2 hs rfl)
def f_X13_laysParts_130 (M : gM) (x1 : Int32) (x2 : Int32) (x3 : Int32) (x4 : Int32) (k79 : gM → Int32 → Int32 → gM) : gM :=
  bnd (f_X13_goesOn M x4 x1) fun M23 =>
  (bnd (wrI M23 82 0 0 0 ((rdI M23 82 0 0 0) ||| (f_X13_holding M23))) fun M25 =>
  (bnd (x3 ||| (1 <<< (x4 &&& 31))) fun v26 =>
  (bnd (f_X13_nextDeath M25 v26 x2) fun v28 =>
  (k79 M25 v26 v28))))
def s_X13_laysParts_130 (M : gM) (x1 : Int32) (x2 : Int32) (x3 : Int32) (x4 : Int32) (q79 : gM → Int32 → Int32 → Prop) : Prop :=
  (s_X13_goesOn M x4 x1) ∧
  (bndP (f_X13_goesOn M x4 x1) fun M23 =>
  ((s_X13_holding M23) ∧
  (bndP (wrI M23 82 0 0 0 ((rdI M23 82 0 0 0) ||| (f_X13_holding M23))) fun M25 =>
  (bndP (x3 ||| (1 <<< (x4 &&& 31))) fun v26 =>
  ((s_X13_nextDeath M25 v26 x2) ∧
  (bndP (f_X13_nextDeath M25 v26 x2) fun v28 =>
  (q79 M25 v26 v28)))))))
theorem o_X13_laysParts_130 (M : gM) (x1 : Int32) (x2 : Int32) (x3 : Int32) (x4 : Int32) (k79 : gM → Int32 → Int32 → gM) (ho79 : ∀ (M : gM) (x3 : Int32) (x4 : Int32), offW [80, 81, 82, 83, 84, 85, 97, 98] M (k79 M x3 x4)) : offW [80, 81, 82, 83, 84, 85, 97, 98] M (f_X13_laysParts_130 M x1 x2 x3 x4 k79) := by
  rw [f_X13_laysParts_130]
  refine offB (offR.tr ((o_X13_goesOn M x4 x1).mono (by decide))) (fun M23 oM23 => ?_)
  refine offB (oM23.wI (by decide)) (fun M25 oM25 => ?_)
  refine offV (fun v26 => ?_)
  refine offV (fun v28 => ?_)
  exact oM25.tr (ho79 M25 v26 v28)
set_option maxRecDepth 100000 in
set_option maxHeartbeats 4000000 in
theorem t_X13_laysParts_130 {E : gE} {K : gM → Prop} {Q : Option Value → gM → Prop} (hK : ∀ z : gM, K z → Q none z) (M : gM) (x1 : Int32) (x2 : Int32) (x3 : Int32) (x4 : Int32)  (k79 : gM → Int32 → Int32 → gM) (q79 : gM → Int32 → Int32 → Prop) (hk79 : ∀ (M : gM) (x3 : Int32) (x4 : Int32) , q79 M x3 x4 → K (k79 M x3 x4) → gG E RX13 cX13_laysParts 5 none (rm 10) 79 [(0, .ref (gla E 226)), (1, .int x1), (2, .int x2), (3, .int x3), (4, .int x4)] [] M Q) (hs : s_X13_laysParts_130 M x1 x2 x3 x4 q79) (hQ : K (f_X13_laysParts_130 M x1 x2 x3 x4 k79)) : gG E RX13 cX13_laysParts 5 none (rm 10) 130 [(0, .ref (gla E 226)), (1, .int x1), (2, .int x2), (3, .int x3), (4, .int x4)] [] M Q := by
  rw [s_X13_laysParts_130] at hs
  rw [f_X13_laysParts_130] at hQ
  refine g_aload_n 0 dX13_laysParts_130 rfl ?_
  refine g_iload 4 dX13_laysParts_131 rfl ?_
  refine g_iload_n 1 dX13_laysParts_133 rfl ?_
  have h22 := hs.1; have hs := hs.2
  refine g_callV (As := [.int x4, .int x1]) (st := []) 226 (c_X13_goesOn E M x4 x1 h22) mt_X13_goesOn ml_X13_324 dF_Md rfl rfl sg_X13_goesOn rfl (by decide) (Nat.le_of_ble_eq_true rfl) dX13_laysParts_134 ?_
  rintro _ M23 ⟨rfl, hM23⟩
  have hQ := bndQ hQ M23 hM23; have hs := bndS hs M23 hM23
  refine g_aload_n 0 dX13_laysParts_137 rfl ?_
  refine g_dup dX13_laysParts_138 rfl ?_
  refine g_getI 226 fd_X13_309 dF_Md rfl dX13_laysParts_139 ?_
  refine g_aload_n 0 dX13_laysParts_142 rfl ?_
  have h24 := hs.1; have hs := hs.2
  refine g_callV (As := []) (st := [.int (rdI M23 82 0 0 0), .ref (gla E 226)]) 226 (c_X13_holding E M23 h24) mt_X13_holding ml_X13_306 dF_Md rfl rfl sg_X13_holding rfl (by decide) (Nat.le_of_ble_eq_true rfl) dX13_laysParts_143 ?_
  rintro _ _ ⟨q1, q2⟩; rw [q1, q2]; clear q1 q2
  refine g_ior dX13_laysParts_146 ?_
  refine g_putI 226 fd_X13_309 dF_Md rfl dX13_laysParts_147 (fun M25 hM25 => ?_)
  have hQ := bndQ hQ M25 hM25; have hs := bndS hs M25 hM25
  refine g_iload_n 3 dX13_laysParts_150 rfl ?_
  refine g_iconst (v := 1) dX13_laysParts_151 (by decide) ?_
  refine g_iload 4 dX13_laysParts_152 rfl ?_
  refine g_ishl dX13_laysParts_154 ?_
  refine g_ior dX13_laysParts_155 ?_
  refine g_topI (fun v26 hv26 => ?_)
  have hQ := bndQ hQ v26 hv26; have hs := bndS hs v26 hv26
  refine g_istore_n _ dX13_laysParts_156 (by decide) rfl ?_
  refine g_aload_n 1 dX13_laysParts_157 rfl ?_
  refine g_iload_n 0 dX13_laysParts_158 rfl ?_
  refine g_iload_n 3 dX13_laysParts_159 rfl ?_
  have h27 := hs.1; have hs := hs.2
  refine g_callV (As := [.int v26, .int x2]) (st := []) 226 (c_X13_nextDeath E M25 v26 x2 h27) mt_X13_nextDeath ml_X13_321 dF_Md rfl rfl sg_X13_nextDeath rfl (by decide) (Nat.le_of_ble_eq_true rfl) dX13_laysParts_160 ?_
  rintro _ _ ⟨q1, q2⟩; rw [q1, q2]; clear q1 q2
  refine g_topI (fun v28 hv28 => ?_)
  have hQ := bndQ hQ v28 hv28; have hs := bndS hs v28 hv28
  refine g_istore _ dX13_laysParts_163 (by decide) rfl ?_
  refine g_goto 79 dX13_laysParts_165 (by decide) ?_
  refine g_sub [2, 3, 4, 1, 0] _ rfl ?_
  exact hk79 M25 v26 v28 hs hQ
def f_X13_laysParts_79 (x1 : Int32) (x2 : Int32)  : Nat → gM → Int32 → Int32 → gM
  | 0, M, _, _ => M
  | n + 1, M, x3, x4 =>
    if x4 = (-1) then
      (M)
    else
      (if (lg_cmp (rdJ M 97 0 0 (nn x4)) 0) ≤ 0 then
        (f_X13_laysParts_130 M x1 x2 x3 x4 (f_X13_laysParts_79 x1 x2 n))
      else
        (bnd (wrI M 83 0 0 0 ((rdI M 83 0 0 0) + 1)) fun M18 =>
        (bnd (wrI M18 84 0 0 0 (f_X13_diesOn M18 x4)) fun M20 =>
        (bnd (wrI M20 85 0 0 0 ((rdI M20 85 0 0 0) ||| (1 <<< (x4 &&& 31)))) fun M21 =>
        (f_X13_laysParts_130 M21 x1 x2 x3 x4 (f_X13_laysParts_79 x1 x2 n))))))
def s_X13_laysParts_79 (x1 : Int32) (x2 : Int32)  : Nat → gM → Int32 → Int32 → Prop
  | 0, _, _, _ => False
  | n + 1, M, x3, x4 =>
    if x4 = (-1) then
      (True)
    else
      ((vp_in x4 11) ∧
      (if (lg_cmp (rdJ M 97 0 0 (nn x4)) 0) ≤ 0 then
        (s_X13_laysParts_130 M x1 x2 x3 x4 (s_X13_laysParts_79 x1 x2 n))
      else
        (bndP (wrI M 83 0 0 0 ((rdI M 83 0 0 0) + 1)) fun M18 =>
        ((s_X13_diesOn M18 x4) ∧
        (bndP (wrI M18 84 0 0 0 (f_X13_diesOn M18 x4)) fun M20 =>
        (bndP (wrI M20 85 0 0 0 ((rdI M20 85 0 0 0) ||| (1 <<< (x4 &&& 31)))) fun M21 =>
        (s_X13_laysParts_130 M21 x1 x2 x3 x4 (s_X13_laysParts_79 x1 x2 n))))))))
theorem o_X13_laysParts_79 (x1 : Int32) (x2 : Int32)  : ∀ (n : Nat) (M : gM) (x3 : Int32) (x4 : Int32), offW [80, 81, 82, 83, 84, 85, 97, 98] M (f_X13_laysParts_79 x1 x2  n M x3 x4) := by
  intro n
  induction n with
  | zero => intro M x3 x4; exact offR
  | succ n ih =>
    intro M x3 x4
    rw [f_X13_laysParts_79]
    refine offI ?_ ?_
    · exact offR
    · refine offI ?_ ?_
      · exact (o_X13_laysParts_130 M x1 x2 x3 x4 (f_X13_laysParts_79 x1 x2 n) ih)
      · refine offB (offR.wI (by decide)) (fun M18 oM18 => ?_)
        refine offB (oM18.wI (by decide)) (fun M20 oM20 => ?_)
        refine offB (oM20.wI (by decide)) (fun M21 oM21 => ?_)
        exact oM21.tr (o_X13_laysParts_130 M21 x1 x2 x3 x4 (f_X13_laysParts_79 x1 x2 n) ih)
set_option maxRecDepth 100000 in
set_option maxHeartbeats 4000000 in
theorem t_X13_laysParts_79 {E : gE} {K : gM → Prop} {Q : Option Value → gM → Prop} (hK : ∀ z : gM, K z → Q none z) (x1 : Int32) (x2 : Int32)   : ∀ (n : Nat) (M : gM) (x3 : Int32) (x4 : Int32) , s_X13_laysParts_79 x1 x2  n M x3 x4 → K (f_X13_laysParts_79 x1 x2  n M x3 x4) → gG E RX13 cX13_laysParts 5 none (rm 10) 79 [(0, .ref (gla E 226)), (1, .int x1), (2, .int x2), (3, .int x3), (4, .int x4)] [] M Q := by
  intro n
  induction n with
  | zero => intro M x3 x4 hs hQ; exact (hs : False).elim
  | succ n ih =>
    intro M x3 x4 hs hQ
    rw [s_X13_laysParts_79] at hs
    rw [f_X13_laysParts_79] at hQ
    refine g_iload 4 dX13_laysParts_79 rfl ?_
    refine g_iconst (v := (-1)) dX13_laysParts_81 (by decide) ?_
    refine g_icmp_eq 168 dX13_laysParts_82 (by decide) (fun c15 => ?_) (fun c15 => ?_)
    · have hs := ifSt hs c15; have hQ := ifQt hQ c15
      exact g_vret rfl dX13_laysParts_168 (hK _ hQ)
    · have hs := ifSf hs c15; have hQ := ifQf hQ c15
      refine g_aload_n 0 dX13_laysParts_85 rfl ?_
      refine g_getR 226 237 fd_X13_45 dF_Md rfl rfl dX13_laysParts_86 ?_
      refine g_iload 4 dX13_laysParts_89 rfl ?_
      have h16 := hs.1; have hs := hs.2
      refine g_lald 237 dF_Md_above h16 dX13_laysParts_91 ?_
      refine g_lconst (v := 0) dX13_laysParts_92 (by decide) ?_
      refine g_lcmp dX13_laysParts_93 ?_
      refine g_if_le 130 dX13_laysParts_94 (by decide) (fun c17 => ?_) (fun c17 => ?_)
      · have hs := ifSt hs c17; have hQ := ifQt hQ c17
        exact t_X13_laysParts_130 hK M x1 x2 x3 x4 (f_X13_laysParts_79 x1 x2 n) (s_X13_laysParts_79 x1 x2 n) ih hs hQ
      · have hs := ifSf hs c17; have hQ := ifQf hQ c17
        refine g_aload_n 0 dX13_laysParts_97 rfl ?_
        refine g_dup dX13_laysParts_98 rfl ?_
        refine g_getI 226 fd_X13_312 dF_Md rfl dX13_laysParts_99 ?_
        refine g_iconst (v := 1) dX13_laysParts_102 (by decide) ?_
        refine g_iadd dX13_laysParts_103 ?_
        refine g_putI 226 fd_X13_312 dF_Md rfl dX13_laysParts_104 (fun M18 hM18 => ?_)
        have hQ := bndQ hQ M18 hM18; have hs := bndS hs M18 hM18
        refine g_aload_n 0 dX13_laysParts_107 rfl ?_
        refine g_aload_n 0 dX13_laysParts_108 rfl ?_
        refine g_iload 4 dX13_laysParts_109 rfl ?_
        have h19 := hs.1; have hs := hs.2
        refine g_callV (As := [.int x4]) (st := [.ref (gla E 226)]) 226 (c_X13_diesOn E M18 x4 h19) mt_X13_diesOn ml_X13_203 dF_Md rfl rfl sg_X13_diesOn rfl (by decide) (Nat.le_of_ble_eq_true rfl) dX13_laysParts_111 ?_
        rintro _ _ ⟨q1, q2⟩; rw [q1, q2]; clear q1 q2
        refine g_putI 226 fd_X13_315 dF_Md rfl dX13_laysParts_114 (fun M20 hM20 => ?_)
        have hQ := bndQ hQ M20 hM20; have hs := bndS hs M20 hM20
        refine g_aload_n 0 dX13_laysParts_117 rfl ?_
        refine g_dup dX13_laysParts_118 rfl ?_
        refine g_getI 226 fd_X13_318 dF_Md rfl dX13_laysParts_119 ?_
        refine g_iconst (v := 1) dX13_laysParts_122 (by decide) ?_
        refine g_iload 4 dX13_laysParts_123 rfl ?_
        refine g_ishl dX13_laysParts_125 ?_
        refine g_ior dX13_laysParts_126 ?_
        refine g_putI 226 fd_X13_318 dF_Md rfl dX13_laysParts_127 (fun M21 hM21 => ?_)
        have hQ := bndQ hQ M21 hM21; have hs := bndS hs M21 hM21
        exact t_X13_laysParts_130 hK M21 x1 x2 x3 x4 (f_X13_laysParts_79 x1 x2 n) (s_X13_laysParts_79 x1 x2 n) ih hs hQ
def f_X13_laysParts_2 (x1 : Int32) (x2 : Int32)  : Nat → gM → Int32 → gM
  | 0, M, _ => M
  | n + 1, M, x3 =>
    if 10 < x3 then
      (bnd (wrJ M 97 0 0 (nn (rdI M 88 0 0 (nn (34 + (3 * x1))))) 1) fun M4 =>
      (bnd (wrI M4 82 0 0 0 (f_X13_holding M4)) fun M6 =>
      (bnd (wrI M6 83 0 0 0 0) fun M7 =>
      (bnd (wrI M7 84 0 0 0 (-2)) fun M8 =>
      (bnd (wrI M8 85 0 0 0 0) fun M9 =>
      (f_X13_laysParts_79 x1 x2 FU M9 0 (f_X13_nextDeath M9 0 x2)))))))
    else
      (bnd (wrJ M 97 0 0 (nn x3) 0) fun M12 =>
      (bnd (wrJ M12 98 0 0 (nn x3) 1) fun M14 =>
      (f_X13_laysParts_2 x1 x2 n M14 (x3 + 1))))
def s_X13_laysParts_2 (x1 : Int32) (x2 : Int32)  : Nat → gM → Int32 → Prop
  | 0, _, _ => False
  | n + 1, M, x3 =>
    if 10 < x3 then
      ((vp_in (34 + (3 * x1)) 502) ∧
      ((vp_in (rdI M 88 0 0 (nn (34 + (3 * x1)))) 11) ∧
      (bndP (wrJ M 97 0 0 (nn (rdI M 88 0 0 (nn (34 + (3 * x1))))) 1) fun M4 =>
      ((s_X13_holding M4) ∧
      (bndP (wrI M4 82 0 0 0 (f_X13_holding M4)) fun M6 =>
      (bndP (wrI M6 83 0 0 0 0) fun M7 =>
      (bndP (wrI M7 84 0 0 0 (-2)) fun M8 =>
      (bndP (wrI M8 85 0 0 0 0) fun M9 =>
      ((s_X13_nextDeath M9 0 x2) ∧
      (s_X13_laysParts_79 x1 x2 FU M9 0 (f_X13_nextDeath M9 0 x2)))))))))))
    else
      ((vp_in x3 11) ∧
      (bndP (wrJ M 97 0 0 (nn x3) 0) fun M12 =>
      ((vp_in x3 11) ∧
      (bndP (wrJ M12 98 0 0 (nn x3) 1) fun M14 =>
      (s_X13_laysParts_2 x1 x2 n M14 (x3 + 1))))))
theorem o_X13_laysParts_2 (x1 : Int32) (x2 : Int32)  : ∀ (n : Nat) (M : gM) (x3 : Int32), offW [80, 81, 82, 83, 84, 85, 97, 98] M (f_X13_laysParts_2 x1 x2  n M x3) := by
  intro n
  induction n with
  | zero => intro M x3; exact offR
  | succ n ih =>
    intro M x3
    rw [f_X13_laysParts_2]
    refine offI ?_ ?_
    · refine offB (offR.wJ (by decide)) (fun M4 oM4 => ?_)
      refine offB (oM4.wI (by decide)) (fun M6 oM6 => ?_)
      refine offB (oM6.wI (by decide)) (fun M7 oM7 => ?_)
      refine offB (oM7.wI (by decide)) (fun M8 oM8 => ?_)
      refine offB (oM8.wI (by decide)) (fun M9 oM9 => ?_)
      exact oM9.tr (o_X13_laysParts_79 x1 x2 FU M9 0 (f_X13_nextDeath M9 0 x2))
    · refine offB (offR.wJ (by decide)) (fun M12 oM12 => ?_)
      refine offB (oM12.wJ (by decide)) (fun M14 oM14 => ?_)
      exact oM14.tr (ih M14 (x3 + 1))
set_option maxRecDepth 100000 in
set_option maxHeartbeats 4000000 in
theorem t_X13_laysParts_2 {E : gE} {K : gM → Prop} {Q : Option Value → gM → Prop} (hK : ∀ z : gM, K z → Q none z) (x1 : Int32) (x2 : Int32)   : ∀ (n : Nat) (M : gM) (x3 : Int32) , s_X13_laysParts_2 x1 x2  n M x3 → K (f_X13_laysParts_2 x1 x2  n M x3) → gG E RX13 cX13_laysParts 5 none (rm 10) 2 [(0, .ref (gla E 226)), (1, .int x1), (2, .int x2), (3, .int x3)] [] M Q := by
  intro n
  induction n with
  | zero => intro M x3 hs hQ; exact (hs : False).elim
  | succ n ih =>
    intro M x3 hs hQ
    rw [s_X13_laysParts_2] at hs
    rw [f_X13_laysParts_2] at hQ
    refine g_iload_n 3 dX13_laysParts_2 rfl ?_
    refine g_bipush (v := 10) dX13_laysParts_3 (by decide) ?_
    refine g_icmp_gt 28 dX13_laysParts_5 (by decide) (fun c1 => ?_) (fun c1 => ?_)
    · have hs := ifSt hs c1; have hQ := ifQt hQ c1
      refine g_aload_n 0 dX13_laysParts_28 rfl ?_
      refine g_getR 226 237 fd_X13_45 dF_Md rfl rfl dX13_laysParts_29 ?_
      refine g_aload_n 0 dX13_laysParts_32 rfl ?_
      refine g_getR 226 228 fd_X13_13 dF_Md rfl rfl dX13_laysParts_33 ?_
      refine g_bipush (v := 34) dX13_laysParts_36 (by decide) ?_
      refine g_iconst (v := 3) dX13_laysParts_38 (by decide) ?_
      refine g_iload_n 1 dX13_laysParts_39 rfl ?_
      refine g_imul dX13_laysParts_40 ?_
      refine g_iadd dX13_laysParts_41 ?_
      have h2 := hs.1; have hs := hs.2
      refine g_iald 228 dF_Md_world h2 dX13_laysParts_42 ?_
      refine g_lconst (v := 1) dX13_laysParts_43 (by decide) ?_
      have h3 := hs.1; have hs := hs.2
      refine g_last 237 dF_Md_above h3 dX13_laysParts_44 (fun M4 hM4 => ?_)
      have hQ := bndQ hQ M4 hM4; have hs := bndS hs M4 hM4
      refine g_aload_n 0 dX13_laysParts_45 rfl ?_
      refine g_aload_n 0 dX13_laysParts_46 rfl ?_
      have h5 := hs.1; have hs := hs.2
      refine g_callV (As := []) (st := [.ref (gla E 226)]) 226 (c_X13_holding E M4 h5) mt_X13_holding ml_X13_306 dF_Md rfl rfl sg_X13_holding rfl (by decide) (Nat.le_of_ble_eq_true rfl) dX13_laysParts_47 ?_
      rintro _ _ ⟨q1, q2⟩; rw [q1, q2]; clear q1 q2
      refine g_putI 226 fd_X13_309 dF_Md rfl dX13_laysParts_50 (fun M6 hM6 => ?_)
      have hQ := bndQ hQ M6 hM6; have hs := bndS hs M6 hM6
      refine g_aload_n 0 dX13_laysParts_53 rfl ?_
      refine g_iconst (v := 0) dX13_laysParts_54 (by decide) ?_
      refine g_putI 226 fd_X13_312 dF_Md rfl dX13_laysParts_55 (fun M7 hM7 => ?_)
      have hQ := bndQ hQ M7 hM7; have hs := bndS hs M7 hM7
      refine g_aload_n 0 dX13_laysParts_58 rfl ?_
      refine g_bipush (v := (-2)) dX13_laysParts_59 (by decide) ?_
      refine g_putI 226 fd_X13_315 dF_Md rfl dX13_laysParts_61 (fun M8 hM8 => ?_)
      have hQ := bndQ hQ M8 hM8; have hs := bndS hs M8 hM8
      refine g_aload_n 0 dX13_laysParts_64 rfl ?_
      refine g_iconst (v := 0) dX13_laysParts_65 (by decide) ?_
      refine g_putI 226 fd_X13_318 dF_Md rfl dX13_laysParts_66 (fun M9 hM9 => ?_)
      have hQ := bndQ hQ M9 hM9; have hs := bndS hs M9 hM9
      refine g_iconst (v := 0) dX13_laysParts_69 (by decide) ?_
      refine g_istore_n _ dX13_laysParts_70 (by decide) rfl ?_
      refine g_aload_n 1 dX13_laysParts_71 rfl ?_
      refine g_iload_n 0 dX13_laysParts_72 rfl ?_
      refine g_iload_n 3 dX13_laysParts_73 rfl ?_
      have h10 := hs.1; have hs := hs.2
      refine g_callV (As := [.int 0, .int x2]) (st := []) 226 (c_X13_nextDeath E M9 0 x2 h10) mt_X13_nextDeath ml_X13_321 dF_Md rfl rfl sg_X13_nextDeath rfl (by decide) (Nat.le_of_ble_eq_true rfl) dX13_laysParts_74 ?_
      rintro _ _ ⟨q1, q2⟩; rw [q1, q2]; clear q1 q2
      refine g_istore _ dX13_laysParts_77 (by decide) rfl ?_
      refine g_sub [2, 3, 4, 1, 0] _ rfl ?_
      exact t_X13_laysParts_79 hK x1 x2 FU M9 0 (f_X13_nextDeath M9 0 x2) hs hQ
    · have hs := ifSf hs c1; have hQ := ifQf hQ c1
      refine g_aload_n 0 dX13_laysParts_8 rfl ?_
      refine g_getR 226 237 fd_X13_45 dF_Md rfl rfl dX13_laysParts_9 ?_
      refine g_iload_n 3 dX13_laysParts_12 rfl ?_
      refine g_lconst (v := 0) dX13_laysParts_13 (by decide) ?_
      have h11 := hs.1; have hs := hs.2
      refine g_last 237 dF_Md_above h11 dX13_laysParts_14 (fun M12 hM12 => ?_)
      have hQ := bndQ hQ M12 hM12; have hs := bndS hs M12 hM12
      refine g_aload_n 0 dX13_laysParts_15 rfl ?_
      refine g_getR 226 238 fd_X13_49 dF_Md rfl rfl dX13_laysParts_16 ?_
      refine g_iload_n 3 dX13_laysParts_19 rfl ?_
      refine g_lconst (v := 1) dX13_laysParts_20 (by decide) ?_
      have h13 := hs.1; have hs := hs.2
      refine g_last 238 dF_Md_below h13 dX13_laysParts_21 (fun M14 hM14 => ?_)
      have hQ := bndQ hQ M14 hM14; have hs := bndS hs M14 hM14
      refine g_iinc 3 (v := x3 + 1) _ dX13_laysParts_22 rfl rfl (by decide) rfl ?_
      refine g_goto 2 dX13_laysParts_25 (by decide) ?_
      refine g_sub [1, 2, 3, 0] _ rfl ?_
      exact ih M14 (x3 + 1) hs hQ
def f_X13_laysParts (M : gM) (x1 : Int32) (x2 : Int32) : gM :=
  f_X13_laysParts_2 x1 x2 FU M 0
def s_X13_laysParts (M : gM) (x1 : Int32) (x2 : Int32) : Prop :=
  s_X13_laysParts_2 x1 x2 FU M 0
theorem o_X13_laysParts (M : gM) (x1 : Int32) (x2 : Int32) : offW [80, 81, 82, 83, 84, 85, 97, 98] M (f_X13_laysParts M x1 x2) := by
  rw [f_X13_laysParts]
  exact (o_X13_laysParts_2 x1 x2 FU M 0)
set_option maxRecDepth 100000 in
set_option maxHeartbeats 4000000 in
theorem t_X13_laysParts {E : gE} {K : gM → Prop} {Q : Option Value → gM → Prop} (hK : ∀ z : gM, K z → Q none z) (M : gM) (x1 : Int32) (x2 : Int32)  (hs : s_X13_laysParts M x1 x2) (hQ : K (f_X13_laysParts M x1 x2)) : gG E RX13 cX13_laysParts 5 none (rm 10) 0 [(0, .ref (gla E 226)), (1, .int x1), (2, .int x2)] [] M Q := by
  rw [s_X13_laysParts] at hs
  rw [f_X13_laysParts] at hQ
  refine g_iconst (v := 0) dX13_laysParts_0 (by decide) ?_
  refine g_istore_n _ dX13_laysParts_1 (by decide) rfl ?_
  refine g_sub [1, 2, 3, 0] _ rfl ?_
  exact t_X13_laysParts_2 hK x1 x2 FU M 0 hs hQ
theorem c_X13_laysParts (E : gE) (M : gM) (x1 : Int32) (x2 : Int32) (hs : s_X13_laysParts M x1 x2) : gC E yX13_laysParts cX13_laysParts 5 none (rm 10) [.ref (gla E 226), .int x1, .int x2] M (fun o N => o = none ∧ N = f_X13_laysParts M x1 x2) :=
  gC.of (by decide +kernel) (Nat.le_of_ble_eq_true rfl) rfl (t_X13_laysParts (K := fun z => z = f_X13_laysParts M x1 x2) (fun z hz => ⟨rfl, hz⟩) M x1 x2 hs rfl)
end
