set_option linter.all false
noncomputable section
def f_X1_holdersNow_27 (M : gM) (x2 : Int32) (y0 : Int32) (y1 : Int32) (k4 : Int32 → Int32 → Int32) : Int32 :=
  bnd (y0 ||| (y1 <<< (x2 &&& 31))) fun v4 =>
  (k4 v4 (x2 + 1))
def s_X1_holdersNow_27 (M : gM) (x2 : Int32) (y0 : Int32) (y1 : Int32) (q4 : Int32 → Int32 → Prop) : Prop :=
  bndP (y0 ||| (y1 <<< (x2 &&& 31))) fun v4 =>
  (q4 v4 (x2 + 1))
set_option maxRecDepth 100000 in
set_option maxHeartbeats 4000000 in
theorem t_X1_holdersNow_27 {E : gE} {K : Int32 → Prop} {Q : Option Value → gM → Prop} {M : gM} (hK : ∀ z : Int32, K z → Q (some (.int z)) M) (x2 : Int32) (y0 : Int32) (y1 : Int32)  (k4 : Int32 → Int32 → Int32) (q4 : Int32 → Int32 → Prop) (hk4 : ∀ (x1 : Int32) (x2 : Int32) , q4 x1 x2 → K (k4 x1 x2) → gG E RX1 cX1_holdersNow 3 (some .int) (rm 0) 4 [(0, .ref (gla E 220)), (1, .int x1), (2, .int x2)] [] M Q) (hs : s_X1_holdersNow_27 M x2 y0 y1 q4) (hQ : K (f_X1_holdersNow_27 M x2 y0 y1 k4)) : gG E RX1 cX1_holdersNow 3 (some .int) (rm 0) 27 [(0, .ref (gla E 220)), (2, .int x2)] [.int y1, .int y0] M Q := by
  rw [s_X1_holdersNow_27] at hs
  rw [f_X1_holdersNow_27] at hQ
  refine g_iload_n 1 dX1_holdersNow_27 rfl ?_
  refine g_ishl dX1_holdersNow_28 ?_
  refine g_ior dX1_holdersNow_29 ?_
  refine g_topI (fun v4 hv4 => ?_)
  have hQ := bndQ hQ v4 hv4; have hs := bndS hs v4 hv4
  refine g_istore_n _ dX1_holdersNow_30 (by decide) rfl ?_
  refine g_iinc 2 (v := x2 + 1) _ dX1_holdersNow_31 rfl rfl (by decide) rfl ?_
  refine g_goto 4 dX1_holdersNow_34 (by decide) ?_
  refine g_sub [2, 1, 0] _ rfl ?_
  exact hk4 v4 (x2 + 1) hs hQ
def f_X1_holdersNow_4 (M : gM)  : Nat → Int32 → Int32 → Int32
  | 0, _, _ => 0
  | n + 1, x1, x2 =>
    if 10 < x2 then
      (x1)
    else
      (if (lg_cmp (rdJ M 61 0 0 (nn x2)) 0) = 0 then
        (f_X1_holdersNow_27 M x2 x1 0 (f_X1_holdersNow_4 M n))
      else
        (f_X1_holdersNow_27 M x2 x1 1 (f_X1_holdersNow_4 M n)))
def s_X1_holdersNow_4 (M : gM)  : Nat → Int32 → Int32 → Prop
  | 0, _, _ => False
  | n + 1, x1, x2 =>
    if 10 < x2 then
      (True)
    else
      ((vp_in x2 11) ∧
      (if (lg_cmp (rdJ M 61 0 0 (nn x2)) 0) = 0 then
        (s_X1_holdersNow_27 M x2 x1 0 (s_X1_holdersNow_4 M n))
      else
        (s_X1_holdersNow_27 M x2 x1 1 (s_X1_holdersNow_4 M n))))
set_option maxRecDepth 100000 in
set_option maxHeartbeats 4000000 in
theorem t_X1_holdersNow_4 {E : gE} {K : Int32 → Prop} {Q : Option Value → gM → Prop} {M : gM} (hK : ∀ z : Int32, K z → Q (some (.int z)) M)    : ∀ (n : Nat) (x1 : Int32) (x2 : Int32) , s_X1_holdersNow_4 M  n x1 x2 → K (f_X1_holdersNow_4 M  n x1 x2) → gG E RX1 cX1_holdersNow 3 (some .int) (rm 0) 4 [(0, .ref (gla E 220)), (1, .int x1), (2, .int x2)] [] M Q := by
  intro n
  induction n with
  | zero => intro x1 x2 hs hQ; exact (hs : False).elim
  | succ n ih =>
    intro x1 x2 hs hQ
    rw [s_X1_holdersNow_4] at hs
    rw [f_X1_holdersNow_4] at hQ
    refine g_iload_n 2 dX1_holdersNow_4 rfl ?_
    refine g_bipush (v := 10) dX1_holdersNow_5 (by decide) ?_
    refine g_icmp_gt 37 dX1_holdersNow_7 (by decide) (fun c1 => ?_) (fun c1 => ?_)
    · have hs := ifSt hs c1; have hQ := ifQt hQ c1
      refine g_iload_n 1 dX1_holdersNow_37 rfl ?_
      exact g_iret rfl dX1_holdersNow_38 (hK _ hQ)
    · have hs := ifSf hs c1; have hQ := ifQf hQ c1
      refine g_iload_n 1 dX1_holdersNow_10 rfl ?_
      refine g_aload_n 0 dX1_holdersNow_11 rfl ?_
      refine g_getR 220 221 fd_X1_9 dF_Es rfl rfl dX1_holdersNow_12 ?_
      refine g_iload_n 2 dX1_holdersNow_15 rfl ?_
      have h2 := hs.1; have hs := hs.2
      refine g_lald 221 dF_Es_parts h2 dX1_holdersNow_16 ?_
      refine g_lconst (v := 0) dX1_holdersNow_17 (by decide) ?_
      refine g_lcmp dX1_holdersNow_18 ?_
      refine g_if_eq 26 dX1_holdersNow_19 (by decide) (fun c3 => ?_) (fun c3 => ?_)
      · have hs := ifSt hs c3; have hQ := ifQt hQ c3
        refine g_iconst (v := 0) dX1_holdersNow_26 (by decide) ?_
        refine g_sub [0, 2] _ rfl ?_
        exact t_X1_holdersNow_27 hK x2 x1 0 (f_X1_holdersNow_4 M n) (s_X1_holdersNow_4 M n) ih hs hQ
      · have hs := ifSf hs c3; have hQ := ifQf hQ c3
        refine g_iconst (v := 1) dX1_holdersNow_22 (by decide) ?_
        refine g_goto 27 dX1_holdersNow_23 (by decide) ?_
        refine g_sub [0, 2] _ rfl ?_
        exact t_X1_holdersNow_27 hK x2 x1 1 (f_X1_holdersNow_4 M n) (s_X1_holdersNow_4 M n) ih hs hQ
def f_X1_holdersNow (M : gM) : Int32 :=
  f_X1_holdersNow_4 M FU 0 0
def s_X1_holdersNow (M : gM) : Prop :=
  s_X1_holdersNow_4 M FU 0 0
set_option maxRecDepth 100000 in
set_option maxHeartbeats 4000000 in
theorem t_X1_holdersNow {E : gE} {K : Int32 → Prop} {Q : Option Value → gM → Prop} {M : gM} (hK : ∀ z : Int32, K z → Q (some (.int z)) M)   (hs : s_X1_holdersNow M) (hQ : K (f_X1_holdersNow M)) : gG E RX1 cX1_holdersNow 3 (some .int) (rm 0) 0 [(0, .ref (gla E 220))] [] M Q := by
  rw [s_X1_holdersNow] at hs
  rw [f_X1_holdersNow] at hQ
  refine g_iconst (v := 0) dX1_holdersNow_0 (by decide) ?_
  refine g_istore_n _ dX1_holdersNow_1 (by decide) rfl ?_
  refine g_iconst (v := 0) dX1_holdersNow_2 (by decide) ?_
  refine g_istore_n _ dX1_holdersNow_3 (by decide) rfl ?_
  refine g_sub [2, 1, 0] _ rfl ?_
  exact t_X1_holdersNow_4 hK FU 0 0 hs hQ
theorem c_X1_holdersNow (E : gE) (M : gM)  (hs : s_X1_holdersNow M) : gC E yX1_holdersNow cX1_holdersNow 3 (some .int) (rm 0) [.ref (gla E 220)] M (fun o N => o = some (.int (f_X1_holdersNow M)) ∧ N = M) :=
  gC.of (by decide +kernel) (Nat.le_of_ble_eq_true rfl) rfl (t_X1_holdersNow (K := fun z => z = f_X1_holdersNow M) (fun z hz => by rw [hz]; exact ⟨rfl, rfl⟩)  hs rfl)
def f_X4_countsOf_29 (M : gM)  : Int32 :=
  0
def s_X4_countsOf_29 (M : gM)  : Prop :=
  True
set_option maxRecDepth 100000 in
set_option maxHeartbeats 4000000 in
theorem t_X4_countsOf_29 {E : gE} {K : Int32 → Prop} {Q : Option Value → gM → Prop} {M : gM} (hK : ∀ z : Int32, K z → Q (some (.int z)) M)    (hs : s_X4_countsOf_29 M ) (hQ : K (f_X4_countsOf_29 M )) : gG E RX4 cX4_countsOf 3 (some .boolean) (rm 0) 29 [] [] M Q := by
  rw [s_X4_countsOf_29] at hs
  rw [f_X4_countsOf_29] at hQ
  refine g_iconst (v := 0) dX4_countsOf_29 (by decide) ?_
  exact g_zret rfl (Or.inl rfl) dX4_countsOf_30 (hK _ hQ)
def f_X4_countsOf (M : gM) (x1 : Int32) (x2 : Int32) : Int32 :=
  if (rdI M 25 0 (nn x2) 0) = x1 then
    (if (rdI M 54 0 0 (nn x2)) = 0 then
      (1)
    else
      (f_X4_countsOf_29 M))
  else
    (f_X4_countsOf_29 M)
def s_X4_countsOf (M : gM) (x1 : Int32) (x2 : Int32) : Prop :=
  (vp_in x2 12) ∧
  (if (rdI M 25 0 (nn x2) 0) = x1 then
    ((vp_in x2 12) ∧
    (if (rdI M 54 0 0 (nn x2)) = 0 then
      (True)
    else
      (s_X4_countsOf_29 M)))
  else
    (s_X4_countsOf_29 M))
set_option maxRecDepth 100000 in
set_option maxHeartbeats 4000000 in
theorem t_X4_countsOf {E : gE} {K : Int32 → Prop} {Q : Option Value → gM → Prop} {M : gM} (hK : ∀ z : Int32, K z → Q (some (.int z)) M)  (x1 : Int32) (x2 : Int32)  (hs : s_X4_countsOf M x1 x2) (hQ : K (f_X4_countsOf M x1 x2)) : gG E RX4 cX4_countsOf 3 (some .boolean) (rm 0) 0 [(0, .ref (gla E 216)), (1, .int x1), (2, .int x2)] [] M Q := by
  rw [s_X4_countsOf] at hs
  rw [f_X4_countsOf] at hQ
  refine g_aload_n 0 dX4_countsOf_0 rfl ?_
  refine g_getR 216 (rgC 0) fd_X4_22 dF_Lw rfl rfl dX4_countsOf_1 ?_
  refine g_getR (rgC 0) (rgC 0 + 4) fd_X4_41 (dF_Rg lt02) rfl rfl dX4_countsOf_4 ?_
  refine g_iload_n 2 dX4_countsOf_7 rfl ?_
  have h1 := hs.1; have hs := hs.2
  refine g_aald (rgC 0 + 4) (paC 0 (nn x2)) rfl (dF_Rg_papers lt02) h1 (aj_Pa _ _) dX4_countsOf_8 ?_
  refine g_getI (paC 0 (nn x2)) fd_X4_61 (dF_Pa lt02 (vpL h1)) rfl dX4_countsOf_9 ?_
  refine g_iload_n 1 dX4_countsOf_12 rfl ?_
  refine g_icmp_ne 29 dX4_countsOf_13 (by decide) (fun c2 => ?_) (fun c2 => ?_)
  · have hs := ifSf hs c2; have hQ := ifQf hQ c2
    refine g_sub [] _ rfl ?_
    exact t_X4_countsOf_29 hK hs hQ
  · have hs := ifSt hs c2; have hQ := ifQt hQ c2
    refine g_aload_n 0 dX4_countsOf_16 rfl ?_
    refine g_getR 216 218 fd_X4_15 dF_Lw rfl rfl dX4_countsOf_17 ?_
    refine g_iload_n 2 dX4_countsOf_20 rfl ?_
    have h3 := hs.1; have hs := hs.2
    refine g_iald 218 dF_Lw_why h3 dX4_countsOf_21 ?_
    refine g_if_ne 29 dX4_countsOf_22 (by decide) (fun c4 => ?_) (fun c4 => ?_)
    · have hs := ifSf hs c4; have hQ := ifQf hQ c4
      refine g_sub [] _ rfl ?_
      exact t_X4_countsOf_29 hK hs hQ
    · have hs := ifSt hs c4; have hQ := ifQt hQ c4
      refine g_iconst (v := 1) dX4_countsOf_25 (by decide) ?_
      refine g_goto 30 dX4_countsOf_26 (by decide) ?_
      exact g_zret rfl (Or.inr rfl) dX4_countsOf_30 (hK _ hQ)
theorem c_X4_countsOf (E : gE) (M : gM) (x1 : Int32) (x2 : Int32) (hs : s_X4_countsOf M x1 x2) : gC E yX4_countsOf cX4_countsOf 3 (some .boolean) (rm 0) [.ref (gla E 216), .int x1, .int x2] M (fun o N => o = some (.int (f_X4_countsOf M x1 x2)) ∧ N = M) :=
  gC.of (by decide +kernel) (Nat.le_of_ble_eq_true rfl) rfl (t_X4_countsOf (K := fun z => z = f_X4_countsOf M x1 x2) (fun z hz => by rw [hz]; exact ⟨rfl, rfl⟩) x1 x2 hs rfl)
def f_X4_hasFormByHand_26 (M : gM) (q : Nat)  : Int32 :=
  0
def s_X4_hasFormByHand_26 (M : gM) (q : Nat)  : Prop :=
  True
set_option maxRecDepth 100000 in
set_option maxHeartbeats 4000000 in
theorem t_X4_hasFormByHand_26 {E : gE} {K : Int32 → Prop} {Q : Option Value → gM → Prop} {M : gM} (hK : ∀ z : Int32, K z → Q (some (.int z)) M) (q : Nat) (hq : q < 12)  (hs : s_X4_hasFormByHand_26 M q ) (hQ : K (f_X4_hasFormByHand_26 M q )) : gG E RX4 cX4_hasFormByHand 3 (some .boolean) (rm 0) 26 [] [] M Q := by
  rw [s_X4_hasFormByHand_26] at hs
  rw [f_X4_hasFormByHand_26] at hQ
  refine g_iconst (v := 0) dX4_hasFormByHand_26 (by decide) ?_
  exact g_zret rfl (Or.inl rfl) dX4_hasFormByHand_27 (hK _ hQ)
def f_X4_hasFormByHand (M : gM) (q : Nat) (x2 : Int32) : Int32 :=
  if (rdI M 29 0 q 0) = 0 then
    (f_X4_hasFormByHand_26 M q)
  else
    (if (rdI M 15 0 (nn x2) 0) = 0 then
      (f_X4_hasFormByHand_26 M q)
    else
      (1))
def s_X4_hasFormByHand (M : gM) (q : Nat) (x2 : Int32) : Prop :=
  if (rdI M 29 0 q 0) = 0 then
    (s_X4_hasFormByHand_26 M q)
  else
    ((vp_in x2 2) ∧
    (if (rdI M 15 0 (nn x2) 0) = 0 then
      (s_X4_hasFormByHand_26 M q)
    else
      (True)))
set_option maxRecDepth 100000 in
set_option maxHeartbeats 4000000 in
theorem t_X4_hasFormByHand {E : gE} {K : Int32 → Prop} {Q : Option Value → gM → Prop} {M : gM} (hK : ∀ z : Int32, K z → Q (some (.int z)) M)  (q : Nat) (x2 : Int32) (hq : q < 12) (hs : s_X4_hasFormByHand M q x2) (hQ : K (f_X4_hasFormByHand M q x2)) : gG E RX4 cX4_hasFormByHand 3 (some .boolean) (rm 0) 0 [(0, .ref (gla E 216)), (1, .ref (gla E (paC 0 q))), (2, .int x2)] [] M Q := by
  rw [s_X4_hasFormByHand] at hs
  rw [f_X4_hasFormByHand] at hQ
  refine g_aload_n 1 dX4_hasFormByHand_0 rfl ?_
  refine g_getI (paC 0 q) fd_X4_109 (dF_Pa lt02 hq) rfl dX4_hasFormByHand_1 ?_
  refine g_if_eq 26 dX4_hasFormByHand_4 (by decide) (fun c1 => ?_) (fun c1 => ?_)
  · have hs := ifSt hs c1; have hQ := ifQt hQ c1
    refine g_sub [] _ rfl ?_
    exact t_X4_hasFormByHand_26 hK q hq hs hQ
  · have hs := ifSf hs c1; have hQ := ifQf hQ c1
    refine g_aload_n 0 dX4_hasFormByHand_7 rfl ?_
    refine g_getR 216 (rgC 0) fd_X4_22 dF_Lw rfl rfl dX4_hasFormByHand_8 ?_
    refine g_getR (rgC 0) (rgC 0 + 1) fd_X4_89 (dF_Rg lt02) rfl rfl dX4_hasFormByHand_11 ?_
    refine g_iload_n 2 dX4_hasFormByHand_14 rfl ?_
    have h2 := hs.1; have hs := hs.2
    refine g_aald (rgC 0 + 1) (laC 0 (nn x2)) rfl (dF_Rg_lands lt02) h2 (aj_La _ _) dX4_hasFormByHand_15 ?_
    refine g_getI (laC 0 (nn x2)) fd_X4_112 (dF_La lt02 (vpL h2)) rfl dX4_hasFormByHand_16 ?_
    refine g_if_eq 26 dX4_hasFormByHand_19 (by decide) (fun c3 => ?_) (fun c3 => ?_)
    · have hs := ifSt hs c3; have hQ := ifQt hQ c3
      refine g_sub [] _ rfl ?_
      exact t_X4_hasFormByHand_26 hK q hq hs hQ
    · have hs := ifSf hs c3; have hQ := ifQf hQ c3
      refine g_iconst (v := 1) dX4_hasFormByHand_22 (by decide) ?_
      refine g_goto 27 dX4_hasFormByHand_23 (by decide) ?_
      exact g_zret rfl (Or.inr rfl) dX4_hasFormByHand_27 (hK _ hQ)
theorem c_X4_hasFormByHand (E : gE) (M : gM) (q : Nat) (hq : q < 12) (x2 : Int32) (hs : s_X4_hasFormByHand M q x2) : gC E yX4_hasFormByHand cX4_hasFormByHand 3 (some .boolean) (rm 0) [.ref (gla E 216), .ref (gla E (paC 0 q)), .int x2] M (fun o N => o = some (.int (f_X4_hasFormByHand M q x2)) ∧ N = M) :=
  gC.of (by decide +kernel) (Nat.le_of_ble_eq_true rfl) rfl (t_X4_hasFormByHand (K := fun z => z = f_X4_hasFormByHand M q x2) (fun z hz => by rw [hz]; exact ⟨rfl, rfl⟩) q x2 hq hs rfl)
def f_X1_shareOut_27 (x2 : Int32) (x3 : Int32) (x4 : Int32) (x5 : Int32) (x6 : Int64)  : Nat → gM → Int32 → gM
  | 0, M, _ => M
  | n + 1, M, x8 =>
    if 10 < x8 then
      (bnd (wrJ M 61 0 0 (nn x3) ((rdJ M 61 0 0 (nn x3)) + (x6 * (Int32.toInt64 x4)))) fun M9 =>
      (bnd (wrJ M9 56 0 0 0 ((rdJ M9 56 0 0 0) * (Int32.toInt64 x5))) fun M10 =>
      (M10)))
    else
      (bnd (wrJ M 61 0 0 (nn x8) (((rdJ M 61 0 0 (nn x8)) * (Int32.toInt64 x5)) + ((Int32.toInt64 ((x2 >>> (x8 &&& 31)) &&& 1)) * x6))) fun M13 =>
      (f_X1_shareOut_27 x2 x3 x4 x5 x6 n M13 (x8 + 1)))
def s_X1_shareOut_27 (x2 : Int32) (x3 : Int32) (x4 : Int32) (x5 : Int32) (x6 : Int64)  : Nat → gM → Int32 → Prop
  | 0, _, _ => False
  | n + 1, M, x8 =>
    if 10 < x8 then
      ((vp_in x3 11) ∧
      ((vp_in x3 11) ∧
      (bndP (wrJ M 61 0 0 (nn x3) ((rdJ M 61 0 0 (nn x3)) + (x6 * (Int32.toInt64 x4)))) fun M9 =>
      (bndP (wrJ M9 56 0 0 0 ((rdJ M9 56 0 0 0) * (Int32.toInt64 x5))) fun M10 =>
      (True)))))
    else
      ((vp_in x8 11) ∧
      ((vp_in x8 11) ∧
      (bndP (wrJ M 61 0 0 (nn x8) (((rdJ M 61 0 0 (nn x8)) * (Int32.toInt64 x5)) + ((Int32.toInt64 ((x2 >>> (x8 &&& 31)) &&& 1)) * x6))) fun M13 =>
      (s_X1_shareOut_27 x2 x3 x4 x5 x6 n M13 (x8 + 1)))))
theorem o_X1_shareOut_27 (x2 : Int32) (x3 : Int32) (x4 : Int32) (x5 : Int32) (x6 : Int64)  : ∀ (n : Nat) (M : gM) (x8 : Int32), offW [56, 61] M (f_X1_shareOut_27 x2 x3 x4 x5 x6  n M x8) := by
  intro n
  induction n with
  | zero => intro M x8; exact offR
  | succ n ih =>
    intro M x8
    rw [f_X1_shareOut_27]
    refine offI ?_ ?_
    · refine offB (offR.wJ (by decide)) (fun M9 oM9 => ?_)
      refine offB (oM9.wJ (by decide)) (fun M10 oM10 => ?_)
      exact oM10
    · refine offB (offR.wJ (by decide)) (fun M13 oM13 => ?_)
      exact oM13.tr (ih M13 (x8 + 1))
set_option maxRecDepth 100000 in
set_option maxHeartbeats 4000000 in
theorem t_X1_shareOut_27 {E : gE} {K : gM → Prop} {Q : Option Value → gM → Prop} (hK : ∀ z : gM, K z → Q none z) (x2 : Int32) (x3 : Int32) (x4 : Int32) (x5 : Int32) (x6 : Int64)   : ∀ (n : Nat) (M : gM) (x8 : Int32) , s_X1_shareOut_27 x2 x3 x4 x5 x6  n M x8 → K (f_X1_shareOut_27 x2 x3 x4 x5 x6  n M x8) → gG E RX1 cX1_shareOut 9 none (rm 1) 27 [(0, .ref (gla E 220)), (2, .int x2), (3, .int x3), (4, .int x4), (5, .int x5), (6, .long x6), (8, .int x8)] [] M Q := by
  intro n
  induction n with
  | zero => intro M x8 hs hQ; exact (hs : False).elim
  | succ n ih =>
    intro M x8 hs hQ
    rw [s_X1_shareOut_27] at hs
    rw [f_X1_shareOut_27] at hQ
    refine g_iload 6 dX1_shareOut_27 rfl ?_
    refine g_bipush (v := 10) dX1_shareOut_29 (by decide) ?_
    refine g_icmp_gt 69 dX1_shareOut_31 (by decide) (fun c6 => ?_) (fun c6 => ?_)
    · have hs := ifSt hs c6; have hQ := ifQt hQ c6
      refine g_aload_n 0 dX1_shareOut_69 rfl ?_
      refine g_getR 220 221 fd_X1_9 dF_Es rfl rfl dX1_shareOut_70 ?_
      refine g_iload_n 2 dX1_shareOut_73 rfl ?_
      refine g_dup2 dX1_shareOut_74 rfl rfl ?_
      have h7 := hs.1; have hs := hs.2
      refine g_lald 221 dF_Es_parts h7 dX1_shareOut_75 ?_
      refine g_lload 5 dX1_shareOut_76 rfl ?_
      refine g_iload 3 dX1_shareOut_78 rfl ?_
      refine g_i2l dX1_shareOut_80 ?_
      refine g_lmul dX1_shareOut_81 ?_
      refine g_ladd dX1_shareOut_82 ?_
      have h8 := hs.1; have hs := hs.2
      refine g_last 221 dF_Es_parts h8 dX1_shareOut_83 (fun M9 hM9 => ?_)
      have hQ := bndQ hQ M9 hM9; have hs := bndS hs M9 hM9
      refine g_aload_n 0 dX1_shareOut_84 rfl ?_
      refine g_dup dX1_shareOut_85 rfl ?_
      refine g_getJ 220 fd_X1_15 dF_Es rfl dX1_shareOut_86 ?_
      refine g_iload 4 dX1_shareOut_89 rfl ?_
      refine g_i2l dX1_shareOut_91 ?_
      refine g_lmul dX1_shareOut_92 ?_
      refine g_putJ 220 fd_X1_15 dF_Es rfl dX1_shareOut_93 (fun M10 hM10 => ?_)
      have hQ := bndQ hQ M10 hM10; have hs := bndS hs M10 hM10
      exact g_vret rfl dX1_shareOut_96 (hK _ hQ)
    · have hs := ifSf hs c6; have hQ := ifQf hQ c6
      refine g_aload_n 0 dX1_shareOut_34 rfl ?_
      refine g_getR 220 221 fd_X1_9 dF_Es rfl rfl dX1_shareOut_35 ?_
      refine g_iload 6 dX1_shareOut_38 rfl ?_
      refine g_aload_n 0 dX1_shareOut_40 rfl ?_
      refine g_getR 220 221 fd_X1_9 dF_Es rfl rfl dX1_shareOut_41 ?_
      refine g_iload 6 dX1_shareOut_44 rfl ?_
      have h11 := hs.1; have hs := hs.2
      refine g_lald 221 dF_Es_parts h11 dX1_shareOut_46 ?_
      refine g_iload 4 dX1_shareOut_47 rfl ?_
      refine g_i2l dX1_shareOut_49 ?_
      refine g_lmul dX1_shareOut_50 ?_
      refine g_iload_n 1 dX1_shareOut_51 rfl ?_
      refine g_iload 6 dX1_shareOut_52 rfl ?_
      refine g_ishr dX1_shareOut_54 ?_
      refine g_iconst (v := 1) dX1_shareOut_55 (by decide) ?_
      refine g_iand dX1_shareOut_56 ?_
      refine g_i2l dX1_shareOut_57 ?_
      refine g_lload 5 dX1_shareOut_58 rfl ?_
      refine g_lmul dX1_shareOut_60 ?_
      refine g_ladd dX1_shareOut_61 ?_
      have h12 := hs.1; have hs := hs.2
      refine g_last 221 dF_Es_parts h12 dX1_shareOut_62 (fun M13 hM13 => ?_)
      have hQ := bndQ hQ M13 hM13; have hs := bndS hs M13 hM13
      refine g_iinc 6 (v := x8 + 1) _ dX1_shareOut_63 rfl rfl (by decide) rfl ?_
      refine g_goto 27 dX1_shareOut_66 (by decide) ?_
      refine g_sub [1, 2, 3, 4, 5, 6, 0] _ rfl ?_
      exact ih M13 (x8 + 1) hs hQ
def f_X1_shareOut (M : gM) (x1 : Int32) (x2 : Int32) (x3 : Int32) (x4 : Int32) : gM :=
  bnd ((f_J6_bitCount_0f7a4 M x2) + x4) fun v2 =>
  (bnd (wrJ M 61 0 0 (nn x1) 0) fun M5 =>
  (f_X1_shareOut_27 x2 x3 x4 v2 (rdJ M 61 0 0 (nn x1)) FU M5 0))
def s_X1_shareOut (M : gM) (x1 : Int32) (x2 : Int32) (x3 : Int32) (x4 : Int32) : Prop :=
  (s_J6_bitCount_0f7a4 M x2) ∧
  (bndP ((f_J6_bitCount_0f7a4 M x2) + x4) fun v2 =>
  ((vp_in x1 11) ∧
  ((vp_in x1 11) ∧
  (bndP (wrJ M 61 0 0 (nn x1) 0) fun M5 =>
  (s_X1_shareOut_27 x2 x3 x4 v2 (rdJ M 61 0 0 (nn x1)) FU M5 0)))))
theorem o_X1_shareOut (M : gM) (x1 : Int32) (x2 : Int32) (x3 : Int32) (x4 : Int32) : offW [56, 61] M (f_X1_shareOut M x1 x2 x3 x4) := by
  rw [f_X1_shareOut]
  refine offV (fun v2 => ?_)
  refine offB (offR.wJ (by decide)) (fun M5 oM5 => ?_)
  exact oM5.tr (o_X1_shareOut_27 x2 x3 x4 v2 (rdJ M 61 0 0 (nn x1)) FU M5 0)
set_option maxRecDepth 100000 in
set_option maxHeartbeats 4000000 in
theorem t_X1_shareOut {E : gE} {K : gM → Prop} {Q : Option Value → gM → Prop} (hK : ∀ z : gM, K z → Q none z) (M : gM) (x1 : Int32) (x2 : Int32) (x3 : Int32) (x4 : Int32)  (hs : s_X1_shareOut M x1 x2 x3 x4) (hQ : K (f_X1_shareOut M x1 x2 x3 x4)) : gG E RX1 cX1_shareOut 9 none (rm 1) 0 [(0, .ref (gla E 220)), (1, .int x1), (2, .int x2), (3, .int x3), (4, .int x4)] [] M Q := by
  rw [s_X1_shareOut] at hs
  rw [f_X1_shareOut] at hQ
  refine g_iload_n 2 dX1_shareOut_0 rfl ?_
  have h1 := hs.1; have hs := hs.2
  refine g_callS (As := [.int x2]) (st := []) (c_J6_bitCount_0f7a4 E M x2 h1) mt_J6_bitCount_0f7a4 ml_X1_113 sg_J6_bitCount_0f7a4 rfl (by decide) (Nat.le_of_ble_eq_true rfl) dX1_shareOut_1 ?_
  rintro _ _ ⟨q1, q2⟩; rw [q1, q2]; clear q1 q2
  refine g_iload 4 dX1_shareOut_4 rfl ?_
  refine g_iadd dX1_shareOut_6 ?_
  refine g_topI (fun v2 hv2 => ?_)
  have hQ := bndQ hQ v2 hv2; have hs := bndS hs v2 hv2
  refine g_istore _ dX1_shareOut_7 (by decide) rfl ?_
  refine g_aload_n 1 dX1_shareOut_9 rfl ?_
  refine g_getR 220 221 fd_X1_9 dF_Es rfl rfl dX1_shareOut_10 ?_
  refine g_iload_n 2 dX1_shareOut_13 rfl ?_
  have h3 := hs.1; have hs := hs.2
  refine g_lald 221 dF_Es_parts h3 dX1_shareOut_14 ?_
  refine g_lstore _ dX1_shareOut_15 (by decide) rfl ?_
  refine g_aload_n 2 dX1_shareOut_17 rfl ?_
  refine g_getR 220 221 fd_X1_9 dF_Es rfl rfl dX1_shareOut_18 ?_
  refine g_iload_n 3 dX1_shareOut_21 rfl ?_
  refine g_lconst (v := 0) dX1_shareOut_22 (by decide) ?_
  have h4 := hs.1; have hs := hs.2
  refine g_last 221 dF_Es_parts h4 dX1_shareOut_23 (fun M5 hM5 => ?_)
  have hQ := bndQ hQ M5 hM5; have hs := bndS hs M5 hM5
  refine g_iconst (v := 0) dX1_shareOut_24 (by decide) ?_
  refine g_istore _ dX1_shareOut_25 (by decide) rfl ?_
  refine g_sub [3, 5, 6, 7, 2, 1, 0] _ rfl ?_
  exact t_X1_shareOut_27 hK x2 x3 x4 v2 (rdJ M 61 0 0 (nn x1)) FU M5 0 hs hQ
theorem c_X1_shareOut (E : gE) (M : gM) (x1 : Int32) (x2 : Int32) (x3 : Int32) (x4 : Int32) (hs : s_X1_shareOut M x1 x2 x3 x4) : gC E yX1_shareOut cX1_shareOut 9 none (rm 1) [.ref (gla E 220), .int x1, .int x2, .int x3, .int x4] M (fun o N => o = none ∧ N = f_X1_shareOut M x1 x2 x3 x4) :=
  gC.of (by decide +kernel) (Nat.le_of_ble_eq_true rfl) rfl (t_X1_shareOut (K := fun z => z = f_X1_shareOut M x1 x2 x3 x4) (fun z hz => ⟨rfl, hz⟩) M x1 x2 x3 x4 hs rfl)
def f_X4_hasForm_25 (M : gM) (q : Nat)  : Int32 :=
  1
def s_X4_hasForm_25 (M : gM) (q : Nat)  : Prop :=
  True
set_option maxRecDepth 100000 in
set_option maxHeartbeats 4000000 in
theorem t_X4_hasForm_25 {E : gE} {K : Int32 → Prop} {Q : Option Value → gM → Prop} {M : gM} (hK : ∀ z : Int32, K z → Q (some (.int z)) M) (q : Nat) (hq : q < 12)  (hs : s_X4_hasForm_25 M q ) (hQ : K (f_X4_hasForm_25 M q )) : gG E RX4 cX4_hasForm 4 (some .boolean) (rm 1) 25 [] [] M Q := by
  rw [s_X4_hasForm_25] at hs
  rw [f_X4_hasForm_25] at hQ
  refine g_iconst (v := 1) dX4_hasForm_25 (by decide) ?_
  refine g_goto 30 dX4_hasForm_26 (by decide) ?_
  exact g_zret rfl (Or.inr rfl) dX4_hasForm_30 (hK _ hQ)
def f_X4_hasForm (M : gM) (q : Nat) (x2 : Int32) (x3 : Int32) : Int32 :=
  if (rdI M 14 0 (nn x2) 0) ≤ x3 then
    (f_X4_hasForm_25 M q)
  else
    (if (f_X4_hasFormByHand M q x2) = 0 then
      (0)
    else
      (f_X4_hasForm_25 M q))
def s_X4_hasForm (M : gM) (q : Nat) (x2 : Int32) (x3 : Int32) : Prop :=
  (vp_in x2 2) ∧
  (if (rdI M 14 0 (nn x2) 0) ≤ x3 then
    (s_X4_hasForm_25 M q)
  else
    ((s_X4_hasFormByHand M q x2) ∧
    (if (f_X4_hasFormByHand M q x2) = 0 then
      (True)
    else
      (s_X4_hasForm_25 M q))))
set_option maxRecDepth 100000 in
set_option maxHeartbeats 4000000 in
theorem t_X4_hasForm {E : gE} {K : Int32 → Prop} {Q : Option Value → gM → Prop} {M : gM} (hK : ∀ z : Int32, K z → Q (some (.int z)) M)  (q : Nat) (x2 : Int32) (x3 : Int32) (hq : q < 12) (hs : s_X4_hasForm M q x2 x3) (hQ : K (f_X4_hasForm M q x2 x3)) : gG E RX4 cX4_hasForm 4 (some .boolean) (rm 1) 0 [(0, .ref (gla E 216)), (1, .ref (gla E (paC 0 q))), (2, .int x2), (3, .int x3)] [] M Q := by
  rw [s_X4_hasForm] at hs
  rw [f_X4_hasForm] at hQ
  refine g_iload_n 3 dX4_hasForm_0 rfl ?_
  refine g_aload_n 0 dX4_hasForm_1 rfl ?_
  refine g_getR 216 (rgC 0) fd_X4_22 dF_Lw rfl rfl dX4_hasForm_2 ?_
  refine g_getR (rgC 0) (rgC 0 + 1) fd_X4_89 (dF_Rg lt02) rfl rfl dX4_hasForm_5 ?_
  refine g_iload_n 2 dX4_hasForm_8 rfl ?_
  have h1 := hs.1; have hs := hs.2
  refine g_aald (rgC 0 + 1) (laC 0 (nn x2)) rfl (dF_Rg_lands lt02) h1 (aj_La _ _) dX4_hasForm_9 ?_
  refine g_getI (laC 0 (nn x2)) fd_X4_102 (dF_La lt02 (vpL h1)) rfl dX4_hasForm_10 ?_
  refine g_icmp_ge 25 dX4_hasForm_13 (by decide) (fun c2 => ?_) (fun c2 => ?_)
  · have hs := ifSt hs c2; have hQ := ifQt hQ c2
    refine g_sub [] _ rfl ?_
    exact t_X4_hasForm_25 hK q hq hs hQ
  · have hs := ifSf hs c2; have hQ := ifQf hQ c2
    refine g_aload_n 0 dX4_hasForm_16 rfl ?_
    refine g_aload_n 1 dX4_hasForm_17 rfl ?_
    refine g_iload_n 2 dX4_hasForm_18 rfl ?_
    have h3 := hs.1; have hs := hs.2
    refine g_callV (As := [.ref (gla E (paC 0 q)), .int x2]) (st := []) 216 (c_X4_hasFormByHand E M q hq x2 h3) mt_X4_hasFormByHand ml_X4_105 dF_Lw rfl rfl sg_X4_hasFormByHand rfl (by decide) (Nat.le_of_ble_eq_true rfl) dX4_hasForm_19 ?_
    rintro _ _ ⟨q1, q2⟩; rw [q1, q2]; clear q1 q2
    refine g_if_eq 29 dX4_hasForm_22 (by decide) (fun c4 => ?_) (fun c4 => ?_)
    · have hs := ifSt hs c4; have hQ := ifQt hQ c4
      refine g_iconst (v := 0) dX4_hasForm_29 (by decide) ?_
      exact g_zret rfl (Or.inl rfl) dX4_hasForm_30 (hK _ hQ)
    · have hs := ifSf hs c4; have hQ := ifQf hQ c4
      refine g_sub [] _ rfl ?_
      exact t_X4_hasForm_25 hK q hq hs hQ
theorem c_X4_hasForm (E : gE) (M : gM) (q : Nat) (hq : q < 12) (x2 : Int32) (x3 : Int32) (hs : s_X4_hasForm M q x2 x3) : gC E yX4_hasForm cX4_hasForm 4 (some .boolean) (rm 1) [.ref (gla E 216), .ref (gla E (paC 0 q)), .int x2, .int x3] M (fun o N => o = some (.int (f_X4_hasForm M q x2 x3)) ∧ N = M) :=
  gC.of (by decide +kernel) (Nat.le_of_ble_eq_true rfl) rfl (t_X4_hasForm (K := fun z => z = f_X4_hasForm M q x2 x3) (fun z hz => by rw [hz]; exact ⟨rfl, rfl⟩) q x2 x3 hq hs rfl)
def f_X4_latestStriker_69 (M : gM) (x1 : Int32) (x2 : Int32) (x3 : Int32) (x4c1 : Nat) (y0 : Int32) (k2 : Int32 → Int32) : Int32 :=
  if (rdI M 53 0 0 (nn x3)) = 0 then
    (k2 (x2 + 1))
  else
    (if y0 = 0 then
      (k2 (x2 + 1))
    else
      (if (rdI M 25 0 x4c1 0) = (rdI M 25 0 (nn x1) 0) then
        (x3)
      else
        (k2 (x2 + 1))))
def s_X4_latestStriker_69 (M : gM) (x1 : Int32) (x2 : Int32) (x3 : Int32) (x4c1 : Nat) (y0 : Int32) (q2 : Int32 → Prop) : Prop :=
  (vp_in x3 12) ∧
  (if (rdI M 53 0 0 (nn x3)) = 0 then
    (q2 (x2 + 1))
  else
    (if y0 = 0 then
      (q2 (x2 + 1))
    else
      ((vp_in x1 12) ∧
      (if (rdI M 25 0 x4c1 0) = (rdI M 25 0 (nn x1) 0) then
        (True)
      else
        (q2 (x2 + 1))))))
set_option maxRecDepth 100000 in
set_option maxHeartbeats 4000000 in
theorem t_X4_latestStriker_69 {E : gE} {K : Int32 → Prop} {Q : Option Value → gM → Prop} {M : gM} (hK : ∀ z : Int32, K z → Q (some (.int z)) M) (x1 : Int32) (x2 : Int32) (x3 : Int32) (x4c1 : Nat) (y0 : Int32) (hx4c1 : x4c1 < 12) (k2 : Int32 → Int32) (q2 : Int32 → Prop) (hk2 : ∀ (x2 : Int32) , q2 x2 → K (k2 x2) → gG E RX4 cX4_latestStriker 6 (some .int) (rm 1) 2 [(0, .ref (gla E 216)), (1, .int x1), (2, .int x2)] [] M Q) (hs : s_X4_latestStriker_69 M x1 x2 x3 x4c1 y0 q2) (hQ : K (f_X4_latestStriker_69 M x1 x2 x3 x4c1 y0 k2)) : gG E RX4 cX4_latestStriker 6 (some .int) (rm 1) 69 [(0, .ref (gla E 216)), (1, .int x1), (2, .int x2), (3, .int x3), (4, .ref (gla E (paC 0 x4c1)))] [.int y0] M Q := by
  rw [s_X4_latestStriker_69] at hs
  rw [f_X4_latestStriker_69] at hQ
  refine g_istore _ dX4_latestStriker_69 (by decide) rfl ?_
  refine g_aload_n 1 dX4_latestStriker_71 rfl ?_
  refine g_getR 216 217 fd_X4_9 dF_Lw rfl rfl dX4_latestStriker_72 ?_
  refine g_iload_n 4 dX4_latestStriker_75 rfl ?_
  have h9 := hs.1; have hs := hs.2
  refine g_zald 217 dF_Lw_good h9 dX4_latestStriker_76 ?_
  refine g_if_eq 107 dX4_latestStriker_77 (by decide) (fun c10 => ?_) (fun c10 => ?_)
  · have hs := ifSt hs c10; have hQ := ifQt hQ c10
    refine g_iinc 3 (v := x2 + 1) _ dX4_latestStriker_107 rfl rfl (by decide) rfl ?_
    refine g_goto 2 dX4_latestStriker_110 (by decide) ?_
    refine g_sub [2, 3, 0] _ rfl ?_
    exact hk2 (x2 + 1) hs hQ
  · have hs := ifSf hs c10; have hQ := ifQf hQ c10
    refine g_iload 0 dX4_latestStriker_80 rfl ?_
    refine g_if_eq 107 dX4_latestStriker_82 (by decide) (fun c11 => ?_) (fun c11 => ?_)
    · have hs := ifSt hs c11; have hQ := ifQt hQ c11
      refine g_iinc 3 (v := x2 + 1) _ dX4_latestStriker_107 rfl rfl (by decide) rfl ?_
      refine g_goto 2 dX4_latestStriker_110 (by decide) ?_
      refine g_sub [2, 3, 0] _ rfl ?_
      exact hk2 (x2 + 1) hs hQ
    · have hs := ifSf hs c11; have hQ := ifQf hQ c11
      refine g_aload 5 dX4_latestStriker_85 rfl ?_
      refine g_getI (paC 0 x4c1) fd_X4_61 (dF_Pa lt02 hx4c1) rfl dX4_latestStriker_87 ?_
      refine g_aload_n 1 dX4_latestStriker_90 rfl ?_
      refine g_getR 216 (rgC 0) fd_X4_22 dF_Lw rfl rfl dX4_latestStriker_91 ?_
      refine g_getR (rgC 0) (rgC 0 + 4) fd_X4_41 (dF_Rg lt02) rfl rfl dX4_latestStriker_94 ?_
      refine g_iload_n 2 dX4_latestStriker_97 rfl ?_
      have h12 := hs.1; have hs := hs.2
      refine g_aald (rgC 0 + 4) (paC 0 (nn x1)) rfl (dF_Rg_papers lt02) h12 (aj_Pa _ _) dX4_latestStriker_98 ?_
      refine g_getI (paC 0 (nn x1)) fd_X4_61 (dF_Pa lt02 (vpL h12)) rfl dX4_latestStriker_99 ?_
      refine g_icmp_ne 107 dX4_latestStriker_102 (by decide) (fun c13 => ?_) (fun c13 => ?_)
      · have hs := ifSf hs c13; have hQ := ifQf hQ c13
        refine g_iinc 3 (v := x2 + 1) _ dX4_latestStriker_107 rfl rfl (by decide) rfl ?_
        refine g_goto 2 dX4_latestStriker_110 (by decide) ?_
        refine g_sub [2, 3, 0] _ rfl ?_
        exact hk2 (x2 + 1) hs hQ
      · have hs := ifSt hs c13; have hQ := ifQt hQ c13
        refine g_iload_n 4 dX4_latestStriker_105 rfl ?_
        exact g_iret rfl dX4_latestStriker_106 (hK _ hQ)
def f_X4_latestStriker_64 (M : gM) (x1 : Int32) (x2 : Int32) (x3 : Int32) (x4c1 : Nat) (k2 : Int32 → Int32) : Int32 :=
  f_X4_latestStriker_69 M x1 x2 x3 x4c1 1 k2
def s_X4_latestStriker_64 (M : gM) (x1 : Int32) (x2 : Int32) (x3 : Int32) (x4c1 : Nat) (q2 : Int32 → Prop) : Prop :=
  s_X4_latestStriker_69 M x1 x2 x3 x4c1 1 q2
set_option maxRecDepth 100000 in
set_option maxHeartbeats 4000000 in
theorem t_X4_latestStriker_64 {E : gE} {K : Int32 → Prop} {Q : Option Value → gM → Prop} {M : gM} (hK : ∀ z : Int32, K z → Q (some (.int z)) M) (x1 : Int32) (x2 : Int32) (x3 : Int32) (x4c1 : Nat) (hx4c1 : x4c1 < 12) (k2 : Int32 → Int32) (q2 : Int32 → Prop) (hk2 : ∀ (x2 : Int32) , q2 x2 → K (k2 x2) → gG E RX4 cX4_latestStriker 6 (some .int) (rm 1) 2 [(0, .ref (gla E 216)), (1, .int x1), (2, .int x2)] [] M Q) (hs : s_X4_latestStriker_64 M x1 x2 x3 x4c1 q2) (hQ : K (f_X4_latestStriker_64 M x1 x2 x3 x4c1 k2)) : gG E RX4 cX4_latestStriker 6 (some .int) (rm 1) 64 [(0, .ref (gla E 216)), (1, .int x1), (2, .int x2), (3, .int x3), (4, .ref (gla E (paC 0 x4c1)))] [] M Q := by
  rw [s_X4_latestStriker_64] at hs
  rw [f_X4_latestStriker_64] at hQ
  refine g_iconst (v := 1) dX4_latestStriker_64 (by decide) ?_
  refine g_goto 69 dX4_latestStriker_65 (by decide) ?_
  exact t_X4_latestStriker_69 hK x1 x2 x3 x4c1 1 hx4c1 k2 q2 hk2 hs hQ
def f_X4_latestStriker_2 (M : gM) (x1 : Int32)  : Nat → Int32 → Int32
  | 0, _ => 0
  | n + 1, x2 =>
    if (rdI M 7 0 0 0) ≤ x2 then
      ((-1))
    else
      (if (rdI M 9 0 0 (nn x2)) = x1 then
        ((-1))
      else
        (if (rdI M 28 0 (nn (rdI M 9 0 0 (nn x2))) 0) = 0 then
          (f_X4_latestStriker_64 M x1 x2 (rdI M 9 0 0 (nn x2)) (nn (rdI M 9 0 0 (nn x2))) (f_X4_latestStriker_2 M x1 n))
        else
          (if (f_X5_strikes M 0 (nn (rdI M 9 0 0 (nn x2))) x1) = 0 then
            (f_X4_latestStriker_69 M x1 x2 (rdI M 9 0 0 (nn x2)) (nn (rdI M 9 0 0 (nn x2))) 0 (f_X4_latestStriker_2 M x1 n))
          else
            (f_X4_latestStriker_64 M x1 x2 (rdI M 9 0 0 (nn x2)) (nn (rdI M 9 0 0 (nn x2))) (f_X4_latestStriker_2 M x1 n)))))
def s_X4_latestStriker_2 (M : gM) (x1 : Int32)  : Nat → Int32 → Prop
  | 0, _ => False
  | n + 1, x2 =>
    if (rdI M 7 0 0 0) ≤ x2 then
      (True)
    else
      ((vp_in x2 12) ∧
      (if (rdI M 9 0 0 (nn x2)) = x1 then
        (True)
      else
        ((vp_in x2 12) ∧
        ((vp_in (rdI M 9 0 0 (nn x2)) 12) ∧
        (if (rdI M 28 0 (nn (rdI M 9 0 0 (nn x2))) 0) = 0 then
          (s_X4_latestStriker_64 M x1 x2 (rdI M 9 0 0 (nn x2)) (nn (rdI M 9 0 0 (nn x2))) (s_X4_latestStriker_2 M x1 n))
        else
          ((s_X5_strikes M 0 (nn (rdI M 9 0 0 (nn x2))) x1) ∧
          (if (f_X5_strikes M 0 (nn (rdI M 9 0 0 (nn x2))) x1) = 0 then
            (s_X4_latestStriker_69 M x1 x2 (rdI M 9 0 0 (nn x2)) (nn (rdI M 9 0 0 (nn x2))) 0 (s_X4_latestStriker_2 M x1 n))
          else
            (s_X4_latestStriker_64 M x1 x2 (rdI M 9 0 0 (nn x2)) (nn (rdI M 9 0 0 (nn x2))) (s_X4_latestStriker_2 M x1 n)))))))))
set_option maxRecDepth 100000 in
set_option maxHeartbeats 4000000 in
theorem t_X4_latestStriker_2 {E : gE} {K : Int32 → Prop} {Q : Option Value → gM → Prop} {M : gM} (hK : ∀ z : Int32, K z → Q (some (.int z)) M) (x1 : Int32)   : ∀ (n : Nat) (x2 : Int32) , s_X4_latestStriker_2 M x1  n x2 → K (f_X4_latestStriker_2 M x1  n x2) → gG E RX4 cX4_latestStriker 6 (some .int) (rm 1) 2 [(0, .ref (gla E 216)), (1, .int x1), (2, .int x2)] [] M Q := by
  intro n
  induction n with
  | zero => intro x2 hs hQ; exact (hs : False).elim
  | succ n ih =>
    intro x2 hs hQ
    rw [s_X4_latestStriker_2] at hs
    rw [f_X4_latestStriker_2] at hQ
    refine g_iload_n 2 dX4_latestStriker_2 rfl ?_
    refine g_aload_n 0 dX4_latestStriker_3 rfl ?_
    refine g_getR 216 (rgC 0) fd_X4_22 dF_Lw rfl rfl dX4_latestStriker_4 ?_
    refine g_getI (rgC 0) fd_X4_38 (dF_Rg lt02) rfl dX4_latestStriker_7 ?_
    refine g_icmp_ge 113 dX4_latestStriker_10 (by decide) (fun c1 => ?_) (fun c1 => ?_)
    · have hs := ifSt hs c1; have hQ := ifQt hQ c1
      refine g_iconst (v := (-1)) dX4_latestStriker_113 (by decide) ?_
      exact g_iret rfl dX4_latestStriker_114 (hK _ hQ)
    · have hs := ifSf hs c1; have hQ := ifQf hQ c1
      refine g_aload_n 0 dX4_latestStriker_13 rfl ?_
      refine g_getR 216 (rgC 0) fd_X4_22 dF_Lw rfl rfl dX4_latestStriker_14 ?_
      refine g_getR (rgC 0) (rgC 0 + 5) fd_X4_124 (dF_Rg lt02) rfl rfl dX4_latestStriker_17 ?_
      refine g_iload_n 2 dX4_latestStriker_20 rfl ?_
      have h2 := hs.1; have hs := hs.2
      refine g_iald (rgC 0 + 5) (dF_Rg_latestFirst lt02) h2 dX4_latestStriker_21 ?_
      refine g_iload_n 1 dX4_latestStriker_22 rfl ?_
      refine g_icmp_eq 113 dX4_latestStriker_23 (by decide) (fun c3 => ?_) (fun c3 => ?_)
      · have hs := ifSt hs c3; have hQ := ifQt hQ c3
        refine g_iconst (v := (-1)) dX4_latestStriker_113 (by decide) ?_
        exact g_iret rfl dX4_latestStriker_114 (hK _ hQ)
      · have hs := ifSf hs c3; have hQ := ifQf hQ c3
        refine g_aload_n 0 dX4_latestStriker_26 rfl ?_
        refine g_getR 216 (rgC 0) fd_X4_22 dF_Lw rfl rfl dX4_latestStriker_27 ?_
        refine g_getR (rgC 0) (rgC 0 + 5) fd_X4_124 (dF_Rg lt02) rfl rfl dX4_latestStriker_30 ?_
        refine g_iload_n 2 dX4_latestStriker_33 rfl ?_
        have h4 := hs.1; have hs := hs.2
        refine g_iald (rgC 0 + 5) (dF_Rg_latestFirst lt02) h4 dX4_latestStriker_34 ?_
        refine g_istore_n _ dX4_latestStriker_35 (by decide) rfl ?_
        refine g_aload_n 1 dX4_latestStriker_36 rfl ?_
        refine g_getR 216 (rgC 0) fd_X4_22 dF_Lw rfl rfl dX4_latestStriker_37 ?_
        refine g_getR (rgC 0) (rgC 0 + 4) fd_X4_41 (dF_Rg lt02) rfl rfl dX4_latestStriker_40 ?_
        refine g_iload_n 0 dX4_latestStriker_43 rfl ?_
        have h5 := hs.1; have hs := hs.2
        refine g_aald (rgC 0 + 4) (paC 0 (nn (rdI M 9 0 0 (nn x2)))) rfl (dF_Rg_papers lt02) h5 (aj_Pa _ _) dX4_latestStriker_44 ?_
        refine g_astore _ dX4_latestStriker_45 (by decide) rfl ?_
        refine g_aload 0 dX4_latestStriker_47 rfl ?_
        refine g_getI (paC 0 (nn (rdI M 9 0 0 (nn x2)))) fd_X4_127 (dF_Pa lt02 (vpL h5)) rfl dX4_latestStriker_49 ?_
        refine g_if_eq 64 dX4_latestStriker_52 (by decide) (fun c6 => ?_) (fun c6 => ?_)
        · have hs := ifSt hs c6; have hQ := ifQt hQ c6
          refine g_sub [2, 3, 4, 1, 0] _ rfl ?_
          exact t_X4_latestStriker_64 hK x1 x2 (rdI M 9 0 0 (nn x2)) (nn (rdI M 9 0 0 (nn x2))) (vpL h5) (f_X4_latestStriker_2 M x1 n) (s_X4_latestStriker_2 M x1 n) ih hs hQ
        · have hs := ifSf hs c6; have hQ := ifQf hQ c6
          refine g_aload 0 dX4_latestStriker_55 rfl ?_
          refine g_iload_n 3 dX4_latestStriker_57 rfl ?_
          have h7 := hs.1; have hs := hs.2
          refine g_callV (As := [.int x1]) (st := []) (paC 0 (nn (rdI M 9 0 0 (nn x2)))) (c_X5_strikes E M 0 (nn (rdI M 9 0 0 (nn x2))) lt02 (vpL h5) x1 h7) mt_X5_strikes ml_X4_130 (dF_Pa lt02 (vpL h5)) rfl rfl sg_X5_strikes rfl (by decide) (Nat.le_of_ble_eq_true rfl) dX4_latestStriker_58 ?_
          rintro _ _ ⟨q1, q2⟩; rw [q1, q2]; clear q1 q2
          refine g_if_eq 68 dX4_latestStriker_61 (by decide) (fun c8 => ?_) (fun c8 => ?_)
          · have hs := ifSt hs c8; have hQ := ifQt hQ c8
            refine g_iconst (v := 0) dX4_latestStriker_68 (by decide) ?_
            refine g_sub [2, 3, 4, 1, 0] _ rfl ?_
            exact t_X4_latestStriker_69 hK x1 x2 (rdI M 9 0 0 (nn x2)) (nn (rdI M 9 0 0 (nn x2))) 0 (vpL h5) (f_X4_latestStriker_2 M x1 n) (s_X4_latestStriker_2 M x1 n) ih hs hQ
          · have hs := ifSf hs c8; have hQ := ifQf hQ c8
            refine g_sub [2, 3, 4, 1, 0] _ rfl ?_
            exact t_X4_latestStriker_64 hK x1 x2 (rdI M 9 0 0 (nn x2)) (nn (rdI M 9 0 0 (nn x2))) (vpL h5) (f_X4_latestStriker_2 M x1 n) (s_X4_latestStriker_2 M x1 n) ih hs hQ
def f_X4_latestStriker (M : gM) (x1 : Int32) : Int32 :=
  f_X4_latestStriker_2 M x1 FU 0
def s_X4_latestStriker (M : gM) (x1 : Int32) : Prop :=
  s_X4_latestStriker_2 M x1 FU 0
set_option maxRecDepth 100000 in
set_option maxHeartbeats 4000000 in
theorem t_X4_latestStriker {E : gE} {K : Int32 → Prop} {Q : Option Value → gM → Prop} {M : gM} (hK : ∀ z : Int32, K z → Q (some (.int z)) M)  (x1 : Int32)  (hs : s_X4_latestStriker M x1) (hQ : K (f_X4_latestStriker M x1)) : gG E RX4 cX4_latestStriker 6 (some .int) (rm 1) 0 [(0, .ref (gla E 216)), (1, .int x1)] [] M Q := by
  rw [s_X4_latestStriker] at hs
  rw [f_X4_latestStriker] at hQ
  refine g_iconst (v := 0) dX4_latestStriker_0 (by decide) ?_
  refine g_istore_n _ dX4_latestStriker_1 (by decide) rfl ?_
  refine g_sub [1, 2, 0] _ rfl ?_
  exact t_X4_latestStriker_2 hK x1 FU 0 hs hQ
theorem c_X4_latestStriker (E : gE) (M : gM) (x1 : Int32) (hs : s_X4_latestStriker M x1) : gC E yX4_latestStriker cX4_latestStriker 6 (some .int) (rm 1) [.ref (gla E 216), .int x1] M (fun o N => o = some (.int (f_X4_latestStriker M x1)) ∧ N = M) :=
  gC.of (by decide +kernel) (Nat.le_of_ble_eq_true rfl) rfl (t_X4_latestStriker (K := fun z => z = f_X4_latestStriker M x1) (fun z hz => by rw [hz]; exact ⟨rfl, rfl⟩) x1 hs rfl)
def f_X4_isBroken_57 (M : gM) (q : Nat)  : Int32 :=
  0
def s_X4_isBroken_57 (M : gM) (q : Nat)  : Prop :=
  True
set_option maxRecDepth 100000 in
set_option maxHeartbeats 4000000 in
theorem t_X4_isBroken_57 {E : gE} {K : Int32 → Prop} {Q : Option Value → gM → Prop} {M : gM} (hK : ∀ z : Int32, K z → Q (some (.int z)) M) (q : Nat) (hq : q < 12)  (hs : s_X4_isBroken_57 M q ) (hQ : K (f_X4_isBroken_57 M q )) : gG E RX4 cX4_isBroken 3 (some .boolean) (rm 1) 57 [] [] M Q := by
  rw [s_X4_isBroken_57] at hs
  rw [f_X4_isBroken_57] at hQ
  refine g_iconst (v := 0) dX4_isBroken_57 (by decide) ?_
  exact g_zret rfl (Or.inl rfl) dX4_isBroken_58 (hK _ hQ)
def f_X4_isBroken (M : gM) (q : Nat) : Int32 :=
  bnd (rdI M 20 0 (nn (rdI M 25 0 q 0)) 0) fun v2 =>
  (if (rdI M 16 0 (nn (rdI M 27 0 q 0)) 0) = 0 then
    (f_X4_isBroken_57 M q)
  else
    (if (f_X7_wasWedBetween M 0 (rdI M 25 0 q 0) (rdI M 26 0 q 0) v2) = 0 then
      (f_X4_isBroken_57 M q)
    else
      (1)))
def s_X4_isBroken (M : gM) (q : Nat) : Prop :=
  (vp_in (rdI M 25 0 q 0) 10) ∧
  (bndP (rdI M 20 0 (nn (rdI M 25 0 q 0)) 0) fun v2 =>
  ((vp_in (rdI M 27 0 q 0) 2) ∧
  (if (rdI M 16 0 (nn (rdI M 27 0 q 0)) 0) = 0 then
    (s_X4_isBroken_57 M q)
  else
    ((s_X7_wasWedBetween M 0 (rdI M 25 0 q 0) (rdI M 26 0 q 0) v2) ∧
    (if (f_X7_wasWedBetween M 0 (rdI M 25 0 q 0) (rdI M 26 0 q 0) v2) = 0 then
      (s_X4_isBroken_57 M q)
    else
      (True))))))
set_option maxRecDepth 100000 in
set_option maxHeartbeats 4000000 in
theorem t_X4_isBroken {E : gE} {K : Int32 → Prop} {Q : Option Value → gM → Prop} {M : gM} (hK : ∀ z : Int32, K z → Q (some (.int z)) M)  (q : Nat) (hq : q < 12) (hs : s_X4_isBroken M q) (hQ : K (f_X4_isBroken M q)) : gG E RX4 cX4_isBroken 3 (some .boolean) (rm 1) 0 [(0, .ref (gla E 216)), (1, .ref (gla E (paC 0 q)))] [] M Q := by
  rw [s_X4_isBroken] at hs
  rw [f_X4_isBroken] at hQ
  refine g_aload_n 0 dX4_isBroken_0 rfl ?_
  refine g_getR 216 (rgC 0) fd_X4_22 dF_Lw rfl rfl dX4_isBroken_1 ?_
  refine g_getR (rgC 0) (rgC 0 + 2) fd_X4_66 (dF_Rg lt02) rfl rfl dX4_isBroken_4 ?_
  refine g_aload_n 1 dX4_isBroken_7 rfl ?_
  refine g_getI (paC 0 q) fd_X4_61 (dF_Pa lt02 hq) rfl dX4_isBroken_8 ?_
  have h1 := hs.1; have hs := hs.2
  refine g_aald (rgC 0 + 2) (peC 0 (nn (rdI M 25 0 q 0))) rfl (dF_Rg_persons lt02) h1 (aj_Pe _ _) dX4_isBroken_11 ?_
  refine g_getI (peC 0 (nn (rdI M 25 0 q 0))) fd_X4_70 (dF_Pe lt02 (vpL h1)) rfl dX4_isBroken_12 ?_
  refine g_topI (fun v2 hv2 => ?_)
  have hQ := bndQ hQ v2 hv2; have hs := bndS hs v2 hv2
  refine g_istore_n _ dX4_isBroken_15 (by decide) rfl ?_
  refine g_aload_n 1 dX4_isBroken_16 rfl ?_
  refine g_getR 216 (rgC 0) fd_X4_22 dF_Lw rfl rfl dX4_isBroken_17 ?_
  refine g_getR (rgC 0) (rgC 0 + 1) fd_X4_89 (dF_Rg lt02) rfl rfl dX4_isBroken_20 ?_
  refine g_aload_n 2 dX4_isBroken_23 rfl ?_
  refine g_getI (paC 0 q) fd_X4_93 (dF_Pa lt02 hq) rfl dX4_isBroken_24 ?_
  have h3 := hs.1; have hs := hs.2
  refine g_aald (rgC 0 + 1) (laC 0 (nn (rdI M 27 0 q 0))) rfl (dF_Rg_lands lt02) h3 (aj_La _ _) dX4_isBroken_27 ?_
  refine g_getI (laC 0 (nn (rdI M 27 0 q 0))) fd_X4_134 (dF_La lt02 (vpL h3)) rfl dX4_isBroken_28 ?_
  refine g_if_eq 57 dX4_isBroken_31 (by decide) (fun c4 => ?_) (fun c4 => ?_)
  · have hs := ifSt hs c4; have hQ := ifQt hQ c4
    refine g_sub [] _ rfl ?_
    exact t_X4_isBroken_57 hK q hq hs hQ
  · have hs := ifSf hs c4; have hQ := ifQf hQ c4
    refine g_aload_n 1 dX4_isBroken_34 rfl ?_
    refine g_getR 216 (rgC 0) fd_X4_22 dF_Lw rfl rfl dX4_isBroken_35 ?_
    refine g_aload_n 2 dX4_isBroken_38 rfl ?_
    refine g_getI (paC 0 q) fd_X4_61 (dF_Pa lt02 hq) rfl dX4_isBroken_39 ?_
    refine g_aload_n 2 dX4_isBroken_42 rfl ?_
    refine g_getI (paC 0 q) fd_X4_79 (dF_Pa lt02 hq) rfl dX4_isBroken_43 ?_
    refine g_iload_n 0 dX4_isBroken_46 rfl ?_
    have h5 := hs.1; have hs := hs.2
    refine g_callV (As := [.int (rdI M 25 0 q 0), .int (rdI M 26 0 q 0), .int v2]) (st := []) (rgC 0) (c_X7_wasWedBetween E M 0 lt02 (rdI M 25 0 q 0) (rdI M 26 0 q 0) v2 h5) mt_X7_wasWedBetween ml_X4_137 (dF_Rg lt02) rfl rfl sg_X7_wasWedBetween rfl (by decide) (Nat.le_of_ble_eq_true rfl) dX4_isBroken_47 ?_
    rintro _ _ ⟨q1, q2⟩; rw [q1, q2]; clear q1 q2
    refine g_if_eq 57 dX4_isBroken_50 (by decide) (fun c6 => ?_) (fun c6 => ?_)
    · have hs := ifSt hs c6; have hQ := ifQt hQ c6
      refine g_sub [] _ rfl ?_
      exact t_X4_isBroken_57 hK q hq hs hQ
    · have hs := ifSf hs c6; have hQ := ifQf hQ c6
      refine g_iconst (v := 1) dX4_isBroken_53 (by decide) ?_
      refine g_goto 58 dX4_isBroken_54 (by decide) ?_
      exact g_zret rfl (Or.inr rfl) dX4_isBroken_58 (hK _ hQ)
theorem c_X4_isBroken (E : gE) (M : gM) (q : Nat) (hq : q < 12) (hs : s_X4_isBroken M q) : gC E yX4_isBroken cX4_isBroken 3 (some .boolean) (rm 1) [.ref (gla E 216), .ref (gla E (paC 0 q))] M (fun o N => o = some (.int (f_X4_isBroken M q)) ∧ N = M) :=
  gC.of (by decide +kernel) (Nat.le_of_ble_eq_true rfl) rfl (t_X4_isBroken (K := fun z => z = f_X4_isBroken M q) (fun z hz => by rw [hz]; exact ⟨rfl, rfl⟩) q hq hs rfl)
def f_X4_isSo_75 (M : gM) (q : Nat) (y0 : Int32) (y1 : Int32)  : Int32 :=
  if y0 = y1 then
    (1)
  else
    (0)
def s_X4_isSo_75 (M : gM) (q : Nat) (y0 : Int32) (y1 : Int32)  : Prop :=
  if y0 = y1 then
    (True)
  else
    (True)
set_option maxRecDepth 100000 in
set_option maxHeartbeats 4000000 in
theorem t_X4_isSo_75 {E : gE} {K : Int32 → Prop} {Q : Option Value → gM → Prop} {M : gM} (hK : ∀ z : Int32, K z → Q (some (.int z)) M) (q : Nat) (y0 : Int32) (y1 : Int32) (hq : q < 12)  (hs : s_X4_isSo_75 M q y0 y1 ) (hQ : K (f_X4_isSo_75 M q y0 y1 )) : gG E RX4 cX4_isSo 5 (some .boolean) (rm 1) 75 [] [.int y1, .int y0] M Q := by
  rw [s_X4_isSo_75] at hs
  rw [f_X4_isSo_75] at hQ
  refine g_icmp_ne 82 dX4_isSo_75 (by decide) (fun c12 => ?_) (fun c12 => ?_)
  · have hs := ifSf hs c12; have hQ := ifQf hQ c12
    refine g_iconst (v := 0) dX4_isSo_82 (by decide) ?_
    exact g_zret rfl (Or.inl rfl) dX4_isSo_83 (hK _ hQ)
  · have hs := ifSt hs c12; have hQ := ifQt hQ c12
    refine g_iconst (v := 1) dX4_isSo_78 (by decide) ?_
    refine g_goto 83 dX4_isSo_79 (by decide) ?_
    exact g_zret rfl (Or.inr rfl) dX4_isSo_83 (hK _ hQ)
def f_X4_isSo (M : gM) (q : Nat) (x2 : Int32) : Int32 :=
  if (rdI M 38 0 q (nn x2)) = 0 then
    (1)
  else
    (if (f_X7_isPerson M 0 (rdI M 39 0 q (nn x2))) = 0 then
      (1)
    else
      (bnd (f_X6_livesOn M 0 (nn (rdI M 39 0 q (nn x2))) (rdI M 20 0 (nn (rdI M 25 0 q 0)) 0)) fun v9 =>
      (if (rdI M 38 0 q (nn x2)) = 1 then
        (f_X4_isSo_75 M q v9 1)
      else
        (f_X4_isSo_75 M q v9 0))))
def s_X4_isSo (M : gM) (q : Nat) (x2 : Int32) : Prop :=
  (vp_in x2 6) ∧
  ((vp_in x2 6) ∧
  (if (rdI M 38 0 q (nn x2)) = 0 then
    (True)
  else
    ((s_X7_isPerson M 0 (rdI M 39 0 q (nn x2))) ∧
    (if (f_X7_isPerson M 0 (rdI M 39 0 q (nn x2))) = 0 then
      (True)
    else
      ((vp_in (rdI M 39 0 q (nn x2)) 10) ∧
      ((vp_in (rdI M 25 0 q 0) 10) ∧
      ((s_X6_livesOn M 0 (nn (rdI M 39 0 q (nn x2))) (rdI M 20 0 (nn (rdI M 25 0 q 0)) 0)) ∧
      (bndP (f_X6_livesOn M 0 (nn (rdI M 39 0 q (nn x2))) (rdI M 20 0 (nn (rdI M 25 0 q 0)) 0)) fun v9 =>
      ((vp_in x2 6) ∧
      (if (rdI M 38 0 q (nn x2)) = 1 then
        (s_X4_isSo_75 M q v9 1)
      else
        (s_X4_isSo_75 M q v9 0)))))))))))
set_option maxRecDepth 100000 in
set_option maxHeartbeats 4000000 in
theorem t_X4_isSo {E : gE} {K : Int32 → Prop} {Q : Option Value → gM → Prop} {M : gM} (hK : ∀ z : Int32, K z → Q (some (.int z)) M)  (q : Nat) (x2 : Int32) (hq : q < 12) (hs : s_X4_isSo M q x2) (hQ : K (f_X4_isSo M q x2)) : gG E RX4 cX4_isSo 5 (some .boolean) (rm 1) 0 [(0, .ref (gla E 216)), (1, .ref (gla E (paC 0 q))), (2, .int x2)] [] M Q := by
  rw [s_X4_isSo] at hs
  rw [f_X4_isSo] at hQ
  refine g_aload_n 1 dX4_isSo_0 rfl ?_
  refine g_getR (paC 0 q) (paC 0 q + 4) fd_X4_177 (dF_Pa lt02 hq) rfl rfl dX4_isSo_1 ?_
  refine g_iload_n 2 dX4_isSo_4 rfl ?_
  have h1 := hs.1; have hs := hs.2
  refine g_iald (paC 0 q + 4) (dF_Pa_givePerson lt02 hq) h1 dX4_isSo_5 ?_
  refine g_istore_n _ dX4_isSo_6 (by decide) rfl ?_
  refine g_aload_n 2 dX4_isSo_7 rfl ?_
  refine g_getR (paC 0 q) (paC 0 q + 3) fd_X4_180 (dF_Pa lt02 hq) rfl rfl dX4_isSo_8 ?_
  refine g_iload_n 3 dX4_isSo_11 rfl ?_
  have h2 := hs.1; have hs := hs.2
  refine g_iald (paC 0 q + 3) (dF_Pa_giveCondition lt02 hq) h2 dX4_isSo_12 ?_
  refine g_if_eq 27 dX4_isSo_13 (by decide) (fun c3 => ?_) (fun c3 => ?_)
  · have hs := ifSt hs c3; have hQ := ifQt hQ c3
    refine g_iconst (v := 1) dX4_isSo_27 (by decide) ?_
    exact g_zret rfl (Or.inr rfl) dX4_isSo_28 (hK _ hQ)
  · have hs := ifSf hs c3; have hQ := ifQf hQ c3
    refine g_aload_n 1 dX4_isSo_16 rfl ?_
    refine g_getR 216 (rgC 0) fd_X4_22 dF_Lw rfl rfl dX4_isSo_17 ?_
    refine g_iload_n 0 dX4_isSo_20 rfl ?_
    have h4 := hs.1; have hs := hs.2
    refine g_callV (As := [.int (rdI M 39 0 q (nn x2))]) (st := []) (rgC 0) (c_X7_isPerson E M 0 lt02 (rdI M 39 0 q (nn x2)) h4) mt_X7_isPerson ml_X4_183 (dF_Rg lt02) rfl rfl sg_X7_isPerson rfl (by decide) (Nat.le_of_ble_eq_true rfl) dX4_isSo_21 ?_
    rintro _ _ ⟨q1, q2⟩; rw [q1, q2]; clear q1 q2
    refine g_if_ne 29 dX4_isSo_24 (by decide) (fun c5 => ?_) (fun c5 => ?_)
    · have hs := ifSf hs c5; have hQ := ifQf hQ c5
      refine g_aload_n 1 dX4_isSo_29 rfl ?_
      refine g_getR 216 (rgC 0) fd_X4_22 dF_Lw rfl rfl dX4_isSo_30 ?_
      refine g_getR (rgC 0) (rgC 0 + 2) fd_X4_66 (dF_Rg lt02) rfl rfl dX4_isSo_33 ?_
      refine g_iload_n 0 dX4_isSo_36 rfl ?_
      have h6 := hs.1; have hs := hs.2
      refine g_aald (rgC 0 + 2) (peC 0 (nn (rdI M 39 0 q (nn x2)))) rfl (dF_Rg_persons lt02) h6 (aj_Pe _ _) dX4_isSo_37 ?_
      refine g_aload_n 1 dX4_isSo_38 rfl ?_
      refine g_getR 216 (rgC 0) fd_X4_22 dF_Lw rfl rfl dX4_isSo_39 ?_
      refine g_getR (rgC 0) (rgC 0 + 2) fd_X4_66 (dF_Rg lt02) rfl rfl dX4_isSo_42 ?_
      refine g_aload_n 2 dX4_isSo_45 rfl ?_
      refine g_getI (paC 0 q) fd_X4_61 (dF_Pa lt02 hq) rfl dX4_isSo_46 ?_
      have h7 := hs.1; have hs := hs.2
      refine g_aald (rgC 0 + 2) (peC 0 (nn (rdI M 25 0 q 0))) rfl (dF_Rg_persons lt02) h7 (aj_Pe _ _) dX4_isSo_49 ?_
      refine g_getI (peC 0 (nn (rdI M 25 0 q 0))) fd_X4_70 (dF_Pe lt02 (vpL h7)) rfl dX4_isSo_50 ?_
      have h8 := hs.1; have hs := hs.2
      refine g_callV (As := [.int (rdI M 20 0 (nn (rdI M 25 0 q 0)) 0)]) (st := []) (peC 0 (nn (rdI M 39 0 q (nn x2)))) (c_X6_livesOn E M 0 (nn (rdI M 39 0 q (nn x2))) lt02 (vpL h6) (rdI M 20 0 (nn (rdI M 25 0 q 0)) 0) h8) mt_X6_livesOn ml_X4_186 (dF_Pe lt02 (vpL h6)) rfl rfl sg_X6_livesOn rfl (by decide) (Nat.le_of_ble_eq_true rfl) dX4_isSo_53 ?_
      rintro _ _ ⟨q1, q2⟩; rw [q1, q2]; clear q1 q2
      refine g_topI (fun v9 hv9 => ?_)
      have hQ := bndQ hQ v9 hv9; have hs := bndS hs v9 hv9
      refine g_istore _ dX4_isSo_56 (by decide) rfl ?_
      refine g_iload 0 dX4_isSo_58 rfl ?_
      refine g_aload_n 3 dX4_isSo_60 rfl ?_
      refine g_getR (paC 0 q) (paC 0 q + 3) fd_X4_180 (dF_Pa lt02 hq) rfl rfl dX4_isSo_61 ?_
      refine g_iload_n 4 dX4_isSo_64 rfl ?_
      have h10 := hs.1; have hs := hs.2
      refine g_iald (paC 0 q + 3) (dF_Pa_giveCondition lt02 hq) h10 dX4_isSo_65 ?_
      refine g_iconst (v := 1) dX4_isSo_66 (by decide) ?_
      refine g_icmp_ne 74 dX4_isSo_67 (by decide) (fun c11 => ?_) (fun c11 => ?_)
      · have hs := ifSf hs c11; have hQ := ifQf hQ c11
        refine g_iconst (v := 0) dX4_isSo_74 (by decide) ?_
        refine g_sub [] _ rfl ?_
        exact t_X4_isSo_75 hK q v9 0 hq hs hQ
      · have hs := ifSt hs c11; have hQ := ifQt hQ c11
        refine g_iconst (v := 1) dX4_isSo_70 (by decide) ?_
        refine g_goto 75 dX4_isSo_71 (by decide) ?_
        refine g_sub [] _ rfl ?_
        exact t_X4_isSo_75 hK q v9 1 hq hs hQ
    · have hs := ifSt hs c5; have hQ := ifQt hQ c5
      refine g_iconst (v := 1) dX4_isSo_27 (by decide) ?_
      exact g_zret rfl (Or.inr rfl) dX4_isSo_28 (hK _ hQ)
theorem c_X4_isSo (E : gE) (M : gM) (q : Nat) (hq : q < 12) (x2 : Int32) (hs : s_X4_isSo M q x2) : gC E yX4_isSo cX4_isSo 5 (some .boolean) (rm 1) [.ref (gla E 216), .ref (gla E (paC 0 q)), .int x2] M (fun o N => o = some (.int (f_X4_isSo M q x2)) ∧ N = M) :=
  gC.of (by decide +kernel) (Nat.le_of_ble_eq_true rfl) rfl (t_X4_isSo (K := fun z => z = f_X4_isSo M q x2) (fun z hz => by rw [hz]; exact ⟨rfl, rfl⟩) q x2 hq hs rfl)
def f_X4_mayTake_83 (M : gM) (q : Nat)  : Int32 :=
  1
def s_X4_mayTake_83 (M : gM) (q : Nat)  : Prop :=
  True
set_option maxRecDepth 100000 in
set_option maxHeartbeats 4000000 in
theorem t_X4_mayTake_83 {E : gE} {K : Int32 → Prop} {Q : Option Value → gM → Prop} {M : gM} (hK : ∀ z : Int32, K z → Q (some (.int z)) M) (q : Nat) (hq : q < 12)  (hs : s_X4_mayTake_83 M q ) (hQ : K (f_X4_mayTake_83 M q )) : gG E RX4 cX4_mayTake 4 (some .boolean) (rm 1) 83 [] [] M Q := by
  rw [s_X4_mayTake_83] at hs
  rw [f_X4_mayTake_83] at hQ
  refine g_iconst (v := 1) dX4_mayTake_83 (by decide) ?_
  refine g_goto 88 dX4_mayTake_84 (by decide) ?_
  exact g_zret rfl (Or.inr rfl) dX4_mayTake_88 (hK _ hQ)
def f_X4_mayTake (M : gM) (q : Nat) (x1 : Int32) (x3 : Int32) : Int32 :=
  if (f_X7_isPerson M 0 x1) = 0 then
    (0)
  else
    (if (f_X6_livesOn M 0 (nn x1) (rdI M 20 0 (nn (rdI M 25 0 q 0)) 0)) = 0 then
      (0)
    else
      (if (f_X5_isWitness M 0 q x1) = 0 then
        (f_X4_mayTake_83 M q)
      else
        (if (f_X4_hasFormByHand M q (rdI M 27 0 q 0)) = 0 then
          (if (f_X4_hasFormByHand M q (rdI M 23 0 (nn x3) 0)) = 0 then
            (0)
          else
            (f_X4_mayTake_83 M q))
        else
          (f_X4_mayTake_83 M q))))
def s_X4_mayTake (M : gM) (q : Nat) (x1 : Int32) (x3 : Int32) : Prop :=
  (s_X7_isPerson M 0 x1) ∧
  (if (f_X7_isPerson M 0 x1) = 0 then
    (True)
  else
    ((vp_in x1 10) ∧
    ((vp_in (rdI M 25 0 q 0) 10) ∧
    ((s_X6_livesOn M 0 (nn x1) (rdI M 20 0 (nn (rdI M 25 0 q 0)) 0)) ∧
    (if (f_X6_livesOn M 0 (nn x1) (rdI M 20 0 (nn (rdI M 25 0 q 0)) 0)) = 0 then
      (True)
    else
      ((s_X5_isWitness M 0 q x1) ∧
      (if (f_X5_isWitness M 0 q x1) = 0 then
        (s_X4_mayTake_83 M q)
      else
        ((s_X4_hasFormByHand M q (rdI M 27 0 q 0)) ∧
        (if (f_X4_hasFormByHand M q (rdI M 27 0 q 0)) = 0 then
          ((vp_in x3 8) ∧
          ((s_X4_hasFormByHand M q (rdI M 23 0 (nn x3) 0)) ∧
          (if (f_X4_hasFormByHand M q (rdI M 23 0 (nn x3) 0)) = 0 then
            (True)
          else
            (s_X4_mayTake_83 M q))))
        else
          (s_X4_mayTake_83 M q))))))))))
set_option maxRecDepth 100000 in
set_option maxHeartbeats 4000000 in
theorem t_X4_mayTake {E : gE} {K : Int32 → Prop} {Q : Option Value → gM → Prop} {M : gM} (hK : ∀ z : Int32, K z → Q (some (.int z)) M)  (q : Nat) (x1 : Int32) (x3 : Int32) (hq : q < 12) (hs : s_X4_mayTake M q x1 x3) (hQ : K (f_X4_mayTake M q x1 x3)) : gG E RX4 cX4_mayTake 4 (some .boolean) (rm 1) 0 [(0, .ref (gla E 216)), (1, .int x1), (2, .ref (gla E (paC 0 q))), (3, .int x3)] [] M Q := by
  rw [s_X4_mayTake] at hs
  rw [f_X4_mayTake] at hQ
  refine g_aload_n 0 dX4_mayTake_0 rfl ?_
  refine g_getR 216 (rgC 0) fd_X4_22 dF_Lw rfl rfl dX4_mayTake_1 ?_
  refine g_iload_n 1 dX4_mayTake_4 rfl ?_
  have h1 := hs.1; have hs := hs.2
  refine g_callV (As := [.int x1]) (st := []) (rgC 0) (c_X7_isPerson E M 0 lt02 x1 h1) mt_X7_isPerson ml_X4_183 (dF_Rg lt02) rfl rfl sg_X7_isPerson rfl (by decide) (Nat.le_of_ble_eq_true rfl) dX4_mayTake_5 ?_
  rintro _ _ ⟨q1, q2⟩; rw [q1, q2]; clear q1 q2
  refine g_if_eq 41 dX4_mayTake_8 (by decide) (fun c2 => ?_) (fun c2 => ?_)
  · have hs := ifSt hs c2; have hQ := ifQt hQ c2
    refine g_iconst (v := 0) dX4_mayTake_41 (by decide) ?_
    exact g_zret rfl (Or.inl rfl) dX4_mayTake_42 (hK _ hQ)
  · have hs := ifSf hs c2; have hQ := ifQf hQ c2
    refine g_aload_n 0 dX4_mayTake_11 rfl ?_
    refine g_getR 216 (rgC 0) fd_X4_22 dF_Lw rfl rfl dX4_mayTake_12 ?_
    refine g_getR (rgC 0) (rgC 0 + 2) fd_X4_66 (dF_Rg lt02) rfl rfl dX4_mayTake_15 ?_
    refine g_iload_n 1 dX4_mayTake_18 rfl ?_
    have h3 := hs.1; have hs := hs.2
    refine g_aald (rgC 0 + 2) (peC 0 (nn x1)) rfl (dF_Rg_persons lt02) h3 (aj_Pe _ _) dX4_mayTake_19 ?_
    refine g_aload_n 0 dX4_mayTake_20 rfl ?_
    refine g_getR 216 (rgC 0) fd_X4_22 dF_Lw rfl rfl dX4_mayTake_21 ?_
    refine g_getR (rgC 0) (rgC 0 + 2) fd_X4_66 (dF_Rg lt02) rfl rfl dX4_mayTake_24 ?_
    refine g_aload_n 2 dX4_mayTake_27 rfl ?_
    refine g_getI (paC 0 q) fd_X4_61 (dF_Pa lt02 hq) rfl dX4_mayTake_28 ?_
    have h4 := hs.1; have hs := hs.2
    refine g_aald (rgC 0 + 2) (peC 0 (nn (rdI M 25 0 q 0))) rfl (dF_Rg_persons lt02) h4 (aj_Pe _ _) dX4_mayTake_31 ?_
    refine g_getI (peC 0 (nn (rdI M 25 0 q 0))) fd_X4_70 (dF_Pe lt02 (vpL h4)) rfl dX4_mayTake_32 ?_
    have h5 := hs.1; have hs := hs.2
    refine g_callV (As := [.int (rdI M 20 0 (nn (rdI M 25 0 q 0)) 0)]) (st := []) (peC 0 (nn x1)) (c_X6_livesOn E M 0 (nn x1) lt02 (vpL h3) (rdI M 20 0 (nn (rdI M 25 0 q 0)) 0) h5) mt_X6_livesOn ml_X4_186 (dF_Pe lt02 (vpL h3)) rfl rfl sg_X6_livesOn rfl (by decide) (Nat.le_of_ble_eq_true rfl) dX4_mayTake_35 ?_
    rintro _ _ ⟨q1, q2⟩; rw [q1, q2]; clear q1 q2
    refine g_if_ne 43 dX4_mayTake_38 (by decide) (fun c6 => ?_) (fun c6 => ?_)
    · have hs := ifSf hs c6; have hQ := ifQf hQ c6
      refine g_aload_n 2 dX4_mayTake_43 rfl ?_
      refine g_iload_n 1 dX4_mayTake_44 rfl ?_
      have h7 := hs.1; have hs := hs.2
      refine g_callV (As := [.int x1]) (st := []) (paC 0 q) (c_X5_isWitness E M 0 q lt02 hq x1 h7) mt_X5_isWitness ml_X4_189 (dF_Pa lt02 hq) rfl rfl sg_X5_isWitness rfl (by decide) (Nat.le_of_ble_eq_true rfl) dX4_mayTake_45 ?_
      rintro _ _ ⟨q1, q2⟩; rw [q1, q2]; clear q1 q2
      refine g_if_eq 83 dX4_mayTake_48 (by decide) (fun c8 => ?_) (fun c8 => ?_)
      · have hs := ifSt hs c8; have hQ := ifQt hQ c8
        refine g_sub [] _ rfl ?_
        exact t_X4_mayTake_83 hK q hq hs hQ
      · have hs := ifSf hs c8; have hQ := ifQf hQ c8
        refine g_aload_n 0 dX4_mayTake_51 rfl ?_
        refine g_aload_n 2 dX4_mayTake_52 rfl ?_
        refine g_aload_n 2 dX4_mayTake_53 rfl ?_
        refine g_getI (paC 0 q) fd_X4_93 (dF_Pa lt02 hq) rfl dX4_mayTake_54 ?_
        have h9 := hs.1; have hs := hs.2
        refine g_callV (As := [.ref (gla E (paC 0 q)), .int (rdI M 27 0 q 0)]) (st := []) 216 (c_X4_hasFormByHand E M q hq (rdI M 27 0 q 0) h9) mt_X4_hasFormByHand ml_X4_105 dF_Lw rfl rfl sg_X4_hasFormByHand rfl (by decide) (Nat.le_of_ble_eq_true rfl) dX4_mayTake_57 ?_
        rintro _ _ ⟨q1, q2⟩; rw [q1, q2]; clear q1 q2
        refine g_if_ne 83 dX4_mayTake_60 (by decide) (fun c10 => ?_) (fun c10 => ?_)
        · have hs := ifSf hs c10; have hQ := ifQf hQ c10
          refine g_sub [] _ rfl ?_
          exact t_X4_mayTake_83 hK q hq hs hQ
        · have hs := ifSt hs c10; have hQ := ifQt hQ c10
          refine g_aload_n 0 dX4_mayTake_63 rfl ?_
          refine g_aload_n 2 dX4_mayTake_64 rfl ?_
          refine g_aload_n 0 dX4_mayTake_65 rfl ?_
          refine g_getR 216 (rgC 0) fd_X4_22 dF_Lw rfl rfl dX4_mayTake_66 ?_
          refine g_getR (rgC 0) (rgC 0 + 3) fd_X4_26 (dF_Rg lt02) rfl rfl dX4_mayTake_69 ?_
          refine g_iload_n 3 dX4_mayTake_72 rfl ?_
          have h11 := hs.1; have hs := hs.2
          refine g_aald (rgC 0 + 3) (thC 0 (nn x3)) rfl (dF_Rg_things lt02) h11 (aj_Th _ _) dX4_mayTake_73 ?_
          refine g_getI (thC 0 (nn x3)) fd_X4_32 (dF_Th lt02 (vpL h11)) rfl dX4_mayTake_74 ?_
          have h12 := hs.1; have hs := hs.2
          refine g_callV (As := [.ref (gla E (paC 0 q)), .int (rdI M 23 0 (nn x3) 0)]) (st := []) 216 (c_X4_hasFormByHand E M q hq (rdI M 23 0 (nn x3) 0) h12) mt_X4_hasFormByHand ml_X4_105 dF_Lw rfl rfl sg_X4_hasFormByHand rfl (by decide) (Nat.le_of_ble_eq_true rfl) dX4_mayTake_77 ?_
          rintro _ _ ⟨q1, q2⟩; rw [q1, q2]; clear q1 q2
          refine g_if_eq 87 dX4_mayTake_80 (by decide) (fun c13 => ?_) (fun c13 => ?_)
          · have hs := ifSt hs c13; have hQ := ifQt hQ c13
            refine g_iconst (v := 0) dX4_mayTake_87 (by decide) ?_
            exact g_zret rfl (Or.inl rfl) dX4_mayTake_88 (hK _ hQ)
          · have hs := ifSf hs c13; have hQ := ifQf hQ c13
            refine g_sub [] _ rfl ?_
            exact t_X4_mayTake_83 hK q hq hs hQ
    · have hs := ifSt hs c6; have hQ := ifQt hQ c6
      refine g_iconst (v := 0) dX4_mayTake_41 (by decide) ?_
      exact g_zret rfl (Or.inl rfl) dX4_mayTake_42 (hK _ hQ)
theorem c_X4_mayTake (E : gE) (M : gM) (q : Nat) (hq : q < 12) (x1 : Int32) (x3 : Int32) (hs : s_X4_mayTake M q x1 x3) : gC E yX4_mayTake cX4_mayTake 4 (some .boolean) (rm 1) [.ref (gla E 216), .int x1, .ref (gla E (paC 0 q)), .int x3] M (fun o N => o = some (.int (f_X4_mayTake M q x1 x3)) ∧ N = M) :=
  gC.of (by decide +kernel) (Nat.le_of_ble_eq_true rfl) rfl (t_X4_mayTake (K := fun z => z = f_X4_mayTake M q x1 x3) (fun z hz => by rw [hz]; exact ⟨rfl, rfl⟩) q x1 x3 hq hs rfl)
def f_X4_whyNotGood_103 (M : gM) (q : Nat)  : Int32 :=
  0
def s_X4_whyNotGood_103 (M : gM) (q : Nat)  : Prop :=
  True
set_option maxRecDepth 100000 in
set_option maxHeartbeats 4000000 in
theorem t_X4_whyNotGood_103 {E : gE} {K : Int32 → Prop} {Q : Option Value → gM → Prop} {M : gM} (hK : ∀ z : Int32, K z → Q (some (.int z)) M) (q : Nat) (hq : q < 12)  (hs : s_X4_whyNotGood_103 M q ) (hQ : K (f_X4_whyNotGood_103 M q )) : gG E RX4 cX4_whyNotGood 5 (some .int) (rm 2) 103 [] [] M Q := by
  rw [s_X4_whyNotGood_103] at hs
  rw [f_X4_whyNotGood_103] at hQ
  refine g_iconst (v := 0) dX4_whyNotGood_103 (by decide) ?_
  refine g_goto 108 dX4_whyNotGood_104 (by decide) ?_
  exact g_iret rfl dX4_whyNotGood_108 (hK _ hQ)
def f_X4_whyNotGood_80 (M : gM) (q : Nat) (x2 : Int32) (x3 : Int32)  : Int32 :=
  if (f_X4_hasForm M q (rdI M 27 0 q 0) x3) = 0 then
    (if (f_X4_hasForm M q x2 x3) = 0 then
      (4)
    else
      (f_X4_whyNotGood_103 M q))
  else
    (f_X4_whyNotGood_103 M q)
def s_X4_whyNotGood_80 (M : gM) (q : Nat) (x2 : Int32) (x3 : Int32)  : Prop :=
  (s_X4_hasForm M q (rdI M 27 0 q 0) x3) ∧
  (if (f_X4_hasForm M q (rdI M 27 0 q 0) x3) = 0 then
    ((s_X4_hasForm M q x2 x3) ∧
    (if (f_X4_hasForm M q x2 x3) = 0 then
      (True)
    else
      (s_X4_whyNotGood_103 M q)))
  else
    (s_X4_whyNotGood_103 M q))
set_option maxRecDepth 100000 in
set_option maxHeartbeats 4000000 in
theorem t_X4_whyNotGood_80 {E : gE} {K : Int32 → Prop} {Q : Option Value → gM → Prop} {M : gM} (hK : ∀ z : Int32, K z → Q (some (.int z)) M) (q : Nat) (x2 : Int32) (x3 : Int32) (hq : q < 12)  (hs : s_X4_whyNotGood_80 M q x2 x3 ) (hQ : K (f_X4_whyNotGood_80 M q x2 x3 )) : gG E RX4 cX4_whyNotGood 5 (some .int) (rm 2) 80 [(0, .ref (gla E 216)), (1, .ref (gla E (paC 0 q))), (2, .int x2), (3, .int x3)] [] M Q := by
  rw [s_X4_whyNotGood_80] at hs
  rw [f_X4_whyNotGood_80] at hQ
  refine g_aload_n 0 dX4_whyNotGood_80 rfl ?_
  refine g_aload_n 1 dX4_whyNotGood_81 rfl ?_
  refine g_aload_n 1 dX4_whyNotGood_82 rfl ?_
  refine g_getI (paC 0 q) fd_X4_93 (dF_Pa lt02 hq) rfl dX4_whyNotGood_83 ?_
  refine g_iload_n 3 dX4_whyNotGood_86 rfl ?_
  have h11 := hs.1; have hs := hs.2
  refine g_callV (As := [.ref (gla E (paC 0 q)), .int (rdI M 27 0 q 0), .int x3]) (st := []) 216 (c_X4_hasForm E M q hq (rdI M 27 0 q 0) x3 h11) mt_X4_hasForm ml_X4_98 dF_Lw rfl rfl sg_X4_hasForm rfl (by decide) (Nat.le_of_ble_eq_true rfl) dX4_whyNotGood_87 ?_
  rintro _ _ ⟨q1, q2⟩; rw [q1, q2]; clear q1 q2
  refine g_if_ne 103 dX4_whyNotGood_90 (by decide) (fun c12 => ?_) (fun c12 => ?_)
  · have hs := ifSf hs c12; have hQ := ifQf hQ c12
    refine g_sub [] _ rfl ?_
    exact t_X4_whyNotGood_103 hK q hq hs hQ
  · have hs := ifSt hs c12; have hQ := ifQt hQ c12
    refine g_aload_n 0 dX4_whyNotGood_93 rfl ?_
    refine g_aload_n 1 dX4_whyNotGood_94 rfl ?_
    refine g_iload_n 2 dX4_whyNotGood_95 rfl ?_
    refine g_iload_n 3 dX4_whyNotGood_96 rfl ?_
    have h13 := hs.1; have hs := hs.2
    refine g_callV (As := [.ref (gla E (paC 0 q)), .int x2, .int x3]) (st := []) 216 (c_X4_hasForm E M q hq x2 x3 h13) mt_X4_hasForm ml_X4_98 dF_Lw rfl rfl sg_X4_hasForm rfl (by decide) (Nat.le_of_ble_eq_true rfl) dX4_whyNotGood_97 ?_
    rintro _ _ ⟨q1, q2⟩; rw [q1, q2]; clear q1 q2
    refine g_if_eq 107 dX4_whyNotGood_100 (by decide) (fun c14 => ?_) (fun c14 => ?_)
    · have hs := ifSt hs c14; have hQ := ifQt hQ c14
      refine g_iconst (v := 4) dX4_whyNotGood_107 (by decide) ?_
      exact g_iret rfl dX4_whyNotGood_108 (hK _ hQ)
    · have hs := ifSf hs c14; have hQ := ifQf hQ c14
      refine g_sub [] _ rfl ?_
      exact t_X4_whyNotGood_103 hK q hq hs hQ
def f_X4_whyNotGood (M : gM) (q : Nat) (x2 : Int32) (x3 : Int32) : Int32 :=
  bnd (rdI M 20 0 (nn (rdI M 25 0 q 0)) 0) fun v2 =>
  (if (rdI M 34 0 q 0) = 0 then
    (if v2 = (-1) then
      (1)
    else
      (if (rdI M 26 0 q 0) < v2 then
        (if (f_X5_isLost M 0 q) = 0 then
          (f_X4_whyNotGood_80 M q x2 x3)
        else
          (if (rdI M 33 0 q 0) = 0 then
            (3)
          else
            (if (rdI M 17 0 (nn (rdI M 27 0 q 0)) 0) = 0 then
              (3)
            else
              (f_X4_whyNotGood_80 M q x2 x3))))
      else
        (2)))
  else
    (7))
def s_X4_whyNotGood (M : gM) (q : Nat) (x2 : Int32) (x3 : Int32) : Prop :=
  (vp_in (rdI M 25 0 q 0) 10) ∧
  (bndP (rdI M 20 0 (nn (rdI M 25 0 q 0)) 0) fun v2 =>
  (if (rdI M 34 0 q 0) = 0 then
    (if v2 = (-1) then
      (True)
    else
      (if (rdI M 26 0 q 0) < v2 then
        ((s_X5_isLost M 0 q) ∧
        (if (f_X5_isLost M 0 q) = 0 then
          (s_X4_whyNotGood_80 M q x2 x3)
        else
          (if (rdI M 33 0 q 0) = 0 then
            (True)
          else
            ((vp_in (rdI M 27 0 q 0) 2) ∧
            (if (rdI M 17 0 (nn (rdI M 27 0 q 0)) 0) = 0 then
              (True)
            else
              (s_X4_whyNotGood_80 M q x2 x3))))))
      else
        (True)))
  else
    (True)))
set_option maxRecDepth 100000 in
set_option maxHeartbeats 4000000 in
theorem t_X4_whyNotGood {E : gE} {K : Int32 → Prop} {Q : Option Value → gM → Prop} {M : gM} (hK : ∀ z : Int32, K z → Q (some (.int z)) M)  (q : Nat) (x2 : Int32) (x3 : Int32) (hq : q < 12) (hs : s_X4_whyNotGood M q x2 x3) (hQ : K (f_X4_whyNotGood M q x2 x3)) : gG E RX4 cX4_whyNotGood 5 (some .int) (rm 2) 0 [(0, .ref (gla E 216)), (1, .ref (gla E (paC 0 q))), (2, .int x2), (3, .int x3)] [] M Q := by
  rw [s_X4_whyNotGood] at hs
  rw [f_X4_whyNotGood] at hQ
  refine g_aload_n 0 dX4_whyNotGood_0 rfl ?_
  refine g_getR 216 (rgC 0) fd_X4_22 dF_Lw rfl rfl dX4_whyNotGood_1 ?_
  refine g_getR (rgC 0) (rgC 0 + 2) fd_X4_66 (dF_Rg lt02) rfl rfl dX4_whyNotGood_4 ?_
  refine g_aload_n 1 dX4_whyNotGood_7 rfl ?_
  refine g_getI (paC 0 q) fd_X4_61 (dF_Pa lt02 hq) rfl dX4_whyNotGood_8 ?_
  have h1 := hs.1; have hs := hs.2
  refine g_aald (rgC 0 + 2) (peC 0 (nn (rdI M 25 0 q 0))) rfl (dF_Rg_persons lt02) h1 (aj_Pe _ _) dX4_whyNotGood_11 ?_
  refine g_getI (peC 0 (nn (rdI M 25 0 q 0))) fd_X4_70 (dF_Pe lt02 (vpL h1)) rfl dX4_whyNotGood_12 ?_
  refine g_topI (fun v2 hv2 => ?_)
  have hQ := bndQ hQ v2 hv2; have hs := bndS hs v2 hv2
  refine g_istore _ dX4_whyNotGood_15 (by decide) rfl ?_
  refine g_aload_n 2 dX4_whyNotGood_17 rfl ?_
  refine g_getI (paC 0 q) fd_X4_75 (dF_Pa lt02 hq) rfl dX4_whyNotGood_18 ?_
  refine g_if_eq 27 dX4_whyNotGood_21 (by decide) (fun c3 => ?_) (fun c3 => ?_)
  · have hs := ifSt hs c3; have hQ := ifQt hQ c3
    refine g_iload 0 dX4_whyNotGood_27 rfl ?_
    refine g_iconst (v := (-1)) dX4_whyNotGood_29 (by decide) ?_
    refine g_icmp_ne 35 dX4_whyNotGood_30 (by decide) (fun c4 => ?_) (fun c4 => ?_)
    · have hs := ifSf hs c4; have hQ := ifQf hQ c4
      refine g_aload_n 2 dX4_whyNotGood_35 rfl ?_
      refine g_getI (paC 0 q) fd_X4_79 (dF_Pa lt02 hq) rfl dX4_whyNotGood_36 ?_
      refine g_iload 0 dX4_whyNotGood_39 rfl ?_
      refine g_icmp_lt 46 dX4_whyNotGood_41 (by decide) (fun c5 => ?_) (fun c5 => ?_)
      · have hs := ifSt hs c5; have hQ := ifQt hQ c5
        refine g_aload_n 2 dX4_whyNotGood_46 rfl ?_
        have h6 := hs.1; have hs := hs.2
        refine g_callV (As := []) (st := []) (paC 0 q) (c_X5_isLost E M 0 q lt02 hq h6) mt_X5_isLost ml_X4_82 (dF_Pa lt02 hq) rfl rfl sg_X5_isLost rfl (by decide) (Nat.le_of_ble_eq_true rfl) dX4_whyNotGood_47 ?_
        rintro _ _ ⟨q1, q2⟩; rw [q1, q2]; clear q1 q2
        refine g_if_eq 80 dX4_whyNotGood_50 (by decide) (fun c7 => ?_) (fun c7 => ?_)
        · have hs := ifSt hs c7; have hQ := ifQt hQ c7
          refine g_sub [1, 2, 3, 4] _ rfl ?_
          exact t_X4_whyNotGood_80 hK q x2 x3 hq hs hQ
        · have hs := ifSf hs c7; have hQ := ifQf hQ c7
          refine g_aload_n 2 dX4_whyNotGood_53 rfl ?_
          refine g_getI (paC 0 q) fd_X4_86 (dF_Pa lt02 hq) rfl dX4_whyNotGood_54 ?_
          refine g_if_eq 78 dX4_whyNotGood_57 (by decide) (fun c8 => ?_) (fun c8 => ?_)
          · have hs := ifSt hs c8; have hQ := ifQt hQ c8
            refine g_iconst (v := 3) dX4_whyNotGood_78 (by decide) ?_
            exact g_iret rfl dX4_whyNotGood_79 (hK _ hQ)
          · have hs := ifSf hs c8; have hQ := ifQf hQ c8
            refine g_aload_n 1 dX4_whyNotGood_60 rfl ?_
            refine g_getR 216 (rgC 0) fd_X4_22 dF_Lw rfl rfl dX4_whyNotGood_61 ?_
            refine g_getR (rgC 0) (rgC 0 + 1) fd_X4_89 (dF_Rg lt02) rfl rfl dX4_whyNotGood_64 ?_
            refine g_aload_n 2 dX4_whyNotGood_67 rfl ?_
            refine g_getI (paC 0 q) fd_X4_93 (dF_Pa lt02 hq) rfl dX4_whyNotGood_68 ?_
            have h9 := hs.1; have hs := hs.2
            refine g_aald (rgC 0 + 1) (laC 0 (nn (rdI M 27 0 q 0))) rfl (dF_Rg_lands lt02) h9 (aj_La _ _) dX4_whyNotGood_71 ?_
            refine g_getI (laC 0 (nn (rdI M 27 0 q 0))) fd_X4_94 (dF_La lt02 (vpL h9)) rfl dX4_whyNotGood_72 ?_
            refine g_if_ne 80 dX4_whyNotGood_75 (by decide) (fun c10 => ?_) (fun c10 => ?_)
            · have hs := ifSf hs c10; have hQ := ifQf hQ c10
              refine g_sub [1, 2, 3, 4] _ rfl ?_
              exact t_X4_whyNotGood_80 hK q x2 x3 hq hs hQ
            · have hs := ifSt hs c10; have hQ := ifQt hQ c10
              refine g_iconst (v := 3) dX4_whyNotGood_78 (by decide) ?_
              exact g_iret rfl dX4_whyNotGood_79 (hK _ hQ)
      · have hs := ifSf hs c5; have hQ := ifQf hQ c5
        refine g_iconst (v := 2) dX4_whyNotGood_44 (by decide) ?_
        exact g_iret rfl dX4_whyNotGood_45 (hK _ hQ)
    · have hs := ifSt hs c4; have hQ := ifQt hQ c4
      refine g_iconst (v := 1) dX4_whyNotGood_33 (by decide) ?_
      exact g_iret rfl dX4_whyNotGood_34 (hK _ hQ)
  · have hs := ifSf hs c3; have hQ := ifQf hQ c3
    refine g_bipush (v := 7) dX4_whyNotGood_24 (by decide) ?_
    exact g_iret rfl dX4_whyNotGood_26 (hK _ hQ)
theorem c_X4_whyNotGood (E : gE) (M : gM) (q : Nat) (hq : q < 12) (x2 : Int32) (x3 : Int32) (hs : s_X4_whyNotGood M q x2 x3) : gC E yX4_whyNotGood cX4_whyNotGood 5 (some .int) (rm 2) [.ref (gla E 216), .ref (gla E (paC 0 q)), .int x2, .int x3] M (fun o N => o = some (.int (f_X4_whyNotGood M q x2 x3)) ∧ N = M) :=
  gC.of (by decide +kernel) (Nat.le_of_ble_eq_true rfl) rfl (t_X4_whyNotGood (K := fun z => z = f_X4_whyNotGood M q x2 x3) (fun z hz => by rw [hz]; exact ⟨rfl, rfl⟩) q x2 x3 hq hs rfl)
def f_X4_witnessesWhoLived (M : gM) (q : Nat) : Int32 :=
  f_J6_bitCount_0f7a4 M ((rdI M 30 0 q 0) &&& (f_X7_livingOn M 0 (rdI M 26 0 q 0)))
def s_X4_witnessesWhoLived (M : gM) (q : Nat) : Prop :=
  (s_X7_livingOn M 0 (rdI M 26 0 q 0)) ∧
  ((s_J6_bitCount_0f7a4 M ((rdI M 30 0 q 0) &&& (f_X7_livingOn M 0 (rdI M 26 0 q 0)))) ∧
  (True))
set_option maxRecDepth 100000 in
set_option maxHeartbeats 4000000 in
theorem t_X4_witnessesWhoLived {E : gE} {K : Int32 → Prop} {Q : Option Value → gM → Prop} {M : gM} (hK : ∀ z : Int32, K z → Q (some (.int z)) M)  (q : Nat) (hq : q < 12) (hs : s_X4_witnessesWhoLived M q) (hQ : K (f_X4_witnessesWhoLived M q)) : gG E RX4 cX4_witnessesWhoLived 2 (some .int) (rm 2) 0 [(0, .ref (gla E 216)), (1, .ref (gla E (paC 0 q)))] [] M Q := by
  rw [s_X4_witnessesWhoLived] at hs
  rw [f_X4_witnessesWhoLived] at hQ
  refine g_aload_n 1 dX4_witnessesWhoLived_0 rfl ?_
  refine g_getI (paC 0 q) fd_X4_115 (dF_Pa lt02 hq) rfl dX4_witnessesWhoLived_1 ?_
  refine g_aload_n 0 dX4_witnessesWhoLived_4 rfl ?_
  refine g_getR 216 (rgC 0) fd_X4_22 dF_Lw rfl rfl dX4_witnessesWhoLived_5 ?_
  refine g_aload_n 1 dX4_witnessesWhoLived_8 rfl ?_
  refine g_getI (paC 0 q) fd_X4_79 (dF_Pa lt02 hq) rfl dX4_witnessesWhoLived_9 ?_
  have h1 := hs.1; have hs := hs.2
  refine g_callV (As := [.int (rdI M 26 0 q 0)]) (st := [.int (rdI M 30 0 q 0)]) (rgC 0) (c_X7_livingOn E M 0 lt02 (rdI M 26 0 q 0) h1) mt_X7_livingOn ml_X4_116 (dF_Rg lt02) rfl rfl sg_X7_livingOn rfl (by decide) (Nat.le_of_ble_eq_true rfl) dX4_witnessesWhoLived_12 ?_
  rintro _ _ ⟨q1, q2⟩; rw [q1, q2]; clear q1 q2
  refine g_iand dX4_witnessesWhoLived_15 ?_
  have h2 := hs.1; have hs := hs.2
  refine g_callS (As := [.int ((rdI M 30 0 q 0) &&& (f_X7_livingOn M 0 (rdI M 26 0 q 0)))]) (st := []) (c_J6_bitCount_0f7a4 E M ((rdI M 30 0 q 0) &&& (f_X7_livingOn M 0 (rdI M 26 0 q 0))) h2) mt_J6_bitCount_0f7a4 ml_X4_119 sg_J6_bitCount_0f7a4 rfl (by decide) (Nat.le_of_ble_eq_true rfl) dX4_witnessesWhoLived_16 ?_
  rintro _ _ ⟨q1, q2⟩; rw [q1, q2]; clear q1 q2
  exact g_iret rfl dX4_witnessesWhoLived_19 (hK _ hQ)
theorem c_X4_witnessesWhoLived (E : gE) (M : gM) (q : Nat) (hq : q < 12) (hs : s_X4_witnessesWhoLived M q) : gC E yX4_witnessesWhoLived cX4_witnessesWhoLived 2 (some .int) (rm 2) [.ref (gla E 216), .ref (gla E (paC 0 q))] M (fun o N => o = some (.int (f_X4_witnessesWhoLived M q)) ∧ N = M) :=
  gC.of (by decide +kernel) (Nat.le_of_ble_eq_true rfl) rfl (t_X4_witnessesWhoLived (K := fun z => z = f_X4_witnessesWhoLived M q) (fun z hz => by rw [hz]; exact ⟨rfl, rfl⟩) q hq hs rfl)
def f_X4_takerByGives_2 (M : gM) (q : Nat) (x2 : Int32)  : Nat → Int32 → Int32
  | 0, _ => 0
  | n + 1, x3 =>
    if (rdI M 35 0 q 0) ≤ x3 then
      ((-1))
    else
      (if 6 ≤ x3 then
        ((-1))
      else
        (if (rdI M 36 0 q (nn x3)) = x2 then
          (if (f_X4_isSo M q x3) = 0 then
            (f_X4_takerByGives_2 M q x2 n (x3 + 1))
          else
            (if (f_X4_mayTake M q (rdI M 37 0 q (nn x3)) x2) = 0 then
              (if (f_X4_mayTake M q (rdI M 40 0 q (nn x3)) x2) = 0 then
                (f_X4_takerByGives_2 M q x2 n (x3 + 1))
              else
                (rdI M 40 0 q (nn x3)))
            else
              (rdI M 37 0 q (nn x3))))
        else
          (f_X4_takerByGives_2 M q x2 n (x3 + 1))))
def s_X4_takerByGives_2 (M : gM) (q : Nat) (x2 : Int32)  : Nat → Int32 → Prop
  | 0, _ => False
  | n + 1, x3 =>
    if (rdI M 35 0 q 0) ≤ x3 then
      (True)
    else
      (if 6 ≤ x3 then
        (True)
      else
        ((vp_in x3 6) ∧
        (if (rdI M 36 0 q (nn x3)) = x2 then
          ((s_X4_isSo M q x3) ∧
          (if (f_X4_isSo M q x3) = 0 then
            (s_X4_takerByGives_2 M q x2 n (x3 + 1))
          else
            ((vp_in x3 6) ∧
            ((s_X4_mayTake M q (rdI M 37 0 q (nn x3)) x2) ∧
            (if (f_X4_mayTake M q (rdI M 37 0 q (nn x3)) x2) = 0 then
              ((vp_in x3 6) ∧
              ((s_X4_mayTake M q (rdI M 40 0 q (nn x3)) x2) ∧
              (if (f_X4_mayTake M q (rdI M 40 0 q (nn x3)) x2) = 0 then
                (s_X4_takerByGives_2 M q x2 n (x3 + 1))
              else
                ((vp_in x3 6) ∧
                (True)))))
            else
              ((vp_in x3 6) ∧
              (True)))))))
        else
          (s_X4_takerByGives_2 M q x2 n (x3 + 1)))))
set_option maxRecDepth 100000 in
set_option maxHeartbeats 4000000 in
theorem t_X4_takerByGives_2 {E : gE} {K : Int32 → Prop} {Q : Option Value → gM → Prop} {M : gM} (hK : ∀ z : Int32, K z → Q (some (.int z)) M) (q : Nat) (x2 : Int32) (hq : q < 12)  : ∀ (n : Nat) (x3 : Int32) , s_X4_takerByGives_2 M q x2  n x3 → K (f_X4_takerByGives_2 M q x2  n x3) → gG E RX4 cX4_takerByGives 4 (some .int) (rm 2) 2 [(0, .ref (gla E 216)), (1, .ref (gla E (paC 0 q))), (2, .int x2), (3, .int x3)] [] M Q := by
  intro n
  induction n with
  | zero => intro x3 hs hQ; exact (hs : False).elim
  | succ n ih =>
    intro x3 hs hQ
    rw [s_X4_takerByGives_2] at hs
    rw [f_X4_takerByGives_2] at hQ
    refine g_iload_n 3 dX4_takerByGives_2 rfl ?_
    refine g_aload_n 1 dX4_takerByGives_3 rfl ?_
    refine g_getI (paC 0 q) fd_X4_162 (dF_Pa lt02 hq) rfl dX4_takerByGives_4 ?_
    refine g_icmp_ge 85 dX4_takerByGives_7 (by decide) (fun c1 => ?_) (fun c1 => ?_)
    · have hs := ifSt hs c1; have hQ := ifQt hQ c1
      refine g_iconst (v := (-1)) dX4_takerByGives_85 (by decide) ?_
      exact g_iret rfl dX4_takerByGives_86 (hK _ hQ)
    · have hs := ifSf hs c1; have hQ := ifQf hQ c1
      refine g_iload_n 3 dX4_takerByGives_10 rfl ?_
      refine g_bipush (v := 6) dX4_takerByGives_11 (by decide) ?_
      refine g_icmp_ge 85 dX4_takerByGives_13 (by decide) (fun c2 => ?_) (fun c2 => ?_)
      · have hs := ifSt hs c2; have hQ := ifQt hQ c2
        refine g_iconst (v := (-1)) dX4_takerByGives_85 (by decide) ?_
        exact g_iret rfl dX4_takerByGives_86 (hK _ hQ)
      · have hs := ifSf hs c2; have hQ := ifQf hQ c2
        refine g_aload_n 1 dX4_takerByGives_16 rfl ?_
        refine g_getR (paC 0 q) (paC 0 q + 1) fd_X4_165 (dF_Pa lt02 hq) rfl rfl dX4_takerByGives_17 ?_
        refine g_iload_n 3 dX4_takerByGives_20 rfl ?_
        have h3 := hs.1; have hs := hs.2
        refine g_iald (paC 0 q + 1) (dF_Pa_giveThing lt02 hq) h3 dX4_takerByGives_21 ?_
        refine g_iload_n 2 dX4_takerByGives_22 rfl ?_
        refine g_icmp_ne 79 dX4_takerByGives_23 (by decide) (fun c4 => ?_) (fun c4 => ?_)
        · have hs := ifSf hs c4; have hQ := ifQf hQ c4
          refine g_iinc 3 (v := x3 + 1) _ dX4_takerByGives_79 rfl rfl (by decide) rfl ?_
          refine g_goto 2 dX4_takerByGives_82 (by decide) ?_
          refine g_sub [1, 2, 3, 0] _ rfl ?_
          exact ih (x3 + 1) hs hQ
        · have hs := ifSt hs c4; have hQ := ifQt hQ c4
          refine g_aload_n 0 dX4_takerByGives_26 rfl ?_
          refine g_aload_n 1 dX4_takerByGives_27 rfl ?_
          refine g_iload_n 3 dX4_takerByGives_28 rfl ?_
          have h5 := hs.1; have hs := hs.2
          refine g_callV (As := [.ref (gla E (paC 0 q)), .int x3]) (st := []) 216 (c_X4_isSo E M q hq x3 h5) mt_X4_isSo ml_X4_168 dF_Lw rfl rfl sg_X4_isSo rfl (by decide) (Nat.le_of_ble_eq_true rfl) dX4_takerByGives_29 ?_
          rintro _ _ ⟨q1, q2⟩; rw [q1, q2]; clear q1 q2
          refine g_if_eq 79 dX4_takerByGives_32 (by decide) (fun c6 => ?_) (fun c6 => ?_)
          · have hs := ifSt hs c6; have hQ := ifQt hQ c6
            refine g_iinc 3 (v := x3 + 1) _ dX4_takerByGives_79 rfl rfl (by decide) rfl ?_
            refine g_goto 2 dX4_takerByGives_82 (by decide) ?_
            refine g_sub [1, 2, 3, 0] _ rfl ?_
            exact ih (x3 + 1) hs hQ
          · have hs := ifSf hs c6; have hQ := ifQf hQ c6
            refine g_aload_n 0 dX4_takerByGives_35 rfl ?_
            refine g_aload_n 1 dX4_takerByGives_36 rfl ?_
            refine g_getR (paC 0 q) (paC 0 q + 2) fd_X4_171 (dF_Pa lt02 hq) rfl rfl dX4_takerByGives_37 ?_
            refine g_iload_n 3 dX4_takerByGives_40 rfl ?_
            have h7 := hs.1; have hs := hs.2
            refine g_iald (paC 0 q + 2) (dF_Pa_giveTo lt02 hq) h7 dX4_takerByGives_41 ?_
            refine g_aload_n 1 dX4_takerByGives_42 rfl ?_
            refine g_iload_n 2 dX4_takerByGives_43 rfl ?_
            have h8 := hs.1; have hs := hs.2
            refine g_callV (As := [.int (rdI M 37 0 q (nn x3)), .ref (gla E (paC 0 q)), .int x2]) (st := []) 216 (c_X4_mayTake E M q hq (rdI M 37 0 q (nn x3)) x2 h8) mt_X4_mayTake ml_X4_158 dF_Lw rfl rfl sg_X4_mayTake rfl (by decide) (Nat.le_of_ble_eq_true rfl) dX4_takerByGives_44 ?_
            rintro _ _ ⟨q1, q2⟩; rw [q1, q2]; clear q1 q2
            refine g_if_eq 57 dX4_takerByGives_47 (by decide) (fun c9 => ?_) (fun c9 => ?_)
            · have hs := ifSt hs c9; have hQ := ifQt hQ c9
              refine g_aload_n 0 dX4_takerByGives_57 rfl ?_
              refine g_aload_n 1 dX4_takerByGives_58 rfl ?_
              refine g_getR (paC 0 q) (paC 0 q + 5) fd_X4_174 (dF_Pa lt02 hq) rfl rfl dX4_takerByGives_59 ?_
              refine g_iload_n 3 dX4_takerByGives_62 rfl ?_
              have h10 := hs.1; have hs := hs.2
              refine g_iald (paC 0 q + 5) (dF_Pa_giveElse lt02 hq) h10 dX4_takerByGives_63 ?_
              refine g_aload_n 1 dX4_takerByGives_64 rfl ?_
              refine g_iload_n 2 dX4_takerByGives_65 rfl ?_
              have h11 := hs.1; have hs := hs.2
              refine g_callV (As := [.int (rdI M 40 0 q (nn x3)), .ref (gla E (paC 0 q)), .int x2]) (st := []) 216 (c_X4_mayTake E M q hq (rdI M 40 0 q (nn x3)) x2 h11) mt_X4_mayTake ml_X4_158 dF_Lw rfl rfl sg_X4_mayTake rfl (by decide) (Nat.le_of_ble_eq_true rfl) dX4_takerByGives_66 ?_
              rintro _ _ ⟨q1, q2⟩; rw [q1, q2]; clear q1 q2
              refine g_if_eq 79 dX4_takerByGives_69 (by decide) (fun c12 => ?_) (fun c12 => ?_)
              · have hs := ifSt hs c12; have hQ := ifQt hQ c12
                refine g_iinc 3 (v := x3 + 1) _ dX4_takerByGives_79 rfl rfl (by decide) rfl ?_
                refine g_goto 2 dX4_takerByGives_82 (by decide) ?_
                refine g_sub [1, 2, 3, 0] _ rfl ?_
                exact ih (x3 + 1) hs hQ
              · have hs := ifSf hs c12; have hQ := ifQf hQ c12
                refine g_aload_n 1 dX4_takerByGives_72 rfl ?_
                refine g_getR (paC 0 q) (paC 0 q + 5) fd_X4_174 (dF_Pa lt02 hq) rfl rfl dX4_takerByGives_73 ?_
                refine g_iload_n 3 dX4_takerByGives_76 rfl ?_
                have h13 := hs.1; have hs := hs.2
                refine g_iald (paC 0 q + 5) (dF_Pa_giveElse lt02 hq) h13 dX4_takerByGives_77 ?_
                exact g_iret rfl dX4_takerByGives_78 (hK _ hQ)
            · have hs := ifSf hs c9; have hQ := ifQf hQ c9
              refine g_aload_n 1 dX4_takerByGives_50 rfl ?_
              refine g_getR (paC 0 q) (paC 0 q + 2) fd_X4_171 (dF_Pa lt02 hq) rfl rfl dX4_takerByGives_51 ?_
              refine g_iload_n 3 dX4_takerByGives_54 rfl ?_
              have h14 := hs.1; have hs := hs.2
              refine g_iald (paC 0 q + 2) (dF_Pa_giveTo lt02 hq) h14 dX4_takerByGives_55 ?_
              exact g_iret rfl dX4_takerByGives_56 (hK _ hQ)
def f_X4_takerByGives (M : gM) (q : Nat) (x2 : Int32) : Int32 :=
  f_X4_takerByGives_2 M q x2 FU 0
def s_X4_takerByGives (M : gM) (q : Nat) (x2 : Int32) : Prop :=
  s_X4_takerByGives_2 M q x2 FU 0
set_option maxRecDepth 100000 in
set_option maxHeartbeats 4000000 in
theorem t_X4_takerByGives {E : gE} {K : Int32 → Prop} {Q : Option Value → gM → Prop} {M : gM} (hK : ∀ z : Int32, K z → Q (some (.int z)) M)  (q : Nat) (x2 : Int32) (hq : q < 12) (hs : s_X4_takerByGives M q x2) (hQ : K (f_X4_takerByGives M q x2)) : gG E RX4 cX4_takerByGives 4 (some .int) (rm 2) 0 [(0, .ref (gla E 216)), (1, .ref (gla E (paC 0 q))), (2, .int x2)] [] M Q := by
  rw [s_X4_takerByGives] at hs
  rw [f_X4_takerByGives] at hQ
  refine g_iconst (v := 0) dX4_takerByGives_0 (by decide) ?_
  refine g_istore_n _ dX4_takerByGives_1 (by decide) rfl ?_
  refine g_sub [1, 2, 3, 0] _ rfl ?_
  exact t_X4_takerByGives_2 hK q x2 hq FU 0 hs hQ
theorem c_X4_takerByGives (E : gE) (M : gM) (q : Nat) (hq : q < 12) (x2 : Int32) (hs : s_X4_takerByGives M q x2) : gC E yX4_takerByGives cX4_takerByGives 4 (some .int) (rm 2) [.ref (gla E 216), .ref (gla E (paC 0 q)), .int x2] M (fun o N => o = some (.int (f_X4_takerByGives M q x2)) ∧ N = M) :=
  gC.of (by decide +kernel) (Nat.le_of_ble_eq_true rfl) rfl (t_X4_takerByGives (K := fun z => z = f_X4_takerByGives M q x2) (fun z hz => by rw [hz]; exact ⟨rfl, rfl⟩) q x2 hq hs rfl)
def f_X1_passOn_78 (M : gM) (x1 : Int32) (x4 : Int32)  : gM :=
  if (rdI M 51 0 0 0) = (-1) then
    (if x4 = 0 then
      (bnd (f_X1_shareOut M x1 0 10 1) fun M15 =>
      (M15))
    else
      (bnd (f_X1_shareOut M x1 x4 10 0) fun M17 =>
      (M17)))
  else
    (bnd (f_X1_shareOut M x1 0 (rdI M 51 0 0 0) 1) fun M19 =>
    (M19))
def s_X1_passOn_78 (M : gM) (x1 : Int32) (x4 : Int32)  : Prop :=
  if (rdI M 51 0 0 0) = (-1) then
    (if x4 = 0 then
      ((s_X1_shareOut M x1 0 10 1) ∧
      (bndP (f_X1_shareOut M x1 0 10 1) fun M15 =>
      (True)))
    else
      ((s_X1_shareOut M x1 x4 10 0) ∧
      (bndP (f_X1_shareOut M x1 x4 10 0) fun M17 =>
      (True))))
  else
    ((s_X1_shareOut M x1 0 (rdI M 51 0 0 0) 1) ∧
    (bndP (f_X1_shareOut M x1 0 (rdI M 51 0 0 0) 1) fun M19 =>
    (True)))
theorem o_X1_passOn_78 (M : gM) (x1 : Int32) (x4 : Int32)  : offW [56, 61] M (f_X1_passOn_78 M x1 x4 ) := by
  rw [f_X1_passOn_78]
  refine offI ?_ ?_
  · refine offI ?_ ?_
    · refine offB (offR.tr ((o_X1_shareOut M x1 0 10 1).mono (by decide))) (fun M15 oM15 => ?_)
      exact oM15
    · refine offB (offR.tr ((o_X1_shareOut M x1 x4 10 0).mono (by decide))) (fun M17 oM17 => ?_)
      exact oM17
  · refine offB (offR.tr ((o_X1_shareOut M x1 0 (rdI M 51 0 0 0) 1).mono (by decide))) (fun M19 oM19 => ?_)
    exact oM19
set_option maxRecDepth 100000 in
set_option maxHeartbeats 4000000 in
theorem t_X1_passOn_78 {E : gE} {K : gM → Prop} {Q : Option Value → gM → Prop} (hK : ∀ z : gM, K z → Q none z) (M : gM) (x1 : Int32) (x4 : Int32)   (hs : s_X1_passOn_78 M x1 x4 ) (hQ : K (f_X1_passOn_78 M x1 x4 )) : gG E RX1 cX1_passOn 5 none (rm 3) 78 [(0, .ref (gla E 220)), (1, .int x1), (4, .int x4)] [] M Q := by
  rw [s_X1_passOn_78] at hs
  rw [f_X1_passOn_78] at hQ
  refine g_aload_n 0 dX1_passOn_78 rfl ?_
  refine g_getR 220 216 fd_X1_23 dF_Es rfl rfl dX1_passOn_79 ?_
  refine g_getI 216 fd_X1_110 dF_Lw rfl dX1_passOn_82 ?_
  refine g_iconst (v := (-1)) dX1_passOn_85 (by decide) ?_
  refine g_icmp_eq 106 dX1_passOn_86 (by decide) (fun c12 => ?_) (fun c12 => ?_)
  · have hs := ifSt hs c12; have hQ := ifQt hQ c12
    refine g_iload 2 dX1_passOn_106 rfl ?_
    refine g_if_eq 124 dX1_passOn_108 (by decide) (fun c13 => ?_) (fun c13 => ?_)
    · have hs := ifSt hs c13; have hQ := ifQt hQ c13
      refine g_aload_n 0 dX1_passOn_124 rfl ?_
      refine g_iload_n 1 dX1_passOn_125 rfl ?_
      refine g_iconst (v := 0) dX1_passOn_126 (by decide) ?_
      refine g_bipush (v := 10) dX1_passOn_127 (by decide) ?_
      refine g_iconst (v := 1) dX1_passOn_129 (by decide) ?_
      have h14 := hs.1; have hs := hs.2
      refine g_callV (As := [.int x1, .int 0, .int 10, .int 1]) (st := []) 220 (c_X1_shareOut E M x1 0 10 1 h14) mt_X1_shareOut ml_X1_118 dF_Es rfl rfl sg_X1_shareOut rfl (by decide) (Nat.le_of_ble_eq_true rfl) dX1_passOn_130 ?_
      rintro _ M15 ⟨rfl, hM15⟩
      have hQ := bndQ hQ M15 hM15; have hs := bndS hs M15 hM15
      exact g_vret rfl dX1_passOn_133 (hK _ hQ)
    · have hs := ifSf hs c13; have hQ := ifQf hQ c13
      refine g_aload_n 0 dX1_passOn_111 rfl ?_
      refine g_iload_n 1 dX1_passOn_112 rfl ?_
      refine g_iload 2 dX1_passOn_113 rfl ?_
      refine g_bipush (v := 10) dX1_passOn_115 (by decide) ?_
      refine g_iconst (v := 0) dX1_passOn_117 (by decide) ?_
      have h16 := hs.1; have hs := hs.2
      refine g_callV (As := [.int x1, .int x4, .int 10, .int 0]) (st := []) 220 (c_X1_shareOut E M x1 x4 10 0 h16) mt_X1_shareOut ml_X1_118 dF_Es rfl rfl sg_X1_shareOut rfl (by decide) (Nat.le_of_ble_eq_true rfl) dX1_passOn_118 ?_
      rintro _ M17 ⟨rfl, hM17⟩
      have hQ := bndQ hQ M17 hM17; have hs := bndS hs M17 hM17
      refine g_goto 133 dX1_passOn_121 (by decide) ?_
      exact g_vret rfl dX1_passOn_133 (hK _ hQ)
  · have hs := ifSf hs c12; have hQ := ifQf hQ c12
    refine g_aload_n 0 dX1_passOn_89 rfl ?_
    refine g_iload_n 1 dX1_passOn_90 rfl ?_
    refine g_iconst (v := 0) dX1_passOn_91 (by decide) ?_
    refine g_aload_n 0 dX1_passOn_92 rfl ?_
    refine g_getR 220 216 fd_X1_23 dF_Es rfl rfl dX1_passOn_93 ?_
    refine g_getI 216 fd_X1_110 dF_Lw rfl dX1_passOn_96 ?_
    refine g_iconst (v := 1) dX1_passOn_99 (by decide) ?_
    have h18 := hs.1; have hs := hs.2
    refine g_callV (As := [.int x1, .int 0, .int (rdI M 51 0 0 0), .int 1]) (st := []) 220 (c_X1_shareOut E M x1 0 (rdI M 51 0 0 0) 1 h18) mt_X1_shareOut ml_X1_118 dF_Es rfl rfl sg_X1_shareOut rfl (by decide) (Nat.le_of_ble_eq_true rfl) dX1_passOn_100 ?_
    rintro _ M19 ⟨rfl, hM19⟩
    have hQ := bndQ hQ M19 hM19; have hs := bndS hs M19 hM19
    refine g_goto 133 dX1_passOn_103 (by decide) ?_
    exact g_vret rfl dX1_passOn_133 (hK _ hQ)
def f_X1_passOn (M : gM) (x1 : Int32) (x2 : Int32) : gM :=
  bnd ((f_X7_childrenOf M 0 x1) &&& (f_X7_livingOn M 0 (rdI M 20 0 (nn x1) 0))) fun v4 =>
  (if (rdI M 51 0 0 0) = (-1) then
    (f_X1_passOn_78 M x1 (f_X7_heirsOf M 0 x1))
  else
    (if x2 = 0 then
      (f_X1_passOn_78 M x1 (f_X7_heirsOf M 0 x1))
    else
      (if v4 = 0 then
        (f_X1_passOn_78 M x1 (f_X7_heirsOf M 0 x1))
      else
        (bnd (f_X1_shareOut M x1 v4 (rdI M 51 0 0 0) (f_J6_bitCount_0f7a4 M v4)) fun M11 =>
        (M11)))))
def s_X1_passOn (M : gM) (x1 : Int32) (x2 : Int32) : Prop :=
  (s_X7_childrenOf M 0 x1) ∧
  ((vp_in x1 10) ∧
  ((s_X7_livingOn M 0 (rdI M 20 0 (nn x1) 0)) ∧
  (bndP ((f_X7_childrenOf M 0 x1) &&& (f_X7_livingOn M 0 (rdI M 20 0 (nn x1) 0))) fun v4 =>
  ((s_X7_heirsOf M 0 x1) ∧
  (if (rdI M 51 0 0 0) = (-1) then
    (s_X1_passOn_78 M x1 (f_X7_heirsOf M 0 x1))
  else
    (if x2 = 0 then
      (s_X1_passOn_78 M x1 (f_X7_heirsOf M 0 x1))
    else
      (if v4 = 0 then
        (s_X1_passOn_78 M x1 (f_X7_heirsOf M 0 x1))
      else
        ((s_J6_bitCount_0f7a4 M v4) ∧
        ((s_X1_shareOut M x1 v4 (rdI M 51 0 0 0) (f_J6_bitCount_0f7a4 M v4)) ∧
        (bndP (f_X1_shareOut M x1 v4 (rdI M 51 0 0 0) (f_J6_bitCount_0f7a4 M v4)) fun M11 =>
        (True)))))))))))
theorem o_X1_passOn (M : gM) (x1 : Int32) (x2 : Int32) : offW [56, 61] M (f_X1_passOn M x1 x2) := by
  rw [f_X1_passOn]
  refine offV (fun v4 => ?_)
  refine offI ?_ ?_
  · exact (o_X1_passOn_78 M x1 (f_X7_heirsOf M 0 x1))
  · refine offI ?_ ?_
    · exact (o_X1_passOn_78 M x1 (f_X7_heirsOf M 0 x1))
    · refine offI ?_ ?_
      · exact (o_X1_passOn_78 M x1 (f_X7_heirsOf M 0 x1))
      · refine offB (offR.tr ((o_X1_shareOut M x1 v4 (rdI M 51 0 0 0) (f_J6_bitCount_0f7a4 M v4)).mono (by decide))) (fun M11 oM11 => ?_)
        exact oM11
set_option maxRecDepth 100000 in
set_option maxHeartbeats 4000000 in
theorem t_X1_passOn {E : gE} {K : gM → Prop} {Q : Option Value → gM → Prop} (hK : ∀ z : gM, K z → Q none z) (M : gM) (x1 : Int32) (x2 : Int32)  (hs : s_X1_passOn M x1 x2) (hQ : K (f_X1_passOn M x1 x2)) : gG E RX1 cX1_passOn 5 none (rm 3) 0 [(0, .ref (gla E 220)), (1, .int x1), (2, .int x2)] [] M Q := by
  rw [s_X1_passOn] at hs
  rw [f_X1_passOn] at hQ
  refine g_aload_n 0 dX1_passOn_0 rfl ?_
  refine g_getR 220 (rgC 0) fd_X1_19 dF_Es rfl rfl dX1_passOn_1 ?_
  refine g_iload_n 1 dX1_passOn_4 rfl ?_
  have h1 := hs.1; have hs := hs.2
  refine g_callV (As := [.int x1]) (st := []) (rgC 0) (c_X7_childrenOf E M 0 lt02 x1 h1) mt_X7_childrenOf ml_X1_101 (dF_Rg lt02) rfl rfl sg_X7_childrenOf rfl (by decide) (Nat.le_of_ble_eq_true rfl) dX1_passOn_5 ?_
  rintro _ _ ⟨q1, q2⟩; rw [q1, q2]; clear q1 q2
  refine g_aload_n 0 dX1_passOn_8 rfl ?_
  refine g_getR 220 (rgC 0) fd_X1_19 dF_Es rfl rfl dX1_passOn_9 ?_
  refine g_aload_n 0 dX1_passOn_12 rfl ?_
  refine g_getR 220 (rgC 0) fd_X1_19 dF_Es rfl rfl dX1_passOn_13 ?_
  refine g_getR (rgC 0) (rgC 0 + 2) fd_X1_71 (dF_Rg lt02) rfl rfl dX1_passOn_16 ?_
  refine g_iload_n 1 dX1_passOn_19 rfl ?_
  have h2 := hs.1; have hs := hs.2
  refine g_aald (rgC 0 + 2) (peC 0 (nn x1)) rfl (dF_Rg_persons lt02) h2 (aj_Pe _ _) dX1_passOn_20 ?_
  refine g_getI (peC 0 (nn x1)) fd_X1_75 (dF_Pe lt02 (vpL h2)) rfl dX1_passOn_21 ?_
  have h3 := hs.1; have hs := hs.2
  refine g_callV (As := [.int (rdI M 20 0 (nn x1) 0)]) (st := [.int (f_X7_childrenOf M 0 x1)]) (rgC 0) (c_X7_livingOn E M 0 lt02 (rdI M 20 0 (nn x1) 0) h3) mt_X7_livingOn ml_X1_104 (dF_Rg lt02) rfl rfl sg_X7_livingOn rfl (by decide) (Nat.le_of_ble_eq_true rfl) dX1_passOn_24 ?_
  rintro _ _ ⟨q1, q2⟩; rw [q1, q2]; clear q1 q2
  refine g_iand dX1_passOn_27 ?_
  refine g_topI (fun v4 hv4 => ?_)
  have hQ := bndQ hQ v4 hv4; have hs := bndS hs v4 hv4
  refine g_istore_n _ dX1_passOn_28 (by decide) rfl ?_
  refine g_aload_n 1 dX1_passOn_29 rfl ?_
  refine g_getR 220 (rgC 0) fd_X1_19 dF_Es rfl rfl dX1_passOn_30 ?_
  refine g_iload_n 2 dX1_passOn_33 rfl ?_
  have h5 := hs.1; have hs := hs.2
  refine g_callV (As := [.int x1]) (st := []) (rgC 0) (c_X7_heirsOf E M 0 lt02 x1 h5) mt_X7_heirsOf ml_X1_107 (dF_Rg lt02) rfl rfl sg_X7_heirsOf rfl (by decide) (Nat.le_of_ble_eq_true rfl) dX1_passOn_34 ?_
  rintro _ _ ⟨q1, q2⟩; rw [q1, q2]; clear q1 q2
  refine g_istore _ dX1_passOn_37 (by decide) rfl ?_
  refine g_aload_n 2 dX1_passOn_39 rfl ?_
  refine g_getR 220 216 fd_X1_23 dF_Es rfl rfl dX1_passOn_40 ?_
  refine g_getI 216 fd_X1_110 dF_Lw rfl dX1_passOn_43 ?_
  refine g_iconst (v := (-1)) dX1_passOn_46 (by decide) ?_
  refine g_icmp_eq 78 dX1_passOn_47 (by decide) (fun c6 => ?_) (fun c6 => ?_)
  · have hs := ifSt hs c6; have hQ := ifQt hQ c6
    refine g_sub [2, 3, 0] _ rfl ?_
    exact t_X1_passOn_78 hK M x1 (f_X7_heirsOf M 0 x1) hs hQ
  · have hs := ifSf hs c6; have hQ := ifQf hQ c6
    refine g_iload_n 4 dX1_passOn_50 rfl ?_
    refine g_if_eq 78 dX1_passOn_51 (by decide) (fun c7 => ?_) (fun c7 => ?_)
    · have hs := ifSt hs c7; have hQ := ifQt hQ c7
      refine g_sub [2, 3, 0] _ rfl ?_
      exact t_X1_passOn_78 hK M x1 (f_X7_heirsOf M 0 x1) hs hQ
    · have hs := ifSf hs c7; have hQ := ifQf hQ c7
      refine g_iload_n 1 dX1_passOn_54 rfl ?_
      refine g_if_eq 78 dX1_passOn_55 (by decide) (fun c8 => ?_) (fun c8 => ?_)
      · have hs := ifSt hs c8; have hQ := ifQt hQ c8
        refine g_sub [2, 3, 0] _ rfl ?_
        exact t_X1_passOn_78 hK M x1 (f_X7_heirsOf M 0 x1) hs hQ
      · have hs := ifSf hs c8; have hQ := ifQf hQ c8
        refine g_aload_n 2 dX1_passOn_58 rfl ?_
        refine g_iload_n 3 dX1_passOn_59 rfl ?_
        refine g_iload_n 1 dX1_passOn_60 rfl ?_
        refine g_aload_n 2 dX1_passOn_61 rfl ?_
        refine g_getR 220 216 fd_X1_23 dF_Es rfl rfl dX1_passOn_62 ?_
        refine g_getI 216 fd_X1_110 dF_Lw rfl dX1_passOn_65 ?_
        refine g_iload_n 1 dX1_passOn_68 rfl ?_
        have h9 := hs.1; have hs := hs.2
        refine g_callS (As := [.int v4]) (st := [.int (rdI M 51 0 0 0), .int v4, .int x1, .ref (gla E 220)]) (c_J6_bitCount_0f7a4 E M v4 h9) mt_J6_bitCount_0f7a4 ml_X1_113 sg_J6_bitCount_0f7a4 rfl (by decide) (Nat.le_of_ble_eq_true rfl) dX1_passOn_69 ?_
        rintro _ _ ⟨q1, q2⟩; rw [q1, q2]; clear q1 q2
        have h10 := hs.1; have hs := hs.2
        refine g_callV (As := [.int x1, .int v4, .int (rdI M 51 0 0 0), .int (f_J6_bitCount_0f7a4 M v4)]) (st := []) 220 (c_X1_shareOut E M x1 v4 (rdI M 51 0 0 0) (f_J6_bitCount_0f7a4 M v4) h10) mt_X1_shareOut ml_X1_118 dF_Es rfl rfl sg_X1_shareOut rfl (by decide) (Nat.le_of_ble_eq_true rfl) dX1_passOn_72 ?_
        rintro _ M11 ⟨rfl, hM11⟩
        have hQ := bndQ hQ M11 hM11; have hs := bndS hs M11 hM11
        refine g_goto 133 dX1_passOn_75 (by decide) ?_
        exact g_vret rfl dX1_passOn_133 (hK _ hQ)
theorem c_X1_passOn (E : gE) (M : gM) (x1 : Int32) (x2 : Int32) (hs : s_X1_passOn M x1 x2) : gC E yX1_passOn cX1_passOn 5 none (rm 3) [.ref (gla E 220), .int x1, .int x2] M (fun o N => o = none ∧ N = f_X1_passOn M x1 x2) :=
  gC.of (by decide +kernel) (Nat.le_of_ble_eq_true rfl) rfl (t_X1_passOn (K := fun z => z = f_X1_passOn M x1 x2) (fun z hz => ⟨rfl, hz⟩) M x1 x2 hs rfl)
def f_X4_weigh_135 (M : gM) (x3 : Int32) (k84 : gM → Int32 → gM) : gM :=
  if (rdI M 53 0 0 (nn x3)) = 0 then
    (k84 M (x3 + 1))
  else
    (if (f_X4_isBroken M (nn x3)) = 0 then
      (k84 M (x3 + 1))
    else
      (bnd (wrI M 54 0 0 (nn x3) 6) fun M30 =>
      (k84 M30 (x3 + 1))))
def s_X4_weigh_135 (M : gM) (x3 : Int32) (q84 : gM → Int32 → Prop) : Prop :=
  (vp_in x3 12) ∧
  (if (rdI M 53 0 0 (nn x3)) = 0 then
    (q84 M (x3 + 1))
  else
    ((vp_in x3 12) ∧
    ((s_X4_isBroken M (nn x3)) ∧
    (if (f_X4_isBroken M (nn x3)) = 0 then
      (q84 M (x3 + 1))
    else
      ((vp_in x3 12) ∧
      (bndP (wrI M 54 0 0 (nn x3) 6) fun M30 =>
      (q84 M30 (x3 + 1))))))))
theorem o_X4_weigh_135 (M : gM) (x3 : Int32) (k84 : gM → Int32 → gM) (ho84 : ∀ (M : gM) (x3 : Int32), offW [53, 54, 55] M (k84 M x3)) : offW [53, 54, 55] M (f_X4_weigh_135 M x3 k84) := by
  rw [f_X4_weigh_135]
  refine offI ?_ ?_
  · exact (ho84 M (x3 + 1))
  · refine offI ?_ ?_
    · exact (ho84 M (x3 + 1))
    · refine offB (offR.wI (by decide)) (fun M30 oM30 => ?_)
      exact oM30.tr (ho84 M30 (x3 + 1))
set_option maxRecDepth 100000 in
set_option maxHeartbeats 4000000 in
theorem t_X4_weigh_135 {E : gE} {K : gM → Prop} {Q : Option Value → gM → Prop} (hK : ∀ z : gM, K z → Q none z) (M : gM) (x3 : Int32)  (k84 : gM → Int32 → gM) (q84 : gM → Int32 → Prop) (hk84 : ∀ (M : gM) (x3 : Int32) , q84 M x3 → K (k84 M x3) → gG E RX4 cX4_weigh 5 none (rm 3) 84 [(0, .ref (gla E 216)), (3, .int x3)] [] M Q) (hs : s_X4_weigh_135 M x3 q84) (hQ : K (f_X4_weigh_135 M x3 k84)) : gG E RX4 cX4_weigh 5 none (rm 3) 135 [(0, .ref (gla E 216)), (3, .int x3)] [] M Q := by
  rw [s_X4_weigh_135] at hs
  rw [f_X4_weigh_135] at hQ
  refine g_aload_n 0 dX4_weigh_135 rfl ?_
  refine g_getR 216 217 fd_X4_9 dF_Lw rfl rfl dX4_weigh_136 ?_
  refine g_iload_n 1 dX4_weigh_139 rfl ?_
  have h24 := hs.1; have hs := hs.2
  refine g_zald 217 dF_Lw_good h24 dX4_weigh_140 ?_
  refine g_if_eq 168 dX4_weigh_141 (by decide) (fun c25 => ?_) (fun c25 => ?_)
  · have hs := ifSt hs c25; have hQ := ifQt hQ c25
    refine g_iinc 1 (v := x3 + 1) _ dX4_weigh_168 rfl rfl (by decide) rfl ?_
    refine g_goto 84 dX4_weigh_171 (by decide) ?_
    refine g_sub [1, 0] _ rfl ?_
    exact hk84 M (x3 + 1) hs hQ
  · have hs := ifSf hs c25; have hQ := ifQf hQ c25
    refine g_aload_n 0 dX4_weigh_144 rfl ?_
    refine g_aload_n 0 dX4_weigh_145 rfl ?_
    refine g_getR 216 (rgC 0) fd_X4_22 dF_Lw rfl rfl dX4_weigh_146 ?_
    refine g_getR (rgC 0) (rgC 0 + 4) fd_X4_41 (dF_Rg lt02) rfl rfl dX4_weigh_149 ?_
    refine g_iload_n 1 dX4_weigh_152 rfl ?_
    have h26 := hs.1; have hs := hs.2
    refine g_aald (rgC 0 + 4) (paC 0 (nn x3)) rfl (dF_Rg_papers lt02) h26 (aj_Pa _ _) dX4_weigh_153 ?_
    have h27 := hs.1; have hs := hs.2
    refine g_callV (As := [.ref (gla E (paC 0 (nn x3)))]) (st := []) 216 (c_X4_isBroken E M (nn x3) (vpL h26) h27) mt_X4_isBroken ml_X4_57 dF_Lw rfl rfl sg_X4_isBroken rfl (by decide) (Nat.le_of_ble_eq_true rfl) dX4_weigh_154 ?_
    rintro _ _ ⟨q1, q2⟩; rw [q1, q2]; clear q1 q2
    refine g_if_eq 168 dX4_weigh_157 (by decide) (fun c28 => ?_) (fun c28 => ?_)
    · have hs := ifSt hs c28; have hQ := ifQt hQ c28
      refine g_iinc 1 (v := x3 + 1) _ dX4_weigh_168 rfl rfl (by decide) rfl ?_
      refine g_goto 84 dX4_weigh_171 (by decide) ?_
      refine g_sub [1, 0] _ rfl ?_
      exact hk84 M (x3 + 1) hs hQ
    · have hs := ifSf hs c28; have hQ := ifQf hQ c28
      refine g_aload_n 0 dX4_weigh_160 rfl ?_
      refine g_getR 216 218 fd_X4_15 dF_Lw rfl rfl dX4_weigh_161 ?_
      refine g_iload_n 1 dX4_weigh_164 rfl ?_
      refine g_bipush (v := 6) dX4_weigh_165 (by decide) ?_
      have h29 := hs.1; have hs := hs.2
      refine g_iast 218 dF_Lw_why h29 dX4_weigh_167 (fun M30 hM30 => ?_)
      have hQ := bndQ hQ M30 hM30; have hs := bndS hs M30 hM30
      refine g_iinc 1 (v := x3 + 1) _ dX4_weigh_168 rfl rfl (by decide) rfl ?_
      refine g_goto 84 dX4_weigh_171 (by decide) ?_
      refine g_sub [1, 0] _ rfl ?_
      exact hk84 M30 (x3 + 1) hs hQ
def f_X4_weigh_84   : Nat → gM → Int32 → gM
  | 0, M, _ => M
  | n + 1, M, x3 =>
    if (rdI M 7 0 0 0) ≤ x3 then
      (M)
    else
      (bnd (wrI M 55 0 0 (nn x3) (f_X4_latestStriker M x3)) fun M17 =>
      (if (rdI M17 53 0 0 (nn x3)) = 0 then
        (f_X4_weigh_135 M17 x3 (f_X4_weigh_84  n))
      else
        (if (rdI M17 55 0 0 (nn x3)) = (-1) then
          (f_X4_weigh_135 M17 x3 (f_X4_weigh_84  n))
        else
          (bnd (wrI M17 54 0 0 (nn x3) 5) fun M23 =>
          (f_X4_weigh_84 n M23 (x3 + 1))))))
def s_X4_weigh_84   : Nat → gM → Int32 → Prop
  | 0, _, _ => False
  | n + 1, M, x3 =>
    if (rdI M 7 0 0 0) ≤ x3 then
      (True)
    else
      ((s_X4_latestStriker M x3) ∧
      ((vp_in x3 12) ∧
      (bndP (wrI M 55 0 0 (nn x3) (f_X4_latestStriker M x3)) fun M17 =>
      ((vp_in x3 12) ∧
      (if (rdI M17 53 0 0 (nn x3)) = 0 then
        (s_X4_weigh_135 M17 x3 (s_X4_weigh_84  n))
      else
        ((vp_in x3 12) ∧
        (if (rdI M17 55 0 0 (nn x3)) = (-1) then
          (s_X4_weigh_135 M17 x3 (s_X4_weigh_84  n))
        else
          ((vp_in x3 12) ∧
          (bndP (wrI M17 54 0 0 (nn x3) 5) fun M23 =>
          (s_X4_weigh_84 n M23 (x3 + 1)))))))))))
theorem o_X4_weigh_84   : ∀ (n : Nat) (M : gM) (x3 : Int32), offW [53, 54, 55] M (f_X4_weigh_84   n M x3) := by
  intro n
  induction n with
  | zero => intro M x3; exact offR
  | succ n ih =>
    intro M x3
    rw [f_X4_weigh_84]
    refine offI ?_ ?_
    · exact offR
    · refine offB (offR.wI (by decide)) (fun M17 oM17 => ?_)
      refine offI ?_ ?_
      · exact oM17.tr (o_X4_weigh_135 M17 x3 (f_X4_weigh_84  n) ih)
      · refine offI ?_ ?_
        · exact oM17.tr (o_X4_weigh_135 M17 x3 (f_X4_weigh_84  n) ih)
        · refine offB (oM17.wI (by decide)) (fun M23 oM23 => ?_)
          exact oM23.tr (ih M23 (x3 + 1))
set_option maxRecDepth 100000 in
set_option maxHeartbeats 4000000 in
theorem t_X4_weigh_84 {E : gE} {K : gM → Prop} {Q : Option Value → gM → Prop} (hK : ∀ z : gM, K z → Q none z)    : ∀ (n : Nat) (M : gM) (x3 : Int32) , s_X4_weigh_84   n M x3 → K (f_X4_weigh_84   n M x3) → gG E RX4 cX4_weigh 5 none (rm 3) 84 [(0, .ref (gla E 216)), (3, .int x3)] [] M Q := by
  intro n
  induction n with
  | zero => intro M x3 hs hQ; exact (hs : False).elim
  | succ n ih =>
    intro M x3 hs hQ
    rw [s_X4_weigh_84] at hs
    rw [f_X4_weigh_84] at hQ
    refine g_iload_n 1 dX4_weigh_84 rfl ?_
    refine g_aload_n 0 dX4_weigh_85 rfl ?_
    refine g_getR 216 (rgC 0) fd_X4_22 dF_Lw rfl rfl dX4_weigh_86 ?_
    refine g_getI (rgC 0) fd_X4_38 (dF_Rg lt02) rfl dX4_weigh_89 ?_
    refine g_icmp_ge 174 dX4_weigh_92 (by decide) (fun c14 => ?_) (fun c14 => ?_)
    · have hs := ifSt hs c14; have hQ := ifQt hQ c14
      exact g_vret rfl dX4_weigh_174 (hK _ hQ)
    · have hs := ifSf hs c14; have hQ := ifQf hQ c14
      refine g_aload_n 0 dX4_weigh_95 rfl ?_
      refine g_getR 216 219 fd_X4_19 dF_Lw rfl rfl dX4_weigh_96 ?_
      refine g_iload_n 1 dX4_weigh_99 rfl ?_
      refine g_aload_n 0 dX4_weigh_100 rfl ?_
      refine g_iload_n 1 dX4_weigh_101 rfl ?_
      have h15 := hs.1; have hs := hs.2
      refine g_callV (As := [.int x3]) (st := [.int x3, .ref (gla E 219)]) 216 (c_X4_latestStriker E M x3 h15) mt_X4_latestStriker ml_X4_53 dF_Lw rfl rfl sg_X4_latestStriker rfl (by decide) (Nat.le_of_ble_eq_true rfl) dX4_weigh_102 ?_
      rintro _ _ ⟨q1, q2⟩; rw [q1, q2]; clear q1 q2
      have h16 := hs.1; have hs := hs.2
      refine g_iast 219 dF_Lw_striker h16 dX4_weigh_105 (fun M17 hM17 => ?_)
      have hQ := bndQ hQ M17 hM17; have hs := bndS hs M17 hM17
      refine g_aload_n 0 dX4_weigh_106 rfl ?_
      refine g_getR 216 217 fd_X4_9 dF_Lw rfl rfl dX4_weigh_107 ?_
      refine g_iload_n 1 dX4_weigh_110 rfl ?_
      have h18 := hs.1; have hs := hs.2
      refine g_zald 217 dF_Lw_good h18 dX4_weigh_111 ?_
      refine g_if_eq 135 dX4_weigh_112 (by decide) (fun c19 => ?_) (fun c19 => ?_)
      · have hs := ifSt hs c19; have hQ := ifQt hQ c19
        exact t_X4_weigh_135 hK M17 x3 (f_X4_weigh_84  n) (s_X4_weigh_84  n) ih hs hQ
      · have hs := ifSf hs c19; have hQ := ifQf hQ c19
        refine g_aload_n 0 dX4_weigh_115 rfl ?_
        refine g_getR 216 219 fd_X4_19 dF_Lw rfl rfl dX4_weigh_116 ?_
        refine g_iload_n 1 dX4_weigh_119 rfl ?_
        have h20 := hs.1; have hs := hs.2
        refine g_iald 219 dF_Lw_striker h20 dX4_weigh_120 ?_
        refine g_iconst (v := (-1)) dX4_weigh_121 (by decide) ?_
        refine g_icmp_eq 135 dX4_weigh_122 (by decide) (fun c21 => ?_) (fun c21 => ?_)
        · have hs := ifSt hs c21; have hQ := ifQt hQ c21
          exact t_X4_weigh_135 hK M17 x3 (f_X4_weigh_84  n) (s_X4_weigh_84  n) ih hs hQ
        · have hs := ifSf hs c21; have hQ := ifQf hQ c21
          refine g_aload_n 0 dX4_weigh_125 rfl ?_
          refine g_getR 216 218 fd_X4_15 dF_Lw rfl rfl dX4_weigh_126 ?_
          refine g_iload_n 1 dX4_weigh_129 rfl ?_
          refine g_iconst (v := 5) dX4_weigh_130 (by decide) ?_
          have h22 := hs.1; have hs := hs.2
          refine g_iast 218 dF_Lw_why h22 dX4_weigh_131 (fun M23 hM23 => ?_)
          have hQ := bndQ hQ M23 hM23; have hs := bndS hs M23 hM23
          refine g_goto 168 dX4_weigh_132 (by decide) ?_
          refine g_iinc 1 (v := x3 + 1) _ dX4_weigh_168 rfl rfl (by decide) rfl ?_
          refine g_goto 84 dX4_weigh_171 (by decide) ?_
          refine g_sub [1, 0] _ rfl ?_
          exact ih M23 (x3 + 1) hs hQ
def f_X4_weigh_15 (x2 : Int32)  : Nat → gM → Int32 → gM
  | 0, M, _ => M
  | n + 1, M, x3 =>
    if (rdI M 7 0 0 0) ≤ x3 then
      (f_X4_weigh_84 FU M 0)
    else
      (bnd (wrI M 54 0 0 (nn x3) (f_X4_whyNotGood M (nn x3) x2 (f_X4_witnessesWhoLived M (nn x3)))) fun M7 =>
      (if (rdI M7 54 0 0 (nn x3)) = 0 then
        (bnd (wrI M7 53 0 0 (nn x3) (nZ 1)) fun M13 =>
        (f_X4_weigh_15 x2 n M13 (x3 + 1)))
      else
        (bnd (wrI M7 53 0 0 (nn x3) (nZ 0)) fun M11 =>
        (f_X4_weigh_15 x2 n M11 (x3 + 1)))))
def s_X4_weigh_15 (x2 : Int32)  : Nat → gM → Int32 → Prop
  | 0, _, _ => False
  | n + 1, M, x3 =>
    if (rdI M 7 0 0 0) ≤ x3 then
      (s_X4_weigh_84 FU M 0)
    else
      ((vp_in x3 12) ∧
      ((s_X4_witnessesWhoLived M (nn x3)) ∧
      ((s_X4_whyNotGood M (nn x3) x2 (f_X4_witnessesWhoLived M (nn x3))) ∧
      ((vp_in x3 12) ∧
      (bndP (wrI M 54 0 0 (nn x3) (f_X4_whyNotGood M (nn x3) x2 (f_X4_witnessesWhoLived M (nn x3)))) fun M7 =>
      ((vp_in x3 12) ∧
      (if (rdI M7 54 0 0 (nn x3)) = 0 then
        ((vp_in x3 12) ∧
        (bndP (wrI M7 53 0 0 (nn x3) (nZ 1)) fun M13 =>
        (s_X4_weigh_15 x2 n M13 (x3 + 1))))
      else
        ((vp_in x3 12) ∧
        (bndP (wrI M7 53 0 0 (nn x3) (nZ 0)) fun M11 =>
        (s_X4_weigh_15 x2 n M11 (x3 + 1)))))))))))
theorem o_X4_weigh_15 (x2 : Int32)  : ∀ (n : Nat) (M : gM) (x3 : Int32), offW [53, 54, 55] M (f_X4_weigh_15 x2  n M x3) := by
  intro n
  induction n with
  | zero => intro M x3; exact offR
  | succ n ih =>
    intro M x3
    rw [f_X4_weigh_15]
    refine offI ?_ ?_
    · exact (o_X4_weigh_84  FU M 0)
    · refine offB (offR.wI (by decide)) (fun M7 oM7 => ?_)
      refine offI ?_ ?_
      · refine offB (oM7.wI (by decide)) (fun M13 oM13 => ?_)
        exact oM13.tr (ih M13 (x3 + 1))
      · refine offB (oM7.wI (by decide)) (fun M11 oM11 => ?_)
        exact oM11.tr (ih M11 (x3 + 1))
set_option maxRecDepth 100000 in
set_option maxHeartbeats 4000000 in
theorem t_X4_weigh_15 {E : gE} {K : gM → Prop} {Q : Option Value → gM → Prop} (hK : ∀ z : gM, K z → Q none z) (x2 : Int32)   : ∀ (n : Nat) (M : gM) (x3 : Int32) , s_X4_weigh_15 x2  n M x3 → K (f_X4_weigh_15 x2  n M x3) → gG E RX4 cX4_weigh 5 none (rm 3) 15 [(0, .ref (gla E 216)), (2, .int x2), (3, .int x3)] [] M Q := by
  intro n
  induction n with
  | zero => intro M x3 hs hQ; exact (hs : False).elim
  | succ n ih =>
    intro M x3 hs hQ
    rw [s_X4_weigh_15] at hs
    rw [f_X4_weigh_15] at hQ
    refine g_iload_n 2 dX4_weigh_15 rfl ?_
    refine g_aload_n 0 dX4_weigh_16 rfl ?_
    refine g_getR 216 (rgC 0) fd_X4_22 dF_Lw rfl rfl dX4_weigh_17 ?_
    refine g_getI (rgC 0) fd_X4_38 (dF_Rg lt02) rfl dX4_weigh_20 ?_
    refine g_icmp_ge 82 dX4_weigh_23 (by decide) (fun c2 => ?_) (fun c2 => ?_)
    · have hs := ifSt hs c2; have hQ := ifQt hQ c2
      refine g_iconst (v := 0) dX4_weigh_82 (by decide) ?_
      refine g_istore_n _ dX4_weigh_83 (by decide) rfl ?_
      refine g_sub [1, 0] _ rfl ?_
      exact t_X4_weigh_84 hK FU M 0 hs hQ
    · have hs := ifSf hs c2; have hQ := ifQf hQ c2
      refine g_aload_n 0 dX4_weigh_26 rfl ?_
      refine g_getR 216 (rgC 0) fd_X4_22 dF_Lw rfl rfl dX4_weigh_27 ?_
      refine g_getR (rgC 0) (rgC 0 + 4) fd_X4_41 (dF_Rg lt02) rfl rfl dX4_weigh_30 ?_
      refine g_iload_n 2 dX4_weigh_33 rfl ?_
      have h3 := hs.1; have hs := hs.2
      refine g_aald (rgC 0 + 4) (paC 0 (nn x3)) rfl (dF_Rg_papers lt02) h3 (aj_Pa _ _) dX4_weigh_34 ?_
      refine g_astore _ dX4_weigh_35 (by decide) rfl ?_
      refine g_aload_n 1 dX4_weigh_37 rfl ?_
      refine g_getR 216 218 fd_X4_15 dF_Lw rfl rfl dX4_weigh_38 ?_
      refine g_iload_n 3 dX4_weigh_41 rfl ?_
      refine g_aload_n 1 dX4_weigh_42 rfl ?_
      refine g_aload 0 dX4_weigh_43 rfl ?_
      refine g_iload_n 2 dX4_weigh_45 rfl ?_
      refine g_aload_n 1 dX4_weigh_46 rfl ?_
      refine g_aload 0 dX4_weigh_47 rfl ?_
      have h4 := hs.1; have hs := hs.2
      refine g_callV (As := [.ref (gla E (paC 0 (nn x3)))]) (st := [.int x2, .ref (gla E (paC 0 (nn x3))), .ref (gla E 216), .int x3, .ref (gla E 218)]) 216 (c_X4_witnessesWhoLived E M (nn x3) (vpL h3) h4) mt_X4_witnessesWhoLived ml_X4_45 dF_Lw rfl rfl sg_X4_witnessesWhoLived rfl (by decide) (Nat.le_of_ble_eq_true rfl) dX4_weigh_49 ?_
      rintro _ _ ⟨q1, q2⟩; rw [q1, q2]; clear q1 q2
      have h5 := hs.1; have hs := hs.2
      refine g_callV (As := [.ref (gla E (paC 0 (nn x3))), .int x2, .int (f_X4_witnessesWhoLived M (nn x3))]) (st := [.int x3, .ref (gla E 218)]) 216 (c_X4_whyNotGood E M (nn x3) (vpL h3) x2 (f_X4_witnessesWhoLived M (nn x3)) h5) mt_X4_whyNotGood ml_X4_49 dF_Lw rfl rfl sg_X4_whyNotGood rfl (by decide) (Nat.le_of_ble_eq_true rfl) dX4_weigh_52 ?_
      rintro _ _ ⟨q1, q2⟩; rw [q1, q2]; clear q1 q2
      have h6 := hs.1; have hs := hs.2
      refine g_iast 218 dF_Lw_why h6 dX4_weigh_55 (fun M7 hM7 => ?_)
      have hQ := bndQ hQ M7 hM7; have hs := bndS hs M7 hM7
      refine g_aload_n 1 dX4_weigh_56 rfl ?_
      refine g_getR 216 217 fd_X4_9 dF_Lw rfl rfl dX4_weigh_57 ?_
      refine g_iload_n 3 dX4_weigh_60 rfl ?_
      refine g_aload_n 1 dX4_weigh_61 rfl ?_
      refine g_getR 216 218 fd_X4_15 dF_Lw rfl rfl dX4_weigh_62 ?_
      refine g_iload_n 3 dX4_weigh_65 rfl ?_
      have h8 := hs.1; have hs := hs.2
      refine g_iald 218 dF_Lw_why h8 dX4_weigh_66 ?_
      refine g_if_ne 74 dX4_weigh_67 (by decide) (fun c9 => ?_) (fun c9 => ?_)
      · have hs := ifSf hs c9; have hQ := ifQf hQ c9
        refine g_iconst (v := 0) dX4_weigh_74 (by decide) ?_
        have h10 := hs.1; have hs := hs.2
        refine g_zast 217 dF_Lw_good h10 dX4_weigh_75 (fun M11 hM11 => ?_)
        have hQ := bndQ hQ M11 hM11; have hs := bndS hs M11 hM11
        refine g_iinc 3 (v := x3 + 1) _ dX4_weigh_76 rfl rfl (by decide) rfl ?_
        refine g_goto 15 dX4_weigh_79 (by decide) ?_
        refine g_sub [2, 3, 0] _ rfl ?_
        exact ih M11 (x3 + 1) hs hQ
      · have hs := ifSt hs c9; have hQ := ifQt hQ c9
        refine g_iconst (v := 1) dX4_weigh_70 (by decide) ?_
        refine g_goto 75 dX4_weigh_71 (by decide) ?_
        have h12 := hs.1; have hs := hs.2
        refine g_zast 217 dF_Lw_good h12 dX4_weigh_75 (fun M13 hM13 => ?_)
        have hQ := bndQ hQ M13 hM13; have hs := bndS hs M13 hM13
        refine g_iinc 3 (v := x3 + 1) _ dX4_weigh_76 rfl rfl (by decide) rfl ?_
        refine g_goto 15 dX4_weigh_79 (by decide) ?_
        refine g_sub [2, 3, 0] _ rfl ?_
        exact ih M13 (x3 + 1) hs hQ
def f_X4_weigh (M : gM) (x1 : Int32) : gM :=
  f_X4_weigh_15 (rdI M 23 0 (nn x1) 0) FU M 0
def s_X4_weigh (M : gM) (x1 : Int32) : Prop :=
  (vp_in x1 8) ∧
  (s_X4_weigh_15 (rdI M 23 0 (nn x1) 0) FU M 0)
theorem o_X4_weigh (M : gM) (x1 : Int32) : offW [53, 54, 55] M (f_X4_weigh M x1) := by
  rw [f_X4_weigh]
  exact (o_X4_weigh_15 (rdI M 23 0 (nn x1) 0) FU M 0)
set_option maxRecDepth 100000 in
set_option maxHeartbeats 4000000 in
theorem t_X4_weigh {E : gE} {K : gM → Prop} {Q : Option Value → gM → Prop} (hK : ∀ z : gM, K z → Q none z) (M : gM) (x1 : Int32)  (hs : s_X4_weigh M x1) (hQ : K (f_X4_weigh M x1)) : gG E RX4 cX4_weigh 5 none (rm 3) 0 [(0, .ref (gla E 216)), (1, .int x1)] [] M Q := by
  rw [s_X4_weigh] at hs
  rw [f_X4_weigh] at hQ
  refine g_aload_n 0 dX4_weigh_0 rfl ?_
  refine g_getR 216 (rgC 0) fd_X4_22 dF_Lw rfl rfl dX4_weigh_1 ?_
  refine g_getR (rgC 0) (rgC 0 + 3) fd_X4_26 (dF_Rg lt02) rfl rfl dX4_weigh_4 ?_
  refine g_iload_n 1 dX4_weigh_7 rfl ?_
  have h1 := hs.1; have hs := hs.2
  refine g_aald (rgC 0 + 3) (thC 0 (nn x1)) rfl (dF_Rg_things lt02) h1 (aj_Th _ _) dX4_weigh_8 ?_
  refine g_getI (thC 0 (nn x1)) fd_X4_32 (dF_Th lt02 (vpL h1)) rfl dX4_weigh_9 ?_
  refine g_istore_n _ dX4_weigh_12 (by decide) rfl ?_
  refine g_iconst (v := 0) dX4_weigh_13 (by decide) ?_
  refine g_istore_n _ dX4_weigh_14 (by decide) rfl ?_
  refine g_sub [2, 1, 0] _ rfl ?_
  exact t_X4_weigh_15 hK (rdI M 23 0 (nn x1) 0) FU M 0 hs hQ
theorem c_X4_weigh (E : gE) (M : gM) (x1 : Int32) (hs : s_X4_weigh M x1) : gC E yX4_weigh cX4_weigh 5 none (rm 3) [.ref (gla E 216), .int x1] M (fun o N => o = none ∧ N = f_X4_weigh M x1) :=
  gC.of (by decide +kernel) (Nat.le_of_ble_eq_true rfl) rfl (t_X4_weigh (K := fun z => z = f_X4_weigh M x1) (fun z hz => ⟨rfl, hz⟩) M x1 hs rfl)
def f_X4_chooseTaker_168 (M : gM)  : gM :=
  if (rdI M 51 0 0 0) = (-1) then
    (bnd (wrI M 52 0 0 0 (-1)) fun M22 =>
    (M22))
  else
    (M)
def s_X4_chooseTaker_168 (M : gM)  : Prop :=
  if (rdI M 51 0 0 0) = (-1) then
    (bndP (wrI M 52 0 0 0 (-1)) fun M22 =>
    (True))
  else
    (True)
theorem o_X4_chooseTaker_168 (M : gM)  : offW [51, 52] M (f_X4_chooseTaker_168 M ) := by
  rw [f_X4_chooseTaker_168]
  refine offI ?_ ?_
  · refine offB (offR.wI (by decide)) (fun M22 oM22 => ?_)
    exact oM22
  · exact offR
set_option maxRecDepth 100000 in
set_option maxHeartbeats 4000000 in
theorem t_X4_chooseTaker_168 {E : gE} {K : gM → Prop} {Q : Option Value → gM → Prop} (hK : ∀ z : gM, K z → Q none z) (M : gM)   (hs : s_X4_chooseTaker_168 M ) (hQ : K (f_X4_chooseTaker_168 M )) : gG E RX4 cX4_chooseTaker 5 none (rm 3) 168 [(0, .ref (gla E 216))] [] M Q := by
  rw [s_X4_chooseTaker_168] at hs
  rw [f_X4_chooseTaker_168] at hQ
  refine g_aload_n 0 dX4_chooseTaker_168 rfl ?_
  refine g_getI 216 fd_X4_141 dF_Lw rfl dX4_chooseTaker_169 ?_
  refine g_iconst (v := (-1)) dX4_chooseTaker_172 (by decide) ?_
  refine g_icmp_ne 181 dX4_chooseTaker_173 (by decide) (fun c21 => ?_) (fun c21 => ?_)
  · have hs := ifSf hs c21; have hQ := ifQf hQ c21
    exact g_vret rfl dX4_chooseTaker_181 (hK _ hQ)
  · have hs := ifSt hs c21; have hQ := ifQt hQ c21
    refine g_aload_n 0 dX4_chooseTaker_176 rfl ?_
    refine g_iconst (v := (-1)) dX4_chooseTaker_177 (by decide) ?_
    refine g_putI 216 fd_X4_144 dF_Lw rfl dX4_chooseTaker_178 (fun M22 hM22 => ?_)
    have hQ := bndQ hQ M22 hM22; have hs := bndS hs M22 hM22
    exact g_vret rfl dX4_chooseTaker_181 (hK _ hQ)
def f_X4_chooseTaker_80 (x1 : Int32) (x2 : Int32)  : Nat → gM → Int32 → gM
  | 0, M, _ => M
  | n + 1, M, x3 =>
    if (rdI M 7 0 0 0) ≤ x3 then
      (f_X4_chooseTaker_168 M)
    else
      (if (rdI M 51 0 0 0) = (-1) then
        (bnd (wrI M 52 0 0 0 (rdI M 9 0 0 (nn x3))) fun M14 =>
        (if (f_X4_countsOf M14 x1 (rdI M14 52 0 0 0)) = 0 then
          (f_X4_chooseTaker_80 x1 x2 n M14 (x3 + 1))
        else
          (if (f_X4_mayTake M14 (nn (rdI M14 52 0 0 0)) (rdI M14 32 0 (nn (rdI M14 52 0 0 0)) 0) x2) = 0 then
            (f_X4_chooseTaker_80 x1 x2 n M14 (x3 + 1))
          else
            (bnd (wrI M14 51 0 0 0 (rdI M14 32 0 (nn (rdI M14 52 0 0 0)) 0)) fun M20 =>
            (f_X4_chooseTaker_80 x1 x2 n M20 (x3 + 1))))))
      else
        (f_X4_chooseTaker_168 M))
def s_X4_chooseTaker_80 (x1 : Int32) (x2 : Int32)  : Nat → gM → Int32 → Prop
  | 0, _, _ => False
  | n + 1, M, x3 =>
    if (rdI M 7 0 0 0) ≤ x3 then
      (s_X4_chooseTaker_168 M)
    else
      (if (rdI M 51 0 0 0) = (-1) then
        ((vp_in x3 12) ∧
        (bndP (wrI M 52 0 0 0 (rdI M 9 0 0 (nn x3))) fun M14 =>
        ((vp_in (rdI M14 52 0 0 0) 12) ∧
        ((s_X4_countsOf M14 x1 (rdI M14 52 0 0 0)) ∧
        (if (f_X4_countsOf M14 x1 (rdI M14 52 0 0 0)) = 0 then
          (s_X4_chooseTaker_80 x1 x2 n M14 (x3 + 1))
        else
          ((s_X4_mayTake M14 (nn (rdI M14 52 0 0 0)) (rdI M14 32 0 (nn (rdI M14 52 0 0 0)) 0) x2) ∧
          (if (f_X4_mayTake M14 (nn (rdI M14 52 0 0 0)) (rdI M14 32 0 (nn (rdI M14 52 0 0 0)) 0) x2) = 0 then
            (s_X4_chooseTaker_80 x1 x2 n M14 (x3 + 1))
          else
            (bndP (wrI M14 51 0 0 0 (rdI M14 32 0 (nn (rdI M14 52 0 0 0)) 0)) fun M20 =>
            (s_X4_chooseTaker_80 x1 x2 n M20 (x3 + 1))))))))))
      else
        (s_X4_chooseTaker_168 M))
theorem o_X4_chooseTaker_80 (x1 : Int32) (x2 : Int32)  : ∀ (n : Nat) (M : gM) (x3 : Int32), offW [51, 52] M (f_X4_chooseTaker_80 x1 x2  n M x3) := by
  intro n
  induction n with
  | zero => intro M x3; exact offR
  | succ n ih =>
    intro M x3
    rw [f_X4_chooseTaker_80]
    refine offI ?_ ?_
    · exact (o_X4_chooseTaker_168 M)
    · refine offI ?_ ?_
      · refine offB (offR.wI (by decide)) (fun M14 oM14 => ?_)
        refine offI ?_ ?_
        · exact oM14.tr (ih M14 (x3 + 1))
        · refine offI ?_ ?_
          · exact oM14.tr (ih M14 (x3 + 1))
          · refine offB (oM14.wI (by decide)) (fun M20 oM20 => ?_)
            exact oM20.tr (ih M20 (x3 + 1))
      · exact (o_X4_chooseTaker_168 M)
set_option maxRecDepth 100000 in
set_option maxHeartbeats 4000000 in
theorem t_X4_chooseTaker_80 {E : gE} {K : gM → Prop} {Q : Option Value → gM → Prop} (hK : ∀ z : gM, K z → Q none z) (x1 : Int32) (x2 : Int32)   : ∀ (n : Nat) (M : gM) (x3 : Int32) , s_X4_chooseTaker_80 x1 x2  n M x3 → K (f_X4_chooseTaker_80 x1 x2  n M x3) → gG E RX4 cX4_chooseTaker 5 none (rm 3) 80 [(0, .ref (gla E 216)), (1, .int x1), (2, .int x2), (3, .int x3)] [] M Q := by
  intro n
  induction n with
  | zero => intro M x3 hs hQ; exact (hs : False).elim
  | succ n ih =>
    intro M x3 hs hQ
    rw [s_X4_chooseTaker_80] at hs
    rw [f_X4_chooseTaker_80] at hQ
    refine g_iload_n 3 dX4_chooseTaker_80 rfl ?_
    refine g_aload_n 0 dX4_chooseTaker_81 rfl ?_
    refine g_getR 216 (rgC 0) fd_X4_22 dF_Lw rfl rfl dX4_chooseTaker_82 ?_
    refine g_getI (rgC 0) fd_X4_38 (dF_Rg lt02) rfl dX4_chooseTaker_85 ?_
    refine g_icmp_ge 168 dX4_chooseTaker_88 (by decide) (fun c11 => ?_) (fun c11 => ?_)
    · have hs := ifSt hs c11; have hQ := ifQt hQ c11
      refine g_sub [0] _ rfl ?_
      exact t_X4_chooseTaker_168 hK M hs hQ
    · have hs := ifSf hs c11; have hQ := ifQf hQ c11
      refine g_aload_n 0 dX4_chooseTaker_91 rfl ?_
      refine g_getI 216 fd_X4_141 dF_Lw rfl dX4_chooseTaker_92 ?_
      refine g_iconst (v := (-1)) dX4_chooseTaker_95 (by decide) ?_
      refine g_icmp_ne 168 dX4_chooseTaker_96 (by decide) (fun c12 => ?_) (fun c12 => ?_)
      · have hs := ifSf hs c12; have hQ := ifQf hQ c12
        refine g_sub [0] _ rfl ?_
        exact t_X4_chooseTaker_168 hK M hs hQ
      · have hs := ifSt hs c12; have hQ := ifQt hQ c12
        refine g_aload_n 0 dX4_chooseTaker_99 rfl ?_
        refine g_aload_n 0 dX4_chooseTaker_100 rfl ?_
        refine g_getR 216 (rgC 0) fd_X4_22 dF_Lw rfl rfl dX4_chooseTaker_101 ?_
        refine g_getR (rgC 0) (rgC 0 + 5) fd_X4_124 (dF_Rg lt02) rfl rfl dX4_chooseTaker_104 ?_
        refine g_iload_n 3 dX4_chooseTaker_107 rfl ?_
        have h13 := hs.1; have hs := hs.2
        refine g_iald (rgC 0 + 5) (dF_Rg_latestFirst lt02) h13 dX4_chooseTaker_108 ?_
        refine g_putI 216 fd_X4_144 dF_Lw rfl dX4_chooseTaker_109 (fun M14 hM14 => ?_)
        have hQ := bndQ hQ M14 hM14; have hs := bndS hs M14 hM14
        refine g_aload_n 0 dX4_chooseTaker_112 rfl ?_
        refine g_getR 216 (rgC 0) fd_X4_22 dF_Lw rfl rfl dX4_chooseTaker_113 ?_
        refine g_getR (rgC 0) (rgC 0 + 4) fd_X4_41 (dF_Rg lt02) rfl rfl dX4_chooseTaker_116 ?_
        refine g_aload_n 0 dX4_chooseTaker_119 rfl ?_
        refine g_getI 216 fd_X4_144 dF_Lw rfl dX4_chooseTaker_120 ?_
        have h15 := hs.1; have hs := hs.2
        refine g_aald (rgC 0 + 4) (paC 0 (nn (rdI M14 52 0 0 0))) rfl (dF_Rg_papers lt02) h15 (aj_Pa _ _) dX4_chooseTaker_123 ?_
        refine g_astore _ dX4_chooseTaker_124 (by decide) rfl ?_
        refine g_aload_n 1 dX4_chooseTaker_126 rfl ?_
        refine g_iload_n 2 dX4_chooseTaker_127 rfl ?_
        refine g_aload_n 1 dX4_chooseTaker_128 rfl ?_
        refine g_getI 216 fd_X4_144 dF_Lw rfl dX4_chooseTaker_129 ?_
        have h16 := hs.1; have hs := hs.2
        refine g_callV (As := [.int x1, .int (rdI M14 52 0 0 0)]) (st := []) 216 (c_X4_countsOf E M14 x1 (rdI M14 52 0 0 0) h16) mt_X4_countsOf ml_X4_147 dF_Lw rfl rfl sg_X4_countsOf rfl (by decide) (Nat.le_of_ble_eq_true rfl) dX4_chooseTaker_132 ?_
        rintro _ _ ⟨q1, q2⟩; rw [q1, q2]; clear q1 q2
        refine g_if_eq 162 dX4_chooseTaker_135 (by decide) (fun c17 => ?_) (fun c17 => ?_)
        · have hs := ifSt hs c17; have hQ := ifQt hQ c17
          refine g_iinc 4 (v := x3 + 1) _ dX4_chooseTaker_162 rfl rfl (by decide) rfl ?_
          refine g_goto 80 dX4_chooseTaker_165 (by decide) ?_
          refine g_sub [2, 3, 4, 0] _ rfl ?_
          exact ih M14 (x3 + 1) hs hQ
        · have hs := ifSf hs c17; have hQ := ifQf hQ c17
          refine g_aload_n 1 dX4_chooseTaker_138 rfl ?_
          refine g_aload 0 dX4_chooseTaker_139 rfl ?_
          refine g_getI (paC 0 (nn (rdI M14 52 0 0 0))) fd_X4_155 (dF_Pa lt02 (vpL h15)) rfl dX4_chooseTaker_141 ?_
          refine g_aload 0 dX4_chooseTaker_144 rfl ?_
          refine g_iload_n 3 dX4_chooseTaker_146 rfl ?_
          have h18 := hs.1; have hs := hs.2
          refine g_callV (As := [.int (rdI M14 32 0 (nn (rdI M14 52 0 0 0)) 0), .ref (gla E (paC 0 (nn (rdI M14 52 0 0 0)))), .int x2]) (st := []) 216 (c_X4_mayTake E M14 (nn (rdI M14 52 0 0 0)) (vpL h15) (rdI M14 32 0 (nn (rdI M14 52 0 0 0)) 0) x2 h18) mt_X4_mayTake ml_X4_158 dF_Lw rfl rfl sg_X4_mayTake rfl (by decide) (Nat.le_of_ble_eq_true rfl) dX4_chooseTaker_147 ?_
          rintro _ _ ⟨q1, q2⟩; rw [q1, q2]; clear q1 q2
          refine g_if_eq 162 dX4_chooseTaker_150 (by decide) (fun c19 => ?_) (fun c19 => ?_)
          · have hs := ifSt hs c19; have hQ := ifQt hQ c19
            refine g_iinc 4 (v := x3 + 1) _ dX4_chooseTaker_162 rfl rfl (by decide) rfl ?_
            refine g_goto 80 dX4_chooseTaker_165 (by decide) ?_
            refine g_sub [2, 3, 4, 0] _ rfl ?_
            exact ih M14 (x3 + 1) hs hQ
          · have hs := ifSf hs c19; have hQ := ifQf hQ c19
            refine g_aload_n 1 dX4_chooseTaker_153 rfl ?_
            refine g_aload 0 dX4_chooseTaker_154 rfl ?_
            refine g_getI (paC 0 (nn (rdI M14 52 0 0 0))) fd_X4_155 (dF_Pa lt02 (vpL h15)) rfl dX4_chooseTaker_156 ?_
            refine g_putI 216 fd_X4_141 dF_Lw rfl dX4_chooseTaker_159 (fun M20 hM20 => ?_)
            have hQ := bndQ hQ M20 hM20; have hs := bndS hs M20 hM20
            refine g_iinc 4 (v := x3 + 1) _ dX4_chooseTaker_162 rfl rfl (by decide) rfl ?_
            refine g_goto 80 dX4_chooseTaker_165 (by decide) ?_
            refine g_sub [2, 3, 4, 0] _ rfl ?_
            exact ih M20 (x3 + 1) hs hQ
def f_X4_chooseTaker_7 (x1 : Int32) (x2 : Int32)  : Nat → gM → Int32 → gM
  | 0, M, _ => M
  | n + 1, M, x3 =>
    if (rdI M 7 0 0 0) ≤ x3 then
      (f_X4_chooseTaker_80 x1 x2 FU M 0)
    else
      (if (rdI M 51 0 0 0) = (-1) then
        (bnd (wrI M 52 0 0 0 (rdI M 9 0 0 (nn x3))) fun M5 =>
        (if (f_X4_countsOf M5 x1 (rdI M5 52 0 0 0)) = 0 then
          (f_X4_chooseTaker_7 x1 x2 n M5 (x3 + 1))
        else
          (bnd (wrI M5 51 0 0 0 (f_X4_takerByGives M5 (nn (rdI M5 52 0 0 0)) x2)) fun M10 =>
          (f_X4_chooseTaker_7 x1 x2 n M10 (x3 + 1)))))
      else
        (f_X4_chooseTaker_80 x1 x2 FU M 0))
def s_X4_chooseTaker_7 (x1 : Int32) (x2 : Int32)  : Nat → gM → Int32 → Prop
  | 0, _, _ => False
  | n + 1, M, x3 =>
    if (rdI M 7 0 0 0) ≤ x3 then
      (s_X4_chooseTaker_80 x1 x2 FU M 0)
    else
      (if (rdI M 51 0 0 0) = (-1) then
        ((vp_in x3 12) ∧
        (bndP (wrI M 52 0 0 0 (rdI M 9 0 0 (nn x3))) fun M5 =>
        ((s_X4_countsOf M5 x1 (rdI M5 52 0 0 0)) ∧
        (if (f_X4_countsOf M5 x1 (rdI M5 52 0 0 0)) = 0 then
          (s_X4_chooseTaker_7 x1 x2 n M5 (x3 + 1))
        else
          ((vp_in (rdI M5 52 0 0 0) 12) ∧
          ((s_X4_takerByGives M5 (nn (rdI M5 52 0 0 0)) x2) ∧
          (bndP (wrI M5 51 0 0 0 (f_X4_takerByGives M5 (nn (rdI M5 52 0 0 0)) x2)) fun M10 =>
          (s_X4_chooseTaker_7 x1 x2 n M10 (x3 + 1)))))))))
      else
        (s_X4_chooseTaker_80 x1 x2 FU M 0))
theorem o_X4_chooseTaker_7 (x1 : Int32) (x2 : Int32)  : ∀ (n : Nat) (M : gM) (x3 : Int32), offW [51, 52] M (f_X4_chooseTaker_7 x1 x2  n M x3) := by
  intro n
  induction n with
  | zero => intro M x3; exact offR
  | succ n ih =>
    intro M x3
    rw [f_X4_chooseTaker_7]
    refine offI ?_ ?_
    · exact (o_X4_chooseTaker_80 x1 x2 FU M 0)
    · refine offI ?_ ?_
      · refine offB (offR.wI (by decide)) (fun M5 oM5 => ?_)
        refine offI ?_ ?_
        · exact oM5.tr (ih M5 (x3 + 1))
        · refine offB (oM5.wI (by decide)) (fun M10 oM10 => ?_)
          exact oM10.tr (ih M10 (x3 + 1))
      · exact (o_X4_chooseTaker_80 x1 x2 FU M 0)
set_option maxRecDepth 100000 in
set_option maxHeartbeats 4000000 in
theorem t_X4_chooseTaker_7 {E : gE} {K : gM → Prop} {Q : Option Value → gM → Prop} (hK : ∀ z : gM, K z → Q none z) (x1 : Int32) (x2 : Int32)   : ∀ (n : Nat) (M : gM) (x3 : Int32) , s_X4_chooseTaker_7 x1 x2  n M x3 → K (f_X4_chooseTaker_7 x1 x2  n M x3) → gG E RX4 cX4_chooseTaker 5 none (rm 3) 7 [(0, .ref (gla E 216)), (1, .int x1), (2, .int x2), (3, .int x3)] [] M Q := by
  intro n
  induction n with
  | zero => intro M x3 hs hQ; exact (hs : False).elim
  | succ n ih =>
    intro M x3 hs hQ
    rw [s_X4_chooseTaker_7] at hs
    rw [f_X4_chooseTaker_7] at hQ
    refine g_iload_n 3 dX4_chooseTaker_7 rfl ?_
    refine g_aload_n 0 dX4_chooseTaker_8 rfl ?_
    refine g_getR 216 (rgC 0) fd_X4_22 dF_Lw rfl rfl dX4_chooseTaker_9 ?_
    refine g_getI (rgC 0) fd_X4_38 (dF_Rg lt02) rfl dX4_chooseTaker_12 ?_
    refine g_icmp_ge 78 dX4_chooseTaker_15 (by decide) (fun c2 => ?_) (fun c2 => ?_)
    · have hs := ifSt hs c2; have hQ := ifQt hQ c2
      refine g_iconst (v := 0) dX4_chooseTaker_78 (by decide) ?_
      refine g_istore_n _ dX4_chooseTaker_79 (by decide) rfl ?_
      refine g_sub [1, 2, 3, 0] _ rfl ?_
      exact t_X4_chooseTaker_80 hK x1 x2 FU M 0 hs hQ
    · have hs := ifSf hs c2; have hQ := ifQf hQ c2
      refine g_aload_n 0 dX4_chooseTaker_18 rfl ?_
      refine g_getI 216 fd_X4_141 dF_Lw rfl dX4_chooseTaker_19 ?_
      refine g_iconst (v := (-1)) dX4_chooseTaker_22 (by decide) ?_
      refine g_icmp_ne 78 dX4_chooseTaker_23 (by decide) (fun c3 => ?_) (fun c3 => ?_)
      · have hs := ifSf hs c3; have hQ := ifQf hQ c3
        refine g_iconst (v := 0) dX4_chooseTaker_78 (by decide) ?_
        refine g_istore_n _ dX4_chooseTaker_79 (by decide) rfl ?_
        refine g_sub [1, 2, 3, 0] _ rfl ?_
        exact t_X4_chooseTaker_80 hK x1 x2 FU M 0 hs hQ
      · have hs := ifSt hs c3; have hQ := ifQt hQ c3
        refine g_aload_n 0 dX4_chooseTaker_26 rfl ?_
        refine g_aload_n 0 dX4_chooseTaker_27 rfl ?_
        refine g_getR 216 (rgC 0) fd_X4_22 dF_Lw rfl rfl dX4_chooseTaker_28 ?_
        refine g_getR (rgC 0) (rgC 0 + 5) fd_X4_124 (dF_Rg lt02) rfl rfl dX4_chooseTaker_31 ?_
        refine g_iload_n 3 dX4_chooseTaker_34 rfl ?_
        have h4 := hs.1; have hs := hs.2
        refine g_iald (rgC 0 + 5) (dF_Rg_latestFirst lt02) h4 dX4_chooseTaker_35 ?_
        refine g_putI 216 fd_X4_144 dF_Lw rfl dX4_chooseTaker_36 (fun M5 hM5 => ?_)
        have hQ := bndQ hQ M5 hM5; have hs := bndS hs M5 hM5
        refine g_aload_n 0 dX4_chooseTaker_39 rfl ?_
        refine g_iload_n 1 dX4_chooseTaker_40 rfl ?_
        refine g_aload_n 0 dX4_chooseTaker_41 rfl ?_
        refine g_getI 216 fd_X4_144 dF_Lw rfl dX4_chooseTaker_42 ?_
        have h6 := hs.1; have hs := hs.2
        refine g_callV (As := [.int x1, .int (rdI M5 52 0 0 0)]) (st := []) 216 (c_X4_countsOf E M5 x1 (rdI M5 52 0 0 0) h6) mt_X4_countsOf ml_X4_147 dF_Lw rfl rfl sg_X4_countsOf rfl (by decide) (Nat.le_of_ble_eq_true rfl) dX4_chooseTaker_45 ?_
        rintro _ _ ⟨q1, q2⟩; rw [q1, q2]; clear q1 q2
        refine g_if_eq 72 dX4_chooseTaker_48 (by decide) (fun c7 => ?_) (fun c7 => ?_)
        · have hs := ifSt hs c7; have hQ := ifQt hQ c7
          refine g_iinc 3 (v := x3 + 1) _ dX4_chooseTaker_72 rfl rfl (by decide) rfl ?_
          refine g_goto 7 dX4_chooseTaker_75 (by decide) ?_
          refine g_sub [1, 2, 3, 0] _ rfl ?_
          exact ih M5 (x3 + 1) hs hQ
        · have hs := ifSf hs c7; have hQ := ifQf hQ c7
          refine g_aload_n 0 dX4_chooseTaker_51 rfl ?_
          refine g_aload_n 0 dX4_chooseTaker_52 rfl ?_
          refine g_aload_n 0 dX4_chooseTaker_53 rfl ?_
          refine g_getR 216 (rgC 0) fd_X4_22 dF_Lw rfl rfl dX4_chooseTaker_54 ?_
          refine g_getR (rgC 0) (rgC 0 + 4) fd_X4_41 (dF_Rg lt02) rfl rfl dX4_chooseTaker_57 ?_
          refine g_aload_n 0 dX4_chooseTaker_60 rfl ?_
          refine g_getI 216 fd_X4_144 dF_Lw rfl dX4_chooseTaker_61 ?_
          have h8 := hs.1; have hs := hs.2
          refine g_aald (rgC 0 + 4) (paC 0 (nn (rdI M5 52 0 0 0))) rfl (dF_Rg_papers lt02) h8 (aj_Pa _ _) dX4_chooseTaker_64 ?_
          refine g_iload_n 2 dX4_chooseTaker_65 rfl ?_
          have h9 := hs.1; have hs := hs.2
          refine g_callV (As := [.ref (gla E (paC 0 (nn (rdI M5 52 0 0 0)))), .int x2]) (st := [.ref (gla E 216)]) 216 (c_X4_takerByGives E M5 (nn (rdI M5 52 0 0 0)) (vpL h8) x2 h9) mt_X4_takerByGives ml_X4_151 dF_Lw rfl rfl sg_X4_takerByGives rfl (by decide) (Nat.le_of_ble_eq_true rfl) dX4_chooseTaker_66 ?_
          rintro _ _ ⟨q1, q2⟩; rw [q1, q2]; clear q1 q2
          refine g_putI 216 fd_X4_141 dF_Lw rfl dX4_chooseTaker_69 (fun M10 hM10 => ?_)
          have hQ := bndQ hQ M10 hM10; have hs := bndS hs M10 hM10
          refine g_iinc 3 (v := x3 + 1) _ dX4_chooseTaker_72 rfl rfl (by decide) rfl ?_
          refine g_goto 7 dX4_chooseTaker_75 (by decide) ?_
          refine g_sub [1, 2, 3, 0] _ rfl ?_
          exact ih M10 (x3 + 1) hs hQ
def f_X4_chooseTaker (M : gM) (x1 : Int32) (x2 : Int32) : gM :=
  bnd (wrI M 51 0 0 0 (-1)) fun M1 =>
  (f_X4_chooseTaker_7 x1 x2 FU M1 0)
def s_X4_chooseTaker (M : gM) (x1 : Int32) (x2 : Int32) : Prop :=
  bndP (wrI M 51 0 0 0 (-1)) fun M1 =>
  (s_X4_chooseTaker_7 x1 x2 FU M1 0)
theorem o_X4_chooseTaker (M : gM) (x1 : Int32) (x2 : Int32) : offW [51, 52] M (f_X4_chooseTaker M x1 x2) := by
  rw [f_X4_chooseTaker]
  refine offB (offR.wI (by decide)) (fun M1 oM1 => ?_)
  exact oM1.tr (o_X4_chooseTaker_7 x1 x2 FU M1 0)
set_option maxRecDepth 100000 in
set_option maxHeartbeats 4000000 in
theorem t_X4_chooseTaker {E : gE} {K : gM → Prop} {Q : Option Value → gM → Prop} (hK : ∀ z : gM, K z → Q none z) (M : gM) (x1 : Int32) (x2 : Int32)  (hs : s_X4_chooseTaker M x1 x2) (hQ : K (f_X4_chooseTaker M x1 x2)) : gG E RX4 cX4_chooseTaker 5 none (rm 3) 0 [(0, .ref (gla E 216)), (1, .int x1), (2, .int x2)] [] M Q := by
  rw [s_X4_chooseTaker] at hs
  rw [f_X4_chooseTaker] at hQ
  refine g_aload_n 0 dX4_chooseTaker_0 rfl ?_
  refine g_iconst (v := (-1)) dX4_chooseTaker_1 (by decide) ?_
  refine g_putI 216 fd_X4_141 dF_Lw rfl dX4_chooseTaker_2 (fun M1 hM1 => ?_)
  have hQ := bndQ hQ M1 hM1; have hs := bndS hs M1 hM1
  refine g_iconst (v := 0) dX4_chooseTaker_5 (by decide) ?_
  refine g_istore_n _ dX4_chooseTaker_6 (by decide) rfl ?_
  refine g_sub [1, 2, 3, 0] _ rfl ?_
  exact t_X4_chooseTaker_7 hK x1 x2 FU M1 0 hs hQ
theorem c_X4_chooseTaker (E : gE) (M : gM) (x1 : Int32) (x2 : Int32) (hs : s_X4_chooseTaker M x1 x2) : gC E yX4_chooseTaker cX4_chooseTaker 5 none (rm 3) [.ref (gla E 216), .int x1, .int x2] M (fun o N => o = none ∧ N = f_X4_chooseTaker M x1 x2) :=
  gC.of (by decide +kernel) (Nat.le_of_ble_eq_true rfl) rfl (t_X4_chooseTaker (K := fun z => z = f_X4_chooseTaker M x1 x2) (fun z hz => ⟨rfl, hz⟩) M x1 x2 hs rfl)
def f_X1_goOn_195 (M : gM) (x1 : Int32) (x2 : Int32) (x3 : Int32) (x4 : Int32) (k74 : gM → Int32 → Int32 → gM) : gM :=
  k74 M (f_X7_deathBehind M 0 x3) (x4 + 1)
def s_X1_goOn_195 (M : gM) (x1 : Int32) (x2 : Int32) (x3 : Int32) (x4 : Int32) (q74 : gM → Int32 → Int32 → Prop) : Prop :=
  (s_X7_deathBehind M 0 x3) ∧
  (q74 M (f_X7_deathBehind M 0 x3) (x4 + 1))
theorem o_X1_goOn_195 (M : gM) (x1 : Int32) (x2 : Int32) (x3 : Int32) (x4 : Int32) (k74 : gM → Int32 → Int32 → gM) (ho74 : ∀ (M : gM) (x3 : Int32) (x4 : Int32), offW [51, 52, 53, 54, 55, 56, 57, 58, 59, 60, 61] M (k74 M x3 x4)) : offW [51, 52, 53, 54, 55, 56, 57, 58, 59, 60, 61] M (f_X1_goOn_195 M x1 x2 x3 x4 k74) := by
  rw [f_X1_goOn_195]
  exact (ho74 M (f_X7_deathBehind M 0 x3) (x4 + 1))
set_option maxRecDepth 100000 in
set_option maxHeartbeats 4000000 in
theorem t_X1_goOn_195 {E : gE} {K : gM → Prop} {Q : Option Value → gM → Prop} (hK : ∀ z : gM, K z → Q none z) (M : gM) (x1 : Int32) (x2 : Int32) (x3 : Int32) (x4 : Int32)  (k74 : gM → Int32 → Int32 → gM) (q74 : gM → Int32 → Int32 → Prop) (hk74 : ∀ (M : gM) (x3 : Int32) (x4 : Int32) , q74 M x3 x4 → K (k74 M x3 x4) → gG E RX1 cX1_goOn 6 none (rm 4) 74 [(0, .ref (gla E 220)), (1, .int x1), (2, .int x2), (3, .int x3), (4, .int x4)] [] M Q) (hs : s_X1_goOn_195 M x1 x2 x3 x4 q74) (hQ : K (f_X1_goOn_195 M x1 x2 x3 x4 k74)) : gG E RX1 cX1_goOn 6 none (rm 4) 195 [(0, .ref (gla E 220)), (1, .int x1), (2, .int x2), (3, .int x3), (4, .int x4)] [] M Q := by
  rw [s_X1_goOn_195] at hs
  rw [f_X1_goOn_195] at hQ
  refine g_aload_n 0 dX1_goOn_195 rfl ?_
  refine g_getR 220 (rgC 0) fd_X1_19 dF_Es rfl rfl dX1_goOn_196 ?_
  refine g_iload_n 3 dX1_goOn_199 rfl ?_
  have h33 := hs.1; have hs := hs.2
  refine g_callV (As := [.int x3]) (st := []) (rgC 0) (c_X7_deathBehind E M 0 lt02 x3 h33) mt_X7_deathBehind ml_X1_67 (dF_Rg lt02) rfl rfl sg_X7_deathBehind rfl (by decide) (Nat.le_of_ble_eq_true rfl) dX1_goOn_200 ?_
  rintro _ _ ⟨q1, q2⟩; rw [q1, q2]; clear q1 q2
  refine g_istore_n _ dX1_goOn_203 (by decide) rfl ?_
  refine g_iinc 4 (v := x4 + 1) _ dX1_goOn_204 rfl rfl (by decide) rfl ?_
  refine g_goto 74 dX1_goOn_207 (by decide) ?_
  refine g_sub [2, 3, 4, 1, 0] _ rfl ?_
  exact hk74 M (f_X7_deathBehind M 0 x3) (x4 + 1) hs hQ
def f_X1_goOn_74 (x1 : Int32) (x2 : Int32)  : Nat → gM → Int32 → Int32 → gM
  | 0, M, _, _ => M
  | n + 1, M, x3, x4 =>
    if 10 ≤ x4 then
      (M)
    else
      (if x3 = (-1) then
        (M)
      else
        (if x2 < (rdI M 20 0 (nn x3) 0) then
          (f_X1_goOn_195 M x1 x2 x3 x4 (f_X1_goOn_74 x1 x2 n))
        else
          (if (lg_cmp (rdJ M 61 0 0 (nn x3)) 0) = 0 then
            (f_X1_goOn_195 M x1 x2 x3 x4 (f_X1_goOn_74 x1 x2 n))
          else
            (bnd (f_X4_chooseTaker M x3 x1) fun M23 =>
            (bnd (f_X1_passOn M23 x3 (rdI M23 18 0 (nn (rdI M23 23 0 (nn x1) 0)) 0)) fun M27 =>
            (bnd (wrI M27 58 0 0 0 ((rdI M27 58 0 0 0) ||| (1 <<< (x3 &&& 31)))) fun M28 =>
            (bnd (wrI M28 57 0 0 0 ((rdI M28 57 0 0 0) ||| (f_X1_holdersNow M28))) fun M30 =>
            (bnd (wrI M30 59 0 0 0 ((rdI M30 59 0 0 0) + 1)) fun M31 =>
            (bnd (wrI M31 60 0 0 0 (rdI M 20 0 (nn x3) 0)) fun M32 =>
            (f_X1_goOn_195 M32 x1 x2 x3 x4 (f_X1_goOn_74 x1 x2 n)))))))))))
def s_X1_goOn_74 (x1 : Int32) (x2 : Int32)  : Nat → gM → Int32 → Int32 → Prop
  | 0, _, _, _ => False
  | n + 1, M, x3, x4 =>
    if 10 ≤ x4 then
      (True)
    else
      (if x3 = (-1) then
        (True)
      else
        ((vp_in x3 10) ∧
        (if x2 < (rdI M 20 0 (nn x3) 0) then
          (s_X1_goOn_195 M x1 x2 x3 x4 (s_X1_goOn_74 x1 x2 n))
        else
          ((vp_in x3 11) ∧
          (if (lg_cmp (rdJ M 61 0 0 (nn x3)) 0) = 0 then
            (s_X1_goOn_195 M x1 x2 x3 x4 (s_X1_goOn_74 x1 x2 n))
          else
            ((s_X4_chooseTaker M x3 x1) ∧
            (bndP (f_X4_chooseTaker M x3 x1) fun M23 =>
            ((vp_in x1 8) ∧
            ((vp_in (rdI M23 23 0 (nn x1) 0) 2) ∧
            ((s_X1_passOn M23 x3 (rdI M23 18 0 (nn (rdI M23 23 0 (nn x1) 0)) 0)) ∧
            (bndP (f_X1_passOn M23 x3 (rdI M23 18 0 (nn (rdI M23 23 0 (nn x1) 0)) 0)) fun M27 =>
            (bndP (wrI M27 58 0 0 0 ((rdI M27 58 0 0 0) ||| (1 <<< (x3 &&& 31)))) fun M28 =>
            ((s_X1_holdersNow M28) ∧
            (bndP (wrI M28 57 0 0 0 ((rdI M28 57 0 0 0) ||| (f_X1_holdersNow M28))) fun M30 =>
            (bndP (wrI M30 59 0 0 0 ((rdI M30 59 0 0 0) + 1)) fun M31 =>
            (bndP (wrI M31 60 0 0 0 (rdI M 20 0 (nn x3) 0)) fun M32 =>
            (s_X1_goOn_195 M32 x1 x2 x3 x4 (s_X1_goOn_74 x1 x2 n))))))))))))))))))
theorem o_X1_goOn_74 (x1 : Int32) (x2 : Int32)  : ∀ (n : Nat) (M : gM) (x3 : Int32) (x4 : Int32), offW [51, 52, 53, 54, 55, 56, 57, 58, 59, 60, 61] M (f_X1_goOn_74 x1 x2  n M x3 x4) := by
  intro n
  induction n with
  | zero => intro M x3 x4; exact offR
  | succ n ih =>
    intro M x3 x4
    rw [f_X1_goOn_74]
    refine offI ?_ ?_
    · exact offR
    · refine offI ?_ ?_
      · exact offR
      · refine offI ?_ ?_
        · exact (o_X1_goOn_195 M x1 x2 x3 x4 (f_X1_goOn_74 x1 x2 n) ih)
        · refine offI ?_ ?_
          · exact (o_X1_goOn_195 M x1 x2 x3 x4 (f_X1_goOn_74 x1 x2 n) ih)
          · refine offB (offR.tr ((o_X4_chooseTaker M x3 x1).mono (by decide))) (fun M23 oM23 => ?_)
            refine offB (oM23.tr ((o_X1_passOn M23 x3 (rdI M23 18 0 (nn (rdI M23 23 0 (nn x1) 0)) 0)).mono (by decide))) (fun M27 oM27 => ?_)
            refine offB (oM27.wI (by decide)) (fun M28 oM28 => ?_)
            refine offB (oM28.wI (by decide)) (fun M30 oM30 => ?_)
            refine offB (oM30.wI (by decide)) (fun M31 oM31 => ?_)
            refine offB (oM31.wI (by decide)) (fun M32 oM32 => ?_)
            exact oM32.tr (o_X1_goOn_195 M32 x1 x2 x3 x4 (f_X1_goOn_74 x1 x2 n) ih)
set_option maxRecDepth 100000 in
set_option maxHeartbeats 4000000 in
theorem t_X1_goOn_74 {E : gE} {K : gM → Prop} {Q : Option Value → gM → Prop} (hK : ∀ z : gM, K z → Q none z) (x1 : Int32) (x2 : Int32)   : ∀ (n : Nat) (M : gM) (x3 : Int32) (x4 : Int32) , s_X1_goOn_74 x1 x2  n M x3 x4 → K (f_X1_goOn_74 x1 x2  n M x3 x4) → gG E RX1 cX1_goOn 6 none (rm 4) 74 [(0, .ref (gla E 220)), (1, .int x1), (2, .int x2), (3, .int x3), (4, .int x4)] [] M Q := by
  intro n
  induction n with
  | zero => intro M x3 x4 hs hQ; exact (hs : False).elim
  | succ n ih =>
    intro M x3 x4 hs hQ
    rw [s_X1_goOn_74] at hs
    rw [f_X1_goOn_74] at hQ
    refine g_iload 4 dX1_goOn_74 rfl ?_
    refine g_bipush (v := 10) dX1_goOn_76 (by decide) ?_
    refine g_icmp_ge 210 dX1_goOn_78 (by decide) (fun c16 => ?_) (fun c16 => ?_)
    · have hs := ifSt hs c16; have hQ := ifQt hQ c16
      exact g_vret rfl dX1_goOn_210 (hK _ hQ)
    · have hs := ifSf hs c16; have hQ := ifQf hQ c16
      refine g_iload_n 3 dX1_goOn_81 rfl ?_
      refine g_iconst (v := (-1)) dX1_goOn_82 (by decide) ?_
      refine g_icmp_eq 210 dX1_goOn_83 (by decide) (fun c17 => ?_) (fun c17 => ?_)
      · have hs := ifSt hs c17; have hQ := ifQt hQ c17
        exact g_vret rfl dX1_goOn_210 (hK _ hQ)
      · have hs := ifSf hs c17; have hQ := ifQf hQ c17
        refine g_aload_n 0 dX1_goOn_86 rfl ?_
        refine g_getR 220 (rgC 0) fd_X1_19 dF_Es rfl rfl dX1_goOn_87 ?_
        refine g_getR (rgC 0) (rgC 0 + 2) fd_X1_71 (dF_Rg lt02) rfl rfl dX1_goOn_90 ?_
        refine g_iload_n 3 dX1_goOn_93 rfl ?_
        have h18 := hs.1; have hs := hs.2
        refine g_aald (rgC 0 + 2) (peC 0 (nn x3)) rfl (dF_Rg_persons lt02) h18 (aj_Pe _ _) dX1_goOn_94 ?_
        refine g_getI (peC 0 (nn x3)) fd_X1_75 (dF_Pe lt02 (vpL h18)) rfl dX1_goOn_95 ?_
        refine g_istore _ dX1_goOn_98 (by decide) rfl ?_
        refine g_iload 0 dX1_goOn_100 rfl ?_
        refine g_iload_n 3 dX1_goOn_102 rfl ?_
        refine g_icmp_gt 195 dX1_goOn_103 (by decide) (fun c19 => ?_) (fun c19 => ?_)
        · have hs := ifSt hs c19; have hQ := ifQt hQ c19
          refine g_sub [1, 2, 3, 4, 5] _ rfl ?_
          exact t_X1_goOn_195 hK M x1 x2 x3 x4 (f_X1_goOn_74 x1 x2 n) (s_X1_goOn_74 x1 x2 n) ih hs hQ
        · have hs := ifSf hs c19; have hQ := ifQf hQ c19
          refine g_aload_n 1 dX1_goOn_106 rfl ?_
          refine g_getR 220 221 fd_X1_9 dF_Es rfl rfl dX1_goOn_107 ?_
          refine g_iload_n 4 dX1_goOn_110 rfl ?_
          have h20 := hs.1; have hs := hs.2
          refine g_lald 221 dF_Es_parts h20 dX1_goOn_111 ?_
          refine g_lconst (v := 0) dX1_goOn_112 (by decide) ?_
          refine g_lcmp dX1_goOn_113 ?_
          refine g_if_eq 195 dX1_goOn_114 (by decide) (fun c21 => ?_) (fun c21 => ?_)
          · have hs := ifSt hs c21; have hQ := ifQt hQ c21
            refine g_sub [1, 2, 3, 4, 5] _ rfl ?_
            exact t_X1_goOn_195 hK M x1 x2 x3 x4 (f_X1_goOn_74 x1 x2 n) (s_X1_goOn_74 x1 x2 n) ih hs hQ
          · have hs := ifSf hs c21; have hQ := ifQf hQ c21
            refine g_aload_n 1 dX1_goOn_117 rfl ?_
            refine g_getR 220 216 fd_X1_23 dF_Es rfl rfl dX1_goOn_118 ?_
            refine g_iload_n 4 dX1_goOn_121 rfl ?_
            refine g_iload_n 2 dX1_goOn_122 rfl ?_
            have h22 := hs.1; have hs := hs.2
            refine g_callV (As := [.int x3, .int x1]) (st := []) 216 (c_X4_chooseTaker E M x3 x1 h22) mt_X4_chooseTaker ml_X1_80 dF_Lw rfl rfl sg_X4_chooseTaker rfl (by decide) (Nat.le_of_ble_eq_true rfl) dX1_goOn_123 ?_
            rintro _ M23 ⟨rfl, hM23⟩
            have hQ := bndQ hQ M23 hM23; have hs := bndS hs M23 hM23
            refine g_aload_n 1 dX1_goOn_126 rfl ?_
            refine g_iload_n 4 dX1_goOn_127 rfl ?_
            refine g_aload_n 1 dX1_goOn_128 rfl ?_
            refine g_getR 220 (rgC 0) fd_X1_19 dF_Es rfl rfl dX1_goOn_129 ?_
            refine g_getR (rgC 0) (rgC 0 + 1) fd_X1_84 (dF_Rg lt02) rfl rfl dX1_goOn_132 ?_
            refine g_aload_n 1 dX1_goOn_135 rfl ?_
            refine g_getR 220 (rgC 0) fd_X1_19 dF_Es rfl rfl dX1_goOn_136 ?_
            refine g_getR (rgC 0) (rgC 0 + 3) fd_X1_39 (dF_Rg lt02) rfl rfl dX1_goOn_139 ?_
            refine g_iload_n 2 dX1_goOn_142 rfl ?_
            have h24 := hs.1; have hs := hs.2
            refine g_aald (rgC 0 + 3) (thC 0 (nn x1)) rfl (dF_Rg_things lt02) h24 (aj_Th _ _) dX1_goOn_143 ?_
            refine g_getI (thC 0 (nn x1)) fd_X1_88 (dF_Th lt02 (vpL h24)) rfl dX1_goOn_144 ?_
            have h25 := hs.1; have hs := hs.2
            refine g_aald (rgC 0 + 1) (laC 0 (nn (rdI M23 23 0 (nn x1) 0))) rfl (dF_Rg_lands lt02) h25 (aj_La _ _) dX1_goOn_147 ?_
            refine g_getI (laC 0 (nn (rdI M23 23 0 (nn x1) 0))) fd_X1_91 (dF_La lt02 (vpL h25)) rfl dX1_goOn_148 ?_
            have h26 := hs.1; have hs := hs.2
            refine g_callV (As := [.int x3, .int (rdI M23 18 0 (nn (rdI M23 23 0 (nn x1) 0)) 0)]) (st := []) 220 (c_X1_passOn E M23 x3 (rdI M23 18 0 (nn (rdI M23 23 0 (nn x1) 0)) 0) h26) mt_X1_passOn ml_X1_97 dF_Es rfl rfl sg_X1_passOn rfl (by decide) (Nat.le_of_ble_eq_true rfl) dX1_goOn_151 ?_
            rintro _ M27 ⟨rfl, hM27⟩
            have hQ := bndQ hQ M27 hM27; have hs := bndS hs M27 hM27
            refine g_aload_n 1 dX1_goOn_154 rfl ?_
            refine g_dup dX1_goOn_155 rfl ?_
            refine g_getI 220 fd_X1_58 dF_Es rfl dX1_goOn_156 ?_
            refine g_iconst (v := 1) dX1_goOn_159 (by decide) ?_
            refine g_iload_n 4 dX1_goOn_160 rfl ?_
            refine g_ishl dX1_goOn_161 ?_
            refine g_ior dX1_goOn_162 ?_
            refine g_putI 220 fd_X1_58 dF_Es rfl dX1_goOn_163 (fun M28 hM28 => ?_)
            have hQ := bndQ hQ M28 hM28; have hs := bndS hs M28 hM28
            refine g_aload_n 1 dX1_goOn_166 rfl ?_
            refine g_dup dX1_goOn_167 rfl ?_
            refine g_getI 220 fd_X1_55 dF_Es rfl dX1_goOn_168 ?_
            refine g_aload_n 1 dX1_goOn_171 rfl ?_
            have h29 := hs.1; have hs := hs.2
            refine g_callV (As := []) (st := [.int (rdI M28 57 0 0 0), .ref (gla E 220)]) 220 (c_X1_holdersNow E M28 h29) mt_X1_holdersNow ml_X1_51 dF_Es rfl rfl sg_X1_holdersNow rfl (by decide) (Nat.le_of_ble_eq_true rfl) dX1_goOn_172 ?_
            rintro _ _ ⟨q1, q2⟩; rw [q1, q2]; clear q1 q2
            refine g_ior dX1_goOn_175 ?_
            refine g_putI 220 fd_X1_55 dF_Es rfl dX1_goOn_176 (fun M30 hM30 => ?_)
            have hQ := bndQ hQ M30 hM30; have hs := bndS hs M30 hM30
            refine g_aload_n 1 dX1_goOn_179 rfl ?_
            refine g_dup dX1_goOn_180 rfl ?_
            refine g_getI 220 fd_X1_61 dF_Es rfl dX1_goOn_181 ?_
            refine g_iconst (v := 1) dX1_goOn_184 (by decide) ?_
            refine g_iadd dX1_goOn_185 ?_
            refine g_putI 220 fd_X1_61 dF_Es rfl dX1_goOn_186 (fun M31 hM31 => ?_)
            have hQ := bndQ hQ M31 hM31; have hs := bndS hs M31 hM31
            refine g_aload_n 1 dX1_goOn_189 rfl ?_
            refine g_iload 0 dX1_goOn_190 rfl ?_
            refine g_putI 220 fd_X1_64 dF_Es rfl dX1_goOn_192 (fun M32 hM32 => ?_)
            have hQ := bndQ hQ M32 hM32; have hs := bndS hs M32 hM32
            refine g_sub [1, 2, 3, 4, 5] _ rfl ?_
            exact t_X1_goOn_195 hK M32 x1 x2 x3 x4 (f_X1_goOn_74 x1 x2 n) (s_X1_goOn_74 x1 x2 n) ih hs hQ
def f_X1_goOn (M : gM) (x1 : Int32) (x2 : Int32) : gM :=
  bnd (f_X4_weigh M x1) fun M2 =>
  (bnd (f_J7_fill_d0a16 M2 0) fun M4 =>
  (bnd (wrJ M4 56 0 0 0 1) fun M5 =>
  (bnd (wrJ M5 61 0 0 (nn (rdI M5 22 0 (nn x1) 0)) 1) fun M8 =>
  (bnd (wrI M8 57 0 0 0 (f_X1_holdersNow M8)) fun M10 =>
  (bnd (wrI M10 58 0 0 0 0) fun M11 =>
  (bnd (wrI M11 59 0 0 0 0) fun M12 =>
  (bnd (wrI M12 60 0 0 0 (-1)) fun M13 =>
  (bnd (f_X7_deathBehind M13 0 (-1)) fun v15 =>
  (f_X1_goOn_74 x1 x2 FU M13 v15 0)))))))))
def s_X1_goOn (M : gM) (x1 : Int32) (x2 : Int32) : Prop :=
  (s_X4_weigh M x1) ∧
  (bndP (f_X4_weigh M x1) fun M2 =>
  ((s_J7_fill_d0a16 M2 0) ∧
  (bndP (f_J7_fill_d0a16 M2 0) fun M4 =>
  (bndP (wrJ M4 56 0 0 0 1) fun M5 =>
  ((vp_in x1 8) ∧
  ((vp_in (rdI M5 22 0 (nn x1) 0) 11) ∧
  (bndP (wrJ M5 61 0 0 (nn (rdI M5 22 0 (nn x1) 0)) 1) fun M8 =>
  ((s_X1_holdersNow M8) ∧
  (bndP (wrI M8 57 0 0 0 (f_X1_holdersNow M8)) fun M10 =>
  (bndP (wrI M10 58 0 0 0 0) fun M11 =>
  (bndP (wrI M11 59 0 0 0 0) fun M12 =>
  (bndP (wrI M12 60 0 0 0 (-1)) fun M13 =>
  ((s_X7_deathBehind M13 0 (-1)) ∧
  (bndP (f_X7_deathBehind M13 0 (-1)) fun v15 =>
  (s_X1_goOn_74 x1 x2 FU M13 v15 0)))))))))))))))
theorem o_X1_goOn (M : gM) (x1 : Int32) (x2 : Int32) : offW [51, 52, 53, 54, 55, 56, 57, 58, 59, 60, 61] M (f_X1_goOn M x1 x2) := by
  rw [f_X1_goOn]
  refine offB (offR.tr ((o_X4_weigh M x1).mono (by decide))) (fun M2 oM2 => ?_)
  refine offB (oM2.tr ((o_J7_fill_d0a16 M2 0).mono (by decide))) (fun M4 oM4 => ?_)
  refine offB (oM4.wJ (by decide)) (fun M5 oM5 => ?_)
  refine offB (oM5.wJ (by decide)) (fun M8 oM8 => ?_)
  refine offB (oM8.wI (by decide)) (fun M10 oM10 => ?_)
  refine offB (oM10.wI (by decide)) (fun M11 oM11 => ?_)
  refine offB (oM11.wI (by decide)) (fun M12 oM12 => ?_)
  refine offB (oM12.wI (by decide)) (fun M13 oM13 => ?_)
  refine offV (fun v15 => ?_)
  exact oM13.tr (o_X1_goOn_74 x1 x2 FU M13 v15 0)
set_option maxRecDepth 100000 in
set_option maxHeartbeats 4000000 in
theorem t_X1_goOn {E : gE} {K : gM → Prop} {Q : Option Value → gM → Prop} (hK : ∀ z : gM, K z → Q none z) (M : gM) (x1 : Int32) (x2 : Int32)  (hs : s_X1_goOn M x1 x2) (hQ : K (f_X1_goOn M x1 x2)) : gG E RX1 cX1_goOn 6 none (rm 4) 0 [(0, .ref (gla E 220)), (1, .int x1), (2, .int x2)] [] M Q := by
  rw [s_X1_goOn] at hs
  rw [f_X1_goOn] at hQ
  refine g_aload_n 0 dX1_goOn_0 rfl ?_
  refine g_getR 220 216 fd_X1_23 dF_Es rfl rfl dX1_goOn_1 ?_
  refine g_iload_n 1 dX1_goOn_4 rfl ?_
  have h1 := hs.1; have hs := hs.2
  refine g_callV (As := [.int x1]) (st := []) 216 (c_X4_weigh E M x1 h1) mt_X4_weigh ml_X1_27 dF_Lw rfl rfl sg_X4_weigh rfl (by decide) (Nat.le_of_ble_eq_true rfl) dX1_goOn_5 ?_
  rintro _ M2 ⟨rfl, hM2⟩
  have hQ := bndQ hQ M2 hM2; have hs := bndS hs M2 hM2
  refine g_aload_n 0 dX1_goOn_8 rfl ?_
  refine g_getR 220 221 fd_X1_9 dF_Es rfl rfl dX1_goOn_9 ?_
  refine g_lconst (v := 0) dX1_goOn_12 (by decide) ?_
  have h3 := hs.1; have hs := hs.2
  refine g_callS (As := [.ref (gla E 221), .long 0]) (st := []) (c_J7_fill_d0a16 E M2 0 h3) mt_J7_fill_d0a16 ml_X1_33 sg_J7_fill_d0a16 rfl (by decide) (Nat.le_of_ble_eq_true rfl) dX1_goOn_13 ?_
  rintro _ M4 ⟨rfl, hM4⟩
  have hQ := bndQ hQ M4 hM4; have hs := bndS hs M4 hM4
  refine g_aload_n 0 dX1_goOn_16 rfl ?_
  refine g_lconst (v := 1) dX1_goOn_17 (by decide) ?_
  refine g_putJ 220 fd_X1_15 dF_Es rfl dX1_goOn_18 (fun M5 hM5 => ?_)
  have hQ := bndQ hQ M5 hM5; have hs := bndS hs M5 hM5
  refine g_aload_n 0 dX1_goOn_21 rfl ?_
  refine g_getR 220 221 fd_X1_9 dF_Es rfl rfl dX1_goOn_22 ?_
  refine g_aload_n 0 dX1_goOn_25 rfl ?_
  refine g_getR 220 (rgC 0) fd_X1_19 dF_Es rfl rfl dX1_goOn_26 ?_
  refine g_getR (rgC 0) (rgC 0 + 3) fd_X1_39 (dF_Rg lt02) rfl rfl dX1_goOn_29 ?_
  refine g_iload_n 1 dX1_goOn_32 rfl ?_
  have h6 := hs.1; have hs := hs.2
  refine g_aald (rgC 0 + 3) (thC 0 (nn x1)) rfl (dF_Rg_things lt02) h6 (aj_Th _ _) dX1_goOn_33 ?_
  refine g_getI (thC 0 (nn x1)) fd_X1_45 (dF_Th lt02 (vpL h6)) rfl dX1_goOn_34 ?_
  refine g_lconst (v := 1) dX1_goOn_37 (by decide) ?_
  have h7 := hs.1; have hs := hs.2
  refine g_last 221 dF_Es_parts h7 dX1_goOn_38 (fun M8 hM8 => ?_)
  have hQ := bndQ hQ M8 hM8; have hs := bndS hs M8 hM8
  refine g_aload_n 0 dX1_goOn_39 rfl ?_
  refine g_aload_n 0 dX1_goOn_40 rfl ?_
  have h9 := hs.1; have hs := hs.2
  refine g_callV (As := []) (st := [.ref (gla E 220)]) 220 (c_X1_holdersNow E M8 h9) mt_X1_holdersNow ml_X1_51 dF_Es rfl rfl sg_X1_holdersNow rfl (by decide) (Nat.le_of_ble_eq_true rfl) dX1_goOn_41 ?_
  rintro _ _ ⟨q1, q2⟩; rw [q1, q2]; clear q1 q2
  refine g_putI 220 fd_X1_55 dF_Es rfl dX1_goOn_44 (fun M10 hM10 => ?_)
  have hQ := bndQ hQ M10 hM10; have hs := bndS hs M10 hM10
  refine g_aload_n 0 dX1_goOn_47 rfl ?_
  refine g_iconst (v := 0) dX1_goOn_48 (by decide) ?_
  refine g_putI 220 fd_X1_58 dF_Es rfl dX1_goOn_49 (fun M11 hM11 => ?_)
  have hQ := bndQ hQ M11 hM11; have hs := bndS hs M11 hM11
  refine g_aload_n 0 dX1_goOn_52 rfl ?_
  refine g_iconst (v := 0) dX1_goOn_53 (by decide) ?_
  refine g_putI 220 fd_X1_61 dF_Es rfl dX1_goOn_54 (fun M12 hM12 => ?_)
  have hQ := bndQ hQ M12 hM12; have hs := bndS hs M12 hM12
  refine g_aload_n 0 dX1_goOn_57 rfl ?_
  refine g_iconst (v := (-1)) dX1_goOn_58 (by decide) ?_
  refine g_putI 220 fd_X1_64 dF_Es rfl dX1_goOn_59 (fun M13 hM13 => ?_)
  have hQ := bndQ hQ M13 hM13; have hs := bndS hs M13 hM13
  refine g_aload_n 0 dX1_goOn_62 rfl ?_
  refine g_getR 220 (rgC 0) fd_X1_19 dF_Es rfl rfl dX1_goOn_63 ?_
  refine g_iconst (v := (-1)) dX1_goOn_66 (by decide) ?_
  have h14 := hs.1; have hs := hs.2
  refine g_callV (As := [.int (-1)]) (st := []) (rgC 0) (c_X7_deathBehind E M13 0 lt02 (-1) h14) mt_X7_deathBehind ml_X1_67 (dF_Rg lt02) rfl rfl sg_X7_deathBehind rfl (by decide) (Nat.le_of_ble_eq_true rfl) dX1_goOn_67 ?_
  rintro _ _ ⟨q1, q2⟩; rw [q1, q2]; clear q1 q2
  refine g_topI (fun v15 hv15 => ?_)
  have hQ := bndQ hQ v15 hv15; have hs := bndS hs v15 hv15
  refine g_istore_n _ dX1_goOn_70 (by decide) rfl ?_
  refine g_iconst (v := 0) dX1_goOn_71 (by decide) ?_
  refine g_istore _ dX1_goOn_72 (by decide) rfl ?_
  refine g_sub [2, 3, 4, 1, 0] _ rfl ?_
  exact t_X1_goOn_74 hK x1 x2 FU M13 v15 0 hs hQ
theorem c_X1_goOn (E : gE) (M : gM) (x1 : Int32) (x2 : Int32) (hs : s_X1_goOn M x1 x2) : gC E yX1_goOn cX1_goOn 6 none (rm 4) [.ref (gla E 220), .int x1, .int x2] M (fun o N => o = none ∧ N = f_X1_goOn M x1 x2) :=
  gC.of (by decide +kernel) (Nat.le_of_ble_eq_true rfl) rfl (t_X1_goOn (K := fun z => z = f_X1_goOn M x1 x2) (fun z hz => ⟨rfl, hz⟩) M x1 x2 hs rfl)
def f_X1_holdersOn (M : gM) (x1 : Int32) (x2 : Int32) : Int32 × gM :=
  bnd (f_X1_goOn M x1 x2) fun M2 =>
  ((f_X1_holdersNow M2, M2))
def s_X1_holdersOn (M : gM) (x1 : Int32) (x2 : Int32) : Prop :=
  (s_X1_goOn M x1 x2) ∧
  (bndP (f_X1_goOn M x1 x2) fun M2 =>
  ((s_X1_holdersNow M2) ∧
  (True)))
theorem o_X1_holdersOn (M : gM) (x1 : Int32) (x2 : Int32) : offW [51, 52, 53, 54, 55, 56, 57, 58, 59, 60, 61] M (f_X1_holdersOn M x1 x2).2 := by
  rw [f_X1_holdersOn]
  refine offB2 (offR.tr ((o_X1_goOn M x1 x2).mono (by decide))) (fun M2 oM2 => ?_)
  exact oM2
set_option maxRecDepth 100000 in
set_option maxHeartbeats 4000000 in
theorem t_X1_holdersOn {E : gE} {K : Int32 × gM → Prop} {Q : Option Value → gM → Prop} (hK : ∀ z : Int32 × gM, K z → Q (some (.int z.1)) z.2) (M : gM) (x1 : Int32) (x2 : Int32)  (hs : s_X1_holdersOn M x1 x2) (hQ : K (f_X1_holdersOn M x1 x2)) : gG E RX1 cX1_holdersOn 3 (some .int) (rm 5) 0 [(0, .ref (gla E 220)), (1, .int x1), (2, .int x2)] [] M Q := by
  rw [s_X1_holdersOn] at hs
  rw [f_X1_holdersOn] at hQ
  refine g_aload_n 0 dX1_holdersOn_0 rfl ?_
  refine g_iload_n 1 dX1_holdersOn_1 rfl ?_
  refine g_iload_n 2 dX1_holdersOn_2 rfl ?_
  have h1 := hs.1; have hs := hs.2
  refine g_callV (As := [.int x1, .int x2]) (st := []) 220 (c_X1_goOn E M x1 x2 h1) mt_X1_goOn ml_X1_122 dF_Es rfl rfl sg_X1_goOn rfl (by decide) (Nat.le_of_ble_eq_true rfl) dX1_holdersOn_3 ?_
  rintro _ M2 ⟨rfl, hM2⟩
  have hQ := bndQ hQ M2 hM2; have hs := bndS hs M2 hM2
  refine g_aload_n 0 dX1_holdersOn_6 rfl ?_
  have h3 := hs.1; have hs := hs.2
  refine g_callV (As := []) (st := []) 220 (c_X1_holdersNow E M2 h3) mt_X1_holdersNow ml_X1_51 dF_Es rfl rfl sg_X1_holdersNow rfl (by decide) (Nat.le_of_ble_eq_true rfl) dX1_holdersOn_7 ?_
  rintro _ _ ⟨q1, q2⟩; rw [q1, q2]; clear q1 q2
  exact g_iret rfl dX1_holdersOn_10 (hK _ hQ)
theorem c_X1_holdersOn (E : gE) (M : gM) (x1 : Int32) (x2 : Int32) (hs : s_X1_holdersOn M x1 x2) : gC E yX1_holdersOn cX1_holdersOn 3 (some .int) (rm 5) [.ref (gla E 220), .int x1, .int x2] M (fun o N => o = some (.int (f_X1_holdersOn M x1 x2).1) ∧ N = (f_X1_holdersOn M x1 x2).2) :=
  gC.of (by decide +kernel) (Nat.le_of_ble_eq_true rfl) rfl (t_X1_holdersOn (K := fun z => z = f_X1_holdersOn M x1 x2) (fun z hz => by rw [hz]; exact ⟨rfl, rfl⟩) M x1 x2 hs rfl)
def f_X1_wealthOf_5 (x1 : Int32)  : Nat → gM → Int64 → Int32 → Int32 × gM
  | 0, M, _, _ => (0, M)
  | n + 1, M, x2, x4 =>
    if (rdI M 6 0 0 0) ≤ x4 then
      ((Int64.toInt32 x2, M))
    else
      (bnd (f_X1_goOn M x4 9999) fun M3 =>
      (if (lg_cmp (rdJ M3 56 0 0 0) 0) ≤ 0 then
        (f_X1_wealthOf_5 x1 n M3 x2 (x4 + 1))
      else
        (bnd (x2 + ((((rdJ M3 61 0 0 (nn x1)) * 100) * (Int32.toInt64 (rdI M3 24 0 (nn x4) 0))) / (rdJ M3 56 0 0 0))) fun v8 =>
        (f_X1_wealthOf_5 x1 n M3 v8 (x4 + 1)))))
def s_X1_wealthOf_5 (x1 : Int32)  : Nat → gM → Int64 → Int32 → Prop
  | 0, _, _, _ => False
  | n + 1, M, x2, x4 =>
    if (rdI M 6 0 0 0) ≤ x4 then
      (True)
    else
      ((s_X1_goOn M x4 9999) ∧
      (bndP (f_X1_goOn M x4 9999) fun M3 =>
      (if (lg_cmp (rdJ M3 56 0 0 0) 0) ≤ 0 then
        (s_X1_wealthOf_5 x1 n M3 x2 (x4 + 1))
      else
        ((vp_in x1 11) ∧
        ((vp_in x4 8) ∧
        ((¬ (rdJ M3 56 0 0 0) = 0) ∧
        (bndP (x2 + ((((rdJ M3 61 0 0 (nn x1)) * 100) * (Int32.toInt64 (rdI M3 24 0 (nn x4) 0))) / (rdJ M3 56 0 0 0))) fun v8 =>
        (s_X1_wealthOf_5 x1 n M3 v8 (x4 + 1)))))))))
theorem o_X1_wealthOf_5 (x1 : Int32)  : ∀ (n : Nat) (M : gM) (x2 : Int64) (x4 : Int32), offW [51, 52, 53, 54, 55, 56, 57, 58, 59, 60, 61] M (f_X1_wealthOf_5 x1  n M x2 x4).2 := by
  intro n
  induction n with
  | zero => intro M x2 x4; exact offR
  | succ n ih =>
    intro M x2 x4
    rw [f_X1_wealthOf_5]
    refine offI2 ?_ ?_
    · exact offR
    · refine offB2 (offR.tr ((o_X1_goOn M x4 9999).mono (by decide))) (fun M3 oM3 => ?_)
      refine offI2 ?_ ?_
      · exact oM3.tr (ih M3 x2 (x4 + 1))
      · refine offV2 (fun v8 => ?_)
        exact oM3.tr (ih M3 v8 (x4 + 1))
set_option maxRecDepth 100000 in
set_option maxHeartbeats 4000000 in
theorem t_X1_wealthOf_5 {E : gE} {K : Int32 × gM → Prop} {Q : Option Value → gM → Prop} (hK : ∀ z : Int32 × gM, K z → Q (some (.int z.1)) z.2) (x1 : Int32)   : ∀ (n : Nat) (M : gM) (x2 : Int64) (x4 : Int32) , s_X1_wealthOf_5 x1  n M x2 x4 → K (f_X1_wealthOf_5 x1  n M x2 x4) → gG E RX1 cX1_wealthOf 5 (some .int) (rm 5) 5 [(0, .ref (gla E 220)), (1, .int x1), (2, .long x2), (4, .int x4)] [] M Q := by
  intro n
  induction n with
  | zero => intro M x2 x4 hs hQ; exact (hs : False).elim
  | succ n ih =>
    intro M x2 x4 hs hQ
    rw [s_X1_wealthOf_5] at hs
    rw [f_X1_wealthOf_5] at hQ
    refine g_iload 3 dX1_wealthOf_5 rfl ?_
    refine g_aload_n 0 dX1_wealthOf_7 rfl ?_
    refine g_getR 220 (rgC 0) fd_X1_19 dF_Es rfl rfl dX1_wealthOf_8 ?_
    refine g_getI (rgC 0) fd_X1_125 (dF_Rg lt02) rfl dX1_wealthOf_11 ?_
    refine g_icmp_ge 74 dX1_wealthOf_14 (by decide) (fun c1 => ?_) (fun c1 => ?_)
    · have hs := ifSt hs c1; have hQ := ifQt hQ c1
      refine g_lload_n 2 dX1_wealthOf_74 rfl ?_
      refine g_l2i dX1_wealthOf_75 ?_
      exact g_iret rfl dX1_wealthOf_76 (hK _ hQ)
    · have hs := ifSf hs c1; have hQ := ifQf hQ c1
      refine g_aload_n 0 dX1_wealthOf_17 rfl ?_
      refine g_iload 3 dX1_wealthOf_18 rfl ?_
      refine g_sipush (v := 9999) dX1_wealthOf_20 (by decide) ?_
      have h2 := hs.1; have hs := hs.2
      refine g_callV (As := [.int x4, .int 9999]) (st := []) 220 (c_X1_goOn E M x4 9999 h2) mt_X1_goOn ml_X1_122 dF_Es rfl rfl sg_X1_goOn rfl (by decide) (Nat.le_of_ble_eq_true rfl) dX1_wealthOf_23 ?_
      rintro _ M3 ⟨rfl, hM3⟩
      have hQ := bndQ hQ M3 hM3; have hs := bndS hs M3 hM3
      refine g_aload_n 0 dX1_wealthOf_26 rfl ?_
      refine g_getJ 220 fd_X1_15 dF_Es rfl dX1_wealthOf_27 ?_
      refine g_lconst (v := 0) dX1_wealthOf_30 (by decide) ?_
      refine g_lcmp dX1_wealthOf_31 ?_
      refine g_if_le 68 dX1_wealthOf_32 (by decide) (fun c4 => ?_) (fun c4 => ?_)
      · have hs := ifSt hs c4; have hQ := ifQt hQ c4
        refine g_iinc 3 (v := x4 + 1) _ dX1_wealthOf_68 rfl rfl (by decide) rfl ?_
        refine g_goto 5 dX1_wealthOf_71 (by decide) ?_
        refine g_sub [1, 2, 3, 0] _ rfl ?_
        exact ih M3 x2 (x4 + 1) hs hQ
      · have hs := ifSf hs c4; have hQ := ifQf hQ c4
        refine g_lload_n 2 dX1_wealthOf_35 rfl ?_
        refine g_aload_n 0 dX1_wealthOf_36 rfl ?_
        refine g_getR 220 221 fd_X1_9 dF_Es rfl rfl dX1_wealthOf_37 ?_
        refine g_iload_n 1 dX1_wealthOf_40 rfl ?_
        have h5 := hs.1; have hs := hs.2
        refine g_lald 221 dF_Es_parts h5 dX1_wealthOf_41 ?_
        refine g_ldc2 kc_X1_128 dX1_wealthOf_42 ?_
        refine g_lmul dX1_wealthOf_45 ?_
        refine g_aload_n 0 dX1_wealthOf_46 rfl ?_
        refine g_getR 220 (rgC 0) fd_X1_19 dF_Es rfl rfl dX1_wealthOf_47 ?_
        refine g_getR (rgC 0) (rgC 0 + 3) fd_X1_39 (dF_Rg lt02) rfl rfl dX1_wealthOf_50 ?_
        refine g_iload 3 dX1_wealthOf_53 rfl ?_
        have h6 := hs.1; have hs := hs.2
        refine g_aald (rgC 0 + 3) (thC 0 (nn x4)) rfl (dF_Rg_things lt02) h6 (aj_Th _ _) dX1_wealthOf_55 ?_
        refine g_getI (thC 0 (nn x4)) fd_X1_130 (dF_Th lt02 (vpL h6)) rfl dX1_wealthOf_56 ?_
        refine g_i2l dX1_wealthOf_59 ?_
        refine g_lmul dX1_wealthOf_60 ?_
        refine g_aload_n 0 dX1_wealthOf_61 rfl ?_
        refine g_getJ 220 fd_X1_15 dF_Es rfl dX1_wealthOf_62 ?_
        have h7 := hs.1; have hs := hs.2
        refine g_ldiv dX1_wealthOf_65 h7 ?_
        refine g_ladd dX1_wealthOf_66 ?_
        refine g_topJ (fun v8 hv8 => ?_)
        have hQ := bndQ hQ v8 hv8; have hs := bndS hs v8 hv8
        refine g_lstore_n _ dX1_wealthOf_67 (by decide) rfl ?_
        refine g_iinc 3 (v := x4 + 1) _ dX1_wealthOf_68 rfl rfl (by decide) rfl ?_
        refine g_goto 5 dX1_wealthOf_71 (by decide) ?_
        refine g_sub [2, 3, 1, 0] _ rfl ?_
        exact ih M3 v8 (x4 + 1) hs hQ
def f_X1_wealthOf (M : gM) (x1 : Int32) : Int32 × gM :=
  f_X1_wealthOf_5 x1 FU M 0 0
def s_X1_wealthOf (M : gM) (x1 : Int32) : Prop :=
  s_X1_wealthOf_5 x1 FU M 0 0
theorem o_X1_wealthOf (M : gM) (x1 : Int32) : offW [51, 52, 53, 54, 55, 56, 57, 58, 59, 60, 61] M (f_X1_wealthOf M x1).2 := by
  rw [f_X1_wealthOf]
  exact (o_X1_wealthOf_5 x1 FU M 0 0)
set_option maxRecDepth 100000 in
set_option maxHeartbeats 4000000 in
theorem t_X1_wealthOf {E : gE} {K : Int32 × gM → Prop} {Q : Option Value → gM → Prop} (hK : ∀ z : Int32 × gM, K z → Q (some (.int z.1)) z.2) (M : gM) (x1 : Int32)  (hs : s_X1_wealthOf M x1) (hQ : K (f_X1_wealthOf M x1)) : gG E RX1 cX1_wealthOf 5 (some .int) (rm 5) 0 [(0, .ref (gla E 220)), (1, .int x1)] [] M Q := by
  rw [s_X1_wealthOf] at hs
  rw [f_X1_wealthOf] at hQ
  refine g_lconst (v := 0) dX1_wealthOf_0 (by decide) ?_
  refine g_lstore_n _ dX1_wealthOf_1 (by decide) rfl ?_
  refine g_iconst (v := 0) dX1_wealthOf_2 (by decide) ?_
  refine g_istore _ dX1_wealthOf_3 (by decide) rfl ?_
  refine g_sub [2, 3, 1, 0] _ rfl ?_
  exact t_X1_wealthOf_5 hK x1 FU M 0 0 hs hQ
theorem c_X1_wealthOf (E : gE) (M : gM) (x1 : Int32) (hs : s_X1_wealthOf M x1) : gC E yX1_wealthOf cX1_wealthOf 5 (some .int) (rm 5) [.ref (gla E 220), .int x1] M (fun o N => o = some (.int (f_X1_wealthOf M x1).1) ∧ N = (f_X1_wealthOf M x1).2) :=
  gC.of (by decide +kernel) (Nat.le_of_ble_eq_true rfl) rfl (t_X1_wealthOf (K := fun z => z = f_X1_wealthOf M x1) (fun z hz => by rw [hz]; exact ⟨rfl, rfl⟩) M x1 hs rfl)
def f_X1_thingsLeftBy_4 (x1 : Int32)  : Nat → gM → Int32 → Int32 → Int32 × gM
  | 0, M, _, _ => (0, M)
  | n + 1, M, x2, x3 =>
    if (rdI M 6 0 0 0) ≤ x3 then
      ((x2, M))
    else
      (bnd (f_X1_goOn M x3 9999) fun M3 =>
      (bnd (x2 ||| ((((rdI M3 58 0 0 0) >>> (x1 &&& 31)) &&& 1) <<< (x3 &&& 31))) fun v4 =>
      (f_X1_thingsLeftBy_4 x1 n M3 v4 (x3 + 1))))
def s_X1_thingsLeftBy_4 (x1 : Int32)  : Nat → gM → Int32 → Int32 → Prop
  | 0, _, _, _ => False
  | n + 1, M, x2, x3 =>
    if (rdI M 6 0 0 0) ≤ x3 then
      (True)
    else
      ((s_X1_goOn M x3 9999) ∧
      (bndP (f_X1_goOn M x3 9999) fun M3 =>
      (bndP (x2 ||| ((((rdI M3 58 0 0 0) >>> (x1 &&& 31)) &&& 1) <<< (x3 &&& 31))) fun v4 =>
      (s_X1_thingsLeftBy_4 x1 n M3 v4 (x3 + 1)))))
theorem o_X1_thingsLeftBy_4 (x1 : Int32)  : ∀ (n : Nat) (M : gM) (x2 : Int32) (x3 : Int32), offW [51, 52, 53, 54, 55, 56, 57, 58, 59, 60, 61] M (f_X1_thingsLeftBy_4 x1  n M x2 x3).2 := by
  intro n
  induction n with
  | zero => intro M x2 x3; exact offR
  | succ n ih =>
    intro M x2 x3
    rw [f_X1_thingsLeftBy_4]
    refine offI2 ?_ ?_
    · exact offR
    · refine offB2 (offR.tr ((o_X1_goOn M x3 9999).mono (by decide))) (fun M3 oM3 => ?_)
      refine offV2 (fun v4 => ?_)
      exact oM3.tr (ih M3 v4 (x3 + 1))
set_option maxRecDepth 100000 in
set_option maxHeartbeats 4000000 in
theorem t_X1_thingsLeftBy_4 {E : gE} {K : Int32 × gM → Prop} {Q : Option Value → gM → Prop} (hK : ∀ z : Int32 × gM, K z → Q (some (.int z.1)) z.2) (x1 : Int32)   : ∀ (n : Nat) (M : gM) (x2 : Int32) (x3 : Int32) , s_X1_thingsLeftBy_4 x1  n M x2 x3 → K (f_X1_thingsLeftBy_4 x1  n M x2 x3) → gG E RX1 cX1_thingsLeftBy 4 (some .int) (rm 5) 4 [(0, .ref (gla E 220)), (1, .int x1), (2, .int x2), (3, .int x3)] [] M Q := by
  intro n
  induction n with
  | zero => intro M x2 x3 hs hQ; exact (hs : False).elim
  | succ n ih =>
    intro M x2 x3 hs hQ
    rw [s_X1_thingsLeftBy_4] at hs
    rw [f_X1_thingsLeftBy_4] at hQ
    refine g_iload_n 3 dX1_thingsLeftBy_4 rfl ?_
    refine g_aload_n 0 dX1_thingsLeftBy_5 rfl ?_
    refine g_getR 220 (rgC 0) fd_X1_19 dF_Es rfl rfl dX1_thingsLeftBy_6 ?_
    refine g_getI (rgC 0) fd_X1_125 (dF_Rg lt02) rfl dX1_thingsLeftBy_9 ?_
    refine g_icmp_ge 42 dX1_thingsLeftBy_12 (by decide) (fun c1 => ?_) (fun c1 => ?_)
    · have hs := ifSt hs c1; have hQ := ifQt hQ c1
      refine g_iload_n 2 dX1_thingsLeftBy_42 rfl ?_
      exact g_iret rfl dX1_thingsLeftBy_43 (hK _ hQ)
    · have hs := ifSf hs c1; have hQ := ifQf hQ c1
      refine g_aload_n 0 dX1_thingsLeftBy_15 rfl ?_
      refine g_iload_n 3 dX1_thingsLeftBy_16 rfl ?_
      refine g_sipush (v := 9999) dX1_thingsLeftBy_17 (by decide) ?_
      have h2 := hs.1; have hs := hs.2
      refine g_callV (As := [.int x3, .int 9999]) (st := []) 220 (c_X1_goOn E M x3 9999 h2) mt_X1_goOn ml_X1_122 dF_Es rfl rfl sg_X1_goOn rfl (by decide) (Nat.le_of_ble_eq_true rfl) dX1_thingsLeftBy_20 ?_
      rintro _ M3 ⟨rfl, hM3⟩
      have hQ := bndQ hQ M3 hM3; have hs := bndS hs M3 hM3
      refine g_iload_n 2 dX1_thingsLeftBy_23 rfl ?_
      refine g_aload_n 0 dX1_thingsLeftBy_24 rfl ?_
      refine g_getI 220 fd_X1_58 dF_Es rfl dX1_thingsLeftBy_25 ?_
      refine g_iload_n 1 dX1_thingsLeftBy_28 rfl ?_
      refine g_ishr dX1_thingsLeftBy_29 ?_
      refine g_iconst (v := 1) dX1_thingsLeftBy_30 (by decide) ?_
      refine g_iand dX1_thingsLeftBy_31 ?_
      refine g_iload_n 3 dX1_thingsLeftBy_32 rfl ?_
      refine g_ishl dX1_thingsLeftBy_33 ?_
      refine g_ior dX1_thingsLeftBy_34 ?_
      refine g_topI (fun v4 hv4 => ?_)
      have hQ := bndQ hQ v4 hv4; have hs := bndS hs v4 hv4
      refine g_istore_n _ dX1_thingsLeftBy_35 (by decide) rfl ?_
      refine g_iinc 3 (v := x3 + 1) _ dX1_thingsLeftBy_36 rfl rfl (by decide) rfl ?_
      refine g_goto 4 dX1_thingsLeftBy_39 (by decide) ?_
      refine g_sub [2, 3, 1, 0] _ rfl ?_
      exact ih M3 v4 (x3 + 1) hs hQ
def f_X1_thingsLeftBy (M : gM) (x1 : Int32) : Int32 × gM :=
  f_X1_thingsLeftBy_4 x1 FU M 0 0
def s_X1_thingsLeftBy (M : gM) (x1 : Int32) : Prop :=
  s_X1_thingsLeftBy_4 x1 FU M 0 0
theorem o_X1_thingsLeftBy (M : gM) (x1 : Int32) : offW [51, 52, 53, 54, 55, 56, 57, 58, 59, 60, 61] M (f_X1_thingsLeftBy M x1).2 := by
  rw [f_X1_thingsLeftBy]
  exact (o_X1_thingsLeftBy_4 x1 FU M 0 0)
set_option maxRecDepth 100000 in
set_option maxHeartbeats 4000000 in
theorem t_X1_thingsLeftBy {E : gE} {K : Int32 × gM → Prop} {Q : Option Value → gM → Prop} (hK : ∀ z : Int32 × gM, K z → Q (some (.int z.1)) z.2) (M : gM) (x1 : Int32)  (hs : s_X1_thingsLeftBy M x1) (hQ : K (f_X1_thingsLeftBy M x1)) : gG E RX1 cX1_thingsLeftBy 4 (some .int) (rm 5) 0 [(0, .ref (gla E 220)), (1, .int x1)] [] M Q := by
  rw [s_X1_thingsLeftBy] at hs
  rw [f_X1_thingsLeftBy] at hQ
  refine g_iconst (v := 0) dX1_thingsLeftBy_0 (by decide) ?_
  refine g_istore_n _ dX1_thingsLeftBy_1 (by decide) rfl ?_
  refine g_iconst (v := 0) dX1_thingsLeftBy_2 (by decide) ?_
  refine g_istore_n _ dX1_thingsLeftBy_3 (by decide) rfl ?_
  refine g_sub [2, 3, 1, 0] _ rfl ?_
  exact t_X1_thingsLeftBy_4 hK x1 FU M 0 0 hs hQ
theorem c_X1_thingsLeftBy (E : gE) (M : gM) (x1 : Int32) (hs : s_X1_thingsLeftBy M x1) : gC E yX1_thingsLeftBy cX1_thingsLeftBy 4 (some .int) (rm 5) [.ref (gla E 220), .int x1] M (fun o N => o = some (.int (f_X1_thingsLeftBy M x1).1) ∧ N = (f_X1_thingsLeftBy M x1).2) :=
  gC.of (by decide +kernel) (Nat.le_of_ble_eq_true rfl) rfl (t_X1_thingsLeftBy (K := fun z => z = f_X1_thingsLeftBy M x1) (fun z hz => by rw [hz]; exact ⟨rfl, rfl⟩) M x1 hs rfl)
def f_X1_wealthWithout (M : gM) (x1 : Int32) (x2 : Int32) : Int32 × gM :=
  bnd (wrI M 34 0 (nn x2) 0 1) fun M2 =>
  (bnd (f_X1_wealthOf M2 x1) fun z4 =>
  (bnd (wrI z4.2 34 0 (nn x2) 0 (rdI M 34 0 (nn x2) 0)) fun M6 =>
  ((z4.1, M6))))
def s_X1_wealthWithout (M : gM) (x1 : Int32) (x2 : Int32) : Prop :=
  (vp_in x2 12) ∧
  (bndP (wrI M 34 0 (nn x2) 0 1) fun M2 =>
  ((s_X1_wealthOf M2 x1) ∧
  (bndP (f_X1_wealthOf M2 x1) fun z4 =>
  ((gB (rdI M 34 0 (nn x2) 0)) ∧
  (bndP (wrI z4.2 34 0 (nn x2) 0 (rdI M 34 0 (nn x2) 0)) fun M6 =>
  (True))))))
theorem o_X1_wealthWithout (M : gM) (x1 : Int32) (x2 : Int32) : offW [34, 51, 52, 53, 54, 55, 56, 57, 58, 59, 60, 61] M (f_X1_wealthWithout M x1 x2).2 := by
  rw [f_X1_wealthWithout]
  refine offB2 (offR.wI (by decide)) (fun M2 oM2 => ?_)
  refine offZ2 (oM2.tr ((o_X1_wealthOf M2 x1).mono (by decide))) (fun z4 oz4 => ?_)
  refine offB2 (oz4.wI (by decide)) (fun M6 oM6 => ?_)
  exact oM6
set_option maxRecDepth 100000 in
set_option maxHeartbeats 4000000 in
theorem t_X1_wealthWithout {E : gE} {K : Int32 × gM → Prop} {Q : Option Value → gM → Prop} (hK : ∀ z : Int32 × gM, K z → Q (some (.int z.1)) z.2) (M : gM) (x1 : Int32) (x2 : Int32)  (hs : s_X1_wealthWithout M x1 x2) (hQ : K (f_X1_wealthWithout M x1 x2)) : gG E RX1 cX1_wealthWithout 6 (some .int) (rm 6) 0 [(0, .ref (gla E 220)), (1, .int x1), (2, .int x2)] [] M Q := by
  rw [s_X1_wealthWithout] at hs
  rw [f_X1_wealthWithout] at hQ
  refine g_aload_n 0 dX1_wealthWithout_0 rfl ?_
  refine g_getR 220 (rgC 0) fd_X1_19 dF_Es rfl rfl dX1_wealthWithout_1 ?_
  refine g_getR (rgC 0) (rgC 0 + 4) fd_X1_133 (dF_Rg lt02) rfl rfl dX1_wealthWithout_4 ?_
  refine g_iload_n 2 dX1_wealthWithout_7 rfl ?_
  have h1 := hs.1; have hs := hs.2
  refine g_aald (rgC 0 + 4) (paC 0 (nn x2)) rfl (dF_Rg_papers lt02) h1 (aj_Pa _ _) dX1_wealthWithout_8 ?_
  refine g_astore_n _ dX1_wealthWithout_9 (by decide) rfl ?_
  refine g_aload_n 0 dX1_wealthWithout_10 rfl ?_
  refine g_getI (paC 0 (nn x2)) fd_X1_137 (dF_Pa lt02 (vpL h1)) rfl dX1_wealthWithout_11 ?_
  refine g_istore _ dX1_wealthWithout_14 (by decide) rfl ?_
  refine g_aload_n 1 dX1_wealthWithout_16 rfl ?_
  refine g_iconst (v := 1) dX1_wealthWithout_17 (by decide) ?_
  refine g_putZ (paC 0 (nn x2)) fd_X1_137 (Or.inr rfl) (dF_Pa lt02 (vpL h1)) rfl dX1_wealthWithout_18 (fun M2 hM2 => ?_)
  have hQ := bndQ hQ M2 hM2; have hs := bndS hs M2 hM2
  refine g_aload_n 2 dX1_wealthWithout_21 rfl ?_
  refine g_iload_n 3 dX1_wealthWithout_22 rfl ?_
  have h3 := hs.1; have hs := hs.2
  refine g_callV (As := [.int x1]) (st := []) 220 (c_X1_wealthOf E M2 x1 h3) mt_X1_wealthOf ml_X1_142 dF_Es rfl rfl sg_X1_wealthOf rfl (by decide) (Nat.le_of_ble_eq_true rfl) dX1_wealthWithout_23 ?_
  rintro _ _ ⟨rfl, rfl⟩
  obtain ⟨z4, hz4⟩ : ∃ z, z = f_X1_wealthOf M2 x1 := ⟨_, rfl⟩
  rw [← hz4]
  have hQ := bndQ hQ z4 hz4; have hs := bndS hs z4 hz4
  refine g_istore _ dX1_wealthWithout_26 (by decide) rfl ?_
  refine g_aload_n 2 dX1_wealthWithout_28 rfl ?_
  refine g_iload 1 dX1_wealthWithout_29 rfl ?_
  have h5 := hs.1; have hs := hs.2
  refine g_putZ (paC 0 (nn x2)) fd_X1_137 h5 (dF_Pa lt02 (vpL h1)) rfl dX1_wealthWithout_31 (fun M6 hM6 => ?_)
  have hQ := bndQ hQ M6 hM6; have hs := bndS hs M6 hM6
  refine g_iload 0 dX1_wealthWithout_34 rfl ?_
  exact g_iret rfl dX1_wealthWithout_36 (hK _ hQ)
theorem c_X1_wealthWithout (E : gE) (M : gM) (x1 : Int32) (x2 : Int32) (hs : s_X1_wealthWithout M x1 x2) : gC E yX1_wealthWithout cX1_wealthWithout 6 (some .int) (rm 6) [.ref (gla E 220), .int x1, .int x2] M (fun o N => o = some (.int (f_X1_wealthWithout M x1 x2).1) ∧ N = (f_X1_wealthWithout M x1 x2).2) :=
  gC.of (by decide +kernel) (Nat.le_of_ble_eq_true rfl) rfl (t_X1_wealthWithout (K := fun z => z = f_X1_wealthWithout M x1 x2) (fun z hz => by rw [hz]; exact ⟨rfl, rfl⟩) M x1 x2 hs rfl)
def f_X1_thingsOtherWithout_70 (M : gM) (x2c1 : Nat) (x3 : Int32) (x5 : Int32) (y0 : Int32) (y1 : Int32) (k21 : gM → Int32 → Int32 → Int32 × gM) : Int32 × gM :=
  bnd (wrI M 34 0 x2c1 0 x3) fun M10 =>
  (k21 M10 (y0 + y1) (x5 + 1))
def s_X1_thingsOtherWithout_70 (M : gM) (x2c1 : Nat) (x3 : Int32) (x5 : Int32) (y0 : Int32) (y1 : Int32) (q21 : gM → Int32 → Int32 → Prop) : Prop :=
  (gB x3) ∧
  (bndP (wrI M 34 0 x2c1 0 x3) fun M10 =>
  (q21 M10 (y0 + y1) (x5 + 1)))
theorem o_X1_thingsOtherWithout_70 (M : gM) (x2c1 : Nat) (x3 : Int32) (x5 : Int32) (y0 : Int32) (y1 : Int32) (k21 : gM → Int32 → Int32 → Int32 × gM) (ho21 : ∀ (M : gM) (x4 : Int32) (x5 : Int32), offW [34, 51, 52, 53, 54, 55, 56, 57, 58, 59, 60, 61] M (k21 M x4 x5).2) : offW [34, 51, 52, 53, 54, 55, 56, 57, 58, 59, 60, 61] M (f_X1_thingsOtherWithout_70 M x2c1 x3 x5 y0 y1 k21).2 := by
  rw [f_X1_thingsOtherWithout_70]
  refine offB2 (offR.wI (by decide)) (fun M10 oM10 => ?_)
  exact oM10.tr (ho21 M10 (y0 + y1) (x5 + 1))
set_option maxRecDepth 100000 in
set_option maxHeartbeats 4000000 in
theorem t_X1_thingsOtherWithout_70 {E : gE} {K : Int32 × gM → Prop} {Q : Option Value → gM → Prop} (hK : ∀ z : Int32 × gM, K z → Q (some (.int z.1)) z.2) (M : gM) (x2c1 : Nat) (x3 : Int32) (x5 : Int32) (y0 : Int32) (y1 : Int32) (hx2c1 : x2c1 < 12) (k21 : gM → Int32 → Int32 → Int32 × gM) (q21 : gM → Int32 → Int32 → Prop) (hk21 : ∀ (M : gM) (x4 : Int32) (x5 : Int32) , q21 M x4 x5 → K (k21 M x4 x5) → gG E RX1 cX1_thingsOtherWithout 7 (some .int) (rm 6) 21 [(0, .ref (gla E 220)), (2, .ref (gla E (paC 0 x2c1))), (3, .int x3), (4, .int x4), (5, .int x5)] [] M Q) (hs : s_X1_thingsOtherWithout_70 M x2c1 x3 x5 y0 y1 q21) (hQ : K (f_X1_thingsOtherWithout_70 M x2c1 x3 x5 y0 y1 k21)) : gG E RX1 cX1_thingsOtherWithout 7 (some .int) (rm 6) 70 [(0, .ref (gla E 220)), (2, .ref (gla E (paC 0 x2c1))), (3, .int x3), (5, .int x5)] [.int y1, .int y0] M Q := by
  rw [s_X1_thingsOtherWithout_70] at hs
  rw [f_X1_thingsOtherWithout_70] at hQ
  refine g_iadd dX1_thingsOtherWithout_70 ?_
  refine g_istore _ dX1_thingsOtherWithout_71 (by decide) rfl ?_
  refine g_aload_n 2 dX1_thingsOtherWithout_73 rfl ?_
  refine g_iload_n 3 dX1_thingsOtherWithout_74 rfl ?_
  have h9 := hs.1; have hs := hs.2
  refine g_putZ (paC 0 x2c1) fd_X1_137 h9 (dF_Pa lt02 hx2c1) rfl dX1_thingsOtherWithout_75 (fun M10 hM10 => ?_)
  have hQ := bndQ hQ M10 hM10; have hs := bndS hs M10 hM10
  refine g_iinc 4 (v := x5 + 1) _ dX1_thingsOtherWithout_78 rfl rfl (by decide) rfl ?_
  refine g_goto 21 dX1_thingsOtherWithout_81 (by decide) ?_
  refine g_sub [2, 3, 4, 1, 0] _ rfl ?_
  exact hk21 M10 (y0 + y1) (x5 + 1) hs hQ
def f_X1_thingsOtherWithout_21 (x2c1 : Nat) (x3 : Int32)  : Nat → gM → Int32 → Int32 → Int32 × gM
  | 0, M, _, _ => (0, M)
  | n + 1, M, x4, x5 =>
    if (rdI M 6 0 0 0) ≤ x5 then
      ((x4, M))
    else
      (bnd (f_X1_holdersOn M x5 9999) fun z4 =>
      (bnd (wrI z4.2 34 0 x2c1 0 1) fun M5 =>
      (bnd (f_X1_holdersOn M5 x5 9999) fun z7 =>
      (if z7.1 = z4.1 then
        (f_X1_thingsOtherWithout_70 z7.2 x2c1 x3 x5 x4 0 (f_X1_thingsOtherWithout_21 x2c1 x3 n))
      else
        (f_X1_thingsOtherWithout_70 z7.2 x2c1 x3 x5 x4 1 (f_X1_thingsOtherWithout_21 x2c1 x3 n))))))
def s_X1_thingsOtherWithout_21 (x2c1 : Nat) (x3 : Int32)  : Nat → gM → Int32 → Int32 → Prop
  | 0, _, _, _ => False
  | n + 1, M, x4, x5 =>
    if (rdI M 6 0 0 0) ≤ x5 then
      (True)
    else
      ((s_X1_holdersOn M x5 9999) ∧
      (bndP (f_X1_holdersOn M x5 9999) fun z4 =>
      (bndP (wrI z4.2 34 0 x2c1 0 1) fun M5 =>
      ((s_X1_holdersOn M5 x5 9999) ∧
      (bndP (f_X1_holdersOn M5 x5 9999) fun z7 =>
      (if z7.1 = z4.1 then
        (s_X1_thingsOtherWithout_70 z7.2 x2c1 x3 x5 x4 0 (s_X1_thingsOtherWithout_21 x2c1 x3 n))
      else
        (s_X1_thingsOtherWithout_70 z7.2 x2c1 x3 x5 x4 1 (s_X1_thingsOtherWithout_21 x2c1 x3 n))))))))
theorem o_X1_thingsOtherWithout_21 (x2c1 : Nat) (x3 : Int32)  : ∀ (n : Nat) (M : gM) (x4 : Int32) (x5 : Int32), offW [34, 51, 52, 53, 54, 55, 56, 57, 58, 59, 60, 61] M (f_X1_thingsOtherWithout_21 x2c1 x3  n M x4 x5).2 := by
  intro n
  induction n with
  | zero => intro M x4 x5; exact offR
  | succ n ih =>
    intro M x4 x5
    rw [f_X1_thingsOtherWithout_21]
    refine offI2 ?_ ?_
    · exact offR
    · refine offZ2 (offR.tr ((o_X1_holdersOn M x5 9999).mono (by decide))) (fun z4 oz4 => ?_)
      refine offB2 (oz4.wI (by decide)) (fun M5 oM5 => ?_)
      refine offZ2 (oM5.tr ((o_X1_holdersOn M5 x5 9999).mono (by decide))) (fun z7 oz7 => ?_)
      refine offI2 ?_ ?_
      · exact oz7.tr (o_X1_thingsOtherWithout_70 z7.2 x2c1 x3 x5 x4 0 (f_X1_thingsOtherWithout_21 x2c1 x3 n) ih)
      · exact oz7.tr (o_X1_thingsOtherWithout_70 z7.2 x2c1 x3 x5 x4 1 (f_X1_thingsOtherWithout_21 x2c1 x3 n) ih)
set_option maxRecDepth 100000 in
set_option maxHeartbeats 4000000 in
theorem t_X1_thingsOtherWithout_21 {E : gE} {K : Int32 × gM → Prop} {Q : Option Value → gM → Prop} (hK : ∀ z : Int32 × gM, K z → Q (some (.int z.1)) z.2) (x2c1 : Nat) (x3 : Int32) (hx2c1 : x2c1 < 12)  : ∀ (n : Nat) (M : gM) (x4 : Int32) (x5 : Int32) , s_X1_thingsOtherWithout_21 x2c1 x3  n M x4 x5 → K (f_X1_thingsOtherWithout_21 x2c1 x3  n M x4 x5) → gG E RX1 cX1_thingsOtherWithout 7 (some .int) (rm 6) 21 [(0, .ref (gla E 220)), (2, .ref (gla E (paC 0 x2c1))), (3, .int x3), (4, .int x4), (5, .int x5)] [] M Q := by
  intro n
  induction n with
  | zero => intro M x4 x5 hs hQ; exact (hs : False).elim
  | succ n ih =>
    intro M x4 x5 hs hQ
    rw [s_X1_thingsOtherWithout_21] at hs
    rw [f_X1_thingsOtherWithout_21] at hQ
    refine g_iload 4 dX1_thingsOtherWithout_21 rfl ?_
    refine g_aload_n 0 dX1_thingsOtherWithout_23 rfl ?_
    refine g_getR 220 (rgC 0) fd_X1_19 dF_Es rfl rfl dX1_thingsOtherWithout_24 ?_
    refine g_getI (rgC 0) fd_X1_125 (dF_Rg lt02) rfl dX1_thingsOtherWithout_27 ?_
    refine g_icmp_ge 84 dX1_thingsOtherWithout_30 (by decide) (fun c2 => ?_) (fun c2 => ?_)
    · have hs := ifSt hs c2; have hQ := ifQt hQ c2
      refine g_iload 3 dX1_thingsOtherWithout_84 rfl ?_
      exact g_iret rfl dX1_thingsOtherWithout_86 (hK _ hQ)
    · have hs := ifSf hs c2; have hQ := ifQf hQ c2
      refine g_aload_n 0 dX1_thingsOtherWithout_33 rfl ?_
      refine g_iload 4 dX1_thingsOtherWithout_34 rfl ?_
      refine g_sipush (v := 9999) dX1_thingsOtherWithout_36 (by decide) ?_
      have h3 := hs.1; have hs := hs.2
      refine g_callV (As := [.int x5, .int 9999]) (st := []) 220 (c_X1_holdersOn E M x5 9999 h3) mt_X1_holdersOn ml_X1_145 dF_Es rfl rfl sg_X1_holdersOn rfl (by decide) (Nat.le_of_ble_eq_true rfl) dX1_thingsOtherWithout_39 ?_
      rintro _ _ ⟨rfl, rfl⟩
      obtain ⟨z4, hz4⟩ : ∃ z, z = f_X1_holdersOn M x5 9999 := ⟨_, rfl⟩
      rw [← hz4]
      have hQ := bndQ hQ z4 hz4; have hs := bndS hs z4 hz4
      refine g_istore _ dX1_thingsOtherWithout_42 (by decide) rfl ?_
      refine g_aload_n 2 dX1_thingsOtherWithout_44 rfl ?_
      refine g_iconst (v := 1) dX1_thingsOtherWithout_45 (by decide) ?_
      refine g_putZ (paC 0 x2c1) fd_X1_137 (Or.inr rfl) (dF_Pa lt02 hx2c1) rfl dX1_thingsOtherWithout_46 (fun M5 hM5 => ?_)
      have hQ := bndQ hQ M5 hM5; have hs := bndS hs M5 hM5
      refine g_iload 4 dX1_thingsOtherWithout_49 rfl ?_
      refine g_aload_n 1 dX1_thingsOtherWithout_51 rfl ?_
      refine g_iload 5 dX1_thingsOtherWithout_52 rfl ?_
      refine g_sipush (v := 9999) dX1_thingsOtherWithout_54 (by decide) ?_
      have h6 := hs.1; have hs := hs.2
      refine g_callV (As := [.int x5, .int 9999]) (st := [.int x4]) 220 (c_X1_holdersOn E M5 x5 9999 h6) mt_X1_holdersOn ml_X1_145 dF_Es rfl rfl sg_X1_holdersOn rfl (by decide) (Nat.le_of_ble_eq_true rfl) dX1_thingsOtherWithout_57 ?_
      rintro _ _ ⟨rfl, rfl⟩
      obtain ⟨z7, hz7⟩ : ∃ z, z = f_X1_holdersOn M5 x5 9999 := ⟨_, rfl⟩
      rw [← hz7]
      have hQ := bndQ hQ z7 hz7; have hs := bndS hs z7 hz7
      refine g_iload 0 dX1_thingsOtherWithout_60 rfl ?_
      refine g_icmp_eq 69 dX1_thingsOtherWithout_62 (by decide) (fun c8 => ?_) (fun c8 => ?_)
      · have hs := ifSt hs c8; have hQ := ifQt hQ c8
        refine g_iconst (v := 0) dX1_thingsOtherWithout_69 (by decide) ?_
        refine g_sub [1, 2, 3, 5] _ rfl ?_
        exact t_X1_thingsOtherWithout_70 hK z7.2 x2c1 x3 x5 x4 0 hx2c1 (f_X1_thingsOtherWithout_21 x2c1 x3 n) (s_X1_thingsOtherWithout_21 x2c1 x3 n) ih hs hQ
      · have hs := ifSf hs c8; have hQ := ifQf hQ c8
        refine g_iconst (v := 1) dX1_thingsOtherWithout_65 (by decide) ?_
        refine g_goto 70 dX1_thingsOtherWithout_66 (by decide) ?_
        refine g_sub [1, 2, 3, 5] _ rfl ?_
        exact t_X1_thingsOtherWithout_70 hK z7.2 x2c1 x3 x5 x4 1 hx2c1 (f_X1_thingsOtherWithout_21 x2c1 x3 n) (s_X1_thingsOtherWithout_21 x2c1 x3 n) ih hs hQ
def f_X1_thingsOtherWithout (M : gM) (x1 : Int32) : Int32 × gM :=
  f_X1_thingsOtherWithout_21 (nn x1) (rdI M 34 0 (nn x1) 0) FU M 0 0
def s_X1_thingsOtherWithout (M : gM) (x1 : Int32) : Prop :=
  (vp_in x1 12) ∧
  (s_X1_thingsOtherWithout_21 (nn x1) (rdI M 34 0 (nn x1) 0) FU M 0 0)
theorem o_X1_thingsOtherWithout (M : gM) (x1 : Int32) : offW [34, 51, 52, 53, 54, 55, 56, 57, 58, 59, 60, 61] M (f_X1_thingsOtherWithout M x1).2 := by
  rw [f_X1_thingsOtherWithout]
  exact (o_X1_thingsOtherWithout_21 (nn x1) (rdI M 34 0 (nn x1) 0) FU M 0 0)
set_option maxRecDepth 100000 in
set_option maxHeartbeats 4000000 in
theorem t_X1_thingsOtherWithout {E : gE} {K : Int32 × gM → Prop} {Q : Option Value → gM → Prop} (hK : ∀ z : Int32 × gM, K z → Q (some (.int z.1)) z.2) (M : gM) (x1 : Int32)  (hs : s_X1_thingsOtherWithout M x1) (hQ : K (f_X1_thingsOtherWithout M x1)) : gG E RX1 cX1_thingsOtherWithout 7 (some .int) (rm 6) 0 [(0, .ref (gla E 220)), (1, .int x1)] [] M Q := by
  rw [s_X1_thingsOtherWithout] at hs
  rw [f_X1_thingsOtherWithout] at hQ
  refine g_aload_n 0 dX1_thingsOtherWithout_0 rfl ?_
  refine g_getR 220 (rgC 0) fd_X1_19 dF_Es rfl rfl dX1_thingsOtherWithout_1 ?_
  refine g_getR (rgC 0) (rgC 0 + 4) fd_X1_133 (dF_Rg lt02) rfl rfl dX1_thingsOtherWithout_4 ?_
  refine g_iload_n 1 dX1_thingsOtherWithout_7 rfl ?_
  have h1 := hs.1; have hs := hs.2
  refine g_aald (rgC 0 + 4) (paC 0 (nn x1)) rfl (dF_Rg_papers lt02) h1 (aj_Pa _ _) dX1_thingsOtherWithout_8 ?_
  refine g_astore_n _ dX1_thingsOtherWithout_9 (by decide) rfl ?_
  refine g_aload_n 0 dX1_thingsOtherWithout_10 rfl ?_
  refine g_getI (paC 0 (nn x1)) fd_X1_137 (dF_Pa lt02 (vpL h1)) rfl dX1_thingsOtherWithout_11 ?_
  refine g_istore_n _ dX1_thingsOtherWithout_14 (by decide) rfl ?_
  refine g_iconst (v := 0) dX1_thingsOtherWithout_15 (by decide) ?_
  refine g_istore _ dX1_thingsOtherWithout_16 (by decide) rfl ?_
  refine g_iconst (v := 0) dX1_thingsOtherWithout_18 (by decide) ?_
  refine g_istore _ dX1_thingsOtherWithout_19 (by decide) rfl ?_
  refine g_sub [4, 3, 2, 1, 0] _ rfl ?_
  exact t_X1_thingsOtherWithout_21 hK (nn x1) (rdI M 34 0 (nn x1) 0) (vpL h1) FU M 0 0 hs hQ
theorem c_X1_thingsOtherWithout (E : gE) (M : gM) (x1 : Int32) (hs : s_X1_thingsOtherWithout M x1) : gC E yX1_thingsOtherWithout cX1_thingsOtherWithout 7 (some .int) (rm 6) [.ref (gla E 220), .int x1] M (fun o N => o = some (.int (f_X1_thingsOtherWithout M x1).1) ∧ N = (f_X1_thingsOtherWithout M x1).2) :=
  gC.of (by decide +kernel) (Nat.le_of_ble_eq_true rfl) rfl (t_X1_thingsOtherWithout (K := fun z => z = f_X1_thingsOtherWithout M x1) (fun z hz => by rw [hz]; exact ⟨rfl, rfl⟩) M x1 hs rfl)
def f_X1_holdersIfDying (M : gM) (x1 : Int32) (x2 : Int32) (x3 : Int32) : Int32 × gM :=
  bnd (wrI M 20 0 (nn x1) 0 x2) fun M2 =>
  (bnd (f_X1_holdersOn M2 x3 9999) fun z4 =>
  (bnd (wrI z4.2 20 0 (nn x1) 0 (rdI M 20 0 (nn x1) 0)) fun M5 =>
  ((z4.1, M5))))
def s_X1_holdersIfDying (M : gM) (x1 : Int32) (x2 : Int32) (x3 : Int32) : Prop :=
  (vp_in x1 10) ∧
  (bndP (wrI M 20 0 (nn x1) 0 x2) fun M2 =>
  ((s_X1_holdersOn M2 x3 9999) ∧
  (bndP (f_X1_holdersOn M2 x3 9999) fun z4 =>
  (bndP (wrI z4.2 20 0 (nn x1) 0 (rdI M 20 0 (nn x1) 0)) fun M5 =>
  (True)))))
theorem o_X1_holdersIfDying (M : gM) (x1 : Int32) (x2 : Int32) (x3 : Int32) : offW [20, 51, 52, 53, 54, 55, 56, 57, 58, 59, 60, 61] M (f_X1_holdersIfDying M x1 x2 x3).2 := by
  rw [f_X1_holdersIfDying]
  refine offB2 (offR.wI (by decide)) (fun M2 oM2 => ?_)
  refine offZ2 (oM2.tr ((o_X1_holdersOn M2 x3 9999).mono (by decide))) (fun z4 oz4 => ?_)
  refine offB2 (oz4.wI (by decide)) (fun M5 oM5 => ?_)
  exact oM5
set_option maxRecDepth 100000 in
set_option maxHeartbeats 4000000 in
theorem t_X1_holdersIfDying {E : gE} {K : Int32 × gM → Prop} {Q : Option Value → gM → Prop} (hK : ∀ z : Int32 × gM, K z → Q (some (.int z.1)) z.2) (M : gM) (x1 : Int32) (x2 : Int32) (x3 : Int32)  (hs : s_X1_holdersIfDying M x1 x2 x3) (hQ : K (f_X1_holdersIfDying M x1 x2 x3)) : gG E RX1 cX1_holdersIfDying 7 (some .int) (rm 6) 0 [(0, .ref (gla E 220)), (1, .int x1), (2, .int x2), (3, .int x3)] [] M Q := by
  rw [s_X1_holdersIfDying] at hs
  rw [f_X1_holdersIfDying] at hQ
  refine g_aload_n 0 dX1_holdersIfDying_0 rfl ?_
  refine g_getR 220 (rgC 0) fd_X1_19 dF_Es rfl rfl dX1_holdersIfDying_1 ?_
  refine g_getR (rgC 0) (rgC 0 + 2) fd_X1_71 (dF_Rg lt02) rfl rfl dX1_holdersIfDying_4 ?_
  refine g_iload_n 1 dX1_holdersIfDying_7 rfl ?_
  have h1 := hs.1; have hs := hs.2
  refine g_aald (rgC 0 + 2) (peC 0 (nn x1)) rfl (dF_Rg_persons lt02) h1 (aj_Pe _ _) dX1_holdersIfDying_8 ?_
  refine g_astore _ dX1_holdersIfDying_9 (by decide) rfl ?_
  refine g_aload 0 dX1_holdersIfDying_11 rfl ?_
  refine g_getI (peC 0 (nn x1)) fd_X1_75 (dF_Pe lt02 (vpL h1)) rfl dX1_holdersIfDying_13 ?_
  refine g_istore _ dX1_holdersIfDying_16 (by decide) rfl ?_
  refine g_aload 1 dX1_holdersIfDying_18 rfl ?_
  refine g_iload_n 4 dX1_holdersIfDying_20 rfl ?_
  refine g_putI (peC 0 (nn x1)) fd_X1_75 (dF_Pe lt02 (vpL h1)) rfl dX1_holdersIfDying_21 (fun M2 hM2 => ?_)
  have hQ := bndQ hQ M2 hM2; have hs := bndS hs M2 hM2
  refine g_aload_n 2 dX1_holdersIfDying_24 rfl ?_
  refine g_iload_n 5 dX1_holdersIfDying_25 rfl ?_
  refine g_sipush (v := 9999) dX1_holdersIfDying_26 (by decide) ?_
  have h3 := hs.1; have hs := hs.2
  refine g_callV (As := [.int x3, .int 9999]) (st := []) 220 (c_X1_holdersOn E M2 x3 9999 h3) mt_X1_holdersOn ml_X1_145 dF_Es rfl rfl sg_X1_holdersOn rfl (by decide) (Nat.le_of_ble_eq_true rfl) dX1_holdersIfDying_29 ?_
  rintro _ _ ⟨rfl, rfl⟩
  obtain ⟨z4, hz4⟩ : ∃ z, z = f_X1_holdersOn M2 x3 9999 := ⟨_, rfl⟩
  rw [← hz4]
  have hQ := bndQ hQ z4 hz4; have hs := bndS hs z4 hz4
  refine g_istore _ dX1_holdersIfDying_32 (by decide) rfl ?_
  refine g_aload 2 dX1_holdersIfDying_34 rfl ?_
  refine g_iload 1 dX1_holdersIfDying_36 rfl ?_
  refine g_putI (peC 0 (nn x1)) fd_X1_75 (dF_Pe lt02 (vpL h1)) rfl dX1_holdersIfDying_38 (fun M5 hM5 => ?_)
  have hQ := bndQ hQ M5 hM5; have hs := bndS hs M5 hM5
  refine g_iload 0 dX1_holdersIfDying_41 rfl ?_
  exact g_iret rfl dX1_holdersIfDying_43 (hK _ hQ)
theorem c_X1_holdersIfDying (E : gE) (M : gM) (x1 : Int32) (x2 : Int32) (x3 : Int32) (hs : s_X1_holdersIfDying M x1 x2 x3) : gC E yX1_holdersIfDying cX1_holdersIfDying 7 (some .int) (rm 6) [.ref (gla E 220), .int x1, .int x2, .int x3] M (fun o N => o = some (.int (f_X1_holdersIfDying M x1 x2 x3).1) ∧ N = (f_X1_holdersIfDying M x1 x2 x3).2) :=
  gC.of (by decide +kernel) (Nat.le_of_ble_eq_true rfl) rfl (t_X1_holdersIfDying (K := fun z => z = f_X1_holdersIfDying M x1 x2 x3) (fun z hz => by rw [hz]; exact ⟨rfl, rfl⟩) M x1 x2 x3 hs rfl)
end
