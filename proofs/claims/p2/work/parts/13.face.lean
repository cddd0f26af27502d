set_option linter.all false
noncomputable section
def f_X12_putNumber_3 (x1 : Int32)  : Nat → gM → Int32 → gM
  | 0, M, _ => M
  | n + 1, M, x2 =>
    if x2 < 0 then
      (M)
    else
      (if 1200 ≤ (rdI M 0 0 0 0) then
        (M)
      else
        (bnd (wrI M 3 0 0 (nn (rdI M 0 0 0 0)) (nB (nB (iush x1 x2)))) fun M4 =>
        (bnd (wrI M4 0 0 0 0 ((rdI M4 0 0 0 0) + 1)) fun M5 =>
        (f_X12_putNumber_3 x1 n M5 (x2 + (-8))))))
def s_X12_putNumber_3 (x1 : Int32)  : Nat → gM → Int32 → Prop
  | 0, _, _ => False
  | n + 1, M, x2 =>
    if x2 < 0 then
      (True)
    else
      (if 1200 ≤ (rdI M 0 0 0 0) then
        (True)
      else
        ((vp_in (rdI M 0 0 0 0) 1200) ∧
        (bndP (wrI M 3 0 0 (nn (rdI M 0 0 0 0)) (nB (nB (iush x1 x2)))) fun M4 =>
        (bndP (wrI M4 0 0 0 0 ((rdI M4 0 0 0 0) + 1)) fun M5 =>
        (s_X12_putNumber_3 x1 n M5 (x2 + (-8)))))))
theorem o_X12_putNumber_3 (x1 : Int32)  : ∀ (n : Nat) (M : gM) (x2 : Int32), offW [0, 3] M (f_X12_putNumber_3 x1  n M x2) := by
  intro n
  induction n with
  | zero => intro M x2; exact offR
  | succ n ih =>
    intro M x2
    rw [f_X12_putNumber_3]
    refine offI ?_ ?_
    · exact offR
    · refine offI ?_ ?_
      · exact offR
      · refine offB (offR.wI (by decide)) (fun M4 oM4 => ?_)
        refine offB (oM4.wI (by decide)) (fun M5 oM5 => ?_)
        exact oM5.tr (ih M5 (x2 + (-8)))
set_option maxRecDepth 100000 in
set_option maxHeartbeats 4000000 in
theorem t_X12_putNumber_3 {E : gE} {K : gM → Prop} {Q : Option Value → gM → Prop} (hK : ∀ z : gM, K z → Q none z) (x1 : Int32)   : ∀ (n : Nat) (M : gM) (x2 : Int32) , s_X12_putNumber_3 x1  n M x2 → K (f_X12_putNumber_3 x1  n M x2) → gG E RX12 cX12_putNumber 3 none (rm 0) 3 [(0, .ref (gla E 0)), (1, .int x1), (2, .int x2)] [] M Q := by
  intro n
  induction n with
  | zero => intro M x2 hs hQ; exact (hs : False).elim
  | succ n ih =>
    intro M x2 hs hQ
    rw [s_X12_putNumber_3] at hs
    rw [f_X12_putNumber_3] at hQ
    refine g_iload_n 2 dX12_putNumber_3 rfl ?_
    refine g_if_lt 46 dX12_putNumber_4 (by decide) (fun c1 => ?_) (fun c1 => ?_)
    · have hs := ifSt hs c1; have hQ := ifQt hQ c1
      exact g_vret rfl dX12_putNumber_46 (hK _ hQ)
    · have hs := ifSf hs c1; have hQ := ifQf hQ c1
      refine g_aload_n 0 dX12_putNumber_7 rfl ?_
      refine g_getI 0 fd_X12_13 dF_Wd rfl dX12_putNumber_8 ?_
      refine g_sipush (v := 1200) dX12_putNumber_11 (by decide) ?_
      refine g_icmp_ge 46 dX12_putNumber_14 (by decide) (fun c2 => ?_) (fun c2 => ?_)
      · have hs := ifSt hs c2; have hQ := ifQt hQ c2
        exact g_vret rfl dX12_putNumber_46 (hK _ hQ)
      · have hs := ifSf hs c2; have hQ := ifQf hQ c2
        refine g_aload_n 0 dX12_putNumber_17 rfl ?_
        refine g_getR 0 1 fd_X12_9 dF_Wd rfl rfl dX12_putNumber_18 ?_
        refine g_aload_n 0 dX12_putNumber_21 rfl ?_
        refine g_getI 0 fd_X12_13 dF_Wd rfl dX12_putNumber_22 ?_
        refine g_iload_n 1 dX12_putNumber_25 rfl ?_
        refine g_iload_n 2 dX12_putNumber_26 rfl ?_
        refine g_iushr dX12_putNumber_27 ?_
        refine g_i2b dX12_putNumber_28 ?_
        have h3 := hs.1; have hs := hs.2
        refine g_bast 1 dF_tape h3 dX12_putNumber_29 (fun M4 hM4 => ?_)
        have hQ := bndQ hQ M4 hM4; have hs := bndS hs M4 hM4
        refine g_aload_n 0 dX12_putNumber_30 rfl ?_
        refine g_dup dX12_putNumber_31 rfl ?_
        refine g_getI 0 fd_X12_13 dF_Wd rfl dX12_putNumber_32 ?_
        refine g_iconst (v := 1) dX12_putNumber_35 (by decide) ?_
        refine g_iadd dX12_putNumber_36 ?_
        refine g_putI 0 fd_X12_13 dF_Wd rfl dX12_putNumber_37 (fun M5 hM5 => ?_)
        have hQ := bndQ hQ M5 hM5; have hs := bndS hs M5 hM5
        refine g_iinc 2 (v := x2 + (-8)) _ dX12_putNumber_40 rfl rfl (by decide) rfl ?_
        refine g_goto 3 dX12_putNumber_43 (by decide) ?_
        refine g_sub [1, 2, 0] _ rfl ?_
        exact ih M5 (x2 + (-8)) hs hQ
def f_X12_putNumber (M : gM) (x1 : Int32) : gM :=
  f_X12_putNumber_3 x1 FU M 24
def s_X12_putNumber (M : gM) (x1 : Int32) : Prop :=
  s_X12_putNumber_3 x1 FU M 24
theorem o_X12_putNumber (M : gM) (x1 : Int32) : offW [0, 3] M (f_X12_putNumber M x1) := by
  rw [f_X12_putNumber]
  exact (o_X12_putNumber_3 x1 FU M 24)
set_option maxRecDepth 100000 in
set_option maxHeartbeats 4000000 in
theorem t_X12_putNumber {E : gE} {K : gM → Prop} {Q : Option Value → gM → Prop} (hK : ∀ z : gM, K z → Q none z) (M : gM) (x1 : Int32)  (hs : s_X12_putNumber M x1) (hQ : K (f_X12_putNumber M x1)) : gG E RX12 cX12_putNumber 3 none (rm 0) 0 [(0, .ref (gla E 0)), (1, .int x1)] [] M Q := by
  rw [s_X12_putNumber] at hs
  rw [f_X12_putNumber] at hQ
  refine g_bipush (v := 24) dX12_putNumber_0 (by decide) ?_
  refine g_istore_n _ dX12_putNumber_2 (by decide) rfl ?_
  refine g_sub [1, 2, 0] _ rfl ?_
  exact t_X12_putNumber_3 hK x1 FU M 24 hs hQ
theorem c_X12_putNumber (E : gE) (M : gM) (x1 : Int32) (hs : s_X12_putNumber M x1) : gC E yX12_putNumber cX12_putNumber 3 none (rm 0) [.ref (gla E 0), .int x1] M (fun o N => o = none ∧ N = f_X12_putNumber M x1) :=
  gC.of (by decide +kernel) (Nat.le_of_ble_eq_true rfl) rfl (t_X12_putNumber (K := fun z => z = f_X12_putNumber M x1) (fun z hz => ⟨rfl, hz⟩) M x1 hs rfl)
def f_X12_fault (M : gM) (x1 : Int32) : Int32 :=
  if x1 = 0 then
    (rdI M 1 0 0 0)
  else
    (if x1 = 1 then
      (rdI M 2 0 0 0)
    else
      ((-1)))
def s_X12_fault (M : gM) (x1 : Int32) : Prop :=
  if x1 = 0 then
    (True)
  else
    (if x1 = 1 then
      (True)
    else
      (True))
set_option maxRecDepth 100000 in
set_option maxHeartbeats 4000000 in
theorem t_X12_fault {E : gE} {K : Int32 → Prop} {Q : Option Value → gM → Prop} {M : gM} (hK : ∀ z : Int32, K z → Q (some (.int z)) M)  (x1 : Int32)  (hs : s_X12_fault M x1) (hQ : K (f_X12_fault M x1)) : gG E RX12 cX12_fault 2 (some .int) (rm 0) 0 [(0, .ref (gla E 0)), (1, .int x1)] [] M Q := by
  rw [s_X12_fault] at hs
  rw [f_X12_fault] at hQ
  refine g_iload_n 1 dX12_fault_0 rfl ?_
  by_cases c1 : x1 = 0
  · have hs := ifSt hs c1; have hQ := ifQt hQ c1
    refine g_lsw 28 (k := 0) (z := 0) (off := 27) c1 dX12_fault_1 (by decide) (by decide) (by decide) (by decide) ?_
    refine g_aload_n 0 dX12_fault_28 rfl ?_
    refine g_getI 0 fd_X12_17 dF_Wd rfl dX12_fault_29 ?_
    exact g_iret rfl dX12_fault_32 (hK _ hQ)
  have hs := ifSf hs c1; have hQ := ifQf hQ c1
  by_cases c2 : x1 = 1
  · have hs := ifSt hs c2; have hQ := ifQt hQ c2
    refine g_lsw 33 (k := 1) (z := 1) (off := 32) c2 dX12_fault_1 (by decide) (by decide) (by decide) (by decide) ?_
    refine g_aload_n 0 dX12_fault_33 rfl ?_
    refine g_getI 0 fd_X12_20 dF_Wd rfl dX12_fault_34 ?_
    exact g_iret rfl dX12_fault_37 (hK _ hQ)
  have hs := ifSf hs c2; have hQ := ifQf hQ c2
  refine g_lsd 38 dX12_fault_1 (by decide) (lso_cons (ne_ti c1 (by decide)) (lso_cons (ne_ti c2 (by decide)) lso_nil)) (by decide) ?_
  refine g_iconst (v := (-1)) dX12_fault_38 (by decide) ?_
  exact g_iret rfl dX12_fault_39 (hK _ hQ)
theorem c_X12_fault (E : gE) (M : gM) (x1 : Int32) (hs : s_X12_fault M x1) : gC E yX12_fault cX12_fault 2 (some .int) (rm 0) [.ref (gla E 0), .int x1] M (fun o N => o = some (.int (f_X12_fault M x1)) ∧ N = M) :=
  gC.of (by decide +kernel) (Nat.le_of_ble_eq_true rfl) rfl (t_X12_fault (K := fun z => z = f_X12_fault M x1) (fun z hz => by rw [hz]; exact ⟨rfl, rfl⟩) x1 hs rfl)
def f_X12_bit (M : gM) (x0 : Int32) : Int32 :=
  if x0 = 0 then
    (0)
  else
    (1)
def s_X12_bit (M : gM) (x0 : Int32) : Prop :=
  if x0 = 0 then
    (True)
  else
    (True)
set_option maxRecDepth 100000 in
set_option maxHeartbeats 4000000 in
theorem t_X12_bit {E : gE} {K : Int32 → Prop} {Q : Option Value → gM → Prop} {M : gM} (hK : ∀ z : Int32, K z → Q (some (.int z)) M)  (x0 : Int32)  (hs : s_X12_bit M x0) (hQ : K (f_X12_bit M x0)) : gG E RX12 cX12_bit 1 (some .int) (rm 0) 0 [(0, .int x0)] [] M Q := by
  rw [s_X12_bit] at hs
  rw [f_X12_bit] at hQ
  refine g_iload_n 0 dX12_bit_0 rfl ?_
  refine g_if_eq 8 dX12_bit_1 (by decide) (fun c1 => ?_) (fun c1 => ?_)
  · have hs := ifSt hs c1; have hQ := ifQt hQ c1
    refine g_iconst (v := 0) dX12_bit_8 (by decide) ?_
    exact g_iret rfl dX12_bit_9 (hK _ hQ)
  · have hs := ifSf hs c1; have hQ := ifQf hQ c1
    refine g_iconst (v := 1) dX12_bit_4 (by decide) ?_
    refine g_goto 9 dX12_bit_5 (by decide) ?_
    exact g_iret rfl dX12_bit_9 (hK _ hQ)
theorem c_X12_bit (E : gE) (M : gM) (x0 : Int32) (hs : s_X12_bit M x0) : gC E yX12_bit cX12_bit 1 (some .int) (rm 0) [.int x0] M (fun o N => o = some (.int (f_X12_bit M x0)) ∧ N = M) :=
  gC.of (by decide +kernel) (Nat.le_of_ble_eq_true rfl) rfl (t_X12_bit (K := fun z => z = f_X12_bit M x0) (fun z hz => by rw [hz]; exact ⟨rfl, rfl⟩) x0 hs rfl)
def f_X12_orMinusTwo (M : gM) (x0 : Int32) : Int32 :=
  if 0 ≤ x0 then
    (x0)
  else
    ((-2))
def s_X12_orMinusTwo (M : gM) (x0 : Int32) : Prop :=
  if 0 ≤ x0 then
    (True)
  else
    (True)
set_option maxRecDepth 100000 in
set_option maxHeartbeats 4000000 in
theorem t_X12_orMinusTwo {E : gE} {K : Int32 → Prop} {Q : Option Value → gM → Prop} {M : gM} (hK : ∀ z : Int32, K z → Q (some (.int z)) M)  (x0 : Int32)  (hs : s_X12_orMinusTwo M x0) (hQ : K (f_X12_orMinusTwo M x0)) : gG E RX12 cX12_orMinusTwo 1 (some .int) (rm 0) 0 [(0, .int x0)] [] M Q := by
  rw [s_X12_orMinusTwo] at hs
  rw [f_X12_orMinusTwo] at hQ
  refine g_iload_n 0 dX12_orMinusTwo_0 rfl ?_
  refine g_if_ge 9 dX12_orMinusTwo_1 (by decide) (fun c1 => ?_) (fun c1 => ?_)
  · have hs := ifSt hs c1; have hQ := ifQt hQ c1
    refine g_iload_n 0 dX12_orMinusTwo_9 rfl ?_
    exact g_iret rfl dX12_orMinusTwo_10 (hK _ hQ)
  · have hs := ifSf hs c1; have hQ := ifQf hQ c1
    refine g_bipush (v := (-2)) dX12_orMinusTwo_4 (by decide) ?_
    refine g_goto 10 dX12_orMinusTwo_6 (by decide) ?_
    exact g_iret rfl dX12_orMinusTwo_10 (hK _ hQ)
theorem c_X12_orMinusTwo (E : gE) (M : gM) (x0 : Int32) (hs : s_X12_orMinusTwo M x0) : gC E yX12_orMinusTwo cX12_orMinusTwo 1 (some .int) (rm 0) [.int x0] M (fun o N => o = some (.int (f_X12_orMinusTwo M x0)) ∧ N = M) :=
  gC.of (by decide +kernel) (Nat.le_of_ble_eq_true rfl) rfl (t_X12_orMinusTwo (K := fun z => z = f_X12_orMinusTwo M x0) (fun z hz => by rw [hz]; exact ⟨rfl, rfl⟩) x0 hs rfl)
def f_X12_isLand_13 (M : gM)  : Int32 :=
  0
def s_X12_isLand_13 (M : gM)  : Prop :=
  True
set_option maxRecDepth 100000 in
set_option maxHeartbeats 4000000 in
theorem t_X12_isLand_13 {E : gE} {K : Int32 → Prop} {Q : Option Value → gM → Prop} {M : gM} (hK : ∀ z : Int32, K z → Q (some (.int z)) M)    (hs : s_X12_isLand_13 M ) (hQ : K (f_X12_isLand_13 M )) : gG E RX12 cX12_isLand 1 (some .boolean) (rm 0) 13 [] [] M Q := by
  rw [s_X12_isLand_13] at hs
  rw [f_X12_isLand_13] at hQ
  refine g_iconst (v := 0) dX12_isLand_13 (by decide) ?_
  exact g_zret rfl (Or.inl rfl) dX12_isLand_14 (hK _ hQ)
def f_X12_isLand (M : gM) (x0 : Int32) : Int32 :=
  if x0 < 0 then
    (f_X12_isLand_13 M)
  else
    (if 2 ≤ x0 then
      (f_X12_isLand_13 M)
    else
      (1))
def s_X12_isLand (M : gM) (x0 : Int32) : Prop :=
  if x0 < 0 then
    (s_X12_isLand_13 M)
  else
    (if 2 ≤ x0 then
      (s_X12_isLand_13 M)
    else
      (True))
set_option maxRecDepth 100000 in
set_option maxHeartbeats 4000000 in
theorem t_X12_isLand {E : gE} {K : Int32 → Prop} {Q : Option Value → gM → Prop} {M : gM} (hK : ∀ z : Int32, K z → Q (some (.int z)) M)  (x0 : Int32)  (hs : s_X12_isLand M x0) (hQ : K (f_X12_isLand M x0)) : gG E RX12 cX12_isLand 1 (some .boolean) (rm 0) 0 [(0, .int x0)] [] M Q := by
  rw [s_X12_isLand] at hs
  rw [f_X12_isLand] at hQ
  refine g_iload_n 0 dX12_isLand_0 rfl ?_
  refine g_if_lt 13 dX12_isLand_1 (by decide) (fun c1 => ?_) (fun c1 => ?_)
  · have hs := ifSt hs c1; have hQ := ifQt hQ c1
    refine g_sub [] _ rfl ?_
    exact t_X12_isLand_13 hK hs hQ
  · have hs := ifSf hs c1; have hQ := ifQf hQ c1
    refine g_iload_n 0 dX12_isLand_4 rfl ?_
    refine g_iconst (v := 2) dX12_isLand_5 (by decide) ?_
    refine g_icmp_ge 13 dX12_isLand_6 (by decide) (fun c2 => ?_) (fun c2 => ?_)
    · have hs := ifSt hs c2; have hQ := ifQt hQ c2
      refine g_sub [] _ rfl ?_
      exact t_X12_isLand_13 hK hs hQ
    · have hs := ifSf hs c2; have hQ := ifQf hQ c2
      refine g_iconst (v := 1) dX12_isLand_9 (by decide) ?_
      refine g_goto 14 dX12_isLand_10 (by decide) ?_
      exact g_zret rfl (Or.inr rfl) dX12_isLand_14 (hK _ hQ)
theorem c_X12_isLand (E : gE) (M : gM) (x0 : Int32) (hs : s_X12_isLand M x0) : gC E yX12_isLand cX12_isLand 1 (some .boolean) (rm 0) [.int x0] M (fun o N => o = some (.int (f_X12_isLand M x0)) ∧ N = M) :=
  gC.of (by decide +kernel) (Nat.le_of_ble_eq_true rfl) rfl (t_X12_isLand (K := fun z => z = f_X12_isLand M x0) (fun z hz => by rw [hz]; exact ⟨rfl, rfl⟩) x0 hs rfl)
def f_X12_isDay_15 (M : gM)  : Int32 :=
  0
def s_X12_isDay_15 (M : gM)  : Prop :=
  True
set_option maxRecDepth 100000 in
set_option maxHeartbeats 4000000 in
theorem t_X12_isDay_15 {E : gE} {K : Int32 → Prop} {Q : Option Value → gM → Prop} {M : gM} (hK : ∀ z : Int32, K z → Q (some (.int z)) M)    (hs : s_X12_isDay_15 M ) (hQ : K (f_X12_isDay_15 M )) : gG E RX12 cX12_isDay 1 (some .boolean) (rm 0) 15 [] [] M Q := by
  rw [s_X12_isDay_15] at hs
  rw [f_X12_isDay_15] at hQ
  refine g_iconst (v := 0) dX12_isDay_15 (by decide) ?_
  exact g_zret rfl (Or.inl rfl) dX12_isDay_16 (hK _ hQ)
def f_X12_isDay (M : gM) (x0 : Int32) : Int32 :=
  if x0 < 0 then
    (f_X12_isDay_15 M)
  else
    (if 9999 < x0 then
      (f_X12_isDay_15 M)
    else
      (1))
def s_X12_isDay (M : gM) (x0 : Int32) : Prop :=
  if x0 < 0 then
    (s_X12_isDay_15 M)
  else
    (if 9999 < x0 then
      (s_X12_isDay_15 M)
    else
      (True))
set_option maxRecDepth 100000 in
set_option maxHeartbeats 4000000 in
theorem t_X12_isDay {E : gE} {K : Int32 → Prop} {Q : Option Value → gM → Prop} {M : gM} (hK : ∀ z : Int32, K z → Q (some (.int z)) M)  (x0 : Int32)  (hs : s_X12_isDay M x0) (hQ : K (f_X12_isDay M x0)) : gG E RX12 cX12_isDay 1 (some .boolean) (rm 0) 0 [(0, .int x0)] [] M Q := by
  rw [s_X12_isDay] at hs
  rw [f_X12_isDay] at hQ
  refine g_iload_n 0 dX12_isDay_0 rfl ?_
  refine g_if_lt 15 dX12_isDay_1 (by decide) (fun c1 => ?_) (fun c1 => ?_)
  · have hs := ifSt hs c1; have hQ := ifQt hQ c1
    refine g_sub [] _ rfl ?_
    exact t_X12_isDay_15 hK hs hQ
  · have hs := ifSf hs c1; have hQ := ifQf hQ c1
    refine g_iload_n 0 dX12_isDay_4 rfl ?_
    refine g_sipush (v := 9999) dX12_isDay_5 (by decide) ?_
    refine g_icmp_gt 15 dX12_isDay_8 (by decide) (fun c2 => ?_) (fun c2 => ?_)
    · have hs := ifSt hs c2; have hQ := ifQt hQ c2
      refine g_sub [] _ rfl ?_
      exact t_X12_isDay_15 hK hs hQ
    · have hs := ifSf hs c2; have hQ := ifQf hQ c2
      refine g_iconst (v := 1) dX12_isDay_11 (by decide) ?_
      refine g_goto 16 dX12_isDay_12 (by decide) ?_
      exact g_zret rfl (Or.inr rfl) dX12_isDay_16 (hK _ hQ)
theorem c_X12_isDay (E : gE) (M : gM) (x0 : Int32) (hs : s_X12_isDay M x0) : gC E yX12_isDay cX12_isDay 1 (some .boolean) (rm 0) [.int x0] M (fun o N => o = some (.int (f_X12_isDay M x0)) ∧ N = M) :=
  gC.of (by decide +kernel) (Nat.le_of_ble_eq_true rfl) rfl (t_X12_isDay (K := fun z => z = f_X12_isDay M x0) (fun z hz => by rw [hz]; exact ⟨rfl, rfl⟩) x0 hs rfl)
def f_X12_holder (M : gM) (x0 : Int32) : Int32 :=
  if x0 = (-1) then
    (10)
  else
    (x0)
def s_X12_holder (M : gM) (x0 : Int32) : Prop :=
  if x0 = (-1) then
    (True)
  else
    (True)
set_option maxRecDepth 100000 in
set_option maxHeartbeats 4000000 in
theorem t_X12_holder {E : gE} {K : Int32 → Prop} {Q : Option Value → gM → Prop} {M : gM} (hK : ∀ z : Int32, K z → Q (some (.int z)) M)  (x0 : Int32)  (hs : s_X12_holder M x0) (hQ : K (f_X12_holder M x0)) : gG E RX12 cX12_holder 1 (some .int) (rm 0) 0 [(0, .int x0)] [] M Q := by
  rw [s_X12_holder] at hs
  rw [f_X12_holder] at hQ
  refine g_iload_n 0 dX12_holder_0 rfl ?_
  refine g_iconst (v := (-1)) dX12_holder_1 (by decide) ?_
  refine g_icmp_ne 10 dX12_holder_2 (by decide) (fun c1 => ?_) (fun c1 => ?_)
  · have hs := ifSf hs c1; have hQ := ifQf hQ c1
    refine g_iload_n 0 dX12_holder_10 rfl ?_
    exact g_iret rfl dX12_holder_11 (hK _ hQ)
  · have hs := ifSt hs c1; have hQ := ifQt hQ c1
    refine g_bipush (v := 10) dX12_holder_5 (by decide) ?_
    refine g_goto 11 dX12_holder_7 (by decide) ?_
    exact g_iret rfl dX12_holder_11 (hK _ hQ)
theorem c_X12_holder (E : gE) (M : gM) (x0 : Int32) (hs : s_X12_holder M x0) : gC E yX12_holder cX12_holder 1 (some .int) (rm 0) [.int x0] M (fun o N => o = some (.int (f_X12_holder M x0)) ∧ N = M) :=
  gC.of (by decide +kernel) (Nat.le_of_ble_eq_true rfl) rfl (t_X12_holder (K := fun z => z = f_X12_holder M x0) (fun z hz => by rw [hz]; exact ⟨rfl, rfl⟩) x0 hs rfl)
def f_X12_greatestDivisor_9 (M : gM)  : Nat → Int64 → Int64 → Int32 → Int64
  | 0, _, _, _ => 0
  | n + 1, x4, x6, x8 =>
    if 100 ≤ x8 then
      (x4)
    else
      (if (lg_cmp x6 0) ≤ 0 then
        (x4)
      else
        (f_X12_greatestDivisor_9 M n x6 (x4 - x4 / x6 * x6) (x8 + 1)))
def s_X12_greatestDivisor_9 (M : gM)  : Nat → Int64 → Int64 → Int32 → Prop
  | 0, _, _, _ => False
  | n + 1, x4, x6, x8 =>
    if 100 ≤ x8 then
      (True)
    else
      (if (lg_cmp x6 0) ≤ 0 then
        (True)
      else
        ((¬ x6 = 0) ∧
        (s_X12_greatestDivisor_9 M n x6 (x4 - x4 / x6 * x6) (x8 + 1))))
set_option maxRecDepth 100000 in
set_option maxHeartbeats 4000000 in
theorem t_X12_greatestDivisor_9 {E : gE} {K : Int64 → Prop} {Q : Option Value → gM → Prop} {M : gM} (hK : ∀ z : Int64, K z → Q (some (.long z)) M)    : ∀ (n : Nat) (x4 : Int64) (x6 : Int64) (x8 : Int32) , s_X12_greatestDivisor_9 M  n x4 x6 x8 → K (f_X12_greatestDivisor_9 M  n x4 x6 x8) → gG E RX12 cX12_greatestDivisor 11 (some .long) (rm 0) 9 [(4, .long x4), (6, .long x6), (8, .int x8)] [] M Q := by
  intro n
  induction n with
  | zero => intro x4 x6 x8 hs hQ; exact (hs : False).elim
  | succ n ih =>
    intro x4 x6 x8 hs hQ
    rw [s_X12_greatestDivisor_9] at hs
    rw [f_X12_greatestDivisor_9] at hQ
    refine g_iload 2 dX12_greatestDivisor_9 rfl ?_
    refine g_bipush (v := 100) dX12_greatestDivisor_11 (by decide) ?_
    refine g_icmp_ge 44 dX12_greatestDivisor_13 (by decide) (fun c1 => ?_) (fun c1 => ?_)
    · have hs := ifSt hs c1; have hQ := ifQt hQ c1
      refine g_lload 0 dX12_greatestDivisor_44 rfl ?_
      exact g_lret rfl dX12_greatestDivisor_46 (hK _ hQ)
    · have hs := ifSf hs c1; have hQ := ifQf hQ c1
      refine g_lload 1 dX12_greatestDivisor_16 rfl ?_
      refine g_lconst (v := 0) dX12_greatestDivisor_18 (by decide) ?_
      refine g_lcmp dX12_greatestDivisor_19 ?_
      refine g_if_le 44 dX12_greatestDivisor_20 (by decide) (fun c2 => ?_) (fun c2 => ?_)
      · have hs := ifSt hs c2; have hQ := ifQt hQ c2
        refine g_lload 0 dX12_greatestDivisor_44 rfl ?_
        exact g_lret rfl dX12_greatestDivisor_46 (hK _ hQ)
      · have hs := ifSf hs c2; have hQ := ifQf hQ c2
        refine g_lload 0 dX12_greatestDivisor_23 rfl ?_
        refine g_lload 1 dX12_greatestDivisor_25 rfl ?_
        have h3 := hs.1; have hs := hs.2
        refine g_lrem dX12_greatestDivisor_27 h3 ?_
        refine g_lstore _ dX12_greatestDivisor_28 (by decide) rfl ?_
        refine g_lload 2 dX12_greatestDivisor_30 rfl ?_
        refine g_lstore _ dX12_greatestDivisor_32 (by decide) rfl ?_
        refine g_lload 1 dX12_greatestDivisor_34 rfl ?_
        refine g_lstore _ dX12_greatestDivisor_36 (by decide) rfl ?_
        refine g_iinc 3 (v := x8 + 1) _ dX12_greatestDivisor_38 rfl rfl (by decide) rfl ?_
        refine g_goto 9 dX12_greatestDivisor_41 (by decide) ?_
        refine g_sub [2, 1, 0] _ rfl ?_
        exact ih x6 (x4 - x4 / x6 * x6) (x8 + 1) hs hQ
def f_X12_greatestDivisor (M : gM) (x0 : Int64) (x2 : Int64) : Int64 :=
  f_X12_greatestDivisor_9 M FU x0 x2 0
def s_X12_greatestDivisor (M : gM) (x0 : Int64) (x2 : Int64) : Prop :=
  s_X12_greatestDivisor_9 M FU x0 x2 0
set_option maxRecDepth 100000 in
set_option maxHeartbeats 4000000 in
theorem t_X12_greatestDivisor {E : gE} {K : Int64 → Prop} {Q : Option Value → gM → Prop} {M : gM} (hK : ∀ z : Int64, K z → Q (some (.long z)) M)  (x0 : Int64) (x2 : Int64)  (hs : s_X12_greatestDivisor M x0 x2) (hQ : K (f_X12_greatestDivisor M x0 x2)) : gG E RX12 cX12_greatestDivisor 11 (some .long) (rm 0) 0 [(0, .long x0), (2, .long x2)] [] M Q := by
  rw [s_X12_greatestDivisor] at hs
  rw [f_X12_greatestDivisor] at hQ
  refine g_lload_n 0 dX12_greatestDivisor_0 rfl ?_
  refine g_lstore _ dX12_greatestDivisor_1 (by decide) rfl ?_
  refine g_lload_n 2 dX12_greatestDivisor_3 rfl ?_
  refine g_lstore _ dX12_greatestDivisor_4 (by decide) rfl ?_
  refine g_iconst (v := 0) dX12_greatestDivisor_6 (by decide) ?_
  refine g_istore _ dX12_greatestDivisor_7 (by decide) rfl ?_
  refine g_sub [2, 1, 0] _ rfl ?_
  exact t_X12_greatestDivisor_9 hK FU x0 x2 0 hs hQ
theorem c_X12_greatestDivisor (E : gE) (M : gM) (x0 : Int64) (x2 : Int64) (hs : s_X12_greatestDivisor M x0 x2) : gC E yX12_greatestDivisor cX12_greatestDivisor 11 (some .long) (rm 0) [.long x0, .long x2] M (fun o N => o = some (.long (f_X12_greatestDivisor M x0 x2)) ∧ N = M) :=
  gC.of (by decide +kernel) (Nat.le_of_ble_eq_true rfl) rfl (t_X12_greatestDivisor (K := fun z => z = f_X12_greatestDivisor M x0 x2) (fun z hz => by rw [hz]; exact ⟨rfl, rfl⟩) x0 x2 hs rfl)
def f_X12_feed (M : gM) (x1 : Int32) (x2 : Int32) (x3 : Int32) (x4 : Int32) (x5 : Int32) : Int32 × gM :=
  if (rdI M 0 0 0 0) ≤ 1180 then
    (bnd (f_X12_putNumber M x1) fun M3 =>
    (bnd (f_X12_putNumber M3 x2) fun M5 =>
    (bnd (f_X12_putNumber M5 x3) fun M7 =>
    (bnd (f_X12_putNumber M7 x4) fun M9 =>
    (bnd (f_X12_putNumber M9 x5) fun M11 =>
    ((rdI M11 0 0 0 0, M11)))))))
  else
    (((-1), M))
def s_X12_feed (M : gM) (x1 : Int32) (x2 : Int32) (x3 : Int32) (x4 : Int32) (x5 : Int32) : Prop :=
  if (rdI M 0 0 0 0) ≤ 1180 then
    ((s_X12_putNumber M x1) ∧
    (bndP (f_X12_putNumber M x1) fun M3 =>
    ((s_X12_putNumber M3 x2) ∧
    (bndP (f_X12_putNumber M3 x2) fun M5 =>
    ((s_X12_putNumber M5 x3) ∧
    (bndP (f_X12_putNumber M5 x3) fun M7 =>
    ((s_X12_putNumber M7 x4) ∧
    (bndP (f_X12_putNumber M7 x4) fun M9 =>
    ((s_X12_putNumber M9 x5) ∧
    (bndP (f_X12_putNumber M9 x5) fun M11 =>
    (True)))))))))))
  else
    (True)
theorem o_X12_feed (M : gM) (x1 : Int32) (x2 : Int32) (x3 : Int32) (x4 : Int32) (x5 : Int32) : offW [0, 3] M (f_X12_feed M x1 x2 x3 x4 x5).2 := by
  rw [f_X12_feed]
  refine offI2 ?_ ?_
  · refine offB2 (offR.tr ((o_X12_putNumber M x1).mono (by decide))) (fun M3 oM3 => ?_)
    refine offB2 (oM3.tr ((o_X12_putNumber M3 x2).mono (by decide))) (fun M5 oM5 => ?_)
    refine offB2 (oM5.tr ((o_X12_putNumber M5 x3).mono (by decide))) (fun M7 oM7 => ?_)
    refine offB2 (oM7.tr ((o_X12_putNumber M7 x4).mono (by decide))) (fun M9 oM9 => ?_)
    refine offB2 (oM9.tr ((o_X12_putNumber M9 x5).mono (by decide))) (fun M11 oM11 => ?_)
    exact oM11
  · exact offR
set_option maxRecDepth 100000 in
set_option maxHeartbeats 4000000 in
theorem t_X12_feed {E : gE} {K : Int32 × gM → Prop} {Q : Option Value → gM → Prop} (hK : ∀ z : Int32 × gM, K z → Q (some (.int z.1)) z.2) (M : gM) (x1 : Int32) (x2 : Int32) (x3 : Int32) (x4 : Int32) (x5 : Int32)  (hs : s_X12_feed M x1 x2 x3 x4 x5) (hQ : K (f_X12_feed M x1 x2 x3 x4 x5)) : gG E RX12 cX12_feed 6 (some .int) (rm 1) 0 [(0, .ref (gla E 0)), (1, .int x1), (2, .int x2), (3, .int x3), (4, .int x4), (5, .int x5)] [] M Q := by
  rw [s_X12_feed] at hs
  rw [f_X12_feed] at hQ
  refine g_aload_n 0 dX12_feed_0 rfl ?_
  refine g_getI 0 fd_X12_13 dF_Wd rfl dX12_feed_1 ?_
  refine g_sipush (v := 1180) dX12_feed_4 (by decide) ?_
  refine g_icmp_le 12 dX12_feed_7 (by decide) (fun c1 => ?_) (fun c1 => ?_)
  · have hs := ifSt hs c1; have hQ := ifQt hQ c1
    refine g_aload_n 0 dX12_feed_12 rfl ?_
    refine g_iload_n 1 dX12_feed_13 rfl ?_
    have h2 := hs.1; have hs := hs.2
    refine g_callV (As := [.int x1]) (st := []) 0 (c_X12_putNumber E M x1 h2) mt_X12_putNumber ml_X12_79 dF_Wd rfl rfl sg_X12_putNumber rfl (by decide) (Nat.le_of_ble_eq_true rfl) dX12_feed_14 ?_
    rintro _ M3 ⟨rfl, hM3⟩
    have hQ := bndQ hQ M3 hM3; have hs := bndS hs M3 hM3
    refine g_aload_n 0 dX12_feed_17 rfl ?_
    refine g_iload_n 2 dX12_feed_18 rfl ?_
    have h4 := hs.1; have hs := hs.2
    refine g_callV (As := [.int x2]) (st := []) 0 (c_X12_putNumber E M3 x2 h4) mt_X12_putNumber ml_X12_79 dF_Wd rfl rfl sg_X12_putNumber rfl (by decide) (Nat.le_of_ble_eq_true rfl) dX12_feed_19 ?_
    rintro _ M5 ⟨rfl, hM5⟩
    have hQ := bndQ hQ M5 hM5; have hs := bndS hs M5 hM5
    refine g_aload_n 0 dX12_feed_22 rfl ?_
    refine g_iload_n 3 dX12_feed_23 rfl ?_
    have h6 := hs.1; have hs := hs.2
    refine g_callV (As := [.int x3]) (st := []) 0 (c_X12_putNumber E M5 x3 h6) mt_X12_putNumber ml_X12_79 dF_Wd rfl rfl sg_X12_putNumber rfl (by decide) (Nat.le_of_ble_eq_true rfl) dX12_feed_24 ?_
    rintro _ M7 ⟨rfl, hM7⟩
    have hQ := bndQ hQ M7 hM7; have hs := bndS hs M7 hM7
    refine g_aload_n 0 dX12_feed_27 rfl ?_
    refine g_iload 4 dX12_feed_28 rfl ?_
    have h8 := hs.1; have hs := hs.2
    refine g_callV (As := [.int x4]) (st := []) 0 (c_X12_putNumber E M7 x4 h8) mt_X12_putNumber ml_X12_79 dF_Wd rfl rfl sg_X12_putNumber rfl (by decide) (Nat.le_of_ble_eq_true rfl) dX12_feed_30 ?_
    rintro _ M9 ⟨rfl, hM9⟩
    have hQ := bndQ hQ M9 hM9; have hs := bndS hs M9 hM9
    refine g_aload_n 0 dX12_feed_33 rfl ?_
    refine g_iload 5 dX12_feed_34 rfl ?_
    have h10 := hs.1; have hs := hs.2
    refine g_callV (As := [.int x5]) (st := []) 0 (c_X12_putNumber E M9 x5 h10) mt_X12_putNumber ml_X12_79 dF_Wd rfl rfl sg_X12_putNumber rfl (by decide) (Nat.le_of_ble_eq_true rfl) dX12_feed_36 ?_
    rintro _ M11 ⟨rfl, hM11⟩
    have hQ := bndQ hQ M11 hM11; have hs := bndS hs M11 hM11
    refine g_aload_n 0 dX12_feed_39 rfl ?_
    refine g_getI 0 fd_X12_13 dF_Wd rfl dX12_feed_40 ?_
    exact g_iret rfl dX12_feed_43 (hK _ hQ)
  · have hs := ifSf hs c1; have hQ := ifQf hQ c1
    refine g_iconst (v := (-1)) dX12_feed_10 (by decide) ?_
    exact g_iret rfl dX12_feed_11 (hK _ hQ)
theorem c_X12_feed (E : gE) (M : gM) (x1 : Int32) (x2 : Int32) (x3 : Int32) (x4 : Int32) (x5 : Int32) (hs : s_X12_feed M x1 x2 x3 x4 x5) : gC E yX12_feed cX12_feed 6 (some .int) (rm 1) [.ref (gla E 0), .int x1, .int x2, .int x3, .int x4, .int x5] M (fun o N => o = some (.int (f_X12_feed M x1 x2 x3 x4 x5).1) ∧ N = (f_X12_feed M x1 x2 x3 x4 x5).2) :=
  gC.of (by decide +kernel) (Nat.le_of_ble_eq_true rfl) rfl (t_X12_feed (K := fun z => z = f_X12_feed M x1 x2 x3 x4 x5) (fun z hz => by rw [hz]; exact ⟨rfl, rfl⟩) M x1 x2 x3 x4 x5 hs rfl)
def f_X12_person (M : gM) (x1 : Int32) (x2 : Int32) : Int32 × Int32 :=
  if (f_X7_isPerson M 0 x1) = 0 then
    ((1, 0))
  else
    (if x2 = 0 then
      ((0, rdI M 19 0 (nn x1) 0))
    else
      (if x2 = 1 then
        ((0, f_X12_orMinusTwo M (rdI M 20 0 (nn x1) 0)))
      else
        (if x2 = 2 then
          ((0, f_X7_childrenOf M 0 x1))
        else
          (if x2 = 3 then
            ((0, rdI M 21 0 (nn x1) 0))
          else
            (if x2 = 4 then
              ((0, f_X12_orMinusTwo M (f_X7_lastWedUpTo M 0 x1 9999)))
            else
              ((2, 0)))))))
def s_X12_person (M : gM) (x1 : Int32) (x2 : Int32) : Prop :=
  (s_X7_isPerson M 0 x1) ∧
  (if (f_X7_isPerson M 0 x1) = 0 then
    (True)
  else
    ((vp_in x1 10) ∧
    (if x2 = 0 then
      (True)
    else
      (if x2 = 1 then
        ((s_X12_orMinusTwo M (rdI M 20 0 (nn x1) 0)) ∧
        (True))
      else
        (if x2 = 2 then
          ((s_X7_childrenOf M 0 x1) ∧
          (True))
        else
          (if x2 = 3 then
            (True)
          else
            (if x2 = 4 then
              ((s_X7_lastWedUpTo M 0 x1 9999) ∧
              ((s_X12_orMinusTwo M (f_X7_lastWedUpTo M 0 x1 9999)) ∧
              (True)))
            else
              (True))))))))
set_option maxRecDepth 100000 in
set_option maxHeartbeats 4000000 in
theorem t_X12_person {E : gE} {K : Int32 × Int32 → Prop} {Q : Option Value → gM → Prop} {QX : String → gM → Prop} {M : gM} (hK : ∀ v : Int32, K (0, v) → Q (some (.int v)) M) (hX1 : K (1, 0) → QX exI M) (hX2 : K (2, 0) → QX exN M)  (x1 : Int32) (x2 : Int32) (hs : s_X12_person M x1 x2) (hQ : K (f_X12_person M x1 x2)) : gX E RX12 cX12_person 4 (some .int) (rmx 12) 0 [(0, .ref (gla E 0)), (1, .int x1), (2, .int x2)] [] M Q QX := by
  rw [s_X12_person] at hs
  rw [f_X12_person] at hQ
  refine g_aload_n 0 dX12_person_0 rfl ?_
  refine g_getR 0 (rgC 0) fd_X12_26 dF_Wd rfl rfl dX12_person_1 ?_
  refine g_iload_n 1 dX12_person_4 rfl ?_
  have h1 := hs.1; have hs := hs.2
  refine g_callV (As := [.int x1]) (st := []) (rgC 0) (c_X7_isPerson E M 0 lt02 x1 h1) mt_X7_isPerson ml_X12_101 (dF_Rg lt02) rfl rfl sg_X7_isPerson rfl (by decide) (Nat.le_of_ble_eq_true rfl) dX12_person_5 ?_
  rintro _ _ ⟨q1, q2⟩; rw [q1, q2]; clear q1 q2
  refine g_if_ne 21 dX12_person_8 (by decide) (fun c2 => ?_) (fun c2 => ?_)
  · have hs := ifSf hs c2; have hQ := ifQf hQ c2
    refine g_aload_n 0 dX12_person_21 rfl ?_
    refine g_getR 0 (rgC 0) fd_X12_26 dF_Wd rfl rfl dX12_person_22 ?_
    refine g_getR (rgC 0) (rgC 0 + 2) fd_X12_112 (dF_Rg lt02) rfl rfl dX12_person_25 ?_
    refine g_iload_n 1 dX12_person_28 rfl ?_
    have h3 := hs.1; have hs := hs.2
    refine g_aald (rgC 0 + 2) (peC 0 (nn x1)) rfl (dF_Rg_persons lt02) h3 (aj_Pe _ _) dX12_person_29 ?_
    refine g_astore_n _ dX12_person_30 (by decide) rfl ?_
    refine g_iload_n 3 dX12_person_31 rfl ?_
    by_cases c8 : x2 = 0
    · have hs := ifSt hs c8; have hQ := ifQt hQ c8
      refine g_tin 68 (k := 0) (z := 0) (off := 36) c8 dX12_person_32 (by decide) (by decide) (by decide) rfl (by decide) ?_
      refine g_aload_n 0 dX12_person_68 rfl ?_
      refine g_getI (peC 0 (nn x1)) fd_X12_116 (dF_Pe lt02 (vpL h3)) rfl dX12_person_69 ?_
      exact gx_iret rfl dX12_person_72 (hK _ hQ)
    have hs := ifSf hs c8; have hQ := ifQf hQ c8
    by_cases c9 : x2 = 1
    · have hs := ifSt hs c9; have hQ := ifQt hQ c9
      refine g_tin 73 (k := 1) (z := 1) (off := 41) c9 dX12_person_32 (by decide) (by decide) (by decide) rfl (by decide) ?_
      refine g_aload_n 0 dX12_person_73 rfl ?_
      refine g_getI (peC 0 (nn x1)) fd_X12_121 (dF_Pe lt02 (vpL h3)) rfl dX12_person_74 ?_
      have h4 := hs.1; have hs := hs.2
      refine g_callS (As := [.int (rdI M 20 0 (nn x1) 0)]) (st := []) (c_X12_orMinusTwo E M (rdI M 20 0 (nn x1) 0) h4) mt_X12_orMinusTwo ml_X12_124 sg_X12_orMinusTwo rfl (by decide) (Nat.le_of_ble_eq_true rfl) dX12_person_77 ?_
      rintro _ _ ⟨q1, q2⟩; rw [q1, q2]; clear q1 q2
      exact gx_iret rfl dX12_person_80 (hK _ hQ)
    have hs := ifSf hs c9; have hQ := ifQf hQ c9
    by_cases c10 : x2 = 2
    · have hs := ifSt hs c10; have hQ := ifQt hQ c10
      refine g_tin 81 (k := 2) (z := 2) (off := 49) c10 dX12_person_32 (by decide) (by decide) (by decide) rfl (by decide) ?_
      refine g_aload_n 1 dX12_person_81 rfl ?_
      refine g_getR 0 (rgC 0) fd_X12_26 dF_Wd rfl rfl dX12_person_82 ?_
      refine g_iload_n 2 dX12_person_85 rfl ?_
      have h5 := hs.1; have hs := hs.2
      refine g_callV (As := [.int x1]) (st := []) (rgC 0) (c_X7_childrenOf E M 0 lt02 x1 h5) mt_X7_childrenOf ml_X12_128 (dF_Rg lt02) rfl rfl sg_X7_childrenOf rfl (by decide) (Nat.le_of_ble_eq_true rfl) dX12_person_86 ?_
      rintro _ _ ⟨q1, q2⟩; rw [q1, q2]; clear q1 q2
      exact gx_iret rfl dX12_person_89 (hK _ hQ)
    have hs := ifSf hs c10; have hQ := ifQf hQ c10
    by_cases c11 : x2 = 3
    · have hs := ifSt hs c11; have hQ := ifQt hQ c11
      refine g_tin 90 (k := 3) (z := 3) (off := 58) c11 dX12_person_32 (by decide) (by decide) (by decide) rfl (by decide) ?_
      refine g_aload_n 0 dX12_person_90 rfl ?_
      refine g_getI (peC 0 (nn x1)) fd_X12_131 (dF_Pe lt02 (vpL h3)) rfl dX12_person_91 ?_
      exact gx_iret rfl dX12_person_94 (hK _ hQ)
    have hs := ifSf hs c11; have hQ := ifQf hQ c11
    by_cases c12 : x2 = 4
    · have hs := ifSt hs c12; have hQ := ifQt hQ c12
      refine g_tin 95 (k := 4) (z := 4) (off := 63) c12 dX12_person_32 (by decide) (by decide) (by decide) rfl (by decide) ?_
      refine g_aload_n 1 dX12_person_95 rfl ?_
      refine g_getR 0 (rgC 0) fd_X12_26 dF_Wd rfl rfl dX12_person_96 ?_
      refine g_iload_n 2 dX12_person_99 rfl ?_
      refine g_sipush (v := 9999) dX12_person_100 (by decide) ?_
      have h6 := hs.1; have hs := hs.2
      refine g_callV (As := [.int x1, .int 9999]) (st := []) (rgC 0) (c_X7_lastWedUpTo E M 0 lt02 x1 9999 h6) mt_X7_lastWedUpTo ml_X12_134 (dF_Rg lt02) rfl rfl sg_X7_lastWedUpTo rfl (by decide) (Nat.le_of_ble_eq_true rfl) dX12_person_103 ?_
      rintro _ _ ⟨q1, q2⟩; rw [q1, q2]; clear q1 q2
      have h7 := hs.1; have hs := hs.2
      refine g_callS (As := [.int (f_X7_lastWedUpTo M 0 x1 9999)]) (st := []) (c_X12_orMinusTwo E M (f_X7_lastWedUpTo M 0 x1 9999) h7) mt_X12_orMinusTwo ml_X12_124 sg_X12_orMinusTwo rfl (by decide) (Nat.le_of_ble_eq_true rfl) dX12_person_106 ?_
      rintro _ _ ⟨q1, q2⟩; rw [q1, q2]; clear q1 q2
      exact gx_iret rfl dX12_person_109 (hK _ hQ)
    have hs := ifSf hs c12; have hQ := ifQf hQ c12
    refine g_tdf 110 dX12_person_32 (fun h1 h2 => by have ec8 : ¬ Int32.toInt x2 = 0 := ne_ti c8 (by decide); have ec9 : ¬ Int32.toInt x2 = 1 := ne_ti c9 (by decide); have ec10 : ¬ Int32.toInt x2 = 2 := ne_ti c10 (by decide); have ec11 : ¬ Int32.toInt x2 = 3 := ne_ti c11 (by decide); have ec12 : ¬ Int32.toInt x2 = 4 := ne_ti c12 (by decide); exfalso; omega) (by decide) ?_
    exact gx_throwN rfl xl_138 xi_2 (fun s hT => hT.2.2.2.1) dX12_person_110 dX12_person_113 dX12_person_114 dX12_person_116 dX12_person_119 ⟨by decide, Nat.le_of_ble_eq_true rfl, by decide, by decide⟩ (hX2 hQ)
  · have hs := ifSt hs c2; have hQ := ifQt hQ c2
    exact gx_throw rfl xl_105 xi_1 (fun s hT => hT.2.2.1) dX12_person_11 dX12_person_14 dX12_person_15 dX12_person_17 dX12_person_20 ⟨by decide, Nat.le_of_ble_eq_true rfl, by decide, by decide⟩ (hX1 hQ)
theorem c_X12_person (E : gE) (M : gM) (x1 : Int32) (x2 : Int32) (hs : s_X12_person M x1 x2) : gCX E yX12_person cX12_person 4 (some .int) (rmx 12) [.ref (gla E 0), .int x1, .int x2] M (fun o N => ∃ v, f_X12_person M x1 x2 = (0, v) ∧ o = some (.int v) ∧ N = M) (fun X N => N = M ∧ (X = exI ∧ (f_X12_person M x1 x2).1 = 1 ∨ X = exN ∧ (f_X12_person M x1 x2).1 = 2)) :=
  gCX.of (by decide +kernel) (Nat.le_of_ble_eq_true rfl) rfl (t_X12_person (K := fun z => z = f_X12_person M x1 x2) (fun v hv => ⟨v, hv.symm, rfl, rfl⟩) (fun h => ⟨rfl, Or.inl ⟨rfl, by rw [← h]⟩⟩) (fun h => ⟨rfl, Or.inr ⟨rfl, by rw [← h]⟩⟩) x1 x2 hs rfl)
def f_X12_paper (M : gM) (x1 : Int32) (x2 : Int32) : Int32 × Int32 :=
  if (f_X7_isPaper M 0 x1) = 0 then
    ((1, 0))
  else
    (if x2 = 0 then
      ((0, rdI M 25 0 (nn x1) 0))
    else
      (if x2 = 1 then
        ((0, rdI M 26 0 (nn x1) 0))
      else
        (if x2 = 2 then
          ((0, rdI M 27 0 (nn x1) 0))
        else
          (if x2 = 3 then
            ((0, rdI M 28 0 (nn x1) 0))
          else
            (if x2 = 4 then
              ((0, f_X12_bit M (rdI M 29 0 (nn x1) 0)))
            else
              (if x2 = 5 then
                ((0, rdI M 30 0 (nn x1) 0))
              else
                (if x2 = 6 then
                  ((0, rdI M 35 0 (nn x1) 0))
                else
                  (if x2 = 7 then
                    ((0, f_X12_orMinusTwo M (rdI M 32 0 (nn x1) 0)))
                  else
                    (if x2 = 8 then
                      ((0, f_X12_orMinusTwo M (rdI M 33 0 (nn x1) 0)))
                    else
                      (if x2 = 9 then
                        ((0, f_X12_bit M (rdI M 34 0 (nn x1) 0)))
                      else
                        ((2, 0))))))))))))
def s_X12_paper (M : gM) (x1 : Int32) (x2 : Int32) : Prop :=
  (s_X7_isPaper M 0 x1) ∧
  (if (f_X7_isPaper M 0 x1) = 0 then
    (True)
  else
    ((vp_in x1 12) ∧
    (if x2 = 0 then
      (True)
    else
      (if x2 = 1 then
        (True)
      else
        (if x2 = 2 then
          (True)
        else
          (if x2 = 3 then
            (True)
          else
            (if x2 = 4 then
              ((s_X12_bit M (rdI M 29 0 (nn x1) 0)) ∧
              (True))
            else
              (if x2 = 5 then
                (True)
              else
                (if x2 = 6 then
                  (True)
                else
                  (if x2 = 7 then
                    ((s_X12_orMinusTwo M (rdI M 32 0 (nn x1) 0)) ∧
                    (True))
                  else
                    (if x2 = 8 then
                      ((s_X12_orMinusTwo M (rdI M 33 0 (nn x1) 0)) ∧
                      (True))
                    else
                      (if x2 = 9 then
                        ((s_X12_bit M (rdI M 34 0 (nn x1) 0)) ∧
                        (True))
                      else
                        (True)))))))))))))
set_option maxRecDepth 100000 in
set_option maxHeartbeats 4000000 in
theorem t_X12_paper {E : gE} {K : Int32 × Int32 → Prop} {Q : Option Value → gM → Prop} {QX : String → gM → Prop} {M : gM} (hK : ∀ v : Int32, K (0, v) → Q (some (.int v)) M) (hX1 : K (1, 0) → QX exI M) (hX2 : K (2, 0) → QX exN M)  (x1 : Int32) (x2 : Int32) (hs : s_X12_paper M x1 x2) (hQ : K (f_X12_paper M x1 x2)) : gX E RX12 cX12_paper 4 (some .int) (rmx 12) 0 [(0, .ref (gla E 0)), (1, .int x1), (2, .int x2)] [] M Q QX := by
  rw [s_X12_paper] at hs
  rw [f_X12_paper] at hQ
  refine g_aload_n 0 dX12_paper_0 rfl ?_
  refine g_getR 0 (rgC 0) fd_X12_26 dF_Wd rfl rfl dX12_paper_1 ?_
  refine g_iload_n 1 dX12_paper_4 rfl ?_
  have h1 := hs.1; have hs := hs.2
  refine g_callV (As := [.int x1]) (st := []) (rgC 0) (c_X7_isPaper E M 0 lt02 x1 h1) mt_X7_isPaper ml_X12_143 (dF_Rg lt02) rfl rfl sg_X7_isPaper rfl (by decide) (Nat.le_of_ble_eq_true rfl) dX12_paper_5 ?_
  rintro _ _ ⟨q1, q2⟩; rw [q1, q2]; clear q1 q2
  refine g_if_ne 21 dX12_paper_8 (by decide) (fun c2 => ?_) (fun c2 => ?_)
  · have hs := ifSf hs c2; have hQ := ifQf hQ c2
    refine g_aload_n 0 dX12_paper_21 rfl ?_
    refine g_getR 0 (rgC 0) fd_X12_26 dF_Wd rfl rfl dX12_paper_22 ?_
    refine g_getR (rgC 0) (rgC 0 + 4) fd_X12_148 (dF_Rg lt02) rfl rfl dX12_paper_25 ?_
    refine g_iload_n 1 dX12_paper_28 rfl ?_
    have h3 := hs.1; have hs := hs.2
    refine g_aald (rgC 0 + 4) (paC 0 (nn x1)) rfl (dF_Rg_papers lt02) h3 (aj_Pa _ _) dX12_paper_29 ?_
    refine g_astore_n _ dX12_paper_30 (by decide) rfl ?_
    refine g_iload_n 3 dX12_paper_31 rfl ?_
    by_cases c8 : x2 = 0
    · have hs := ifSt hs c8; have hQ := ifQt hQ c8
      refine g_tin 88 (k := 0) (z := 0) (off := 56) c8 dX12_paper_32 (by decide) (by decide) (by decide) rfl (by decide) ?_
      refine g_aload_n 0 dX12_paper_88 rfl ?_
      refine g_getI (paC 0 (nn x1)) fd_X12_152 (dF_Pa lt02 (vpL h3)) rfl dX12_paper_89 ?_
      exact gx_iret rfl dX12_paper_92 (hK _ hQ)
    have hs := ifSf hs c8; have hQ := ifQf hQ c8
    by_cases c9 : x2 = 1
    · have hs := ifSt hs c9; have hQ := ifQt hQ c9
      refine g_tin 93 (k := 1) (z := 1) (off := 61) c9 dX12_paper_32 (by decide) (by decide) (by decide) rfl (by decide) ?_
      refine g_aload_n 0 dX12_paper_93 rfl ?_
      refine g_getI (paC 0 (nn x1)) fd_X12_157 (dF_Pa lt02 (vpL h3)) rfl dX12_paper_94 ?_
      exact gx_iret rfl dX12_paper_97 (hK _ hQ)
    have hs := ifSf hs c9; have hQ := ifQf hQ c9
    by_cases c10 : x2 = 2
    · have hs := ifSt hs c10; have hQ := ifQt hQ c10
      refine g_tin 98 (k := 2) (z := 2) (off := 66) c10 dX12_paper_32 (by decide) (by decide) (by decide) rfl (by decide) ?_
      refine g_aload_n 0 dX12_paper_98 rfl ?_
      refine g_getI (paC 0 (nn x1)) fd_X12_160 (dF_Pa lt02 (vpL h3)) rfl dX12_paper_99 ?_
      exact gx_iret rfl dX12_paper_102 (hK _ hQ)
    have hs := ifSf hs c10; have hQ := ifQf hQ c10
    by_cases c11 : x2 = 3
    · have hs := ifSt hs c11; have hQ := ifQt hQ c11
      refine g_tin 103 (k := 3) (z := 3) (off := 71) c11 dX12_paper_32 (by decide) (by decide) (by decide) rfl (by decide) ?_
      refine g_aload_n 0 dX12_paper_103 rfl ?_
      refine g_getI (paC 0 (nn x1)) fd_X12_163 (dF_Pa lt02 (vpL h3)) rfl dX12_paper_104 ?_
      exact gx_iret rfl dX12_paper_107 (hK _ hQ)
    have hs := ifSf hs c11; have hQ := ifQf hQ c11
    by_cases c12 : x2 = 4
    · have hs := ifSt hs c12; have hQ := ifQt hQ c12
      refine g_tin 108 (k := 4) (z := 4) (off := 76) c12 dX12_paper_32 (by decide) (by decide) (by decide) rfl (by decide) ?_
      refine g_aload_n 0 dX12_paper_108 rfl ?_
      refine g_getI (paC 0 (nn x1)) fd_X12_166 (dF_Pa lt02 (vpL h3)) rfl dX12_paper_109 ?_
      have h4 := hs.1; have hs := hs.2
      refine g_callS (As := [.int (rdI M 29 0 (nn x1) 0)]) (st := []) (c_X12_bit E M (rdI M 29 0 (nn x1) 0) h4) mt_X12_bit ml_X12_170 sg_X12_bit rfl (by decide) (Nat.le_of_ble_eq_true rfl) dX12_paper_112 ?_
      rintro _ _ ⟨q1, q2⟩; rw [q1, q2]; clear q1 q2
      exact gx_iret rfl dX12_paper_115 (hK _ hQ)
    have hs := ifSf hs c12; have hQ := ifQf hQ c12
    by_cases c13 : x2 = 5
    · have hs := ifSt hs c13; have hQ := ifQt hQ c13
      refine g_tin 116 (k := 5) (z := 5) (off := 84) c13 dX12_paper_32 (by decide) (by decide) (by decide) rfl (by decide) ?_
      refine g_aload_n 0 dX12_paper_116 rfl ?_
      refine g_getI (paC 0 (nn x1)) fd_X12_174 (dF_Pa lt02 (vpL h3)) rfl dX12_paper_117 ?_
      exact gx_iret rfl dX12_paper_120 (hK _ hQ)
    have hs := ifSf hs c13; have hQ := ifQf hQ c13
    by_cases c14 : x2 = 6
    · have hs := ifSt hs c14; have hQ := ifQt hQ c14
      refine g_tin 121 (k := 6) (z := 6) (off := 89) c14 dX12_paper_32 (by decide) (by decide) (by decide) rfl (by decide) ?_
      refine g_aload_n 0 dX12_paper_121 rfl ?_
      refine g_getI (paC 0 (nn x1)) fd_X12_177 (dF_Pa lt02 (vpL h3)) rfl dX12_paper_122 ?_
      exact gx_iret rfl dX12_paper_125 (hK _ hQ)
    have hs := ifSf hs c14; have hQ := ifQf hQ c14
    by_cases c15 : x2 = 7
    · have hs := ifSt hs c15; have hQ := ifQt hQ c15
      refine g_tin 126 (k := 7) (z := 7) (off := 94) c15 dX12_paper_32 (by decide) (by decide) (by decide) rfl (by decide) ?_
      refine g_aload_n 0 dX12_paper_126 rfl ?_
      refine g_getI (paC 0 (nn x1)) fd_X12_180 (dF_Pa lt02 (vpL h3)) rfl dX12_paper_127 ?_
      have h5 := hs.1; have hs := hs.2
      refine g_callS (As := [.int (rdI M 32 0 (nn x1) 0)]) (st := []) (c_X12_orMinusTwo E M (rdI M 32 0 (nn x1) 0) h5) mt_X12_orMinusTwo ml_X12_124 sg_X12_orMinusTwo rfl (by decide) (Nat.le_of_ble_eq_true rfl) dX12_paper_130 ?_
      rintro _ _ ⟨q1, q2⟩; rw [q1, q2]; clear q1 q2
      exact gx_iret rfl dX12_paper_133 (hK _ hQ)
    have hs := ifSf hs c15; have hQ := ifQf hQ c15
    by_cases c16 : x2 = 8
    · have hs := ifSt hs c16; have hQ := ifQt hQ c16
      refine g_tin 134 (k := 8) (z := 8) (off := 102) c16 dX12_paper_32 (by decide) (by decide) (by decide) rfl (by decide) ?_
      refine g_aload_n 0 dX12_paper_134 rfl ?_
      refine g_getI (paC 0 (nn x1)) fd_X12_183 (dF_Pa lt02 (vpL h3)) rfl dX12_paper_135 ?_
      have h6 := hs.1; have hs := hs.2
      refine g_callS (As := [.int (rdI M 33 0 (nn x1) 0)]) (st := []) (c_X12_orMinusTwo E M (rdI M 33 0 (nn x1) 0) h6) mt_X12_orMinusTwo ml_X12_124 sg_X12_orMinusTwo rfl (by decide) (Nat.le_of_ble_eq_true rfl) dX12_paper_138 ?_
      rintro _ _ ⟨q1, q2⟩; rw [q1, q2]; clear q1 q2
      exact gx_iret rfl dX12_paper_141 (hK _ hQ)
    have hs := ifSf hs c16; have hQ := ifQf hQ c16
    by_cases c17 : x2 = 9
    · have hs := ifSt hs c17; have hQ := ifQt hQ c17
      refine g_tin 142 (k := 9) (z := 9) (off := 110) c17 dX12_paper_32 (by decide) (by decide) (by decide) rfl (by decide) ?_
      refine g_aload_n 0 dX12_paper_142 rfl ?_
      refine g_getI (paC 0 (nn x1)) fd_X12_186 (dF_Pa lt02 (vpL h3)) rfl dX12_paper_143 ?_
      have h7 := hs.1; have hs := hs.2
      refine g_callS (As := [.int (rdI M 34 0 (nn x1) 0)]) (st := []) (c_X12_bit E M (rdI M 34 0 (nn x1) 0) h7) mt_X12_bit ml_X12_170 sg_X12_bit rfl (by decide) (Nat.le_of_ble_eq_true rfl) dX12_paper_146 ?_
      rintro _ _ ⟨q1, q2⟩; rw [q1, q2]; clear q1 q2
      exact gx_iret rfl dX12_paper_149 (hK _ hQ)
    have hs := ifSf hs c17; have hQ := ifQf hQ c17
    refine g_tdf 150 dX12_paper_32 (fun h1 h2 => by have ec8 : ¬ Int32.toInt x2 = 0 := ne_ti c8 (by decide); have ec9 : ¬ Int32.toInt x2 = 1 := ne_ti c9 (by decide); have ec10 : ¬ Int32.toInt x2 = 2 := ne_ti c10 (by decide); have ec11 : ¬ Int32.toInt x2 = 3 := ne_ti c11 (by decide); have ec12 : ¬ Int32.toInt x2 = 4 := ne_ti c12 (by decide); have ec13 : ¬ Int32.toInt x2 = 5 := ne_ti c13 (by decide); have ec14 : ¬ Int32.toInt x2 = 6 := ne_ti c14 (by decide); have ec15 : ¬ Int32.toInt x2 = 7 := ne_ti c15 (by decide); have ec16 : ¬ Int32.toInt x2 = 8 := ne_ti c16 (by decide); have ec17 : ¬ Int32.toInt x2 = 9 := ne_ti c17 (by decide); exfalso; omega) (by decide) ?_
    exact gx_throwN rfl xl_138 xi_2 (fun s hT => hT.2.2.2.1) dX12_paper_150 dX12_paper_153 dX12_paper_154 dX12_paper_156 dX12_paper_159 ⟨by decide, Nat.le_of_ble_eq_true rfl, by decide, by decide⟩ (hX2 hQ)
  · have hs := ifSt hs c2; have hQ := ifQt hQ c2
    exact gx_throw rfl xl_105 xi_1 (fun s hT => hT.2.2.2.2.1) dX12_paper_11 dX12_paper_14 dX12_paper_15 dX12_paper_17 dX12_paper_20 ⟨by decide, Nat.le_of_ble_eq_true rfl, by decide, by decide⟩ (hX1 hQ)
theorem c_X12_paper (E : gE) (M : gM) (x1 : Int32) (x2 : Int32) (hs : s_X12_paper M x1 x2) : gCX E yX12_paper cX12_paper 4 (some .int) (rmx 12) [.ref (gla E 0), .int x1, .int x2] M (fun o N => ∃ v, f_X12_paper M x1 x2 = (0, v) ∧ o = some (.int v) ∧ N = M) (fun X N => N = M ∧ (X = exI ∧ (f_X12_paper M x1 x2).1 = 1 ∨ X = exN ∧ (f_X12_paper M x1 x2).1 = 2)) :=
  gCX.of (by decide +kernel) (Nat.le_of_ble_eq_true rfl) rfl (t_X12_paper (K := fun z => z = f_X12_paper M x1 x2) (fun v hv => ⟨v, hv.symm, rfl, rfl⟩) (fun h => ⟨rfl, Or.inl ⟨rfl, by rw [← h]⟩⟩) (fun h => ⟨rfl, Or.inr ⟨rfl, by rw [← h]⟩⟩) x1 x2 hs rfl)
def f_X12_thing (M : gM) (x1 : Int32) (x2 : Int32) : Int32 :=
  if (f_X7_isThing M 0 x1) = 0 then
    ((-1))
  else
    (if x2 = 0 then
      (rdI M 22 0 (nn x1) 0)
    else
      (if x2 = 1 then
        (rdI M 23 0 (nn x1) 0)
      else
        (if x2 = 2 then
          (rdI M 24 0 (nn x1) 0)
        else
          ((-1)))))
def s_X12_thing (M : gM) (x1 : Int32) (x2 : Int32) : Prop :=
  (s_X7_isThing M 0 x1) ∧
  (if (f_X7_isThing M 0 x1) = 0 then
    (True)
  else
    (if x2 = 0 then
      ((vp_in x1 8) ∧
      (True))
    else
      (if x2 = 1 then
        ((vp_in x1 8) ∧
        (True))
      else
        (if x2 = 2 then
          ((vp_in x1 8) ∧
          (True))
        else
          (True)))))
set_option maxRecDepth 100000 in
set_option maxHeartbeats 4000000 in
theorem t_X12_thing {E : gE} {K : Int32 → Prop} {Q : Option Value → gM → Prop} {M : gM} (hK : ∀ z : Int32, K z → Q (some (.int z)) M)  (x1 : Int32) (x2 : Int32)  (hs : s_X12_thing M x1 x2) (hQ : K (f_X12_thing M x1 x2)) : gG E RX12 cX12_thing 3 (some .int) (rm 1) 0 [(0, .ref (gla E 0)), (1, .int x1), (2, .int x2)] [] M Q := by
  rw [s_X12_thing] at hs
  rw [f_X12_thing] at hQ
  refine g_aload_n 0 dX12_thing_0 rfl ?_
  refine g_getR 0 (rgC 0) fd_X12_26 dF_Wd rfl rfl dX12_thing_1 ?_
  refine g_iload_n 1 dX12_thing_4 rfl ?_
  have h1 := hs.1; have hs := hs.2
  refine g_callV (As := [.int x1]) (st := []) (rgC 0) (c_X7_isThing E M 0 lt02 x1 h1) mt_X7_isThing ml_X12_189 (dF_Rg lt02) rfl rfl sg_X7_isThing rfl (by decide) (Nat.le_of_ble_eq_true rfl) dX12_thing_5 ?_
  rintro _ _ ⟨q1, q2⟩; rw [q1, q2]; clear q1 q2
  refine g_if_ne 13 dX12_thing_8 (by decide) (fun c2 => ?_) (fun c2 => ?_)
  · have hs := ifSf hs c2; have hQ := ifQf hQ c2
    refine g_iload_n 2 dX12_thing_13 rfl ?_
    by_cases c6 : x2 = 0
    · have hs := ifSt hs c6; have hQ := ifQt hQ c6
      refine g_tin 40 (k := 0) (z := 0) (off := 26) c6 dX12_thing_14 (by decide) (by decide) (by decide) rfl (by decide) ?_
      refine g_aload_n 0 dX12_thing_40 rfl ?_
      refine g_getR 0 (rgC 0) fd_X12_26 dF_Wd rfl rfl dX12_thing_41 ?_
      refine g_getR (rgC 0) (rgC 0 + 3) fd_X12_192 (dF_Rg lt02) rfl rfl dX12_thing_44 ?_
      refine g_iload_n 1 dX12_thing_47 rfl ?_
      have h3 := hs.1; have hs := hs.2
      refine g_aald (rgC 0 + 3) (thC 0 (nn x1)) rfl (dF_Rg_things lt02) h3 (aj_Th _ _) dX12_thing_48 ?_
      refine g_getI (thC 0 (nn x1)) fd_X12_196 (dF_Th lt02 (vpL h3)) rfl dX12_thing_49 ?_
      exact g_iret rfl dX12_thing_52 (hK _ hQ)
    have hs := ifSf hs c6; have hQ := ifQf hQ c6
    by_cases c7 : x2 = 1
    · have hs := ifSt hs c7; have hQ := ifQt hQ c7
      refine g_tin 53 (k := 1) (z := 1) (off := 39) c7 dX12_thing_14 (by decide) (by decide) (by decide) rfl (by decide) ?_
      refine g_aload_n 0 dX12_thing_53 rfl ?_
      refine g_getR 0 (rgC 0) fd_X12_26 dF_Wd rfl rfl dX12_thing_54 ?_
      refine g_getR (rgC 0) (rgC 0 + 3) fd_X12_192 (dF_Rg lt02) rfl rfl dX12_thing_57 ?_
      refine g_iload_n 1 dX12_thing_60 rfl ?_
      have h4 := hs.1; have hs := hs.2
      refine g_aald (rgC 0 + 3) (thC 0 (nn x1)) rfl (dF_Rg_things lt02) h4 (aj_Th _ _) dX12_thing_61 ?_
      refine g_getI (thC 0 (nn x1)) fd_X12_201 (dF_Th lt02 (vpL h4)) rfl dX12_thing_62 ?_
      exact g_iret rfl dX12_thing_65 (hK _ hQ)
    have hs := ifSf hs c7; have hQ := ifQf hQ c7
    by_cases c8 : x2 = 2
    · have hs := ifSt hs c8; have hQ := ifQt hQ c8
      refine g_tin 66 (k := 2) (z := 2) (off := 52) c8 dX12_thing_14 (by decide) (by decide) (by decide) rfl (by decide) ?_
      refine g_aload_n 0 dX12_thing_66 rfl ?_
      refine g_getR 0 (rgC 0) fd_X12_26 dF_Wd rfl rfl dX12_thing_67 ?_
      refine g_getR (rgC 0) (rgC 0 + 3) fd_X12_192 (dF_Rg lt02) rfl rfl dX12_thing_70 ?_
      refine g_iload_n 1 dX12_thing_73 rfl ?_
      have h5 := hs.1; have hs := hs.2
      refine g_aald (rgC 0 + 3) (thC 0 (nn x1)) rfl (dF_Rg_things lt02) h5 (aj_Th _ _) dX12_thing_74 ?_
      refine g_getI (thC 0 (nn x1)) fd_X12_202 (dF_Th lt02 (vpL h5)) rfl dX12_thing_75 ?_
      exact g_iret rfl dX12_thing_78 (hK _ hQ)
    have hs := ifSf hs c8; have hQ := ifQf hQ c8
    refine g_tdf 79 dX12_thing_14 (fun h1 h2 => by have ec6 : ¬ Int32.toInt x2 = 0 := ne_ti c6 (by decide); have ec7 : ¬ Int32.toInt x2 = 1 := ne_ti c7 (by decide); have ec8 : ¬ Int32.toInt x2 = 2 := ne_ti c8 (by decide); exfalso; omega) (by decide) ?_
    refine g_iconst (v := (-1)) dX12_thing_79 (by decide) ?_
    exact g_iret rfl dX12_thing_80 (hK _ hQ)
  · have hs := ifSt hs c2; have hQ := ifQt hQ c2
    refine g_iconst (v := (-1)) dX12_thing_11 (by decide) ?_
    exact g_iret rfl dX12_thing_12 (hK _ hQ)
theorem c_X12_thing (E : gE) (M : gM) (x1 : Int32) (x2 : Int32) (hs : s_X12_thing M x1 x2) : gC E yX12_thing cX12_thing 3 (some .int) (rm 1) [.ref (gla E 0), .int x1, .int x2] M (fun o N => o = some (.int (f_X12_thing M x1 x2)) ∧ N = M) :=
  gC.of (by decide +kernel) (Nat.le_of_ble_eq_true rfl) rfl (t_X12_thing (K := fun z => z = f_X12_thing M x1 x2) (fun z hz => by rw [hz]; exact ⟨rfl, rfl⟩) x1 x2 hs rfl)
def f_X12_land (M : gM) (x1 : Int32) (x2 : Int32) : Int32 :=
  if (f_X12_isLand M x1) = 0 then
    ((-1))
  else
    (if x2 = 0 then
      (rdI M 14 0 (nn x1) 0)
    else
      (if x2 = 1 then
        (f_X12_bit M (rdI M 15 0 (nn x1) 0))
      else
        (if x2 = 2 then
          (f_X12_bit M (rdI M 16 0 (nn x1) 0))
        else
          (if x2 = 3 then
            (f_X12_bit M (rdI M 17 0 (nn x1) 0))
          else
            (if x2 = 4 then
              (f_X12_bit M (rdI M 18 0 (nn x1) 0))
            else
              ((-1)))))))
def s_X12_land (M : gM) (x1 : Int32) (x2 : Int32) : Prop :=
  (s_X12_isLand M x1) ∧
  (if (f_X12_isLand M x1) = 0 then
    (True)
  else
    (if x2 = 0 then
      ((vp_in x1 2) ∧
      (True))
    else
      (if x2 = 1 then
        ((vp_in x1 2) ∧
        ((s_X12_bit M (rdI M 15 0 (nn x1) 0)) ∧
        (True)))
      else
        (if x2 = 2 then
          ((vp_in x1 2) ∧
          ((s_X12_bit M (rdI M 16 0 (nn x1) 0)) ∧
          (True)))
        else
          (if x2 = 3 then
            ((vp_in x1 2) ∧
            ((s_X12_bit M (rdI M 17 0 (nn x1) 0)) ∧
            (True)))
          else
            (if x2 = 4 then
              ((vp_in x1 2) ∧
              ((s_X12_bit M (rdI M 18 0 (nn x1) 0)) ∧
              (True)))
            else
              (True)))))))
set_option maxRecDepth 100000 in
set_option maxHeartbeats 4000000 in
theorem t_X12_land {E : gE} {K : Int32 → Prop} {Q : Option Value → gM → Prop} {M : gM} (hK : ∀ z : Int32, K z → Q (some (.int z)) M)  (x1 : Int32) (x2 : Int32)  (hs : s_X12_land M x1 x2) (hQ : K (f_X12_land M x1 x2)) : gG E RX12 cX12_land 3 (some .int) (rm 1) 0 [(0, .ref (gla E 0)), (1, .int x1), (2, .int x2)] [] M Q := by
  rw [s_X12_land] at hs
  rw [f_X12_land] at hQ
  refine g_iload_n 1 dX12_land_0 rfl ?_
  have h1 := hs.1; have hs := hs.2
  refine g_callS (As := [.int x1]) (st := []) (c_X12_isLand E M x1 h1) mt_X12_isLand ml_X12_205 sg_X12_isLand rfl (by decide) (Nat.le_of_ble_eq_true rfl) dX12_land_1 ?_
  rintro _ _ ⟨q1, q2⟩; rw [q1, q2]; clear q1 q2
  refine g_if_ne 9 dX12_land_4 (by decide) (fun c2 => ?_) (fun c2 => ?_)
  · have hs := ifSf hs c2; have hQ := ifQf hQ c2
    refine g_iload_n 2 dX12_land_9 rfl ?_
    by_cases c12 : x2 = 0
    · have hs := ifSt hs c12; have hQ := ifQt hQ c12
      refine g_tin 44 (k := 0) (z := 0) (off := 34) c12 dX12_land_10 (by decide) (by decide) (by decide) rfl (by decide) ?_
      refine g_aload_n 0 dX12_land_44 rfl ?_
      refine g_getR 0 (rgC 0) fd_X12_26 dF_Wd rfl rfl dX12_land_45 ?_
      refine g_getR (rgC 0) (rgC 0 + 1) fd_X12_208 (dF_Rg lt02) rfl rfl dX12_land_48 ?_
      refine g_iload_n 1 dX12_land_51 rfl ?_
      have h3 := hs.1; have hs := hs.2
      refine g_aald (rgC 0 + 1) (laC 0 (nn x1)) rfl (dF_Rg_lands lt02) h3 (aj_La _ _) dX12_land_52 ?_
      refine g_getI (laC 0 (nn x1)) fd_X12_212 (dF_La lt02 (vpL h3)) rfl dX12_land_53 ?_
      exact g_iret rfl dX12_land_56 (hK _ hQ)
    have hs := ifSf hs c12; have hQ := ifQf hQ c12
    by_cases c13 : x2 = 1
    · have hs := ifSt hs c13; have hQ := ifQt hQ c13
      refine g_tin 57 (k := 1) (z := 1) (off := 47) c13 dX12_land_10 (by decide) (by decide) (by decide) rfl (by decide) ?_
      refine g_aload_n 0 dX12_land_57 rfl ?_
      refine g_getR 0 (rgC 0) fd_X12_26 dF_Wd rfl rfl dX12_land_58 ?_
      refine g_getR (rgC 0) (rgC 0 + 1) fd_X12_208 (dF_Rg lt02) rfl rfl dX12_land_61 ?_
      refine g_iload_n 1 dX12_land_64 rfl ?_
      have h4 := hs.1; have hs := hs.2
      refine g_aald (rgC 0 + 1) (laC 0 (nn x1)) rfl (dF_Rg_lands lt02) h4 (aj_La _ _) dX12_land_65 ?_
      refine g_getI (laC 0 (nn x1)) fd_X12_215 (dF_La lt02 (vpL h4)) rfl dX12_land_66 ?_
      have h5 := hs.1; have hs := hs.2
      refine g_callS (As := [.int (rdI M 15 0 (nn x1) 0)]) (st := []) (c_X12_bit E M (rdI M 15 0 (nn x1) 0) h5) mt_X12_bit ml_X12_170 sg_X12_bit rfl (by decide) (Nat.le_of_ble_eq_true rfl) dX12_land_69 ?_
      rintro _ _ ⟨q1, q2⟩; rw [q1, q2]; clear q1 q2
      exact g_iret rfl dX12_land_72 (hK _ hQ)
    have hs := ifSf hs c13; have hQ := ifQf hQ c13
    by_cases c14 : x2 = 2
    · have hs := ifSt hs c14; have hQ := ifQt hQ c14
      refine g_tin 73 (k := 2) (z := 2) (off := 63) c14 dX12_land_10 (by decide) (by decide) (by decide) rfl (by decide) ?_
      refine g_aload_n 0 dX12_land_73 rfl ?_
      refine g_getR 0 (rgC 0) fd_X12_26 dF_Wd rfl rfl dX12_land_74 ?_
      refine g_getR (rgC 0) (rgC 0 + 1) fd_X12_208 (dF_Rg lt02) rfl rfl dX12_land_77 ?_
      refine g_iload_n 1 dX12_land_80 rfl ?_
      have h6 := hs.1; have hs := hs.2
      refine g_aald (rgC 0 + 1) (laC 0 (nn x1)) rfl (dF_Rg_lands lt02) h6 (aj_La _ _) dX12_land_81 ?_
      refine g_getI (laC 0 (nn x1)) fd_X12_218 (dF_La lt02 (vpL h6)) rfl dX12_land_82 ?_
      have h7 := hs.1; have hs := hs.2
      refine g_callS (As := [.int (rdI M 16 0 (nn x1) 0)]) (st := []) (c_X12_bit E M (rdI M 16 0 (nn x1) 0) h7) mt_X12_bit ml_X12_170 sg_X12_bit rfl (by decide) (Nat.le_of_ble_eq_true rfl) dX12_land_85 ?_
      rintro _ _ ⟨q1, q2⟩; rw [q1, q2]; clear q1 q2
      exact g_iret rfl dX12_land_88 (hK _ hQ)
    have hs := ifSf hs c14; have hQ := ifQf hQ c14
    by_cases c15 : x2 = 3
    · have hs := ifSt hs c15; have hQ := ifQt hQ c15
      refine g_tin 89 (k := 3) (z := 3) (off := 79) c15 dX12_land_10 (by decide) (by decide) (by decide) rfl (by decide) ?_
      refine g_aload_n 0 dX12_land_89 rfl ?_
      refine g_getR 0 (rgC 0) fd_X12_26 dF_Wd rfl rfl dX12_land_90 ?_
      refine g_getR (rgC 0) (rgC 0 + 1) fd_X12_208 (dF_Rg lt02) rfl rfl dX12_land_93 ?_
      refine g_iload_n 1 dX12_land_96 rfl ?_
      have h8 := hs.1; have hs := hs.2
      refine g_aald (rgC 0 + 1) (laC 0 (nn x1)) rfl (dF_Rg_lands lt02) h8 (aj_La _ _) dX12_land_97 ?_
      refine g_getI (laC 0 (nn x1)) fd_X12_221 (dF_La lt02 (vpL h8)) rfl dX12_land_98 ?_
      have h9 := hs.1; have hs := hs.2
      refine g_callS (As := [.int (rdI M 17 0 (nn x1) 0)]) (st := []) (c_X12_bit E M (rdI M 17 0 (nn x1) 0) h9) mt_X12_bit ml_X12_170 sg_X12_bit rfl (by decide) (Nat.le_of_ble_eq_true rfl) dX12_land_101 ?_
      rintro _ _ ⟨q1, q2⟩; rw [q1, q2]; clear q1 q2
      exact g_iret rfl dX12_land_104 (hK _ hQ)
    have hs := ifSf hs c15; have hQ := ifQf hQ c15
    by_cases c16 : x2 = 4
    · have hs := ifSt hs c16; have hQ := ifQt hQ c16
      refine g_tin 105 (k := 4) (z := 4) (off := 95) c16 dX12_land_10 (by decide) (by decide) (by decide) rfl (by decide) ?_
      refine g_aload_n 0 dX12_land_105 rfl ?_
      refine g_getR 0 (rgC 0) fd_X12_26 dF_Wd rfl rfl dX12_land_106 ?_
      refine g_getR (rgC 0) (rgC 0 + 1) fd_X12_208 (dF_Rg lt02) rfl rfl dX12_land_109 ?_
      refine g_iload_n 1 dX12_land_112 rfl ?_
      have h10 := hs.1; have hs := hs.2
      refine g_aald (rgC 0 + 1) (laC 0 (nn x1)) rfl (dF_Rg_lands lt02) h10 (aj_La _ _) dX12_land_113 ?_
      refine g_getI (laC 0 (nn x1)) fd_X12_223 (dF_La lt02 (vpL h10)) rfl dX12_land_114 ?_
      have h11 := hs.1; have hs := hs.2
      refine g_callS (As := [.int (rdI M 18 0 (nn x1) 0)]) (st := []) (c_X12_bit E M (rdI M 18 0 (nn x1) 0) h11) mt_X12_bit ml_X12_170 sg_X12_bit rfl (by decide) (Nat.le_of_ble_eq_true rfl) dX12_land_117 ?_
      rintro _ _ ⟨q1, q2⟩; rw [q1, q2]; clear q1 q2
      exact g_iret rfl dX12_land_120 (hK _ hQ)
    have hs := ifSf hs c16; have hQ := ifQf hQ c16
    refine g_tdf 121 dX12_land_10 (fun h1 h2 => by have ec12 : ¬ Int32.toInt x2 = 0 := ne_ti c12 (by decide); have ec13 : ¬ Int32.toInt x2 = 1 := ne_ti c13 (by decide); have ec14 : ¬ Int32.toInt x2 = 2 := ne_ti c14 (by decide); have ec15 : ¬ Int32.toInt x2 = 3 := ne_ti c15 (by decide); have ec16 : ¬ Int32.toInt x2 = 4 := ne_ti c16 (by decide); exfalso; omega) (by decide) ?_
    refine g_iconst (v := (-1)) dX12_land_121 (by decide) ?_
    exact g_iret rfl dX12_land_122 (hK _ hQ)
  · have hs := ifSt hs c2; have hQ := ifQt hQ c2
    refine g_iconst (v := (-1)) dX12_land_7 (by decide) ?_
    exact g_iret rfl dX12_land_8 (hK _ hQ)
theorem c_X12_land (E : gE) (M : gM) (x1 : Int32) (x2 : Int32) (hs : s_X12_land M x1 x2) : gC E yX12_land cX12_land 3 (some .int) (rm 1) [.ref (gla E 0), .int x1, .int x2] M (fun o N => o = some (.int (f_X12_land M x1 x2)) ∧ N = M) :=
  gC.of (by decide +kernel) (Nat.le_of_ble_eq_true rfl) rfl (t_X12_land (K := fun z => z = f_X12_land M x1 x2) (fun z hz => by rw [hz]; exact ⟨rfl, rfl⟩) x1 x2 hs rfl)
def f_X12_give (M : gM) (x1 : Int32) (x2 : Int32) (x3 : Int32) : Int32 :=
  if (f_X7_isPaper M 0 x1) = 0 then
    ((-1))
  else
    (if x2 < 0 then
      ((-1))
    else
      (if x3 < 0 then
        ((-1))
      else
        (if x3 ≤ 4 then
          (if (rdI M 35 0 (nn x1) 0) ≤ x2 then
            ((-2))
          else
            (if x2 < 6 then
              (if x3 = 0 then
                (rdI M 36 0 (nn x1) (nn x2))
              else
                (if x3 = 1 then
                  (rdI M 37 0 (nn x1) (nn x2))
                else
                  (if x3 = 2 then
                    (rdI M 38 0 (nn x1) (nn x2))
                  else
                    (if x3 = 3 then
                      (f_X12_orMinusTwo M (rdI M 39 0 (nn x1) (nn x2)))
                    else
                      (f_X12_orMinusTwo M (rdI M 40 0 (nn x1) (nn x2)))))))
            else
              ((-2))))
        else
          ((-1)))))
def s_X12_give (M : gM) (x1 : Int32) (x2 : Int32) (x3 : Int32) : Prop :=
  (s_X7_isPaper M 0 x1) ∧
  (if (f_X7_isPaper M 0 x1) = 0 then
    (True)
  else
    (if x2 < 0 then
      (True)
    else
      (if x3 < 0 then
        (True)
      else
        (if x3 ≤ 4 then
          ((vp_in x1 12) ∧
          (if (rdI M 35 0 (nn x1) 0) ≤ x2 then
            (True)
          else
            (if x2 < 6 then
              (if x3 = 0 then
                ((vp_in x2 6) ∧
                (True))
              else
                (if x3 = 1 then
                  ((vp_in x2 6) ∧
                  (True))
                else
                  (if x3 = 2 then
                    ((vp_in x2 6) ∧
                    (True))
                  else
                    (if x3 = 3 then
                      ((vp_in x2 6) ∧
                      ((s_X12_orMinusTwo M (rdI M 39 0 (nn x1) (nn x2))) ∧
                      (True)))
                    else
                      ((vp_in x2 6) ∧
                      ((s_X12_orMinusTwo M (rdI M 40 0 (nn x1) (nn x2))) ∧
                      (True)))))))
            else
              (True))))
        else
          (True)))))
set_option maxRecDepth 100000 in
set_option maxHeartbeats 4000000 in
theorem t_X12_give {E : gE} {K : Int32 → Prop} {Q : Option Value → gM → Prop} {M : gM} (hK : ∀ z : Int32, K z → Q (some (.int z)) M)  (x1 : Int32) (x2 : Int32) (x3 : Int32)  (hs : s_X12_give M x1 x2 x3) (hQ : K (f_X12_give M x1 x2 x3)) : gG E RX12 cX12_give 5 (some .int) (rm 1) 0 [(0, .ref (gla E 0)), (1, .int x1), (2, .int x2), (3, .int x3)] [] M Q := by
  rw [s_X12_give] at hs
  rw [f_X12_give] at hQ
  refine g_aload_n 0 dX12_give_0 rfl ?_
  refine g_getR 0 (rgC 0) fd_X12_26 dF_Wd rfl rfl dX12_give_1 ?_
  refine g_iload_n 1 dX12_give_4 rfl ?_
  have h1 := hs.1; have hs := hs.2
  refine g_callV (As := [.int x1]) (st := []) (rgC 0) (c_X7_isPaper E M 0 lt02 x1 h1) mt_X7_isPaper ml_X12_143 (dF_Rg lt02) rfl rfl sg_X7_isPaper rfl (by decide) (Nat.le_of_ble_eq_true rfl) dX12_give_5 ?_
  rintro _ _ ⟨q1, q2⟩; rw [q1, q2]; clear q1 q2
  refine g_if_eq 24 dX12_give_8 (by decide) (fun c2 => ?_) (fun c2 => ?_)
  · have hs := ifSt hs c2; have hQ := ifQt hQ c2
    refine g_iconst (v := (-1)) dX12_give_24 (by decide) ?_
    exact g_iret rfl dX12_give_25 (hK _ hQ)
  · have hs := ifSf hs c2; have hQ := ifQf hQ c2
    refine g_iload_n 2 dX12_give_11 rfl ?_
    refine g_if_lt 24 dX12_give_12 (by decide) (fun c3 => ?_) (fun c3 => ?_)
    · have hs := ifSt hs c3; have hQ := ifQt hQ c3
      refine g_iconst (v := (-1)) dX12_give_24 (by decide) ?_
      exact g_iret rfl dX12_give_25 (hK _ hQ)
    · have hs := ifSf hs c3; have hQ := ifQf hQ c3
      refine g_iload_n 3 dX12_give_15 rfl ?_
      refine g_if_lt 24 dX12_give_16 (by decide) (fun c4 => ?_) (fun c4 => ?_)
      · have hs := ifSt hs c4; have hQ := ifQt hQ c4
        refine g_iconst (v := (-1)) dX12_give_24 (by decide) ?_
        exact g_iret rfl dX12_give_25 (hK _ hQ)
      · have hs := ifSf hs c4; have hQ := ifQf hQ c4
        refine g_iload_n 3 dX12_give_19 rfl ?_
        refine g_iconst (v := 4) dX12_give_20 (by decide) ?_
        refine g_icmp_le 26 dX12_give_21 (by decide) (fun c5 => ?_) (fun c5 => ?_)
        · have hs := ifSt hs c5; have hQ := ifQt hQ c5
          refine g_aload_n 0 dX12_give_26 rfl ?_
          refine g_getR 0 (rgC 0) fd_X12_26 dF_Wd rfl rfl dX12_give_27 ?_
          refine g_getR (rgC 0) (rgC 0 + 4) fd_X12_148 (dF_Rg lt02) rfl rfl dX12_give_30 ?_
          refine g_iload_n 1 dX12_give_33 rfl ?_
          have h6 := hs.1; have hs := hs.2
          refine g_aald (rgC 0 + 4) (paC 0 (nn x1)) rfl (dF_Rg_papers lt02) h6 (aj_Pa _ _) dX12_give_34 ?_
          refine g_astore _ dX12_give_35 (by decide) rfl ?_
          refine g_iload_n 3 dX12_give_37 rfl ?_
          refine g_aload 0 dX12_give_38 rfl ?_
          refine g_getI (paC 0 (nn x1)) fd_X12_177 (dF_Pa lt02 (vpL h6)) rfl dX12_give_40 ?_
          refine g_icmp_ge 52 dX12_give_43 (by decide) (fun c7 => ?_) (fun c7 => ?_)
          · have hs := ifSt hs c7; have hQ := ifQt hQ c7
            refine g_bipush (v := (-2)) dX12_give_52 (by decide) ?_
            exact g_iret rfl dX12_give_54 (hK _ hQ)
          · have hs := ifSf hs c7; have hQ := ifQf hQ c7
            refine g_iload_n 3 dX12_give_46 rfl ?_
            refine g_bipush (v := 6) dX12_give_47 (by decide) ?_
            refine g_icmp_lt 55 dX12_give_49 (by decide) (fun c8 => ?_) (fun c8 => ?_)
            · have hs := ifSt hs c8; have hQ := ifQt hQ c8
              refine g_iload_n 4 dX12_give_55 rfl ?_
              by_cases c16 : x3 = 0
              · have hs := ifSt hs c16; have hQ := ifQt hQ c16
                refine g_tin 88 (k := 0) (z := 0) (off := 32) c16 dX12_give_56 (by decide) (by decide) (by decide) rfl (by decide) ?_
                refine g_aload 0 dX12_give_88 rfl ?_
                refine g_getR (paC 0 (nn x1)) (paC 0 (nn x1) + 1) fd_X12_226 (dF_Pa lt02 (vpL h6)) rfl rfl dX12_give_90 ?_
                refine g_iload_n 3 dX12_give_93 rfl ?_
                have h9 := hs.1; have hs := hs.2
                refine g_iald (paC 0 (nn x1) + 1) (dF_Pa_giveThing lt02 (vpL h6)) h9 dX12_give_94 ?_
                exact g_iret rfl dX12_give_95 (hK _ hQ)
              have hs := ifSf hs c16; have hQ := ifQf hQ c16
              by_cases c17 : x3 = 1
              · have hs := ifSt hs c17; have hQ := ifQt hQ c17
                refine g_tin 96 (k := 1) (z := 1) (off := 40) c17 dX12_give_56 (by decide) (by decide) (by decide) rfl (by decide) ?_
                refine g_aload 0 dX12_give_96 rfl ?_
                refine g_getR (paC 0 (nn x1)) (paC 0 (nn x1) + 2) fd_X12_230 (dF_Pa lt02 (vpL h6)) rfl rfl dX12_give_98 ?_
                refine g_iload_n 3 dX12_give_101 rfl ?_
                have h10 := hs.1; have hs := hs.2
                refine g_iald (paC 0 (nn x1) + 2) (dF_Pa_giveTo lt02 (vpL h6)) h10 dX12_give_102 ?_
                exact g_iret rfl dX12_give_103 (hK _ hQ)
              have hs := ifSf hs c17; have hQ := ifQf hQ c17
              by_cases c18 : x3 = 2
              · have hs := ifSt hs c18; have hQ := ifQt hQ c18
                refine g_tin 104 (k := 2) (z := 2) (off := 48) c18 dX12_give_56 (by decide) (by decide) (by decide) rfl (by decide) ?_
                refine g_aload 0 dX12_give_104 rfl ?_
                refine g_getR (paC 0 (nn x1)) (paC 0 (nn x1) + 3) fd_X12_233 (dF_Pa lt02 (vpL h6)) rfl rfl dX12_give_106 ?_
                refine g_iload_n 3 dX12_give_109 rfl ?_
                have h11 := hs.1; have hs := hs.2
                refine g_iald (paC 0 (nn x1) + 3) (dF_Pa_giveCondition lt02 (vpL h6)) h11 dX12_give_110 ?_
                exact g_iret rfl dX12_give_111 (hK _ hQ)
              have hs := ifSf hs c18; have hQ := ifQf hQ c18
              by_cases c19 : x3 = 3
              · have hs := ifSt hs c19; have hQ := ifQt hQ c19
                refine g_tin 112 (k := 3) (z := 3) (off := 56) c19 dX12_give_56 (by decide) (by decide) (by decide) rfl (by decide) ?_
                refine g_aload 0 dX12_give_112 rfl ?_
                refine g_getR (paC 0 (nn x1)) (paC 0 (nn x1) + 4) fd_X12_236 (dF_Pa lt02 (vpL h6)) rfl rfl dX12_give_114 ?_
                refine g_iload_n 3 dX12_give_117 rfl ?_
                have h12 := hs.1; have hs := hs.2
                refine g_iald (paC 0 (nn x1) + 4) (dF_Pa_givePerson lt02 (vpL h6)) h12 dX12_give_118 ?_
                have h13 := hs.1; have hs := hs.2
                refine g_callS (As := [.int (rdI M 39 0 (nn x1) (nn x2))]) (st := []) (c_X12_orMinusTwo E M (rdI M 39 0 (nn x1) (nn x2)) h13) mt_X12_orMinusTwo ml_X12_124 sg_X12_orMinusTwo rfl (by decide) (Nat.le_of_ble_eq_true rfl) dX12_give_119 ?_
                rintro _ _ ⟨q1, q2⟩; rw [q1, q2]; clear q1 q2
                exact g_iret rfl dX12_give_122 (hK _ hQ)
              have hs := ifSf hs c19; have hQ := ifQf hQ c19
              refine g_tdf 123 dX12_give_56 (fun h1 h2 => by have ec16 : ¬ Int32.toInt x3 = 0 := ne_ti c16 (by decide); have ec17 : ¬ Int32.toInt x3 = 1 := ne_ti c17 (by decide); have ec18 : ¬ Int32.toInt x3 = 2 := ne_ti c18 (by decide); have ec19 : ¬ Int32.toInt x3 = 3 := ne_ti c19 (by decide); exfalso; omega) (by decide) ?_
              refine g_aload 0 dX12_give_123 rfl ?_
              refine g_getR (paC 0 (nn x1)) (paC 0 (nn x1) + 5) fd_X12_239 (dF_Pa lt02 (vpL h6)) rfl rfl dX12_give_125 ?_
              refine g_iload_n 3 dX12_give_128 rfl ?_
              have h14 := hs.1; have hs := hs.2
              refine g_iald (paC 0 (nn x1) + 5) (dF_Pa_giveElse lt02 (vpL h6)) h14 dX12_give_129 ?_
              have h15 := hs.1; have hs := hs.2
              refine g_callS (As := [.int (rdI M 40 0 (nn x1) (nn x2))]) (st := []) (c_X12_orMinusTwo E M (rdI M 40 0 (nn x1) (nn x2)) h15) mt_X12_orMinusTwo ml_X12_124 sg_X12_orMinusTwo rfl (by decide) (Nat.le_of_ble_eq_true rfl) dX12_give_130 ?_
              rintro _ _ ⟨q1, q2⟩; rw [q1, q2]; clear q1 q2
              exact g_iret rfl dX12_give_133 (hK _ hQ)
            · have hs := ifSf hs c8; have hQ := ifQf hQ c8
              refine g_bipush (v := (-2)) dX12_give_52 (by decide) ?_
              exact g_iret rfl dX12_give_54 (hK _ hQ)
        · have hs := ifSf hs c5; have hQ := ifQf hQ c5
          refine g_iconst (v := (-1)) dX12_give_24 (by decide) ?_
          exact g_iret rfl dX12_give_25 (hK _ hQ)
theorem c_X12_give (E : gE) (M : gM) (x1 : Int32) (x2 : Int32) (x3 : Int32) (hs : s_X12_give M x1 x2 x3) : gC E yX12_give cX12_give 5 (some .int) (rm 1) [.ref (gla E 0), .int x1, .int x2, .int x3] M (fun o N => o = some (.int (f_X12_give M x1 x2 x3)) ∧ N = M) :=
  gC.of (by decide +kernel) (Nat.le_of_ble_eq_true rfl) rfl (t_X12_give (K := fun z => z = f_X12_give M x1 x2 x3) (fun z hz => by rw [hz]; exact ⟨rfl, rfl⟩) x1 x2 x3 hs rfl)
def f_X12_undo (M : gM) : Int32 × gM :=
  if (rdI M 63 0 0 0) = 0 then
    (((-1), M))
  else
    (bnd (f_X2_undoLatest M) fun M3 =>
    ((rdI M3 63 0 0 0, M3)))
def s_X12_undo (M : gM) : Prop :=
  if (rdI M 63 0 0 0) = 0 then
    (True)
  else
    ((s_X2_undoLatest M) ∧
    (bndP (f_X2_undoLatest M) fun M3 =>
    (True)))
theorem o_X12_undo (M : gM) : offW [8, 20, 30, 33, 34, 62, 63] M (f_X12_undo M).2 := by
  rw [f_X12_undo]
  refine offI2 ?_ ?_
  · exact offR
  · refine offB2 (offR.tr ((o_X2_undoLatest M).mono (by decide))) (fun M3 oM3 => ?_)
    exact oM3
set_option maxRecDepth 100000 in
set_option maxHeartbeats 4000000 in
theorem t_X12_undo {E : gE} {K : Int32 × gM → Prop} {Q : Option Value → gM → Prop} (hK : ∀ z : Int32 × gM, K z → Q (some (.int z.1)) z.2) (M : gM)  (hs : s_X12_undo M) (hQ : K (f_X12_undo M)) : gG E RX12 cX12_undo 1 (some .int) (rm 1) 0 [(0, .ref (gla E 0))] [] M Q := by
  rw [s_X12_undo] at hs
  rw [f_X12_undo] at hQ
  refine g_aload_n 0 dX12_undo_0 rfl ?_
  refine g_getR 0 222 fd_X12_75 dF_Wd rfl rfl dX12_undo_1 ?_
  refine g_getI 222 fd_X12_261 dF_Hi rfl dX12_undo_4 ?_
  refine g_if_ne 12 dX12_undo_7 (by decide) (fun c1 => ?_) (fun c1 => ?_)
  · have hs := ifSf hs c1; have hQ := ifQf hQ c1
    refine g_aload_n 0 dX12_undo_12 rfl ?_
    refine g_getR 0 222 fd_X12_75 dF_Wd rfl rfl dX12_undo_13 ?_
    have h2 := hs.1; have hs := hs.2
    refine g_callV (As := []) (st := []) 222 (c_X2_undoLatest E M h2) mt_X2_undoLatest ml_X12_293 dF_Hi rfl rfl sg_X2_undoLatest rfl (by decide) (Nat.le_of_ble_eq_true rfl) dX12_undo_16 ?_
    rintro _ M3 ⟨rfl, hM3⟩
    have hQ := bndQ hQ M3 hM3; have hs := bndS hs M3 hM3
    refine g_aload_n 0 dX12_undo_19 rfl ?_
    refine g_getR 0 222 fd_X12_75 dF_Wd rfl rfl dX12_undo_20 ?_
    refine g_getI 222 fd_X12_261 dF_Hi rfl dX12_undo_23 ?_
    exact g_iret rfl dX12_undo_26 (hK _ hQ)
  · have hs := ifSt hs c1; have hQ := ifQt hQ c1
    refine g_iconst (v := (-1)) dX12_undo_10 (by decide) ?_
    exact g_iret rfl dX12_undo_11 (hK _ hQ)
theorem c_X12_undo (E : gE) (M : gM)  (hs : s_X12_undo M) : gC E yX12_undo cX12_undo 1 (some .int) (rm 1) [.ref (gla E 0)] M (fun o N => o = some (.int (f_X12_undo M).1) ∧ N = (f_X12_undo M).2) :=
  gC.of (by decide +kernel) (Nat.le_of_ble_eq_true rfl) rfl (t_X12_undo (K := fun z => z = f_X12_undo M) (fun z hz => by rw [hz]; exact ⟨rfl, rfl⟩) M hs rfl)
def f_X12_naming_29 (M : gM) (x1 : Int32) (x2 : Int32)  : Nat → Int32 → Int32 → Int32
  | 0, _, _ => 0
  | n + 1, x3, x4 =>
    if (rdI M 7 0 0 0) ≤ x4 then
      (x3)
    else
      (if (rdI M 25 0 (nn x4) 0) = x1 then
        (if (f_X5_givesTo M 0 (nn x4) x2) = 0 then
          (f_X12_naming_29 M x1 x2 n x3 (x4 + 1))
        else
          (bnd (x3 ||| (1 <<< (x4 &&& 31))) fun v11 =>
          (f_X12_naming_29 M x1 x2 n v11 (x4 + 1))))
      else
        (f_X12_naming_29 M x1 x2 n x3 (x4 + 1)))
def s_X12_naming_29 (M : gM) (x1 : Int32) (x2 : Int32)  : Nat → Int32 → Int32 → Prop
  | 0, _, _ => False
  | n + 1, x3, x4 =>
    if (rdI M 7 0 0 0) ≤ x4 then
      (True)
    else
      ((vp_in x4 12) ∧
      (if (rdI M 25 0 (nn x4) 0) = x1 then
        ((vp_in x4 12) ∧
        ((s_X5_givesTo M 0 (nn x4) x2) ∧
        (if (f_X5_givesTo M 0 (nn x4) x2) = 0 then
          (s_X12_naming_29 M x1 x2 n x3 (x4 + 1))
        else
          (bndP (x3 ||| (1 <<< (x4 &&& 31))) fun v11 =>
          (s_X12_naming_29 M x1 x2 n v11 (x4 + 1))))))
      else
        (s_X12_naming_29 M x1 x2 n x3 (x4 + 1))))
set_option maxRecDepth 100000 in
set_option maxHeartbeats 4000000 in
theorem t_X12_naming_29 {E : gE} {K : Int32 → Prop} {Q : Option Value → gM → Prop} {M : gM} (hK : ∀ z : Int32, K z → Q (some (.int z)) M) (x1 : Int32) (x2 : Int32)   : ∀ (n : Nat) (x3 : Int32) (x4 : Int32) , s_X12_naming_29 M x1 x2  n x3 x4 → K (f_X12_naming_29 M x1 x2  n x3 x4) → gG E RX12 cX12_naming 5 (some .int) (rm 1) 29 [(0, .ref (gla E 0)), (1, .int x1), (2, .int x2), (3, .int x3), (4, .int x4)] [] M Q := by
  intro n
  induction n with
  | zero => intro x3 x4 hs hQ; exact (hs : False).elim
  | succ n ih =>
    intro x3 x4 hs hQ
    rw [s_X12_naming_29] at hs
    rw [f_X12_naming_29] at hQ
    refine g_iload 4 dX12_naming_29 rfl ?_
    refine g_aload_n 0 dX12_naming_31 rfl ?_
    refine g_getR 0 (rgC 0) fd_X12_26 dF_Wd rfl rfl dX12_naming_32 ?_
    refine g_getI (rgC 0) fd_X12_248 (dF_Rg lt02) rfl dX12_naming_35 ?_
    refine g_icmp_ge 88 dX12_naming_38 (by decide) (fun c5 => ?_) (fun c5 => ?_)
    · have hs := ifSt hs c5; have hQ := ifQt hQ c5
      refine g_iload_n 3 dX12_naming_88 rfl ?_
      exact g_iret rfl dX12_naming_89 (hK _ hQ)
    · have hs := ifSf hs c5; have hQ := ifQf hQ c5
      refine g_aload_n 0 dX12_naming_41 rfl ?_
      refine g_getR 0 (rgC 0) fd_X12_26 dF_Wd rfl rfl dX12_naming_42 ?_
      refine g_getR (rgC 0) (rgC 0 + 4) fd_X12_148 (dF_Rg lt02) rfl rfl dX12_naming_45 ?_
      refine g_iload 4 dX12_naming_48 rfl ?_
      have h6 := hs.1; have hs := hs.2
      refine g_aald (rgC 0 + 4) (paC 0 (nn x4)) rfl (dF_Rg_papers lt02) h6 (aj_Pa _ _) dX12_naming_50 ?_
      refine g_getI (paC 0 (nn x4)) fd_X12_152 (dF_Pa lt02 (vpL h6)) rfl dX12_naming_51 ?_
      refine g_iload_n 1 dX12_naming_54 rfl ?_
      refine g_icmp_ne 82 dX12_naming_55 (by decide) (fun c7 => ?_) (fun c7 => ?_)
      · have hs := ifSf hs c7; have hQ := ifQf hQ c7
        refine g_iinc 4 (v := x4 + 1) _ dX12_naming_82 rfl rfl (by decide) rfl ?_
        refine g_goto 29 dX12_naming_85 (by decide) ?_
        refine g_sub [1, 2, 3, 4, 0] _ rfl ?_
        exact ih x3 (x4 + 1) hs hQ
      · have hs := ifSt hs c7; have hQ := ifQt hQ c7
        refine g_aload_n 0 dX12_naming_58 rfl ?_
        refine g_getR 0 (rgC 0) fd_X12_26 dF_Wd rfl rfl dX12_naming_59 ?_
        refine g_getR (rgC 0) (rgC 0 + 4) fd_X12_148 (dF_Rg lt02) rfl rfl dX12_naming_62 ?_
        refine g_iload 4 dX12_naming_65 rfl ?_
        have h8 := hs.1; have hs := hs.2
        refine g_aald (rgC 0 + 4) (paC 0 (nn x4)) rfl (dF_Rg_papers lt02) h8 (aj_Pa _ _) dX12_naming_67 ?_
        refine g_iload_n 2 dX12_naming_68 rfl ?_
        have h9 := hs.1; have hs := hs.2
        refine g_callV (As := [.int x2]) (st := []) (paC 0 (nn x4)) (c_X5_givesTo E M 0 (nn x4) lt02 (vpL h8) x2 h9) mt_X5_givesTo ml_X12_344 (dF_Pa lt02 (vpL h8)) rfl rfl sg_X5_givesTo rfl (by decide) (Nat.le_of_ble_eq_true rfl) dX12_naming_69 ?_
        rintro _ _ ⟨q1, q2⟩; rw [q1, q2]; clear q1 q2
        refine g_if_eq 82 dX12_naming_72 (by decide) (fun c10 => ?_) (fun c10 => ?_)
        · have hs := ifSt hs c10; have hQ := ifQt hQ c10
          refine g_iinc 4 (v := x4 + 1) _ dX12_naming_82 rfl rfl (by decide) rfl ?_
          refine g_goto 29 dX12_naming_85 (by decide) ?_
          refine g_sub [1, 2, 3, 4, 0] _ rfl ?_
          exact ih x3 (x4 + 1) hs hQ
        · have hs := ifSf hs c10; have hQ := ifQf hQ c10
          refine g_iload_n 3 dX12_naming_75 rfl ?_
          refine g_iconst (v := 1) dX12_naming_76 (by decide) ?_
          refine g_iload 4 dX12_naming_77 rfl ?_
          refine g_ishl dX12_naming_79 ?_
          refine g_ior dX12_naming_80 ?_
          refine g_topI (fun v11 hv11 => ?_)
          have hQ := bndQ hQ v11 hv11; have hs := bndS hs v11 hv11
          refine g_istore_n _ dX12_naming_81 (by decide) rfl ?_
          refine g_iinc 4 (v := x4 + 1) _ dX12_naming_82 rfl rfl (by decide) rfl ?_
          refine g_goto 29 dX12_naming_85 (by decide) ?_
          refine g_sub [2, 3, 4, 1, 0] _ rfl ?_
          exact ih v11 (x4 + 1) hs hQ
def f_X12_naming (M : gM) (x1 : Int32) (x2 : Int32) : Int32 :=
  if (f_X7_isPerson M 0 x1) = 0 then
    ((-1))
  else
    (if (f_X7_isPerson M 0 x2) = 0 then
      ((-1))
    else
      (f_X12_naming_29 M x1 x2 FU 0 0))
def s_X12_naming (M : gM) (x1 : Int32) (x2 : Int32) : Prop :=
  (s_X7_isPerson M 0 x1) ∧
  (if (f_X7_isPerson M 0 x1) = 0 then
    (True)
  else
    ((s_X7_isPerson M 0 x2) ∧
    (if (f_X7_isPerson M 0 x2) = 0 then
      (True)
    else
      (s_X12_naming_29 M x1 x2 FU 0 0))))
set_option maxRecDepth 100000 in
set_option maxHeartbeats 4000000 in
theorem t_X12_naming {E : gE} {K : Int32 → Prop} {Q : Option Value → gM → Prop} {M : gM} (hK : ∀ z : Int32, K z → Q (some (.int z)) M)  (x1 : Int32) (x2 : Int32)  (hs : s_X12_naming M x1 x2) (hQ : K (f_X12_naming M x1 x2)) : gG E RX12 cX12_naming 5 (some .int) (rm 1) 0 [(0, .ref (gla E 0)), (1, .int x1), (2, .int x2)] [] M Q := by
  rw [s_X12_naming] at hs
  rw [f_X12_naming] at hQ
  refine g_aload_n 0 dX12_naming_0 rfl ?_
  refine g_getR 0 (rgC 0) fd_X12_26 dF_Wd rfl rfl dX12_naming_1 ?_
  refine g_iload_n 1 dX12_naming_4 rfl ?_
  have h1 := hs.1; have hs := hs.2
  refine g_callV (As := [.int x1]) (st := []) (rgC 0) (c_X7_isPerson E M 0 lt02 x1 h1) mt_X7_isPerson ml_X12_101 (dF_Rg lt02) rfl rfl sg_X7_isPerson rfl (by decide) (Nat.le_of_ble_eq_true rfl) dX12_naming_5 ?_
  rintro _ _ ⟨q1, q2⟩; rw [q1, q2]; clear q1 q2
  refine g_if_eq 22 dX12_naming_8 (by decide) (fun c2 => ?_) (fun c2 => ?_)
  · have hs := ifSt hs c2; have hQ := ifQt hQ c2
    refine g_iconst (v := (-1)) dX12_naming_22 (by decide) ?_
    exact g_iret rfl dX12_naming_23 (hK _ hQ)
  · have hs := ifSf hs c2; have hQ := ifQf hQ c2
    refine g_aload_n 0 dX12_naming_11 rfl ?_
    refine g_getR 0 (rgC 0) fd_X12_26 dF_Wd rfl rfl dX12_naming_12 ?_
    refine g_iload_n 2 dX12_naming_15 rfl ?_
    have h3 := hs.1; have hs := hs.2
    refine g_callV (As := [.int x2]) (st := []) (rgC 0) (c_X7_isPerson E M 0 lt02 x2 h3) mt_X7_isPerson ml_X12_101 (dF_Rg lt02) rfl rfl sg_X7_isPerson rfl (by decide) (Nat.le_of_ble_eq_true rfl) dX12_naming_16 ?_
    rintro _ _ ⟨q1, q2⟩; rw [q1, q2]; clear q1 q2
    refine g_if_ne 24 dX12_naming_19 (by decide) (fun c4 => ?_) (fun c4 => ?_)
    · have hs := ifSf hs c4; have hQ := ifQf hQ c4
      refine g_iconst (v := 0) dX12_naming_24 (by decide) ?_
      refine g_istore_n _ dX12_naming_25 (by decide) rfl ?_
      refine g_iconst (v := 0) dX12_naming_26 (by decide) ?_
      refine g_istore _ dX12_naming_27 (by decide) rfl ?_
      refine g_sub [2, 3, 4, 1, 0] _ rfl ?_
      exact t_X12_naming_29 hK x1 x2 FU 0 0 hs hQ
    · have hs := ifSt hs c4; have hQ := ifQt hQ c4
      refine g_iconst (v := (-1)) dX12_naming_22 (by decide) ?_
      exact g_iret rfl dX12_naming_23 (hK _ hQ)
theorem c_X12_naming (E : gE) (M : gM) (x1 : Int32) (x2 : Int32) (hs : s_X12_naming M x1 x2) : gC E yX12_naming cX12_naming 5 (some .int) (rm 1) [.ref (gla E 0), .int x1, .int x2] M (fun o N => o = some (.int (f_X12_naming M x1 x2)) ∧ N = M) :=
  gC.of (by decide +kernel) (Nat.le_of_ble_eq_true rfl) rfl (t_X12_naming (K := fun z => z = f_X12_naming M x1 x2) (fun z hz => by rw [hz]; exact ⟨rfl, rfl⟩) x1 x2 hs rfl)
def f_X12_kin_31 (M : gM) (x2 : Int32)  : Nat → Int32 → Int32 → Int32
  | 0, _, _ => 0
  | n + 1, x3, x4 =>
    if 10 ≤ x4 then
      ((-2))
    else
      (if ((x3 >>> (x2 &&& 31)) &&& 1) = 0 then
        (bnd (x3 ||| (f_X7_nextOfKin M 0 x3)) fun v8 =>
        (f_X12_kin_31 M x2 n v8 (x4 + 1)))
      else
        (x4))
def s_X12_kin_31 (M : gM) (x2 : Int32)  : Nat → Int32 → Int32 → Prop
  | 0, _, _ => False
  | n + 1, x3, x4 =>
    if 10 ≤ x4 then
      (True)
    else
      (if ((x3 >>> (x2 &&& 31)) &&& 1) = 0 then
        ((s_X7_nextOfKin M 0 x3) ∧
        (bndP (x3 ||| (f_X7_nextOfKin M 0 x3)) fun v8 =>
        (s_X12_kin_31 M x2 n v8 (x4 + 1))))
      else
        (True))
set_option maxRecDepth 100000 in
set_option maxHeartbeats 4000000 in
theorem t_X12_kin_31 {E : gE} {K : Int32 → Prop} {Q : Option Value → gM → Prop} {M : gM} (hK : ∀ z : Int32, K z → Q (some (.int z)) M) (x2 : Int32)   : ∀ (n : Nat) (x3 : Int32) (x4 : Int32) , s_X12_kin_31 M x2  n x3 x4 → K (f_X12_kin_31 M x2  n x3 x4) → gG E RX12 cX12_kin 5 (some .int) (rm 1) 31 [(0, .ref (gla E 0)), (2, .int x2), (3, .int x3), (4, .int x4)] [] M Q := by
  intro n
  induction n with
  | zero => intro x3 x4 hs hQ; exact (hs : False).elim
  | succ n ih =>
    intro x3 x4 hs hQ
    rw [s_X12_kin_31] at hs
    rw [f_X12_kin_31] at hQ
    refine g_iload 3 dX12_kin_31 rfl ?_
    refine g_bipush (v := 10) dX12_kin_33 (by decide) ?_
    refine g_icmp_ge 66 dX12_kin_35 (by decide) (fun c5 => ?_) (fun c5 => ?_)
    · have hs := ifSt hs c5; have hQ := ifQt hQ c5
      refine g_bipush (v := (-2)) dX12_kin_66 (by decide) ?_
      exact g_iret rfl dX12_kin_68 (hK _ hQ)
    · have hs := ifSf hs c5; have hQ := ifQf hQ c5
      refine g_iload_n 2 dX12_kin_38 rfl ?_
      refine g_iload_n 1 dX12_kin_39 rfl ?_
      refine g_ishr dX12_kin_40 ?_
      refine g_iconst (v := 1) dX12_kin_41 (by decide) ?_
      refine g_iand dX12_kin_42 ?_
      refine g_if_eq 49 dX12_kin_43 (by decide) (fun c6 => ?_) (fun c6 => ?_)
      · have hs := ifSt hs c6; have hQ := ifQt hQ c6
        refine g_iload_n 2 dX12_kin_49 rfl ?_
        refine g_aload_n 0 dX12_kin_50 rfl ?_
        refine g_getR 0 (rgC 0) fd_X12_26 dF_Wd rfl rfl dX12_kin_51 ?_
        refine g_iload_n 2 dX12_kin_54 rfl ?_
        have h7 := hs.1; have hs := hs.2
        refine g_callV (As := [.int x3]) (st := [.int x3]) (rgC 0) (c_X7_nextOfKin E M 0 lt02 x3 h7) mt_X7_nextOfKin ml_X12_394 (dF_Rg lt02) rfl rfl sg_X7_nextOfKin rfl (by decide) (Nat.le_of_ble_eq_true rfl) dX12_kin_55 ?_
        rintro _ _ ⟨q1, q2⟩; rw [q1, q2]; clear q1 q2
        refine g_ior dX12_kin_58 ?_
        refine g_topI (fun v8 hv8 => ?_)
        have hQ := bndQ hQ v8 hv8; have hs := bndS hs v8 hv8
        refine g_istore_n _ dX12_kin_59 (by decide) rfl ?_
        refine g_iinc 3 (v := x4 + 1) _ dX12_kin_60 rfl rfl (by decide) rfl ?_
        refine g_goto 31 dX12_kin_63 (by decide) ?_
        refine g_sub [2, 3, 1, 0] _ rfl ?_
        exact ih v8 (x4 + 1) hs hQ
      · have hs := ifSf hs c6; have hQ := ifQf hQ c6
        refine g_iload 3 dX12_kin_46 rfl ?_
        exact g_iret rfl dX12_kin_48 (hK _ hQ)
def f_X12_kin (M : gM) (x1 : Int32) (x2 : Int32) : Int32 :=
  if (f_X7_isPerson M 0 x1) = 0 then
    ((-1))
  else
    (if (f_X7_isPerson M 0 x2) = 0 then
      ((-1))
    else
      (f_X12_kin_31 M x2 FU (1 <<< (x1 &&& 31)) 0))
def s_X12_kin (M : gM) (x1 : Int32) (x2 : Int32) : Prop :=
  (s_X7_isPerson M 0 x1) ∧
  (if (f_X7_isPerson M 0 x1) = 0 then
    (True)
  else
    ((s_X7_isPerson M 0 x2) ∧
    (if (f_X7_isPerson M 0 x2) = 0 then
      (True)
    else
      (s_X12_kin_31 M x2 FU (1 <<< (x1 &&& 31)) 0))))
set_option maxRecDepth 100000 in
set_option maxHeartbeats 4000000 in
theorem t_X12_kin {E : gE} {K : Int32 → Prop} {Q : Option Value → gM → Prop} {M : gM} (hK : ∀ z : Int32, K z → Q (some (.int z)) M)  (x1 : Int32) (x2 : Int32)  (hs : s_X12_kin M x1 x2) (hQ : K (f_X12_kin M x1 x2)) : gG E RX12 cX12_kin 5 (some .int) (rm 1) 0 [(0, .ref (gla E 0)), (1, .int x1), (2, .int x2)] [] M Q := by
  rw [s_X12_kin] at hs
  rw [f_X12_kin] at hQ
  refine g_aload_n 0 dX12_kin_0 rfl ?_
  refine g_getR 0 (rgC 0) fd_X12_26 dF_Wd rfl rfl dX12_kin_1 ?_
  refine g_iload_n 1 dX12_kin_4 rfl ?_
  have h1 := hs.1; have hs := hs.2
  refine g_callV (As := [.int x1]) (st := []) (rgC 0) (c_X7_isPerson E M 0 lt02 x1 h1) mt_X7_isPerson ml_X12_101 (dF_Rg lt02) rfl rfl sg_X7_isPerson rfl (by decide) (Nat.le_of_ble_eq_true rfl) dX12_kin_5 ?_
  rintro _ _ ⟨q1, q2⟩; rw [q1, q2]; clear q1 q2
  refine g_if_eq 22 dX12_kin_8 (by decide) (fun c2 => ?_) (fun c2 => ?_)
  · have hs := ifSt hs c2; have hQ := ifQt hQ c2
    refine g_iconst (v := (-1)) dX12_kin_22 (by decide) ?_
    exact g_iret rfl dX12_kin_23 (hK _ hQ)
  · have hs := ifSf hs c2; have hQ := ifQf hQ c2
    refine g_aload_n 0 dX12_kin_11 rfl ?_
    refine g_getR 0 (rgC 0) fd_X12_26 dF_Wd rfl rfl dX12_kin_12 ?_
    refine g_iload_n 2 dX12_kin_15 rfl ?_
    have h3 := hs.1; have hs := hs.2
    refine g_callV (As := [.int x2]) (st := []) (rgC 0) (c_X7_isPerson E M 0 lt02 x2 h3) mt_X7_isPerson ml_X12_101 (dF_Rg lt02) rfl rfl sg_X7_isPerson rfl (by decide) (Nat.le_of_ble_eq_true rfl) dX12_kin_16 ?_
    rintro _ _ ⟨q1, q2⟩; rw [q1, q2]; clear q1 q2
    refine g_if_ne 24 dX12_kin_19 (by decide) (fun c4 => ?_) (fun c4 => ?_)
    · have hs := ifSf hs c4; have hQ := ifQf hQ c4
      refine g_iconst (v := 1) dX12_kin_24 (by decide) ?_
      refine g_iload_n 1 dX12_kin_25 rfl ?_
      refine g_ishl dX12_kin_26 ?_
      refine g_istore_n _ dX12_kin_27 (by decide) rfl ?_
      refine g_iconst (v := 0) dX12_kin_28 (by decide) ?_
      refine g_istore _ dX12_kin_29 (by decide) rfl ?_
      refine g_sub [2, 4, 1, 0] _ rfl ?_
      exact t_X12_kin_31 hK x2 FU (1 <<< (x1 &&& 31)) 0 hs hQ
    · have hs := ifSt hs c4; have hQ := ifQt hQ c4
      refine g_iconst (v := (-1)) dX12_kin_22 (by decide) ?_
      exact g_iret rfl dX12_kin_23 (hK _ hQ)
theorem c_X12_kin (E : gE) (M : gM) (x1 : Int32) (x2 : Int32) (hs : s_X12_kin M x1 x2) : gC E yX12_kin cX12_kin 5 (some .int) (rm 1) [.ref (gla E 0), .int x1, .int x2] M (fun o N => o = some (.int (f_X12_kin M x1 x2)) ∧ N = M) :=
  gC.of (by decide +kernel) (Nat.le_of_ble_eq_true rfl) rfl (t_X12_kin (K := fun z => z = f_X12_kin M x1 x2) (fun z hz => by rw [hz]; exact ⟨rfl, rfl⟩) x1 x2 hs rfl)
def f_X12_isDayOrNever_12 (M : gM)  : Int32 :=
  1
def s_X12_isDayOrNever_12 (M : gM)  : Prop :=
  True
set_option maxRecDepth 100000 in
set_option maxHeartbeats 4000000 in
theorem t_X12_isDayOrNever_12 {E : gE} {K : Int32 → Prop} {Q : Option Value → gM → Prop} {M : gM} (hK : ∀ z : Int32, K z → Q (some (.int z)) M)    (hs : s_X12_isDayOrNever_12 M ) (hQ : K (f_X12_isDayOrNever_12 M )) : gG E RX12 cX12_isDayOrNever 1 (some .boolean) (rm 1) 12 [] [] M Q := by
  rw [s_X12_isDayOrNever_12] at hs
  rw [f_X12_isDayOrNever_12] at hQ
  refine g_iconst (v := 1) dX12_isDayOrNever_12 (by decide) ?_
  refine g_goto 17 dX12_isDayOrNever_13 (by decide) ?_
  exact g_zret rfl (Or.inr rfl) dX12_isDayOrNever_17 (hK _ hQ)
def f_X12_isDayOrNever (M : gM) (x0 : Int32) : Int32 :=
  if x0 = (-1) then
    (f_X12_isDayOrNever_12 M)
  else
    (if (f_X12_isDay M x0) = 0 then
      (0)
    else
      (f_X12_isDayOrNever_12 M))
def s_X12_isDayOrNever (M : gM) (x0 : Int32) : Prop :=
  if x0 = (-1) then
    (s_X12_isDayOrNever_12 M)
  else
    ((s_X12_isDay M x0) ∧
    (if (f_X12_isDay M x0) = 0 then
      (True)
    else
      (s_X12_isDayOrNever_12 M)))
set_option maxRecDepth 100000 in
set_option maxHeartbeats 4000000 in
theorem t_X12_isDayOrNever {E : gE} {K : Int32 → Prop} {Q : Option Value → gM → Prop} {M : gM} (hK : ∀ z : Int32, K z → Q (some (.int z)) M)  (x0 : Int32)  (hs : s_X12_isDayOrNever M x0) (hQ : K (f_X12_isDayOrNever M x0)) : gG E RX12 cX12_isDayOrNever 1 (some .boolean) (rm 1) 0 [(0, .int x0)] [] M Q := by
  rw [s_X12_isDayOrNever] at hs
  rw [f_X12_isDayOrNever] at hQ
  refine g_iload_n 0 dX12_isDayOrNever_0 rfl ?_
  refine g_iconst (v := (-1)) dX12_isDayOrNever_1 (by decide) ?_
  refine g_icmp_eq 12 dX12_isDayOrNever_2 (by decide) (fun c1 => ?_) (fun c1 => ?_)
  · have hs := ifSt hs c1; have hQ := ifQt hQ c1
    refine g_sub [] _ rfl ?_
    exact t_X12_isDayOrNever_12 hK hs hQ
  · have hs := ifSf hs c1; have hQ := ifQf hQ c1
    refine g_iload_n 0 dX12_isDayOrNever_5 rfl ?_
    have h2 := hs.1; have hs := hs.2
    refine g_callS (As := [.int x0]) (st := []) (c_X12_isDay E M x0 h2) mt_X12_isDay ml_X12_284 sg_X12_isDay rfl (by decide) (Nat.le_of_ble_eq_true rfl) dX12_isDayOrNever_6 ?_
    rintro _ _ ⟨q1, q2⟩; rw [q1, q2]; clear q1 q2
    refine g_if_eq 16 dX12_isDayOrNever_9 (by decide) (fun c3 => ?_) (fun c3 => ?_)
    · have hs := ifSt hs c3; have hQ := ifQt hQ c3
      refine g_iconst (v := 0) dX12_isDayOrNever_16 (by decide) ?_
      exact g_zret rfl (Or.inl rfl) dX12_isDayOrNever_17 (hK _ hQ)
    · have hs := ifSf hs c3; have hQ := ifQf hQ c3
      refine g_sub [] _ rfl ?_
      exact t_X12_isDayOrNever_12 hK hs hQ
theorem c_X12_isDayOrNever (E : gE) (M : gM) (x0 : Int32) (hs : s_X12_isDayOrNever M x0) : gC E yX12_isDayOrNever cX12_isDayOrNever 1 (some .boolean) (rm 1) [.int x0] M (fun o N => o = some (.int (f_X12_isDayOrNever M x0)) ∧ N = M) :=
  gC.of (by decide +kernel) (Nat.le_of_ble_eq_true rfl) rfl (t_X12_isDayOrNever (K := fun z => z = f_X12_isDayOrNever M x0) (fun z hz => by rw [hz]; exact ⟨rfl, rfl⟩) x0 hs rfl)
def f_X12_isPersonOrCrown_16 (M : gM)  : Int32 :=
  1
def s_X12_isPersonOrCrown_16 (M : gM)  : Prop :=
  True
set_option maxRecDepth 100000 in
set_option maxHeartbeats 4000000 in
theorem t_X12_isPersonOrCrown_16 {E : gE} {K : Int32 → Prop} {Q : Option Value → gM → Prop} {M : gM} (hK : ∀ z : Int32, K z → Q (some (.int z)) M)    (hs : s_X12_isPersonOrCrown_16 M ) (hQ : K (f_X12_isPersonOrCrown_16 M )) : gG E RX12 cX12_isPersonOrCrown 2 (some .boolean) (rm 1) 16 [] [] M Q := by
  rw [s_X12_isPersonOrCrown_16] at hs
  rw [f_X12_isPersonOrCrown_16] at hQ
  refine g_iconst (v := 1) dX12_isPersonOrCrown_16 (by decide) ?_
  refine g_goto 21 dX12_isPersonOrCrown_17 (by decide) ?_
  exact g_zret rfl (Or.inr rfl) dX12_isPersonOrCrown_21 (hK _ hQ)
def f_X12_isPersonOrCrown (M : gM) (x1 : Int32) : Int32 :=
  if x1 = (-1) then
    (f_X12_isPersonOrCrown_16 M)
  else
    (if (f_X7_isPerson M 0 x1) = 0 then
      (0)
    else
      (f_X12_isPersonOrCrown_16 M))
def s_X12_isPersonOrCrown (M : gM) (x1 : Int32) : Prop :=
  if x1 = (-1) then
    (s_X12_isPersonOrCrown_16 M)
  else
    ((s_X7_isPerson M 0 x1) ∧
    (if (f_X7_isPerson M 0 x1) = 0 then
      (True)
    else
      (s_X12_isPersonOrCrown_16 M)))
set_option maxRecDepth 100000 in
set_option maxHeartbeats 4000000 in
theorem t_X12_isPersonOrCrown {E : gE} {K : Int32 → Prop} {Q : Option Value → gM → Prop} {M : gM} (hK : ∀ z : Int32, K z → Q (some (.int z)) M)  (x1 : Int32)  (hs : s_X12_isPersonOrCrown M x1) (hQ : K (f_X12_isPersonOrCrown M x1)) : gG E RX12 cX12_isPersonOrCrown 2 (some .boolean) (rm 1) 0 [(0, .ref (gla E 0)), (1, .int x1)] [] M Q := by
  rw [s_X12_isPersonOrCrown] at hs
  rw [f_X12_isPersonOrCrown] at hQ
  refine g_iload_n 1 dX12_isPersonOrCrown_0 rfl ?_
  refine g_iconst (v := (-1)) dX12_isPersonOrCrown_1 (by decide) ?_
  refine g_icmp_eq 16 dX12_isPersonOrCrown_2 (by decide) (fun c1 => ?_) (fun c1 => ?_)
  · have hs := ifSt hs c1; have hQ := ifQt hQ c1
    refine g_sub [] _ rfl ?_
    exact t_X12_isPersonOrCrown_16 hK hs hQ
  · have hs := ifSf hs c1; have hQ := ifQf hQ c1
    refine g_aload_n 0 dX12_isPersonOrCrown_5 rfl ?_
    refine g_getR 0 (rgC 0) fd_X12_26 dF_Wd rfl rfl dX12_isPersonOrCrown_6 ?_
    refine g_iload_n 1 dX12_isPersonOrCrown_9 rfl ?_
    have h2 := hs.1; have hs := hs.2
    refine g_callV (As := [.int x1]) (st := []) (rgC 0) (c_X7_isPerson E M 0 lt02 x1 h2) mt_X7_isPerson ml_X12_101 (dF_Rg lt02) rfl rfl sg_X7_isPerson rfl (by decide) (Nat.le_of_ble_eq_true rfl) dX12_isPersonOrCrown_10 ?_
    rintro _ _ ⟨q1, q2⟩; rw [q1, q2]; clear q1 q2
    refine g_if_eq 20 dX12_isPersonOrCrown_13 (by decide) (fun c3 => ?_) (fun c3 => ?_)
    · have hs := ifSt hs c3; have hQ := ifQt hQ c3
      refine g_iconst (v := 0) dX12_isPersonOrCrown_20 (by decide) ?_
      exact g_zret rfl (Or.inl rfl) dX12_isPersonOrCrown_21 (hK _ hQ)
    · have hs := ifSf hs c3; have hQ := ifQf hQ c3
      refine g_sub [] _ rfl ?_
      exact t_X12_isPersonOrCrown_16 hK hs hQ
theorem c_X12_isPersonOrCrown (E : gE) (M : gM) (x1 : Int32) (hs : s_X12_isPersonOrCrown M x1) : gC E yX12_isPersonOrCrown cX12_isPersonOrCrown 2 (some .boolean) (rm 1) [.ref (gla E 0), .int x1] M (fun o N => o = some (.int (f_X12_isPersonOrCrown M x1)) ∧ N = M) :=
  gC.of (by decide +kernel) (Nat.le_of_ble_eq_true rfl) rfl (t_X12_isPersonOrCrown (K := fun z => z = f_X12_isPersonOrCrown M x1) (fun z hz => by rw [hz]; exact ⟨rfl, rfl⟩) x1 hs rfl)
def f_X12_count (M : gM) (x1 : Int32) : Int32 :=
  if x1 = 0 then
    (rdI M 4 0 0 0)
  else
    (if x1 = 1 then
      (rdI M 5 0 0 0)
    else
      (if x1 = 2 then
        (rdI M 6 0 0 0)
      else
        (if x1 = 3 then
          (rdI M 7 0 0 0)
        else
          (if x1 = 4 then
            (rdI M 8 0 0 0)
          else
            (if x1 = 5 then
              (f_X7_lostPapers M 0)
            else
              (if x1 = 6 then
                (f_X7_deaths M 0)
              else
                (if x1 = 7 then
                  (rdI M 63 0 0 0)
                else
                  (if x1 = 8 then
                    (rdI M 0 0 0 0)
                  else
                    ((-1))))))))))
def s_X12_count (M : gM) (x1 : Int32) : Prop :=
  if x1 = 0 then
    (True)
  else
    (if x1 = 1 then
      (True)
    else
      (if x1 = 2 then
        (True)
      else
        (if x1 = 3 then
          (True)
        else
          (if x1 = 4 then
            (True)
          else
            (if x1 = 5 then
              ((s_X7_lostPapers M 0) ∧
              (True))
            else
              (if x1 = 6 then
                ((s_X7_deaths M 0) ∧
                (True))
              else
                (if x1 = 7 then
                  (True)
                else
                  (if x1 = 8 then
                    (True)
                  else
                    (True)))))))))
set_option maxRecDepth 100000 in
set_option maxHeartbeats 4000000 in
theorem t_X12_count {E : gE} {K : Int32 → Prop} {Q : Option Value → gM → Prop} {M : gM} (hK : ∀ z : Int32, K z → Q (some (.int z)) M)  (x1 : Int32)  (hs : s_X12_count M x1) (hQ : K (f_X12_count M x1)) : gG E RX12 cX12_count 2 (some .int) (rm 2) 0 [(0, .ref (gla E 0)), (1, .int x1)] [] M Q := by
  rw [s_X12_count] at hs
  rw [f_X12_count] at hQ
  refine g_iload_n 1 dX12_count_0 rfl ?_
  by_cases c3 : x1 = 0
  · have hs := ifSt hs c3; have hQ := ifQt hQ c3
    refine g_tin 52 (k := 0) (z := 0) (off := 51) c3 dX12_count_1 (by decide) (by decide) (by decide) rfl (by decide) ?_
    refine g_aload_n 0 dX12_count_52 rfl ?_
    refine g_getR 0 (rgC 0) fd_X12_26 dF_Wd rfl rfl dX12_count_53 ?_
    refine g_getI (rgC 0) fd_X12_98 (dF_Rg lt02) rfl dX12_count_56 ?_
    exact g_iret rfl dX12_count_59 (hK _ hQ)
  have hs := ifSf hs c3; have hQ := ifQf hQ c3
  by_cases c4 : x1 = 1
  · have hs := ifSt hs c4; have hQ := ifQt hQ c4
    refine g_tin 60 (k := 1) (z := 1) (off := 59) c4 dX12_count_1 (by decide) (by decide) (by decide) rfl (by decide) ?_
    refine g_aload_n 0 dX12_count_60 rfl ?_
    refine g_getR 0 (rgC 0) fd_X12_26 dF_Wd rfl rfl dX12_count_61 ?_
    refine g_getI (rgC 0) fd_X12_242 (dF_Rg lt02) rfl dX12_count_64 ?_
    exact g_iret rfl dX12_count_67 (hK _ hQ)
  have hs := ifSf hs c4; have hQ := ifQf hQ c4
  by_cases c5 : x1 = 2
  · have hs := ifSt hs c5; have hQ := ifQt hQ c5
    refine g_tin 68 (k := 2) (z := 2) (off := 67) c5 dX12_count_1 (by decide) (by decide) (by decide) rfl (by decide) ?_
    refine g_aload_n 0 dX12_count_68 rfl ?_
    refine g_getR 0 (rgC 0) fd_X12_26 dF_Wd rfl rfl dX12_count_69 ?_
    refine g_getI (rgC 0) fd_X12_245 (dF_Rg lt02) rfl dX12_count_72 ?_
    exact g_iret rfl dX12_count_75 (hK _ hQ)
  have hs := ifSf hs c5; have hQ := ifQf hQ c5
  by_cases c6 : x1 = 3
  · have hs := ifSt hs c6; have hQ := ifQt hQ c6
    refine g_tin 76 (k := 3) (z := 3) (off := 75) c6 dX12_count_1 (by decide) (by decide) (by decide) rfl (by decide) ?_
    refine g_aload_n 0 dX12_count_76 rfl ?_
    refine g_getR 0 (rgC 0) fd_X12_26 dF_Wd rfl rfl dX12_count_77 ?_
    refine g_getI (rgC 0) fd_X12_248 (dF_Rg lt02) rfl dX12_count_80 ?_
    exact g_iret rfl dX12_count_83 (hK _ hQ)
  have hs := ifSf hs c6; have hQ := ifQf hQ c6
  by_cases c7 : x1 = 4
  · have hs := ifSt hs c7; have hQ := ifQt hQ c7
    refine g_tin 84 (k := 4) (z := 4) (off := 83) c7 dX12_count_1 (by decide) (by decide) (by decide) rfl (by decide) ?_
    refine g_aload_n 0 dX12_count_84 rfl ?_
    refine g_getR 0 (rgC 0) fd_X12_26 dF_Wd rfl rfl dX12_count_85 ?_
    refine g_getI (rgC 0) fd_X12_251 (dF_Rg lt02) rfl dX12_count_88 ?_
    exact g_iret rfl dX12_count_91 (hK _ hQ)
  have hs := ifSf hs c7; have hQ := ifQf hQ c7
  by_cases c8 : x1 = 5
  · have hs := ifSt hs c8; have hQ := ifQt hQ c8
    refine g_tin 92 (k := 5) (z := 5) (off := 91) c8 dX12_count_1 (by decide) (by decide) (by decide) rfl (by decide) ?_
    refine g_aload_n 0 dX12_count_92 rfl ?_
    refine g_getR 0 (rgC 0) fd_X12_26 dF_Wd rfl rfl dX12_count_93 ?_
    have h1 := hs.1; have hs := hs.2
    refine g_callV (As := []) (st := []) (rgC 0) (c_X7_lostPapers E M 0 lt02 h1) mt_X7_lostPapers ml_X12_254 (dF_Rg lt02) rfl rfl sg_X7_lostPapers rfl (by decide) (Nat.le_of_ble_eq_true rfl) dX12_count_96 ?_
    rintro _ _ ⟨q1, q2⟩; rw [q1, q2]; clear q1 q2
    exact g_iret rfl dX12_count_99 (hK _ hQ)
  have hs := ifSf hs c8; have hQ := ifQf hQ c8
  by_cases c9 : x1 = 6
  · have hs := ifSt hs c9; have hQ := ifQt hQ c9
    refine g_tin 100 (k := 6) (z := 6) (off := 99) c9 dX12_count_1 (by decide) (by decide) (by decide) rfl (by decide) ?_
    refine g_aload_n 0 dX12_count_100 rfl ?_
    refine g_getR 0 (rgC 0) fd_X12_26 dF_Wd rfl rfl dX12_count_101 ?_
    have h2 := hs.1; have hs := hs.2
    refine g_callV (As := []) (st := []) (rgC 0) (c_X7_deaths E M 0 lt02 h2) mt_X7_deaths ml_X12_258 (dF_Rg lt02) rfl rfl sg_X7_deaths rfl (by decide) (Nat.le_of_ble_eq_true rfl) dX12_count_104 ?_
    rintro _ _ ⟨q1, q2⟩; rw [q1, q2]; clear q1 q2
    exact g_iret rfl dX12_count_107 (hK _ hQ)
  have hs := ifSf hs c9; have hQ := ifQf hQ c9
  by_cases c10 : x1 = 7
  · have hs := ifSt hs c10; have hQ := ifQt hQ c10
    refine g_tin 108 (k := 7) (z := 7) (off := 107) c10 dX12_count_1 (by decide) (by decide) (by decide) rfl (by decide) ?_
    refine g_aload_n 0 dX12_count_108 rfl ?_
    refine g_getR 0 222 fd_X12_75 dF_Wd rfl rfl dX12_count_109 ?_
    refine g_getI 222 fd_X12_261 dF_Hi rfl dX12_count_112 ?_
    exact g_iret rfl dX12_count_115 (hK _ hQ)
  have hs := ifSf hs c10; have hQ := ifQf hQ c10
  by_cases c11 : x1 = 8
  · have hs := ifSt hs c11; have hQ := ifQt hQ c11
    refine g_tin 116 (k := 8) (z := 8) (off := 115) c11 dX12_count_1 (by decide) (by decide) (by decide) rfl (by decide) ?_
    refine g_aload_n 0 dX12_count_116 rfl ?_
    refine g_getI 0 fd_X12_13 dF_Wd rfl dX12_count_117 ?_
    exact g_iret rfl dX12_count_120 (hK _ hQ)
  have hs := ifSf hs c11; have hQ := ifQf hQ c11
  refine g_tdf 121 dX12_count_1 (fun h1 h2 => by have ec3 : ¬ Int32.toInt x1 = 0 := ne_ti c3 (by decide); have ec4 : ¬ Int32.toInt x1 = 1 := ne_ti c4 (by decide); have ec5 : ¬ Int32.toInt x1 = 2 := ne_ti c5 (by decide); have ec6 : ¬ Int32.toInt x1 = 3 := ne_ti c6 (by decide); have ec7 : ¬ Int32.toInt x1 = 4 := ne_ti c7 (by decide); have ec8 : ¬ Int32.toInt x1 = 5 := ne_ti c8 (by decide); have ec9 : ¬ Int32.toInt x1 = 6 := ne_ti c9 (by decide); have ec10 : ¬ Int32.toInt x1 = 7 := ne_ti c10 (by decide); have ec11 : ¬ Int32.toInt x1 = 8 := ne_ti c11 (by decide); exfalso; omega) (by decide) ?_
  refine g_iconst (v := (-1)) dX12_count_121 (by decide) ?_
  exact g_iret rfl dX12_count_122 (hK _ hQ)
theorem c_X12_count (E : gE) (M : gM) (x1 : Int32) (hs : s_X12_count M x1) : gC E yX12_count cX12_count 2 (some .int) (rm 2) [.ref (gla E 0), .int x1] M (fun o N => o = some (.int (f_X12_count M x1)) ∧ N = M) :=
  gC.of (by decide +kernel) (Nat.le_of_ble_eq_true rfl) rfl (t_X12_count (K := fun z => z = f_X12_count M x1) (fun z hz => by rw [hz]; exact ⟨rfl, rfl⟩) x1 hs rfl)
def f_X12_changeCopies (M : gM) (x1 : Int32) (x2 : Int32) : gM :=
  bnd (f_X2_keep M 0 x1 (rdI M 33 0 (nn x1) 0)) fun M3 =>
  (bnd (wrI M3 33 0 (nn x1) 0 x2) fun M5 =>
  (M5))
def s_X12_changeCopies (M : gM) (x1 : Int32) (x2 : Int32) : Prop :=
  (vp_in x1 12) ∧
  ((s_X2_keep M 0 x1 (rdI M 33 0 (nn x1) 0)) ∧
  (bndP (f_X2_keep M 0 x1 (rdI M 33 0 (nn x1) 0)) fun M3 =>
  ((vp_in x1 12) ∧
  (bndP (wrI M3 33 0 (nn x1) 0 x2) fun M5 =>
  (True)))))
theorem o_X12_changeCopies (M : gM) (x1 : Int32) (x2 : Int32) : offW [33, 62, 63, 64, 65, 66] M (f_X12_changeCopies M x1 x2) := by
  rw [f_X12_changeCopies]
  refine offB (offR.tr ((o_X2_keep M 0 x1 (rdI M 33 0 (nn x1) 0)).mono (by decide))) (fun M3 oM3 => ?_)
  refine offB (oM3.wI (by decide)) (fun M5 oM5 => ?_)
  exact oM5
set_option maxRecDepth 100000 in
set_option maxHeartbeats 4000000 in
theorem t_X12_changeCopies {E : gE} {K : gM → Prop} {Q : Option Value → gM → Prop} (hK : ∀ z : gM, K z → Q none z) (M : gM) (x1 : Int32) (x2 : Int32)  (hs : s_X12_changeCopies M x1 x2) (hQ : K (f_X12_changeCopies M x1 x2)) : gG E RX12 cX12_changeCopies 3 none (rm 2) 0 [(0, .ref (gla E 0)), (1, .int x1), (2, .int x2)] [] M Q := by
  rw [s_X12_changeCopies] at hs
  rw [f_X12_changeCopies] at hQ
  refine g_aload_n 0 dX12_changeCopies_0 rfl ?_
  refine g_getR 0 222 fd_X12_75 dF_Wd rfl rfl dX12_changeCopies_1 ?_
  refine g_iconst (v := 0) dX12_changeCopies_4 (by decide) ?_
  refine g_iload_n 1 dX12_changeCopies_5 rfl ?_
  refine g_aload_n 0 dX12_changeCopies_6 rfl ?_
  refine g_getR 0 (rgC 0) fd_X12_26 dF_Wd rfl rfl dX12_changeCopies_7 ?_
  refine g_getR (rgC 0) (rgC 0 + 4) fd_X12_148 (dF_Rg lt02) rfl rfl dX12_changeCopies_10 ?_
  refine g_iload_n 1 dX12_changeCopies_13 rfl ?_
  have h1 := hs.1; have hs := hs.2
  refine g_aald (rgC 0 + 4) (paC 0 (nn x1)) rfl (dF_Rg_papers lt02) h1 (aj_Pa _ _) dX12_changeCopies_14 ?_
  refine g_getI (paC 0 (nn x1)) fd_X12_183 (dF_Pa lt02 (vpL h1)) rfl dX12_changeCopies_15 ?_
  have h2 := hs.1; have hs := hs.2
  refine g_callV (As := [.int 0, .int x1, .int (rdI M 33 0 (nn x1) 0)]) (st := []) 222 (c_X2_keep E M 0 x1 (rdI M 33 0 (nn x1) 0) h2) mt_X2_keep ml_X12_272 dF_Hi rfl rfl sg_X2_keep rfl (by decide) (Nat.le_of_ble_eq_true rfl) dX12_changeCopies_18 ?_
  rintro _ M3 ⟨rfl, hM3⟩
  have hQ := bndQ hQ M3 hM3; have hs := bndS hs M3 hM3
  refine g_aload_n 0 dX12_changeCopies_21 rfl ?_
  refine g_getR 0 (rgC 0) fd_X12_26 dF_Wd rfl rfl dX12_changeCopies_22 ?_
  refine g_getR (rgC 0) (rgC 0 + 4) fd_X12_148 (dF_Rg lt02) rfl rfl dX12_changeCopies_25 ?_
  refine g_iload_n 1 dX12_changeCopies_28 rfl ?_
  have h4 := hs.1; have hs := hs.2
  refine g_aald (rgC 0 + 4) (paC 0 (nn x1)) rfl (dF_Rg_papers lt02) h4 (aj_Pa _ _) dX12_changeCopies_29 ?_
  refine g_iload_n 2 dX12_changeCopies_30 rfl ?_
  refine g_putI (paC 0 (nn x1)) fd_X12_183 (dF_Pa lt02 (vpL h4)) rfl dX12_changeCopies_31 (fun M5 hM5 => ?_)
  have hQ := bndQ hQ M5 hM5; have hs := bndS hs M5 hM5
  exact g_vret rfl dX12_changeCopies_34 (hK _ hQ)
theorem c_X12_changeCopies (E : gE) (M : gM) (x1 : Int32) (x2 : Int32) (hs : s_X12_changeCopies M x1 x2) : gC E yX12_changeCopies cX12_changeCopies 3 none (rm 2) [.ref (gla E 0), .int x1, .int x2] M (fun o N => o = none ∧ N = f_X12_changeCopies M x1 x2) :=
  gC.of (by decide +kernel) (Nat.le_of_ble_eq_true rfl) rfl (t_X12_changeCopies (K := fun z => z = f_X12_changeCopies M x1 x2) (fun z hz => ⟨rfl, hz⟩) M x1 x2 hs rfl)
def f_X12_witness (M : gM) (x1 : Int32) (x2 : Int32) : Int32 × gM :=
  if (f_X7_isPaper M 0 x1) = 0 then
    (((-1), M))
  else
    (if (f_X7_isPerson M 0 x2) = 0 then
      (((-1), M))
    else
      (if 4 ≤ (f_J6_bitCount_0f7a4 M (rdI M 30 0 (nn x1) 0)) then
        (((-2), M))
      else
        (if (f_X5_isWitness M 0 (nn x1) x2) = 0 then
          (if (rdI M 25 0 (nn x1) 0) = x2 then
            (((-2), M))
          else
            (bnd (f_X2_keep M 1 x1 (rdI M 30 0 (nn x1) 0)) fun M12 =>
            (bnd (wrI M12 30 0 (nn x1) 0 ((rdI M12 30 0 (nn x1) 0) ||| (1 <<< (x2 &&& 31)))) fun M13 =>
            ((f_J6_bitCount_0f7a4 M13 (rdI M13 30 0 (nn x1) 0), M13)))))
        else
          (((-2), M)))))
def s_X12_witness (M : gM) (x1 : Int32) (x2 : Int32) : Prop :=
  (s_X7_isPaper M 0 x1) ∧
  (if (f_X7_isPaper M 0 x1) = 0 then
    (True)
  else
    ((s_X7_isPerson M 0 x2) ∧
    (if (f_X7_isPerson M 0 x2) = 0 then
      (True)
    else
      ((vp_in x1 12) ∧
      ((s_J6_bitCount_0f7a4 M (rdI M 30 0 (nn x1) 0)) ∧
      (if 4 ≤ (f_J6_bitCount_0f7a4 M (rdI M 30 0 (nn x1) 0)) then
        (True)
      else
        ((s_X5_isWitness M 0 (nn x1) x2) ∧
        (if (f_X5_isWitness M 0 (nn x1) x2) = 0 then
          (if (rdI M 25 0 (nn x1) 0) = x2 then
            (True)
          else
            ((s_X2_keep M 1 x1 (rdI M 30 0 (nn x1) 0)) ∧
            (bndP (f_X2_keep M 1 x1 (rdI M 30 0 (nn x1) 0)) fun M12 =>
            (bndP (wrI M12 30 0 (nn x1) 0 ((rdI M12 30 0 (nn x1) 0) ||| (1 <<< (x2 &&& 31)))) fun M13 =>
            ((s_J6_bitCount_0f7a4 M13 (rdI M13 30 0 (nn x1) 0)) ∧
            (True))))))
        else
          (True)))))))))
theorem o_X12_witness (M : gM) (x1 : Int32) (x2 : Int32) : offW [30, 62, 63, 64, 65, 66] M (f_X12_witness M x1 x2).2 := by
  rw [f_X12_witness]
  refine offI2 ?_ ?_
  · exact offR
  · refine offI2 ?_ ?_
    · exact offR
    · refine offI2 ?_ ?_
      · exact offR
      · refine offI2 ?_ ?_
        · refine offI2 ?_ ?_
          · exact offR
          · refine offB2 (offR.tr ((o_X2_keep M 1 x1 (rdI M 30 0 (nn x1) 0)).mono (by decide))) (fun M12 oM12 => ?_)
            refine offB2 (oM12.wI (by decide)) (fun M13 oM13 => ?_)
            exact oM13
        · exact offR
set_option maxRecDepth 100000 in
set_option maxHeartbeats 4000000 in
theorem t_X12_witness {E : gE} {K : Int32 × gM → Prop} {Q : Option Value → gM → Prop} (hK : ∀ z : Int32 × gM, K z → Q (some (.int z.1)) z.2) (M : gM) (x1 : Int32) (x2 : Int32)  (hs : s_X12_witness M x1 x2) (hQ : K (f_X12_witness M x1 x2)) : gG E RX12 cX12_witness 4 (some .int) (rm 2) 0 [(0, .ref (gla E 0)), (1, .int x1), (2, .int x2)] [] M Q := by
  rw [s_X12_witness] at hs
  rw [f_X12_witness] at hQ
  refine g_aload_n 0 dX12_witness_0 rfl ?_
  refine g_getR 0 (rgC 0) fd_X12_26 dF_Wd rfl rfl dX12_witness_1 ?_
  refine g_iload_n 1 dX12_witness_4 rfl ?_
  have h1 := hs.1; have hs := hs.2
  refine g_callV (As := [.int x1]) (st := []) (rgC 0) (c_X7_isPaper E M 0 lt02 x1 h1) mt_X7_isPaper ml_X12_143 (dF_Rg lt02) rfl rfl sg_X7_isPaper rfl (by decide) (Nat.le_of_ble_eq_true rfl) dX12_witness_5 ?_
  rintro _ _ ⟨q1, q2⟩; rw [q1, q2]; clear q1 q2
  refine g_if_eq 22 dX12_witness_8 (by decide) (fun c2 => ?_) (fun c2 => ?_)
  · have hs := ifSt hs c2; have hQ := ifQt hQ c2
    refine g_iconst (v := (-1)) dX12_witness_22 (by decide) ?_
    exact g_iret rfl dX12_witness_23 (hK _ hQ)
  · have hs := ifSf hs c2; have hQ := ifQf hQ c2
    refine g_aload_n 0 dX12_witness_11 rfl ?_
    refine g_getR 0 (rgC 0) fd_X12_26 dF_Wd rfl rfl dX12_witness_12 ?_
    refine g_iload_n 2 dX12_witness_15 rfl ?_
    have h3 := hs.1; have hs := hs.2
    refine g_callV (As := [.int x2]) (st := []) (rgC 0) (c_X7_isPerson E M 0 lt02 x2 h3) mt_X7_isPerson ml_X12_101 (dF_Rg lt02) rfl rfl sg_X7_isPerson rfl (by decide) (Nat.le_of_ble_eq_true rfl) dX12_witness_16 ?_
    rintro _ _ ⟨q1, q2⟩; rw [q1, q2]; clear q1 q2
    refine g_if_ne 24 dX12_witness_19 (by decide) (fun c4 => ?_) (fun c4 => ?_)
    · have hs := ifSf hs c4; have hQ := ifQf hQ c4
      refine g_aload_n 0 dX12_witness_24 rfl ?_
      refine g_getR 0 (rgC 0) fd_X12_26 dF_Wd rfl rfl dX12_witness_25 ?_
      refine g_getR (rgC 0) (rgC 0 + 4) fd_X12_148 (dF_Rg lt02) rfl rfl dX12_witness_28 ?_
      refine g_iload_n 1 dX12_witness_31 rfl ?_
      have h5 := hs.1; have hs := hs.2
      refine g_aald (rgC 0 + 4) (paC 0 (nn x1)) rfl (dF_Rg_papers lt02) h5 (aj_Pa _ _) dX12_witness_32 ?_
      refine g_astore_n _ dX12_witness_33 (by decide) rfl ?_
      refine g_aload_n 0 dX12_witness_34 rfl ?_
      refine g_getI (paC 0 (nn x1)) fd_X12_174 (dF_Pa lt02 (vpL h5)) rfl dX12_witness_35 ?_
      have h6 := hs.1; have hs := hs.2
      refine g_callS (As := [.int (rdI M 30 0 (nn x1) 0)]) (st := []) (c_J6_bitCount_0f7a4 E M (rdI M 30 0 (nn x1) 0) h6) mt_J6_bitCount_0f7a4 ml_X12_276 sg_J6_bitCount_0f7a4 rfl (by decide) (Nat.le_of_ble_eq_true rfl) dX12_witness_38 ?_
      rintro _ _ ⟨q1, q2⟩; rw [q1, q2]; clear q1 q2
      refine g_iconst (v := 4) dX12_witness_41 (by decide) ?_
      refine g_icmp_ge 61 dX12_witness_42 (by decide) (fun c7 => ?_) (fun c7 => ?_)
      · have hs := ifSt hs c7; have hQ := ifQt hQ c7
        refine g_bipush (v := (-2)) dX12_witness_61 (by decide) ?_
        exact g_iret rfl dX12_witness_63 (hK _ hQ)
      · have hs := ifSf hs c7; have hQ := ifQf hQ c7
        refine g_aload_n 0 dX12_witness_45 rfl ?_
        refine g_iload_n 3 dX12_witness_46 rfl ?_
        have h8 := hs.1; have hs := hs.2
        refine g_callV (As := [.int x2]) (st := []) (paC 0 (nn x1)) (c_X5_isWitness E M 0 (nn x1) lt02 (vpL h5) x2 h8) mt_X5_isWitness ml_X12_281 (dF_Pa lt02 (vpL h5)) rfl rfl sg_X5_isWitness rfl (by decide) (Nat.le_of_ble_eq_true rfl) dX12_witness_47 ?_
        rintro _ _ ⟨q1, q2⟩; rw [q1, q2]; clear q1 q2
        refine g_if_ne 61 dX12_witness_50 (by decide) (fun c9 => ?_) (fun c9 => ?_)
        · have hs := ifSf hs c9; have hQ := ifQf hQ c9
          refine g_bipush (v := (-2)) dX12_witness_61 (by decide) ?_
          exact g_iret rfl dX12_witness_63 (hK _ hQ)
        · have hs := ifSt hs c9; have hQ := ifQt hQ c9
          refine g_aload_n 0 dX12_witness_53 rfl ?_
          refine g_getI (paC 0 (nn x1)) fd_X12_152 (dF_Pa lt02 (vpL h5)) rfl dX12_witness_54 ?_
          refine g_iload_n 3 dX12_witness_57 rfl ?_
          refine g_icmp_ne 64 dX12_witness_58 (by decide) (fun c10 => ?_) (fun c10 => ?_)
          · have hs := ifSf hs c10; have hQ := ifQf hQ c10
            refine g_aload_n 1 dX12_witness_64 rfl ?_
            refine g_getR 0 222 fd_X12_75 dF_Wd rfl rfl dX12_witness_65 ?_
            refine g_iconst (v := 1) dX12_witness_68 (by decide) ?_
            refine g_iload_n 2 dX12_witness_69 rfl ?_
            refine g_aload_n 0 dX12_witness_70 rfl ?_
            refine g_getI (paC 0 (nn x1)) fd_X12_174 (dF_Pa lt02 (vpL h5)) rfl dX12_witness_71 ?_
            have h11 := hs.1; have hs := hs.2
            refine g_callV (As := [.int 1, .int x1, .int (rdI M 30 0 (nn x1) 0)]) (st := []) 222 (c_X2_keep E M 1 x1 (rdI M 30 0 (nn x1) 0) h11) mt_X2_keep ml_X12_272 dF_Hi rfl rfl sg_X2_keep rfl (by decide) (Nat.le_of_ble_eq_true rfl) dX12_witness_74 ?_
            rintro _ M12 ⟨rfl, hM12⟩
            have hQ := bndQ hQ M12 hM12; have hs := bndS hs M12 hM12
            refine g_aload_n 0 dX12_witness_77 rfl ?_
            refine g_dup dX12_witness_78 rfl ?_
            refine g_getI (paC 0 (nn x1)) fd_X12_174 (dF_Pa lt02 (vpL h5)) rfl dX12_witness_79 ?_
            refine g_iconst (v := 1) dX12_witness_82 (by decide) ?_
            refine g_iload_n 3 dX12_witness_83 rfl ?_
            refine g_ishl dX12_witness_84 ?_
            refine g_ior dX12_witness_85 ?_
            refine g_putI (paC 0 (nn x1)) fd_X12_174 (dF_Pa lt02 (vpL h5)) rfl dX12_witness_86 (fun M13 hM13 => ?_)
            have hQ := bndQ hQ M13 hM13; have hs := bndS hs M13 hM13
            refine g_aload_n 0 dX12_witness_89 rfl ?_
            refine g_getI (paC 0 (nn x1)) fd_X12_174 (dF_Pa lt02 (vpL h5)) rfl dX12_witness_90 ?_
            have h14 := hs.1; have hs := hs.2
            refine g_callS (As := [.int (rdI M13 30 0 (nn x1) 0)]) (st := []) (c_J6_bitCount_0f7a4 E M13 (rdI M13 30 0 (nn x1) 0) h14) mt_J6_bitCount_0f7a4 ml_X12_276 sg_J6_bitCount_0f7a4 rfl (by decide) (Nat.le_of_ble_eq_true rfl) dX12_witness_93 ?_
            rintro _ _ ⟨q1, q2⟩; rw [q1, q2]; clear q1 q2
            exact g_iret rfl dX12_witness_96 (hK _ hQ)
          · have hs := ifSt hs c10; have hQ := ifQt hQ c10
            refine g_bipush (v := (-2)) dX12_witness_61 (by decide) ?_
            exact g_iret rfl dX12_witness_63 (hK _ hQ)
    · have hs := ifSt hs c4; have hQ := ifQt hQ c4
      refine g_iconst (v := (-1)) dX12_witness_22 (by decide) ?_
      exact g_iret rfl dX12_witness_23 (hK _ hQ)
theorem c_X12_witness (E : gE) (M : gM) (x1 : Int32) (x2 : Int32) (hs : s_X12_witness M x1 x2) : gC E yX12_witness cX12_witness 4 (some .int) (rm 2) [.ref (gla E 0), .int x1, .int x2] M (fun o N => o = some (.int (f_X12_witness M x1 x2).1) ∧ N = (f_X12_witness M x1 x2).2) :=
  gC.of (by decide +kernel) (Nat.le_of_ble_eq_true rfl) rfl (t_X12_witness (K := fun z => z = f_X12_witness M x1 x2) (fun z hz => by rw [hz]; exact ⟨rfl, rfl⟩) M x1 x2 hs rfl)
def f_X12_wed (M : gM) (x1 : Int32) (x2 : Int32) (x3 : Int32) : Int32 × gM :=
  if (f_X7_isPerson M 0 x1) = 0 then
    (((-1), M))
  else
    (if (f_X7_isPerson M 0 x2) = 0 then
      (((-1), M))
    else
      (if x1 = x2 then
        (((-1), M))
      else
        (if (f_X12_isDay M x3) = 0 then
          (((-1), M))
        else
          (if (rdI M 8 0 0 0) < 6 then
            (bnd (f_X2_keep M 2 0 (rdI M 8 0 0 0)) fun M10 =>
            (bnd (f_X7_addWedding M10 0 x1 x2 x3) fun M12 =>
            ((rdI M12 8 0 0 0, M12))))
          else
            (((-2), M))))))
def s_X12_wed (M : gM) (x1 : Int32) (x2 : Int32) (x3 : Int32) : Prop :=
  (s_X7_isPerson M 0 x1) ∧
  (if (f_X7_isPerson M 0 x1) = 0 then
    (True)
  else
    ((s_X7_isPerson M 0 x2) ∧
    (if (f_X7_isPerson M 0 x2) = 0 then
      (True)
    else
      (if x1 = x2 then
        (True)
      else
        ((s_X12_isDay M x3) ∧
        (if (f_X12_isDay M x3) = 0 then
          (True)
        else
          (if (rdI M 8 0 0 0) < 6 then
            ((s_X2_keep M 2 0 (rdI M 8 0 0 0)) ∧
            (bndP (f_X2_keep M 2 0 (rdI M 8 0 0 0)) fun M10 =>
            ((s_X7_addWedding M10 0 x1 x2 x3) ∧
            (bndP (f_X7_addWedding M10 0 x1 x2 x3) fun M12 =>
            (True)))))
          else
            (True))))))))
theorem o_X12_wed (M : gM) (x1 : Int32) (x2 : Int32) (x3 : Int32) : offW [8, 10, 11, 12, 62, 63, 64, 65, 66] M (f_X12_wed M x1 x2 x3).2 := by
  rw [f_X12_wed]
  refine offI2 ?_ ?_
  · exact offR
  · refine offI2 ?_ ?_
    · exact offR
    · refine offI2 ?_ ?_
      · exact offR
      · refine offI2 ?_ ?_
        · exact offR
        · refine offI2 ?_ ?_
          · refine offB2 (offR.tr ((o_X2_keep M 2 0 (rdI M 8 0 0 0)).mono (by decide))) (fun M10 oM10 => ?_)
            refine offB2 (oM10.tr ((o_X7_addWedding M10 0 x1 x2 x3).mono (by decide))) (fun M12 oM12 => ?_)
            exact oM12
          · exact offR
set_option maxRecDepth 100000 in
set_option maxHeartbeats 4000000 in
theorem t_X12_wed {E : gE} {K : Int32 × gM → Prop} {Q : Option Value → gM → Prop} (hK : ∀ z : Int32 × gM, K z → Q (some (.int z.1)) z.2) (M : gM) (x1 : Int32) (x2 : Int32) (x3 : Int32)  (hs : s_X12_wed M x1 x2 x3) (hQ : K (f_X12_wed M x1 x2 x3)) : gG E RX12 cX12_wed 4 (some .int) (rm 2) 0 [(0, .ref (gla E 0)), (1, .int x1), (2, .int x2), (3, .int x3)] [] M Q := by
  rw [s_X12_wed] at hs
  rw [f_X12_wed] at hQ
  refine g_aload_n 0 dX12_wed_0 rfl ?_
  refine g_getR 0 (rgC 0) fd_X12_26 dF_Wd rfl rfl dX12_wed_1 ?_
  refine g_iload_n 1 dX12_wed_4 rfl ?_
  have h1 := hs.1; have hs := hs.2
  refine g_callV (As := [.int x1]) (st := []) (rgC 0) (c_X7_isPerson E M 0 lt02 x1 h1) mt_X7_isPerson ml_X12_101 (dF_Rg lt02) rfl rfl sg_X7_isPerson rfl (by decide) (Nat.le_of_ble_eq_true rfl) dX12_wed_5 ?_
  rintro _ _ ⟨q1, q2⟩; rw [q1, q2]; clear q1 q2
  refine g_if_eq 34 dX12_wed_8 (by decide) (fun c2 => ?_) (fun c2 => ?_)
  · have hs := ifSt hs c2; have hQ := ifQt hQ c2
    refine g_iconst (v := (-1)) dX12_wed_34 (by decide) ?_
    exact g_iret rfl dX12_wed_35 (hK _ hQ)
  · have hs := ifSf hs c2; have hQ := ifQf hQ c2
    refine g_aload_n 0 dX12_wed_11 rfl ?_
    refine g_getR 0 (rgC 0) fd_X12_26 dF_Wd rfl rfl dX12_wed_12 ?_
    refine g_iload_n 2 dX12_wed_15 rfl ?_
    have h3 := hs.1; have hs := hs.2
    refine g_callV (As := [.int x2]) (st := []) (rgC 0) (c_X7_isPerson E M 0 lt02 x2 h3) mt_X7_isPerson ml_X12_101 (dF_Rg lt02) rfl rfl sg_X7_isPerson rfl (by decide) (Nat.le_of_ble_eq_true rfl) dX12_wed_16 ?_
    rintro _ _ ⟨q1, q2⟩; rw [q1, q2]; clear q1 q2
    refine g_if_eq 34 dX12_wed_19 (by decide) (fun c4 => ?_) (fun c4 => ?_)
    · have hs := ifSt hs c4; have hQ := ifQt hQ c4
      refine g_iconst (v := (-1)) dX12_wed_34 (by decide) ?_
      exact g_iret rfl dX12_wed_35 (hK _ hQ)
    · have hs := ifSf hs c4; have hQ := ifQf hQ c4
      refine g_iload_n 1 dX12_wed_22 rfl ?_
      refine g_iload_n 2 dX12_wed_23 rfl ?_
      refine g_icmp_eq 34 dX12_wed_24 (by decide) (fun c5 => ?_) (fun c5 => ?_)
      · have hs := ifSt hs c5; have hQ := ifQt hQ c5
        refine g_iconst (v := (-1)) dX12_wed_34 (by decide) ?_
        exact g_iret rfl dX12_wed_35 (hK _ hQ)
      · have hs := ifSf hs c5; have hQ := ifQf hQ c5
        refine g_iload_n 3 dX12_wed_27 rfl ?_
        have h6 := hs.1; have hs := hs.2
        refine g_callS (As := [.int x3]) (st := []) (c_X12_isDay E M x3 h6) mt_X12_isDay ml_X12_284 sg_X12_isDay rfl (by decide) (Nat.le_of_ble_eq_true rfl) dX12_wed_28 ?_
        rintro _ _ ⟨q1, q2⟩; rw [q1, q2]; clear q1 q2
        refine g_if_ne 36 dX12_wed_31 (by decide) (fun c7 => ?_) (fun c7 => ?_)
        · have hs := ifSf hs c7; have hQ := ifQf hQ c7
          refine g_aload_n 0 dX12_wed_36 rfl ?_
          refine g_getR 0 (rgC 0) fd_X12_26 dF_Wd rfl rfl dX12_wed_37 ?_
          refine g_getI (rgC 0) fd_X12_251 (dF_Rg lt02) rfl dX12_wed_40 ?_
          refine g_bipush (v := 6) dX12_wed_43 (by decide) ?_
          refine g_icmp_lt 51 dX12_wed_45 (by decide) (fun c8 => ?_) (fun c8 => ?_)
          · have hs := ifSt hs c8; have hQ := ifQt hQ c8
            refine g_aload_n 0 dX12_wed_51 rfl ?_
            refine g_getR 0 222 fd_X12_75 dF_Wd rfl rfl dX12_wed_52 ?_
            refine g_iconst (v := 2) dX12_wed_55 (by decide) ?_
            refine g_iconst (v := 0) dX12_wed_56 (by decide) ?_
            refine g_aload_n 0 dX12_wed_57 rfl ?_
            refine g_getR 0 (rgC 0) fd_X12_26 dF_Wd rfl rfl dX12_wed_58 ?_
            refine g_getI (rgC 0) fd_X12_251 (dF_Rg lt02) rfl dX12_wed_61 ?_
            have h9 := hs.1; have hs := hs.2
            refine g_callV (As := [.int 2, .int 0, .int (rdI M 8 0 0 0)]) (st := []) 222 (c_X2_keep E M 2 0 (rdI M 8 0 0 0) h9) mt_X2_keep ml_X12_272 dF_Hi rfl rfl sg_X2_keep rfl (by decide) (Nat.le_of_ble_eq_true rfl) dX12_wed_64 ?_
            rintro _ M10 ⟨rfl, hM10⟩
            have hQ := bndQ hQ M10 hM10; have hs := bndS hs M10 hM10
            refine g_aload_n 0 dX12_wed_67 rfl ?_
            refine g_getR 0 (rgC 0) fd_X12_26 dF_Wd rfl rfl dX12_wed_68 ?_
            refine g_iload_n 1 dX12_wed_71 rfl ?_
            refine g_iload_n 2 dX12_wed_72 rfl ?_
            refine g_iload_n 3 dX12_wed_73 rfl ?_
            have h11 := hs.1; have hs := hs.2
            refine g_callV (As := [.int x1, .int x2, .int x3]) (st := []) (rgC 0) (c_X7_addWedding E M10 0 lt02 x1 x2 x3 h11) mt_X7_addWedding ml_X12_287 (dF_Rg lt02) rfl rfl sg_X7_addWedding rfl (by decide) (Nat.le_of_ble_eq_true rfl) dX12_wed_74 ?_
            rintro _ M12 ⟨rfl, hM12⟩
            have hQ := bndQ hQ M12 hM12; have hs := bndS hs M12 hM12
            refine g_aload_n 0 dX12_wed_77 rfl ?_
            refine g_getR 0 (rgC 0) fd_X12_26 dF_Wd rfl rfl dX12_wed_78 ?_
            refine g_getI (rgC 0) fd_X12_251 (dF_Rg lt02) rfl dX12_wed_81 ?_
            exact g_iret rfl dX12_wed_84 (hK _ hQ)
          · have hs := ifSf hs c8; have hQ := ifQf hQ c8
            refine g_bipush (v := (-2)) dX12_wed_48 (by decide) ?_
            exact g_iret rfl dX12_wed_50 (hK _ hQ)
        · have hs := ifSt hs c7; have hQ := ifQt hQ c7
          refine g_iconst (v := (-1)) dX12_wed_34 (by decide) ?_
          exact g_iret rfl dX12_wed_35 (hK _ hQ)
theorem c_X12_wed (E : gE) (M : gM) (x1 : Int32) (x2 : Int32) (x3 : Int32) (hs : s_X12_wed M x1 x2 x3) : gC E yX12_wed cX12_wed 4 (some .int) (rm 2) [.ref (gla E 0), .int x1, .int x2, .int x3] M (fun o N => o = some (.int (f_X12_wed M x1 x2 x3).1) ∧ N = (f_X12_wed M x1 x2 x3).2) :=
  gC.of (by decide +kernel) (Nat.le_of_ble_eq_true rfl) rfl (t_X12_wed (K := fun z => z = f_X12_wed M x1 x2 x3) (fun z hz => by rw [hz]; exact ⟨rfl, rfl⟩) M x1 x2 x3 hs rfl)
def f_X12_dies (M : gM) (x1 : Int32) (x2 : Int32) : Int32 × gM :=
  if (f_X7_isPerson M 0 x1) = 0 then
    ((0, M))
  else
    (if (f_X12_isDayOrNever M x2) = 0 then
      ((0, M))
    else
      (if (rdI M 20 0 (nn x1) 0) = x2 then
        ((0, M))
      else
        (bnd (f_X2_keep M 3 x1 (rdI M 20 0 (nn x1) 0)) fun M9 =>
        (bnd (wrI M9 20 0 (nn x1) 0 x2) fun M11 =>
        ((1, M11))))))
def s_X12_dies (M : gM) (x1 : Int32) (x2 : Int32) : Prop :=
  (s_X7_isPerson M 0 x1) ∧
  (if (f_X7_isPerson M 0 x1) = 0 then
    (True)
  else
    ((s_X12_isDayOrNever M x2) ∧
    (if (f_X12_isDayOrNever M x2) = 0 then
      (True)
    else
      ((vp_in x1 10) ∧
      (if (rdI M 20 0 (nn x1) 0) = x2 then
        (True)
      else
        ((vp_in x1 10) ∧
        ((s_X2_keep M 3 x1 (rdI M 20 0 (nn x1) 0)) ∧
        (bndP (f_X2_keep M 3 x1 (rdI M 20 0 (nn x1) 0)) fun M9 =>
        ((vp_in x1 10) ∧
        (bndP (wrI M9 20 0 (nn x1) 0 x2) fun M11 =>
        (True)))))))))))
theorem o_X12_dies (M : gM) (x1 : Int32) (x2 : Int32) : offW [20, 62, 63, 64, 65, 66] M (f_X12_dies M x1 x2).2 := by
  rw [f_X12_dies]
  refine offI2 ?_ ?_
  · exact offR
  · refine offI2 ?_ ?_
    · exact offR
    · refine offI2 ?_ ?_
      · exact offR
      · refine offB2 (offR.tr ((o_X2_keep M 3 x1 (rdI M 20 0 (nn x1) 0)).mono (by decide))) (fun M9 oM9 => ?_)
        refine offB2 (oM9.wI (by decide)) (fun M11 oM11 => ?_)
        exact oM11
set_option maxRecDepth 100000 in
set_option maxHeartbeats 4000000 in
theorem t_X12_dies {E : gE} {K : Int32 × gM → Prop} {Q : Option Value → gM → Prop} (hK : ∀ z : Int32 × gM, K z → Q (some (.int z.1)) z.2) (M : gM) (x1 : Int32) (x2 : Int32)  (hs : s_X12_dies M x1 x2) (hQ : K (f_X12_dies M x1 x2)) : gG E RX12 cX12_dies 3 (some .boolean) (rm 2) 0 [(0, .ref (gla E 0)), (1, .int x1), (2, .int x2)] [] M Q := by
  rw [s_X12_dies] at hs
  rw [f_X12_dies] at hQ
  refine g_aload_n 0 dX12_dies_0 rfl ?_
  refine g_getR 0 (rgC 0) fd_X12_26 dF_Wd rfl rfl dX12_dies_1 ?_
  refine g_iload_n 1 dX12_dies_4 rfl ?_
  have h1 := hs.1; have hs := hs.2
  refine g_callV (As := [.int x1]) (st := []) (rgC 0) (c_X7_isPerson E M 0 lt02 x1 h1) mt_X7_isPerson ml_X12_101 (dF_Rg lt02) rfl rfl sg_X7_isPerson rfl (by decide) (Nat.le_of_ble_eq_true rfl) dX12_dies_5 ?_
  rintro _ _ ⟨q1, q2⟩; rw [q1, q2]; clear q1 q2
  refine g_if_eq 34 dX12_dies_8 (by decide) (fun c2 => ?_) (fun c2 => ?_)
  · have hs := ifSt hs c2; have hQ := ifQt hQ c2
    refine g_iconst (v := 0) dX12_dies_34 (by decide) ?_
    exact g_zret rfl (Or.inl rfl) dX12_dies_35 (hK _ hQ)
  · have hs := ifSf hs c2; have hQ := ifQf hQ c2
    refine g_iload_n 2 dX12_dies_11 rfl ?_
    have h3 := hs.1; have hs := hs.2
    refine g_callS (As := [.int x2]) (st := []) (c_X12_isDayOrNever E M x2 h3) mt_X12_isDayOrNever ml_X12_290 sg_X12_isDayOrNever rfl (by decide) (Nat.le_of_ble_eq_true rfl) dX12_dies_12 ?_
    rintro _ _ ⟨q1, q2⟩; rw [q1, q2]; clear q1 q2
    refine g_if_eq 34 dX12_dies_15 (by decide) (fun c4 => ?_) (fun c4 => ?_)
    · have hs := ifSt hs c4; have hQ := ifQt hQ c4
      refine g_iconst (v := 0) dX12_dies_34 (by decide) ?_
      exact g_zret rfl (Or.inl rfl) dX12_dies_35 (hK _ hQ)
    · have hs := ifSf hs c4; have hQ := ifQf hQ c4
      refine g_aload_n 0 dX12_dies_18 rfl ?_
      refine g_getR 0 (rgC 0) fd_X12_26 dF_Wd rfl rfl dX12_dies_19 ?_
      refine g_getR (rgC 0) (rgC 0 + 2) fd_X12_112 (dF_Rg lt02) rfl rfl dX12_dies_22 ?_
      refine g_iload_n 1 dX12_dies_25 rfl ?_
      have h5 := hs.1; have hs := hs.2
      refine g_aald (rgC 0 + 2) (peC 0 (nn x1)) rfl (dF_Rg_persons lt02) h5 (aj_Pe _ _) dX12_dies_26 ?_
      refine g_getI (peC 0 (nn x1)) fd_X12_121 (dF_Pe lt02 (vpL h5)) rfl dX12_dies_27 ?_
      refine g_iload_n 2 dX12_dies_30 rfl ?_
      refine g_icmp_ne 36 dX12_dies_31 (by decide) (fun c6 => ?_) (fun c6 => ?_)
      · have hs := ifSf hs c6; have hQ := ifQf hQ c6
        refine g_aload_n 0 dX12_dies_36 rfl ?_
        refine g_getR 0 222 fd_X12_75 dF_Wd rfl rfl dX12_dies_37 ?_
        refine g_iconst (v := 3) dX12_dies_40 (by decide) ?_
        refine g_iload_n 1 dX12_dies_41 rfl ?_
        refine g_aload_n 0 dX12_dies_42 rfl ?_
        refine g_getR 0 (rgC 0) fd_X12_26 dF_Wd rfl rfl dX12_dies_43 ?_
        refine g_getR (rgC 0) (rgC 0 + 2) fd_X12_112 (dF_Rg lt02) rfl rfl dX12_dies_46 ?_
        refine g_iload_n 1 dX12_dies_49 rfl ?_
        have h7 := hs.1; have hs := hs.2
        refine g_aald (rgC 0 + 2) (peC 0 (nn x1)) rfl (dF_Rg_persons lt02) h7 (aj_Pe _ _) dX12_dies_50 ?_
        refine g_getI (peC 0 (nn x1)) fd_X12_121 (dF_Pe lt02 (vpL h7)) rfl dX12_dies_51 ?_
        have h8 := hs.1; have hs := hs.2
        refine g_callV (As := [.int 3, .int x1, .int (rdI M 20 0 (nn x1) 0)]) (st := []) 222 (c_X2_keep E M 3 x1 (rdI M 20 0 (nn x1) 0) h8) mt_X2_keep ml_X12_272 dF_Hi rfl rfl sg_X2_keep rfl (by decide) (Nat.le_of_ble_eq_true rfl) dX12_dies_54 ?_
        rintro _ M9 ⟨rfl, hM9⟩
        have hQ := bndQ hQ M9 hM9; have hs := bndS hs M9 hM9
        refine g_aload_n 0 dX12_dies_57 rfl ?_
        refine g_getR 0 (rgC 0) fd_X12_26 dF_Wd rfl rfl dX12_dies_58 ?_
        refine g_getR (rgC 0) (rgC 0 + 2) fd_X12_112 (dF_Rg lt02) rfl rfl dX12_dies_61 ?_
        refine g_iload_n 1 dX12_dies_64 rfl ?_
        have h10 := hs.1; have hs := hs.2
        refine g_aald (rgC 0 + 2) (peC 0 (nn x1)) rfl (dF_Rg_persons lt02) h10 (aj_Pe _ _) dX12_dies_65 ?_
        refine g_iload_n 2 dX12_dies_66 rfl ?_
        refine g_putI (peC 0 (nn x1)) fd_X12_121 (dF_Pe lt02 (vpL h10)) rfl dX12_dies_67 (fun M11 hM11 => ?_)
        have hQ := bndQ hQ M11 hM11; have hs := bndS hs M11 hM11
        refine g_iconst (v := 1) dX12_dies_70 (by decide) ?_
        exact g_zret rfl (Or.inr rfl) dX12_dies_71 (hK _ hQ)
      · have hs := ifSt hs c6; have hQ := ifQt hQ c6
        refine g_iconst (v := 0) dX12_dies_34 (by decide) ?_
        exact g_zret rfl (Or.inl rfl) dX12_dies_35 (hK _ hQ)
theorem c_X12_dies (E : gE) (M : gM) (x1 : Int32) (x2 : Int32) (hs : s_X12_dies M x1 x2) : gC E yX12_dies cX12_dies 3 (some .boolean) (rm 2) [.ref (gla E 0), .int x1, .int x2] M (fun o N => o = some (.int (f_X12_dies M x1 x2).1) ∧ N = (f_X12_dies M x1 x2).2) :=
  gC.of (by decide +kernel) (Nat.le_of_ble_eq_true rfl) rfl (t_X12_dies (K := fun z => z = f_X12_dies M x1 x2) (fun z hz => by rw [hz]; exact ⟨rfl, rfl⟩) M x1 x2 hs rfl)
def f_X12_takeBack (M : gM) (x1 : Int32) : Int32 × gM :=
  if (f_X7_isPaper M 0 x1) = 0 then
    ((0, M))
  else
    (if (rdI M 34 0 (nn x1) 0) = 0 then
      (bnd (f_X2_keep M 4 x1 0) fun M6 =>
      (bnd (wrI M6 34 0 (nn x1) 0 1) fun M8 =>
      ((1, M8))))
    else
      ((0, M)))
def s_X12_takeBack (M : gM) (x1 : Int32) : Prop :=
  (s_X7_isPaper M 0 x1) ∧
  (if (f_X7_isPaper M 0 x1) = 0 then
    (True)
  else
    ((vp_in x1 12) ∧
    (if (rdI M 34 0 (nn x1) 0) = 0 then
      ((s_X2_keep M 4 x1 0) ∧
      (bndP (f_X2_keep M 4 x1 0) fun M6 =>
      ((vp_in x1 12) ∧
      (bndP (wrI M6 34 0 (nn x1) 0 1) fun M8 =>
      (True)))))
    else
      (True))))
theorem o_X12_takeBack (M : gM) (x1 : Int32) : offW [34, 62, 63, 64, 65, 66] M (f_X12_takeBack M x1).2 := by
  rw [f_X12_takeBack]
  refine offI2 ?_ ?_
  · exact offR
  · refine offI2 ?_ ?_
    · refine offB2 (offR.tr ((o_X2_keep M 4 x1 0).mono (by decide))) (fun M6 oM6 => ?_)
      refine offB2 (oM6.wI (by decide)) (fun M8 oM8 => ?_)
      exact oM8
    · exact offR
set_option maxRecDepth 100000 in
set_option maxHeartbeats 4000000 in
theorem t_X12_takeBack {E : gE} {K : Int32 × gM → Prop} {Q : Option Value → gM → Prop} (hK : ∀ z : Int32 × gM, K z → Q (some (.int z.1)) z.2) (M : gM) (x1 : Int32)  (hs : s_X12_takeBack M x1) (hQ : K (f_X12_takeBack M x1)) : gG E RX12 cX12_takeBack 2 (some .boolean) (rm 2) 0 [(0, .ref (gla E 0)), (1, .int x1)] [] M Q := by
  rw [s_X12_takeBack] at hs
  rw [f_X12_takeBack] at hQ
  refine g_aload_n 0 dX12_takeBack_0 rfl ?_
  refine g_getR 0 (rgC 0) fd_X12_26 dF_Wd rfl rfl dX12_takeBack_1 ?_
  refine g_iload_n 1 dX12_takeBack_4 rfl ?_
  have h1 := hs.1; have hs := hs.2
  refine g_callV (As := [.int x1]) (st := []) (rgC 0) (c_X7_isPaper E M 0 lt02 x1 h1) mt_X7_isPaper ml_X12_143 (dF_Rg lt02) rfl rfl sg_X7_isPaper rfl (by decide) (Nat.le_of_ble_eq_true rfl) dX12_takeBack_5 ?_
  rintro _ _ ⟨q1, q2⟩; rw [q1, q2]; clear q1 q2
  refine g_if_eq 26 dX12_takeBack_8 (by decide) (fun c2 => ?_) (fun c2 => ?_)
  · have hs := ifSt hs c2; have hQ := ifQt hQ c2
    refine g_iconst (v := 0) dX12_takeBack_26 (by decide) ?_
    exact g_zret rfl (Or.inl rfl) dX12_takeBack_27 (hK _ hQ)
  · have hs := ifSf hs c2; have hQ := ifQf hQ c2
    refine g_aload_n 0 dX12_takeBack_11 rfl ?_
    refine g_getR 0 (rgC 0) fd_X12_26 dF_Wd rfl rfl dX12_takeBack_12 ?_
    refine g_getR (rgC 0) (rgC 0 + 4) fd_X12_148 (dF_Rg lt02) rfl rfl dX12_takeBack_15 ?_
    refine g_iload_n 1 dX12_takeBack_18 rfl ?_
    have h3 := hs.1; have hs := hs.2
    refine g_aald (rgC 0 + 4) (paC 0 (nn x1)) rfl (dF_Rg_papers lt02) h3 (aj_Pa _ _) dX12_takeBack_19 ?_
    refine g_getI (paC 0 (nn x1)) fd_X12_186 (dF_Pa lt02 (vpL h3)) rfl dX12_takeBack_20 ?_
    refine g_if_eq 28 dX12_takeBack_23 (by decide) (fun c4 => ?_) (fun c4 => ?_)
    · have hs := ifSt hs c4; have hQ := ifQt hQ c4
      refine g_aload_n 0 dX12_takeBack_28 rfl ?_
      refine g_getR 0 222 fd_X12_75 dF_Wd rfl rfl dX12_takeBack_29 ?_
      refine g_iconst (v := 4) dX12_takeBack_32 (by decide) ?_
      refine g_iload_n 1 dX12_takeBack_33 rfl ?_
      refine g_iconst (v := 0) dX12_takeBack_34 (by decide) ?_
      have h5 := hs.1; have hs := hs.2
      refine g_callV (As := [.int 4, .int x1, .int 0]) (st := []) 222 (c_X2_keep E M 4 x1 0 h5) mt_X2_keep ml_X12_272 dF_Hi rfl rfl sg_X2_keep rfl (by decide) (Nat.le_of_ble_eq_true rfl) dX12_takeBack_35 ?_
      rintro _ M6 ⟨rfl, hM6⟩
      have hQ := bndQ hQ M6 hM6; have hs := bndS hs M6 hM6
      refine g_aload_n 0 dX12_takeBack_38 rfl ?_
      refine g_getR 0 (rgC 0) fd_X12_26 dF_Wd rfl rfl dX12_takeBack_39 ?_
      refine g_getR (rgC 0) (rgC 0 + 4) fd_X12_148 (dF_Rg lt02) rfl rfl dX12_takeBack_42 ?_
      refine g_iload_n 1 dX12_takeBack_45 rfl ?_
      have h7 := hs.1; have hs := hs.2
      refine g_aald (rgC 0 + 4) (paC 0 (nn x1)) rfl (dF_Rg_papers lt02) h7 (aj_Pa _ _) dX12_takeBack_46 ?_
      refine g_iconst (v := 1) dX12_takeBack_47 (by decide) ?_
      refine g_putZ (paC 0 (nn x1)) fd_X12_186 (Or.inr rfl) (dF_Pa lt02 (vpL h7)) rfl dX12_takeBack_48 (fun M8 hM8 => ?_)
      have hQ := bndQ hQ M8 hM8; have hs := bndS hs M8 hM8
      refine g_iconst (v := 1) dX12_takeBack_51 (by decide) ?_
      exact g_zret rfl (Or.inr rfl) dX12_takeBack_52 (hK _ hQ)
    · have hs := ifSf hs c4; have hQ := ifQf hQ c4
      refine g_iconst (v := 0) dX12_takeBack_26 (by decide) ?_
      exact g_zret rfl (Or.inl rfl) dX12_takeBack_27 (hK _ hQ)
theorem c_X12_takeBack (E : gE) (M : gM) (x1 : Int32) (hs : s_X12_takeBack M x1) : gC E yX12_takeBack cX12_takeBack 2 (some .boolean) (rm 2) [.ref (gla E 0), .int x1] M (fun o N => o = some (.int (f_X12_takeBack M x1).1) ∧ N = (f_X12_takeBack M x1).2) :=
  gC.of (by decide +kernel) (Nat.le_of_ble_eq_true rfl) rfl (t_X12_takeBack (K := fun z => z = f_X12_takeBack M x1) (fun z hz => by rw [hz]; exact ⟨rfl, rfl⟩) M x1 hs rfl)
def f_X12_lose (M : gM) (x1 : Int32) (x2 : Int32) : Int32 × gM :=
  if (f_X7_isPaper M 0 x1) = 0 then
    ((0, M))
  else
    (if x2 < 0 then
      ((0, M))
    else
      (if 3 < x2 then
        ((0, M))
      else
        (if (rdI M 33 0 (nn x1) 0) = x2 then
          ((0, M))
        else
          (bnd (f_X12_changeCopies M x1 x2) fun M8 =>
          ((1, M8))))))
def s_X12_lose (M : gM) (x1 : Int32) (x2 : Int32) : Prop :=
  (s_X7_isPaper M 0 x1) ∧
  (if (f_X7_isPaper M 0 x1) = 0 then
    (True)
  else
    (if x2 < 0 then
      (True)
    else
      (if 3 < x2 then
        (True)
      else
        ((vp_in x1 12) ∧
        (if (rdI M 33 0 (nn x1) 0) = x2 then
          (True)
        else
          ((s_X12_changeCopies M x1 x2) ∧
          (bndP (f_X12_changeCopies M x1 x2) fun M8 =>
          (True))))))))
theorem o_X12_lose (M : gM) (x1 : Int32) (x2 : Int32) : offW [33, 62, 63, 64, 65, 66] M (f_X12_lose M x1 x2).2 := by
  rw [f_X12_lose]
  refine offI2 ?_ ?_
  · exact offR
  · refine offI2 ?_ ?_
    · exact offR
    · refine offI2 ?_ ?_
      · exact offR
      · refine offI2 ?_ ?_
        · exact offR
        · refine offB2 (offR.tr ((o_X12_changeCopies M x1 x2).mono (by decide))) (fun M8 oM8 => ?_)
          exact oM8
set_option maxRecDepth 100000 in
set_option maxHeartbeats 4000000 in
theorem t_X12_lose {E : gE} {K : Int32 × gM → Prop} {Q : Option Value → gM → Prop} (hK : ∀ z : Int32 × gM, K z → Q (some (.int z.1)) z.2) (M : gM) (x1 : Int32) (x2 : Int32)  (hs : s_X12_lose M x1 x2) (hQ : K (f_X12_lose M x1 x2)) : gG E RX12 cX12_lose 3 (some .boolean) (rm 3) 0 [(0, .ref (gla E 0)), (1, .int x1), (2, .int x2)] [] M Q := by
  rw [s_X12_lose] at hs
  rw [f_X12_lose] at hQ
  refine g_aload_n 0 dX12_lose_0 rfl ?_
  refine g_getR 0 (rgC 0) fd_X12_26 dF_Wd rfl rfl dX12_lose_1 ?_
  refine g_iload_n 1 dX12_lose_4 rfl ?_
  have h1 := hs.1; have hs := hs.2
  refine g_callV (As := [.int x1]) (st := []) (rgC 0) (c_X7_isPaper E M 0 lt02 x1 h1) mt_X7_isPaper ml_X12_143 (dF_Rg lt02) rfl rfl sg_X7_isPaper rfl (by decide) (Nat.le_of_ble_eq_true rfl) dX12_lose_5 ?_
  rintro _ _ ⟨q1, q2⟩; rw [q1, q2]; clear q1 q2
  refine g_if_eq 36 dX12_lose_8 (by decide) (fun c2 => ?_) (fun c2 => ?_)
  · have hs := ifSt hs c2; have hQ := ifQt hQ c2
    refine g_iconst (v := 0) dX12_lose_36 (by decide) ?_
    exact g_zret rfl (Or.inl rfl) dX12_lose_37 (hK _ hQ)
  · have hs := ifSf hs c2; have hQ := ifQf hQ c2
    refine g_iload_n 2 dX12_lose_11 rfl ?_
    refine g_if_lt 36 dX12_lose_12 (by decide) (fun c3 => ?_) (fun c3 => ?_)
    · have hs := ifSt hs c3; have hQ := ifQt hQ c3
      refine g_iconst (v := 0) dX12_lose_36 (by decide) ?_
      exact g_zret rfl (Or.inl rfl) dX12_lose_37 (hK _ hQ)
    · have hs := ifSf hs c3; have hQ := ifQf hQ c3
      refine g_iload_n 2 dX12_lose_15 rfl ?_
      refine g_iconst (v := 3) dX12_lose_16 (by decide) ?_
      refine g_icmp_gt 36 dX12_lose_17 (by decide) (fun c4 => ?_) (fun c4 => ?_)
      · have hs := ifSt hs c4; have hQ := ifQt hQ c4
        refine g_iconst (v := 0) dX12_lose_36 (by decide) ?_
        exact g_zret rfl (Or.inl rfl) dX12_lose_37 (hK _ hQ)
      · have hs := ifSf hs c4; have hQ := ifQf hQ c4
        refine g_aload_n 0 dX12_lose_20 rfl ?_
        refine g_getR 0 (rgC 0) fd_X12_26 dF_Wd rfl rfl dX12_lose_21 ?_
        refine g_getR (rgC 0) (rgC 0 + 4) fd_X12_148 (dF_Rg lt02) rfl rfl dX12_lose_24 ?_
        refine g_iload_n 1 dX12_lose_27 rfl ?_
        have h5 := hs.1; have hs := hs.2
        refine g_aald (rgC 0 + 4) (paC 0 (nn x1)) rfl (dF_Rg_papers lt02) h5 (aj_Pa _ _) dX12_lose_28 ?_
        refine g_getI (paC 0 (nn x1)) fd_X12_183 (dF_Pa lt02 (vpL h5)) rfl dX12_lose_29 ?_
        refine g_iload_n 2 dX12_lose_32 rfl ?_
        refine g_icmp_ne 38 dX12_lose_33 (by decide) (fun c6 => ?_) (fun c6 => ?_)
        · have hs := ifSf hs c6; have hQ := ifQf hQ c6
          refine g_aload_n 0 dX12_lose_38 rfl ?_
          refine g_iload_n 1 dX12_lose_39 rfl ?_
          refine g_iload_n 2 dX12_lose_40 rfl ?_
          have h7 := hs.1; have hs := hs.2
          refine g_callV (As := [.int x1, .int x2]) (st := []) 0 (c_X12_changeCopies E M x1 x2 h7) mt_X12_changeCopies ml_X12_264 dF_Wd rfl rfl sg_X12_changeCopies rfl (by decide) (Nat.le_of_ble_eq_true rfl) dX12_lose_41 ?_
          rintro _ M8 ⟨rfl, hM8⟩
          have hQ := bndQ hQ M8 hM8; have hs := bndS hs M8 hM8
          refine g_iconst (v := 1) dX12_lose_44 (by decide) ?_
          exact g_zret rfl (Or.inr rfl) dX12_lose_45 (hK _ hQ)
        · have hs := ifSt hs c6; have hQ := ifQt hQ c6
          refine g_iconst (v := 0) dX12_lose_36 (by decide) ?_
          exact g_zret rfl (Or.inl rfl) dX12_lose_37 (hK _ hQ)
theorem c_X12_lose (E : gE) (M : gM) (x1 : Int32) (x2 : Int32) (hs : s_X12_lose M x1 x2) : gC E yX12_lose cX12_lose 3 (some .boolean) (rm 3) [.ref (gla E 0), .int x1, .int x2] M (fun o N => o = some (.int (f_X12_lose M x1 x2).1) ∧ N = (f_X12_lose M x1 x2).2) :=
  gC.of (by decide +kernel) (Nat.le_of_ble_eq_true rfl) rfl (t_X12_lose (K := fun z => z = f_X12_lose M x1 x2) (fun z hz => by rw [hz]; exact ⟨rfl, rfl⟩) M x1 x2 hs rfl)
def f_X12_find (M : gM) (x1 : Int32) : Int32 × gM :=
  if (f_X7_isPaper M 0 x1) = 0 then
    ((0, M))
  else
    (if (f_X5_isLost M 0 (nn x1)) = 0 then
      ((0, M))
    else
      (bnd (f_X12_changeCopies M x1 (-1)) fun M7 =>
      ((1, M7))))
def s_X12_find (M : gM) (x1 : Int32) : Prop :=
  (s_X7_isPaper M 0 x1) ∧
  (if (f_X7_isPaper M 0 x1) = 0 then
    (True)
  else
    ((vp_in x1 12) ∧
    ((s_X5_isLost M 0 (nn x1)) ∧
    (if (f_X5_isLost M 0 (nn x1)) = 0 then
      (True)
    else
      ((s_X12_changeCopies M x1 (-1)) ∧
      (bndP (f_X12_changeCopies M x1 (-1)) fun M7 =>
      (True)))))))
theorem o_X12_find (M : gM) (x1 : Int32) : offW [33, 62, 63, 64, 65, 66] M (f_X12_find M x1).2 := by
  rw [f_X12_find]
  refine offI2 ?_ ?_
  · exact offR
  · refine offI2 ?_ ?_
    · exact offR
    · refine offB2 (offR.tr ((o_X12_changeCopies M x1 (-1)).mono (by decide))) (fun M7 oM7 => ?_)
      exact oM7
set_option maxRecDepth 100000 in
set_option maxHeartbeats 4000000 in
theorem t_X12_find {E : gE} {K : Int32 × gM → Prop} {Q : Option Value → gM → Prop} (hK : ∀ z : Int32 × gM, K z → Q (some (.int z.1)) z.2) (M : gM) (x1 : Int32)  (hs : s_X12_find M x1) (hQ : K (f_X12_find M x1)) : gG E RX12 cX12_find 2 (some .boolean) (rm 3) 0 [(0, .ref (gla E 0)), (1, .int x1)] [] M Q := by
  rw [s_X12_find] at hs
  rw [f_X12_find] at hQ
  refine g_aload_n 0 dX12_find_0 rfl ?_
  refine g_getR 0 (rgC 0) fd_X12_26 dF_Wd rfl rfl dX12_find_1 ?_
  refine g_iload_n 1 dX12_find_4 rfl ?_
  have h1 := hs.1; have hs := hs.2
  refine g_callV (As := [.int x1]) (st := []) (rgC 0) (c_X7_isPaper E M 0 lt02 x1 h1) mt_X7_isPaper ml_X12_143 (dF_Rg lt02) rfl rfl sg_X7_isPaper rfl (by decide) (Nat.le_of_ble_eq_true rfl) dX12_find_5 ?_
  rintro _ _ ⟨q1, q2⟩; rw [q1, q2]; clear q1 q2
  refine g_if_eq 26 dX12_find_8 (by decide) (fun c2 => ?_) (fun c2 => ?_)
  · have hs := ifSt hs c2; have hQ := ifQt hQ c2
    refine g_iconst (v := 0) dX12_find_26 (by decide) ?_
    exact g_zret rfl (Or.inl rfl) dX12_find_27 (hK _ hQ)
  · have hs := ifSf hs c2; have hQ := ifQf hQ c2
    refine g_aload_n 0 dX12_find_11 rfl ?_
    refine g_getR 0 (rgC 0) fd_X12_26 dF_Wd rfl rfl dX12_find_12 ?_
    refine g_getR (rgC 0) (rgC 0 + 4) fd_X12_148 (dF_Rg lt02) rfl rfl dX12_find_15 ?_
    refine g_iload_n 1 dX12_find_18 rfl ?_
    have h3 := hs.1; have hs := hs.2
    refine g_aald (rgC 0 + 4) (paC 0 (nn x1)) rfl (dF_Rg_papers lt02) h3 (aj_Pa _ _) dX12_find_19 ?_
    have h4 := hs.1; have hs := hs.2
    refine g_callV (As := []) (st := []) (paC 0 (nn x1)) (c_X5_isLost E M 0 (nn x1) lt02 (vpL h3) h4) mt_X5_isLost ml_X12_268 (dF_Pa lt02 (vpL h3)) rfl rfl sg_X5_isLost rfl (by decide) (Nat.le_of_ble_eq_true rfl) dX12_find_20 ?_
    rintro _ _ ⟨q1, q2⟩; rw [q1, q2]; clear q1 q2
    refine g_if_ne 28 dX12_find_23 (by decide) (fun c5 => ?_) (fun c5 => ?_)
    · have hs := ifSf hs c5; have hQ := ifQf hQ c5
      refine g_aload_n 0 dX12_find_28 rfl ?_
      refine g_iload_n 1 dX12_find_29 rfl ?_
      refine g_iconst (v := (-1)) dX12_find_30 (by decide) ?_
      have h6 := hs.1; have hs := hs.2
      refine g_callV (As := [.int x1, .int (-1)]) (st := []) 0 (c_X12_changeCopies E M x1 (-1) h6) mt_X12_changeCopies ml_X12_264 dF_Wd rfl rfl sg_X12_changeCopies rfl (by decide) (Nat.le_of_ble_eq_true rfl) dX12_find_31 ?_
      rintro _ M7 ⟨rfl, hM7⟩
      have hQ := bndQ hQ M7 hM7; have hs := bndS hs M7 hM7
      refine g_iconst (v := 1) dX12_find_34 (by decide) ?_
      exact g_zret rfl (Or.inr rfl) dX12_find_35 (hK _ hQ)
    · have hs := ifSt hs c5; have hQ := ifQt hQ c5
      refine g_iconst (v := 0) dX12_find_26 (by decide) ?_
      exact g_zret rfl (Or.inl rfl) dX12_find_27 (hK _ hQ)
theorem c_X12_find (E : gE) (M : gM) (x1 : Int32) (hs : s_X12_find M x1) : gC E yX12_find cX12_find 2 (some .boolean) (rm 3) [.ref (gla E 0), .int x1] M (fun o N => o = some (.int (f_X12_find M x1).1) ∧ N = (f_X12_find M x1).2) :=
  gC.of (by decide +kernel) (Nat.le_of_ble_eq_true rfl) rfl (t_X12_find (K := fun z => z = f_X12_find M x1) (fun z hz => by rw [hz]; exact ⟨rfl, rfl⟩) M x1 hs rfl)
def f_X12_copy (M : gM) (x1 : Int32) : Int32 × gM :=
  if (f_X7_isPaper M 0 x1) = 0 then
    (((-1), M))
  else
    (if (f_X5_isLost M 0 (nn x1)) = 0 then
      (((-2), M))
    else
      (if (rdI M 33 0 (nn x1) 0) < 3 then
        (bnd (f_X12_changeCopies M x1 ((rdI M 33 0 (nn x1) 0) + 1)) fun M8 =>
        ((rdI M8 33 0 (nn x1) 0, M8)))
      else
        (((-2), M))))
def s_X12_copy (M : gM) (x1 : Int32) : Prop :=
  (s_X7_isPaper M 0 x1) ∧
  (if (f_X7_isPaper M 0 x1) = 0 then
    (True)
  else
    ((vp_in x1 12) ∧
    ((s_X5_isLost M 0 (nn x1)) ∧
    (if (f_X5_isLost M 0 (nn x1)) = 0 then
      (True)
    else
      (if (rdI M 33 0 (nn x1) 0) < 3 then
        ((s_X12_changeCopies M x1 ((rdI M 33 0 (nn x1) 0) + 1)) ∧
        (bndP (f_X12_changeCopies M x1 ((rdI M 33 0 (nn x1) 0) + 1)) fun M8 =>
        (True)))
      else
        (True))))))
theorem o_X12_copy (M : gM) (x1 : Int32) : offW [33, 62, 63, 64, 65, 66] M (f_X12_copy M x1).2 := by
  rw [f_X12_copy]
  refine offI2 ?_ ?_
  · exact offR
  · refine offI2 ?_ ?_
    · exact offR
    · refine offI2 ?_ ?_
      · refine offB2 (offR.tr ((o_X12_changeCopies M x1 ((rdI M 33 0 (nn x1) 0) + 1)).mono (by decide))) (fun M8 oM8 => ?_)
        exact oM8
      · exact offR
set_option maxRecDepth 100000 in
set_option maxHeartbeats 4000000 in
theorem t_X12_copy {E : gE} {K : Int32 × gM → Prop} {Q : Option Value → gM → Prop} (hK : ∀ z : Int32 × gM, K z → Q (some (.int z.1)) z.2) (M : gM) (x1 : Int32)  (hs : s_X12_copy M x1) (hQ : K (f_X12_copy M x1)) : gG E RX12 cX12_copy 3 (some .int) (rm 3) 0 [(0, .ref (gla E 0)), (1, .int x1)] [] M Q := by
  rw [s_X12_copy] at hs
  rw [f_X12_copy] at hQ
  refine g_aload_n 0 dX12_copy_0 rfl ?_
  refine g_getR 0 (rgC 0) fd_X12_26 dF_Wd rfl rfl dX12_copy_1 ?_
  refine g_iload_n 1 dX12_copy_4 rfl ?_
  have h1 := hs.1; have hs := hs.2
  refine g_callV (As := [.int x1]) (st := []) (rgC 0) (c_X7_isPaper E M 0 lt02 x1 h1) mt_X7_isPaper ml_X12_143 (dF_Rg lt02) rfl rfl sg_X7_isPaper rfl (by decide) (Nat.le_of_ble_eq_true rfl) dX12_copy_5 ?_
  rintro _ _ ⟨q1, q2⟩; rw [q1, q2]; clear q1 q2
  refine g_if_ne 13 dX12_copy_8 (by decide) (fun c2 => ?_) (fun c2 => ?_)
  · have hs := ifSf hs c2; have hQ := ifQf hQ c2
    refine g_aload_n 0 dX12_copy_13 rfl ?_
    refine g_getR 0 (rgC 0) fd_X12_26 dF_Wd rfl rfl dX12_copy_14 ?_
    refine g_getR (rgC 0) (rgC 0 + 4) fd_X12_148 (dF_Rg lt02) rfl rfl dX12_copy_17 ?_
    refine g_iload_n 1 dX12_copy_20 rfl ?_
    have h3 := hs.1; have hs := hs.2
    refine g_aald (rgC 0 + 4) (paC 0 (nn x1)) rfl (dF_Rg_papers lt02) h3 (aj_Pa _ _) dX12_copy_21 ?_
    refine g_astore_n _ dX12_copy_22 (by decide) rfl ?_
    refine g_aload_n 0 dX12_copy_23 rfl ?_
    have h4 := hs.1; have hs := hs.2
    refine g_callV (As := []) (st := []) (paC 0 (nn x1)) (c_X5_isLost E M 0 (nn x1) lt02 (vpL h3) h4) mt_X5_isLost ml_X12_268 (dF_Pa lt02 (vpL h3)) rfl rfl sg_X5_isLost rfl (by decide) (Nat.le_of_ble_eq_true rfl) dX12_copy_24 ?_
    rintro _ _ ⟨q1, q2⟩; rw [q1, q2]; clear q1 q2
    refine g_if_eq 38 dX12_copy_27 (by decide) (fun c5 => ?_) (fun c5 => ?_)
    · have hs := ifSt hs c5; have hQ := ifQt hQ c5
      refine g_bipush (v := (-2)) dX12_copy_38 (by decide) ?_
      exact g_iret rfl dX12_copy_40 (hK _ hQ)
    · have hs := ifSf hs c5; have hQ := ifQf hQ c5
      refine g_aload_n 0 dX12_copy_30 rfl ?_
      refine g_getI (paC 0 (nn x1)) fd_X12_183 (dF_Pa lt02 (vpL h3)) rfl dX12_copy_31 ?_
      refine g_iconst (v := 3) dX12_copy_34 (by decide) ?_
      refine g_icmp_lt 41 dX12_copy_35 (by decide) (fun c6 => ?_) (fun c6 => ?_)
      · have hs := ifSt hs c6; have hQ := ifQt hQ c6
        refine g_aload_n 1 dX12_copy_41 rfl ?_
        refine g_iload_n 2 dX12_copy_42 rfl ?_
        refine g_aload_n 0 dX12_copy_43 rfl ?_
        refine g_getI (paC 0 (nn x1)) fd_X12_183 (dF_Pa lt02 (vpL h3)) rfl dX12_copy_44 ?_
        refine g_iconst (v := 1) dX12_copy_47 (by decide) ?_
        refine g_iadd dX12_copy_48 ?_
        have h7 := hs.1; have hs := hs.2
        refine g_callV (As := [.int x1, .int ((rdI M 33 0 (nn x1) 0) + 1)]) (st := []) 0 (c_X12_changeCopies E M x1 ((rdI M 33 0 (nn x1) 0) + 1) h7) mt_X12_changeCopies ml_X12_264 dF_Wd rfl rfl sg_X12_changeCopies rfl (by decide) (Nat.le_of_ble_eq_true rfl) dX12_copy_49 ?_
        rintro _ M8 ⟨rfl, hM8⟩
        have hQ := bndQ hQ M8 hM8; have hs := bndS hs M8 hM8
        refine g_aload_n 0 dX12_copy_52 rfl ?_
        refine g_getI (paC 0 (nn x1)) fd_X12_183 (dF_Pa lt02 (vpL h3)) rfl dX12_copy_53 ?_
        exact g_iret rfl dX12_copy_56 (hK _ hQ)
      · have hs := ifSf hs c6; have hQ := ifQf hQ c6
        refine g_bipush (v := (-2)) dX12_copy_38 (by decide) ?_
        exact g_iret rfl dX12_copy_40 (hK _ hQ)
  · have hs := ifSt hs c2; have hQ := ifQt hQ c2
    refine g_iconst (v := (-1)) dX12_copy_11 (by decide) ?_
    exact g_iret rfl dX12_copy_12 (hK _ hQ)
theorem c_X12_copy (E : gE) (M : gM) (x1 : Int32) (hs : s_X12_copy M x1) : gC E yX12_copy cX12_copy 3 (some .int) (rm 3) [.ref (gla E 0), .int x1] M (fun o N => o = some (.int (f_X12_copy M x1).1) ∧ N = (f_X12_copy M x1).2) :=
  gC.of (by decide +kernel) (Nat.le_of_ble_eq_true rfl) rfl (t_X12_copy (K := fun z => z = f_X12_copy M x1) (fun z hz => by rw [hz]; exact ⟨rfl, rfl⟩) M x1 hs rfl)
def f_X12_form (M : gM) (x1 : Int32) (x2 : Int32) : Int32 :=
  if (f_X7_isPaper M 0 x1) = 0 then
    ((-1))
  else
    (if (f_X12_isLand M x2) = 0 then
      ((-1))
    else
      (f_X12_bit M (f_X4_hasForm M (nn x1) x2 (f_X4_witnessesWhoLived M (nn x1)))))
def s_X12_form (M : gM) (x1 : Int32) (x2 : Int32) : Prop :=
  (s_X7_isPaper M 0 x1) ∧
  (if (f_X7_isPaper M 0 x1) = 0 then
    (True)
  else
    ((s_X12_isLand M x2) ∧
    (if (f_X12_isLand M x2) = 0 then
      (True)
    else
      ((vp_in x1 12) ∧
      ((s_X4_witnessesWhoLived M (nn x1)) ∧
      ((s_X4_hasForm M (nn x1) x2 (f_X4_witnessesWhoLived M (nn x1))) ∧
      ((s_X12_bit M (f_X4_hasForm M (nn x1) x2 (f_X4_witnessesWhoLived M (nn x1)))) ∧
      (True))))))))
set_option maxRecDepth 100000 in
set_option maxHeartbeats 4000000 in
theorem t_X12_form {E : gE} {K : Int32 → Prop} {Q : Option Value → gM → Prop} {M : gM} (hK : ∀ z : Int32, K z → Q (some (.int z)) M)  (x1 : Int32) (x2 : Int32)  (hs : s_X12_form M x1 x2) (hQ : K (f_X12_form M x1 x2)) : gG E RX12 cX12_form 4 (some .int) (rm 3) 0 [(0, .ref (gla E 0)), (1, .int x1), (2, .int x2)] [] M Q := by
  rw [s_X12_form] at hs
  rw [f_X12_form] at hQ
  refine g_aload_n 0 dX12_form_0 rfl ?_
  refine g_getR 0 (rgC 0) fd_X12_26 dF_Wd rfl rfl dX12_form_1 ?_
  refine g_iload_n 1 dX12_form_4 rfl ?_
  have h1 := hs.1; have hs := hs.2
  refine g_callV (As := [.int x1]) (st := []) (rgC 0) (c_X7_isPaper E M 0 lt02 x1 h1) mt_X7_isPaper ml_X12_143 (dF_Rg lt02) rfl rfl sg_X7_isPaper rfl (by decide) (Nat.le_of_ble_eq_true rfl) dX12_form_5 ?_
  rintro _ _ ⟨q1, q2⟩; rw [q1, q2]; clear q1 q2
  refine g_if_eq 18 dX12_form_8 (by decide) (fun c2 => ?_) (fun c2 => ?_)
  · have hs := ifSt hs c2; have hQ := ifQt hQ c2
    refine g_iconst (v := (-1)) dX12_form_18 (by decide) ?_
    exact g_iret rfl dX12_form_19 (hK _ hQ)
  · have hs := ifSf hs c2; have hQ := ifQf hQ c2
    refine g_iload_n 2 dX12_form_11 rfl ?_
    have h3 := hs.1; have hs := hs.2
    refine g_callS (As := [.int x2]) (st := []) (c_X12_isLand E M x2 h3) mt_X12_isLand ml_X12_205 sg_X12_isLand rfl (by decide) (Nat.le_of_ble_eq_true rfl) dX12_form_12 ?_
    rintro _ _ ⟨q1, q2⟩; rw [q1, q2]; clear q1 q2
    refine g_if_ne 20 dX12_form_15 (by decide) (fun c4 => ?_) (fun c4 => ?_)
    · have hs := ifSf hs c4; have hQ := ifQf hQ c4
      refine g_aload_n 0 dX12_form_20 rfl ?_
      refine g_getR 0 (rgC 0) fd_X12_26 dF_Wd rfl rfl dX12_form_21 ?_
      refine g_getR (rgC 0) (rgC 0 + 4) fd_X12_148 (dF_Rg lt02) rfl rfl dX12_form_24 ?_
      refine g_iload_n 1 dX12_form_27 rfl ?_
      have h5 := hs.1; have hs := hs.2
      refine g_aald (rgC 0 + 4) (paC 0 (nn x1)) rfl (dF_Rg_papers lt02) h5 (aj_Pa _ _) dX12_form_28 ?_
      refine g_astore_n _ dX12_form_29 (by decide) rfl ?_
      refine g_aload_n 1 dX12_form_30 rfl ?_
      refine g_getR 0 216 fd_X12_59 dF_Wd rfl rfl dX12_form_31 ?_
      refine g_aload_n 0 dX12_form_34 rfl ?_
      refine g_iload_n 3 dX12_form_35 rfl ?_
      refine g_aload_n 1 dX12_form_36 rfl ?_
      refine g_getR 0 216 fd_X12_59 dF_Wd rfl rfl dX12_form_37 ?_
      refine g_aload_n 0 dX12_form_40 rfl ?_
      have h6 := hs.1; have hs := hs.2
      refine g_callV (As := [.ref (gla E (paC 0 (nn x1)))]) (st := [.int x2, .ref (gla E (paC 0 (nn x1))), .ref (gla E 216)]) 216 (c_X4_witnessesWhoLived E M (nn x1) (vpL h5) h6) mt_X4_witnessesWhoLived ml_X12_296 dF_Lw rfl rfl sg_X4_witnessesWhoLived rfl (by decide) (Nat.le_of_ble_eq_true rfl) dX12_form_41 ?_
      rintro _ _ ⟨q1, q2⟩; rw [q1, q2]; clear q1 q2
      have h7 := hs.1; have hs := hs.2
      refine g_callV (As := [.ref (gla E (paC 0 (nn x1))), .int x2, .int (f_X4_witnessesWhoLived M (nn x1))]) (st := []) 216 (c_X4_hasForm E M (nn x1) (vpL h5) x2 (f_X4_witnessesWhoLived M (nn x1)) h7) mt_X4_hasForm ml_X12_300 dF_Lw rfl rfl sg_X4_hasForm rfl (by decide) (Nat.le_of_ble_eq_true rfl) dX12_form_44 ?_
      rintro _ _ ⟨q1, q2⟩; rw [q1, q2]; clear q1 q2
      have h8 := hs.1; have hs := hs.2
      refine g_callS (As := [.int (f_X4_hasForm M (nn x1) x2 (f_X4_witnessesWhoLived M (nn x1)))]) (st := []) (c_X12_bit E M (f_X4_hasForm M (nn x1) x2 (f_X4_witnessesWhoLived M (nn x1))) h8) mt_X12_bit ml_X12_170 sg_X12_bit rfl (by decide) (Nat.le_of_ble_eq_true rfl) dX12_form_47 ?_
      rintro _ _ ⟨q1, q2⟩; rw [q1, q2]; clear q1 q2
      exact g_iret rfl dX12_form_50 (hK _ hQ)
    · have hs := ifSt hs c4; have hQ := ifQt hQ c4
      refine g_iconst (v := (-1)) dX12_form_18 (by decide) ?_
      exact g_iret rfl dX12_form_19 (hK _ hQ)
theorem c_X12_form (E : gE) (M : gM) (x1 : Int32) (x2 : Int32) (hs : s_X12_form M x1 x2) : gC E yX12_form cX12_form 4 (some .int) (rm 3) [.ref (gla E 0), .int x1, .int x2] M (fun o N => o = some (.int (f_X12_form M x1 x2)) ∧ N = M) :=
  gC.of (by decide +kernel) (Nat.le_of_ble_eq_true rfl) rfl (t_X12_form (K := fun z => z = f_X12_form M x1 x2) (fun z hz => by rw [hz]; exact ⟨rfl, rfl⟩) x1 x2 hs rfl)
def f_X12_heirs (M : gM) (x1 : Int32) : Int32 :=
  if (f_X7_isPerson M 0 x1) = 0 then
    ((-1))
  else
    (if (f_X6_isMortal M 0 (nn x1)) = 0 then
      ((-3))
    else
      (f_X7_heirsOf M 0 x1))
def s_X12_heirs (M : gM) (x1 : Int32) : Prop :=
  (s_X7_isPerson M 0 x1) ∧
  (if (f_X7_isPerson M 0 x1) = 0 then
    (True)
  else
    ((vp_in x1 10) ∧
    ((s_X6_isMortal M 0 (nn x1)) ∧
    (if (f_X6_isMortal M 0 (nn x1)) = 0 then
      (True)
    else
      ((s_X7_heirsOf M 0 x1) ∧
      (True))))))
set_option maxRecDepth 100000 in
set_option maxHeartbeats 4000000 in
theorem t_X12_heirs {E : gE} {K : Int32 → Prop} {Q : Option Value → gM → Prop} {M : gM} (hK : ∀ z : Int32, K z → Q (some (.int z)) M)  (x1 : Int32)  (hs : s_X12_heirs M x1) (hQ : K (f_X12_heirs M x1)) : gG E RX12 cX12_heirs 2 (some .int) (rm 3) 0 [(0, .ref (gla E 0)), (1, .int x1)] [] M Q := by
  rw [s_X12_heirs] at hs
  rw [f_X12_heirs] at hQ
  refine g_aload_n 0 dX12_heirs_0 rfl ?_
  refine g_getR 0 (rgC 0) fd_X12_26 dF_Wd rfl rfl dX12_heirs_1 ?_
  refine g_iload_n 1 dX12_heirs_4 rfl ?_
  have h1 := hs.1; have hs := hs.2
  refine g_callV (As := [.int x1]) (st := []) (rgC 0) (c_X7_isPerson E M 0 lt02 x1 h1) mt_X7_isPerson ml_X12_101 (dF_Rg lt02) rfl rfl sg_X7_isPerson rfl (by decide) (Nat.le_of_ble_eq_true rfl) dX12_heirs_5 ?_
  rintro _ _ ⟨q1, q2⟩; rw [q1, q2]; clear q1 q2
  refine g_if_ne 13 dX12_heirs_8 (by decide) (fun c2 => ?_) (fun c2 => ?_)
  · have hs := ifSf hs c2; have hQ := ifQf hQ c2
    refine g_aload_n 0 dX12_heirs_13 rfl ?_
    refine g_getR 0 (rgC 0) fd_X12_26 dF_Wd rfl rfl dX12_heirs_14 ?_
    refine g_getR (rgC 0) (rgC 0 + 2) fd_X12_112 (dF_Rg lt02) rfl rfl dX12_heirs_17 ?_
    refine g_iload_n 1 dX12_heirs_20 rfl ?_
    have h3 := hs.1; have hs := hs.2
    refine g_aald (rgC 0 + 2) (peC 0 (nn x1)) rfl (dF_Rg_persons lt02) h3 (aj_Pe _ _) dX12_heirs_21 ?_
    have h4 := hs.1; have hs := hs.2
    refine g_callV (As := []) (st := []) (peC 0 (nn x1)) (c_X6_isMortal E M 0 (nn x1) lt02 (vpL h3) h4) mt_X6_isMortal ml_X12_320 (dF_Pe lt02 (vpL h3)) rfl rfl sg_X6_isMortal rfl (by decide) (Nat.le_of_ble_eq_true rfl) dX12_heirs_22 ?_
    rintro _ _ ⟨q1, q2⟩; rw [q1, q2]; clear q1 q2
    refine g_if_ne 31 dX12_heirs_25 (by decide) (fun c5 => ?_) (fun c5 => ?_)
    · have hs := ifSf hs c5; have hQ := ifQf hQ c5
      refine g_aload_n 0 dX12_heirs_31 rfl ?_
      refine g_getR 0 (rgC 0) fd_X12_26 dF_Wd rfl rfl dX12_heirs_32 ?_
      refine g_iload_n 1 dX12_heirs_35 rfl ?_
      have h6 := hs.1; have hs := hs.2
      refine g_callV (As := [.int x1]) (st := []) (rgC 0) (c_X7_heirsOf E M 0 lt02 x1 h6) mt_X7_heirsOf ml_X12_332 (dF_Rg lt02) rfl rfl sg_X7_heirsOf rfl (by decide) (Nat.le_of_ble_eq_true rfl) dX12_heirs_36 ?_
      rintro _ _ ⟨q1, q2⟩; rw [q1, q2]; clear q1 q2
      exact g_iret rfl dX12_heirs_39 (hK _ hQ)
    · have hs := ifSt hs c5; have hQ := ifQt hQ c5
      refine g_bipush (v := (-3)) dX12_heirs_28 (by decide) ?_
      exact g_iret rfl dX12_heirs_30 (hK _ hQ)
  · have hs := ifSt hs c2; have hQ := ifQt hQ c2
    refine g_iconst (v := (-1)) dX12_heirs_11 (by decide) ?_
    exact g_iret rfl dX12_heirs_12 (hK _ hQ)
theorem c_X12_heirs (E : gE) (M : gM) (x1 : Int32) (hs : s_X12_heirs M x1) : gC E yX12_heirs cX12_heirs 2 (some .int) (rm 3) [.ref (gla E 0), .int x1] M (fun o N => o = some (.int (f_X12_heirs M x1)) ∧ N = M) :=
  gC.of (by decide +kernel) (Nat.le_of_ble_eq_true rfl) rfl (t_X12_heirs (K := fun z => z = f_X12_heirs M x1) (fun z hz => by rw [hz]; exact ⟨rfl, rfl⟩) x1 hs rfl)
def f_X12_margin (M : gM) (x1 : Int32) : Int32 :=
  if (f_X7_isPaper M 0 x1) = 0 then
    ((-1))
  else
    (bnd (mn (rdI M 14 0 (nn 0) 0) (rdI M 14 0 (nn 1) 0)) fun v6 =>
    (if v6 = 0 then
      ((-3))
    else
      (if (f_X4_hasFormByHand M (nn x1) 0) = 0 then
        (if (f_X4_hasFormByHand M (nn x1) 1) = 0 then
          (bnd (f_X4_witnessesWhoLived M (nn x1)) fun v13 =>
          (if v6 ≤ v13 then
            ((v13 - v6) + 1)
          else
            ((-2))))
        else
          ((-3)))
      else
        ((-3)))))
def s_X12_margin (M : gM) (x1 : Int32) : Prop :=
  (s_X7_isPaper M 0 x1) ∧
  (if (f_X7_isPaper M 0 x1) = 0 then
    (True)
  else
    ((vp_in x1 12) ∧
    ((vp_in 0 2) ∧
    ((vp_in 1 2) ∧
    (bndP (mn (rdI M 14 0 (nn 0) 0) (rdI M 14 0 (nn 1) 0)) fun v6 =>
    (if v6 = 0 then
      (True)
    else
      ((s_X4_hasFormByHand M (nn x1) 0) ∧
      (if (f_X4_hasFormByHand M (nn x1) 0) = 0 then
        ((s_X4_hasFormByHand M (nn x1) 1) ∧
        (if (f_X4_hasFormByHand M (nn x1) 1) = 0 then
          ((s_X4_witnessesWhoLived M (nn x1)) ∧
          (bndP (f_X4_witnessesWhoLived M (nn x1)) fun v13 =>
          (if v6 ≤ v13 then
            (True)
          else
            (True))))
        else
          (True)))
      else
        (True)))))))))
set_option maxRecDepth 100000 in
set_option maxHeartbeats 4000000 in
theorem t_X12_margin {E : gE} {K : Int32 → Prop} {Q : Option Value → gM → Prop} {M : gM} (hK : ∀ z : Int32, K z → Q (some (.int z)) M)  (x1 : Int32)  (hs : s_X12_margin M x1) (hQ : K (f_X12_margin M x1)) : gG E RX12 cX12_margin 5 (some .int) (rm 3) 0 [(0, .ref (gla E 0)), (1, .int x1)] [] M Q := by
  rw [s_X12_margin] at hs
  rw [f_X12_margin] at hQ
  refine g_aload_n 0 dX12_margin_0 rfl ?_
  refine g_getR 0 (rgC 0) fd_X12_26 dF_Wd rfl rfl dX12_margin_1 ?_
  refine g_iload_n 1 dX12_margin_4 rfl ?_
  have h1 := hs.1; have hs := hs.2
  refine g_callV (As := [.int x1]) (st := []) (rgC 0) (c_X7_isPaper E M 0 lt02 x1 h1) mt_X7_isPaper ml_X12_143 (dF_Rg lt02) rfl rfl sg_X7_isPaper rfl (by decide) (Nat.le_of_ble_eq_true rfl) dX12_margin_5 ?_
  rintro _ _ ⟨q1, q2⟩; rw [q1, q2]; clear q1 q2
  refine g_if_ne 13 dX12_margin_8 (by decide) (fun c2 => ?_) (fun c2 => ?_)
  · have hs := ifSf hs c2; have hQ := ifQf hQ c2
    refine g_aload_n 0 dX12_margin_13 rfl ?_
    refine g_getR 0 (rgC 0) fd_X12_26 dF_Wd rfl rfl dX12_margin_14 ?_
    refine g_getR (rgC 0) (rgC 0 + 4) fd_X12_148 (dF_Rg lt02) rfl rfl dX12_margin_17 ?_
    refine g_iload_n 1 dX12_margin_20 rfl ?_
    have h3 := hs.1; have hs := hs.2
    refine g_aald (rgC 0 + 4) (paC 0 (nn x1)) rfl (dF_Rg_papers lt02) h3 (aj_Pa _ _) dX12_margin_21 ?_
    refine g_astore_n _ dX12_margin_22 (by decide) rfl ?_
    refine g_aload_n 1 dX12_margin_23 rfl ?_
    refine g_getR 0 (rgC 0) fd_X12_26 dF_Wd rfl rfl dX12_margin_24 ?_
    refine g_getR (rgC 0) (rgC 0 + 1) fd_X12_208 (dF_Rg lt02) rfl rfl dX12_margin_27 ?_
    refine g_iconst (v := 0) dX12_margin_30 (by decide) ?_
    have h4 := hs.1; have hs := hs.2
    refine g_aald (rgC 0 + 1) (laC 0 (nn 0)) rfl (dF_Rg_lands lt02) h4 (aj_La _ _) dX12_margin_31 ?_
    refine g_getI (laC 0 (nn 0)) fd_X12_212 (dF_La lt02 (vpL h4)) rfl dX12_margin_32 ?_
    refine g_aload_n 1 dX12_margin_35 rfl ?_
    refine g_getR 0 (rgC 0) fd_X12_26 dF_Wd rfl rfl dX12_margin_36 ?_
    refine g_getR (rgC 0) (rgC 0 + 1) fd_X12_208 (dF_Rg lt02) rfl rfl dX12_margin_39 ?_
    refine g_iconst (v := 1) dX12_margin_42 (by decide) ?_
    have h5 := hs.1; have hs := hs.2
    refine g_aald (rgC 0 + 1) (laC 0 (nn 1)) rfl (dF_Rg_lands lt02) h5 (aj_La _ _) dX12_margin_43 ?_
    refine g_getI (laC 0 (nn 1)) fd_X12_212 (dF_La lt02 (vpL h5)) rfl dX12_margin_44 ?_
    refine g_mmin ml_X12_335 ms_min ms_ini mc_min ⟨by decide, Nat.le_of_ble_eq_true rfl, Nat.zero_le _, Nat.zero_le _⟩ dX12_margin_47 ?_
    refine g_topI (fun v6 hv6 => ?_)
    have hQ := bndQ hQ v6 hv6; have hs := bndS hs v6 hv6
    refine g_istore_n _ dX12_margin_50 (by decide) rfl ?_
    refine g_iload_n 0 dX12_margin_51 rfl ?_
    refine g_if_eq 79 dX12_margin_52 (by decide) (fun c7 => ?_) (fun c7 => ?_)
    · have hs := ifSt hs c7; have hQ := ifQt hQ c7
      refine g_bipush (v := (-3)) dX12_margin_79 (by decide) ?_
      exact g_iret rfl dX12_margin_81 (hK _ hQ)
    · have hs := ifSf hs c7; have hQ := ifQf hQ c7
      refine g_aload_n 2 dX12_margin_55 rfl ?_
      refine g_getR 0 216 fd_X12_59 dF_Wd rfl rfl dX12_margin_56 ?_
      refine g_aload_n 1 dX12_margin_59 rfl ?_
      refine g_iconst (v := 0) dX12_margin_60 (by decide) ?_
      have h8 := hs.1; have hs := hs.2
      refine g_callV (As := [.ref (gla E (paC 0 (nn x1))), .int 0]) (st := []) 216 (c_X4_hasFormByHand E M (nn x1) (vpL h3) 0 h8) mt_X4_hasFormByHand ml_X12_340 dF_Lw rfl rfl sg_X4_hasFormByHand rfl (by decide) (Nat.le_of_ble_eq_true rfl) dX12_margin_61 ?_
      rintro _ _ ⟨q1, q2⟩; rw [q1, q2]; clear q1 q2
      refine g_if_ne 79 dX12_margin_64 (by decide) (fun c9 => ?_) (fun c9 => ?_)
      · have hs := ifSf hs c9; have hQ := ifQf hQ c9
        refine g_bipush (v := (-3)) dX12_margin_79 (by decide) ?_
        exact g_iret rfl dX12_margin_81 (hK _ hQ)
      · have hs := ifSt hs c9; have hQ := ifQt hQ c9
        refine g_aload_n 2 dX12_margin_67 rfl ?_
        refine g_getR 0 216 fd_X12_59 dF_Wd rfl rfl dX12_margin_68 ?_
        refine g_aload_n 1 dX12_margin_71 rfl ?_
        refine g_iconst (v := 1) dX12_margin_72 (by decide) ?_
        have h10 := hs.1; have hs := hs.2
        refine g_callV (As := [.ref (gla E (paC 0 (nn x1))), .int 1]) (st := []) 216 (c_X4_hasFormByHand E M (nn x1) (vpL h3) 1 h10) mt_X4_hasFormByHand ml_X12_340 dF_Lw rfl rfl sg_X4_hasFormByHand rfl (by decide) (Nat.le_of_ble_eq_true rfl) dX12_margin_73 ?_
        rintro _ _ ⟨q1, q2⟩; rw [q1, q2]; clear q1 q2
        refine g_if_eq 82 dX12_margin_76 (by decide) (fun c11 => ?_) (fun c11 => ?_)
        · have hs := ifSt hs c11; have hQ := ifQt hQ c11
          refine g_aload_n 2 dX12_margin_82 rfl ?_
          refine g_getR 0 216 fd_X12_59 dF_Wd rfl rfl dX12_margin_83 ?_
          refine g_aload_n 1 dX12_margin_86 rfl ?_
          have h12 := hs.1; have hs := hs.2
          refine g_callV (As := [.ref (gla E (paC 0 (nn x1)))]) (st := []) 216 (c_X4_witnessesWhoLived E M (nn x1) (vpL h3) h12) mt_X4_witnessesWhoLived ml_X12_296 dF_Lw rfl rfl sg_X4_witnessesWhoLived rfl (by decide) (Nat.le_of_ble_eq_true rfl) dX12_margin_87 ?_
          rintro _ _ ⟨q1, q2⟩; rw [q1, q2]; clear q1 q2
          refine g_topI (fun v13 hv13 => ?_)
          have hQ := bndQ hQ v13 hv13; have hs := bndS hs v13 hv13
          refine g_istore _ dX12_margin_90 (by decide) rfl ?_
          refine g_iload 0 dX12_margin_92 rfl ?_
          refine g_iload_n 1 dX12_margin_94 rfl ?_
          refine g_icmp_ge 103 dX12_margin_95 (by decide) (fun c14 => ?_) (fun c14 => ?_)
          · have hs := ifSt hs c14; have hQ := ifQt hQ c14
            refine g_iload 0 dX12_margin_103 rfl ?_
            refine g_iload_n 1 dX12_margin_105 rfl ?_
            refine g_isub dX12_margin_106 ?_
            refine g_iconst (v := 1) dX12_margin_107 (by decide) ?_
            refine g_iadd dX12_margin_108 ?_
            exact g_iret rfl dX12_margin_109 (hK _ hQ)
          · have hs := ifSf hs c14; have hQ := ifQf hQ c14
            refine g_bipush (v := (-2)) dX12_margin_98 (by decide) ?_
            refine g_goto 109 dX12_margin_100 (by decide) ?_
            exact g_iret rfl dX12_margin_109 (hK _ hQ)
        · have hs := ifSf hs c11; have hQ := ifQf hQ c11
          refine g_bipush (v := (-3)) dX12_margin_79 (by decide) ?_
          exact g_iret rfl dX12_margin_81 (hK _ hQ)
  · have hs := ifSt hs c2; have hQ := ifQt hQ c2
    refine g_iconst (v := (-1)) dX12_margin_11 (by decide) ?_
    exact g_iret rfl dX12_margin_12 (hK _ hQ)
theorem c_X12_margin (E : gE) (M : gM) (x1 : Int32) (hs : s_X12_margin M x1) : gC E yX12_margin cX12_margin 5 (some .int) (rm 3) [.ref (gla E 0), .int x1] M (fun o N => o = some (.int (f_X12_margin M x1)) ∧ N = M) :=
  gC.of (by decide +kernel) (Nat.le_of_ble_eq_true rfl) rfl (t_X12_margin (K := fun z => z = f_X12_margin M x1) (fun z hz => by rw [hz]; exact ⟨rfl, rfl⟩) x1 hs rfl)
def f_X12_sees_147 (M : gM)  : Int32 :=
  f_X12_bit M 1
def s_X12_sees_147 (M : gM)  : Prop :=
  (s_X12_bit M 1) ∧
  (True)
set_option maxRecDepth 100000 in
set_option maxHeartbeats 4000000 in
theorem t_X12_sees_147 {E : gE} {K : Int32 → Prop} {Q : Option Value → gM → Prop} {M : gM} (hK : ∀ z : Int32, K z → Q (some (.int z)) M)    (hs : s_X12_sees_147 M ) (hQ : K (f_X12_sees_147 M )) : gG E RX12 cX12_sees 6 (some .int) (rm 3) 147 [] [] M Q := by
  rw [s_X12_sees_147] at hs
  rw [f_X12_sees_147] at hQ
  refine g_iconst (v := 1) dX12_sees_147 (by decide) ?_
  refine g_goto 152 dX12_sees_148 (by decide) ?_
  have h25 := hs.1; have hs := hs.2
  refine g_callS (As := [.int 1]) (st := []) (c_X12_bit E M 1 h25) mt_X12_bit ml_X12_170 sg_X12_bit rfl (by decide) (Nat.le_of_ble_eq_true rfl) dX12_sees_152 ?_
  rintro _ _ ⟨q1, q2⟩; rw [q1, q2]; clear q1 q2
  exact g_iret rfl dX12_sees_155 (hK _ hQ)
def f_X12_sees_122 (M : gM) (x1 : Int32) (x4c1 : Nat) (y0 : Int32)  : Int32 :=
  if y0 = 0 then
    (if (f_X5_isWitness M 0 x4c1 x1) = 0 then
      (if (f_X5_givesTo M 0 x4c1 x1) = 0 then
        (f_X12_bit M 0)
      else
        (f_X12_sees_147 M))
    else
      (f_X12_sees_147 M))
  else
    (f_X12_sees_147 M)
def s_X12_sees_122 (M : gM) (x1 : Int32) (x4c1 : Nat) (y0 : Int32)  : Prop :=
  if y0 = 0 then
    ((s_X5_isWitness M 0 x4c1 x1) ∧
    (if (f_X5_isWitness M 0 x4c1 x1) = 0 then
      ((s_X5_givesTo M 0 x4c1 x1) ∧
      (if (f_X5_givesTo M 0 x4c1 x1) = 0 then
        ((s_X12_bit M 0) ∧
        (True))
      else
        (s_X12_sees_147 M)))
    else
      (s_X12_sees_147 M)))
  else
    (s_X12_sees_147 M)
set_option maxRecDepth 100000 in
set_option maxHeartbeats 4000000 in
theorem t_X12_sees_122 {E : gE} {K : Int32 → Prop} {Q : Option Value → gM → Prop} {M : gM} (hK : ∀ z : Int32, K z → Q (some (.int z)) M) (x1 : Int32) (x4c1 : Nat) (y0 : Int32) (hx4c1 : x4c1 < 12)  (hs : s_X12_sees_122 M x1 x4c1 y0 ) (hQ : K (f_X12_sees_122 M x1 x4c1 y0 )) : gG E RX12 cX12_sees 6 (some .int) (rm 3) 122 [(1, .int x1), (4, .ref (gla E (paC 0 x4c1)))] [.int y0] M Q := by
  rw [s_X12_sees_122] at hs
  rw [f_X12_sees_122] at hQ
  refine g_istore _ dX12_sees_122 (by decide) rfl ?_
  refine g_iload 0 dX12_sees_124 rfl ?_
  refine g_if_ne 147 dX12_sees_126 (by decide) (fun c19 => ?_) (fun c19 => ?_)
  · have hs := ifSf hs c19; have hQ := ifQf hQ c19
    refine g_sub [] _ rfl ?_
    exact t_X12_sees_147 hK hs hQ
  · have hs := ifSt hs c19; have hQ := ifQt hQ c19
    refine g_aload 2 dX12_sees_129 rfl ?_
    refine g_iload_n 1 dX12_sees_131 rfl ?_
    have h20 := hs.1; have hs := hs.2
    refine g_callV (As := [.int x1]) (st := []) (paC 0 x4c1) (c_X5_isWitness E M 0 x4c1 lt02 hx4c1 x1 h20) mt_X5_isWitness ml_X12_281 (dF_Pa lt02 hx4c1) rfl rfl sg_X5_isWitness rfl (by decide) (Nat.le_of_ble_eq_true rfl) dX12_sees_132 ?_
    rintro _ _ ⟨q1, q2⟩; rw [q1, q2]; clear q1 q2
    refine g_if_ne 147 dX12_sees_135 (by decide) (fun c21 => ?_) (fun c21 => ?_)
    · have hs := ifSf hs c21; have hQ := ifQf hQ c21
      refine g_sub [] _ rfl ?_
      exact t_X12_sees_147 hK hs hQ
    · have hs := ifSt hs c21; have hQ := ifQt hQ c21
      refine g_aload 2 dX12_sees_138 rfl ?_
      refine g_iload_n 1 dX12_sees_140 rfl ?_
      have h22 := hs.1; have hs := hs.2
      refine g_callV (As := [.int x1]) (st := []) (paC 0 x4c1) (c_X5_givesTo E M 0 x4c1 lt02 hx4c1 x1 h22) mt_X5_givesTo ml_X12_344 (dF_Pa lt02 hx4c1) rfl rfl sg_X5_givesTo rfl (by decide) (Nat.le_of_ble_eq_true rfl) dX12_sees_141 ?_
      rintro _ _ ⟨q1, q2⟩; rw [q1, q2]; clear q1 q2
      refine g_if_eq 151 dX12_sees_144 (by decide) (fun c23 => ?_) (fun c23 => ?_)
      · have hs := ifSt hs c23; have hQ := ifQt hQ c23
        refine g_iconst (v := 0) dX12_sees_151 (by decide) ?_
        have h24 := hs.1; have hs := hs.2
        refine g_callS (As := [.int 0]) (st := []) (c_X12_bit E M 0 h24) mt_X12_bit ml_X12_170 sg_X12_bit rfl (by decide) (Nat.le_of_ble_eq_true rfl) dX12_sees_152 ?_
        rintro _ _ ⟨q1, q2⟩; rw [q1, q2]; clear q1 q2
        exact g_iret rfl dX12_sees_155 (hK _ hQ)
      · have hs := ifSf hs c23; have hQ := ifQf hQ c23
        refine g_sub [] _ rfl ?_
        exact t_X12_sees_147 hK hs hQ
def f_X12_sees (M : gM) (x1 : Int32) (x2 : Int32) (x3 : Int32) : Int32 :=
  if (f_X7_isPerson M 0 x1) = 0 then
    ((-1))
  else
    (if (f_X7_isPaper M 0 x2) = 0 then
      ((-1))
    else
      (if (f_X12_isDay M x3) = 0 then
        ((-1))
      else
        (if (f_X6_livesOn M 0 (nn x1) x3) = 0 then
          (0)
        else
          (if (f_X6_livesOn M 0 (nn (rdI M 25 0 (nn x2) 0)) x3) = 0 then
            (if (((f_X7_heirsOf M 0 (rdI M 25 0 (nn x2) 0)) >>> (x1 &&& 31)) &&& 1) = 0 then
              (f_X12_sees_122 M x1 (nn x2) 0)
            else
              (f_X12_sees_122 M x1 (nn x2) 1))
          else
            (if x1 = (rdI M 25 0 (nn x2) 0) then
              (f_X12_bit M 1)
            else
              (f_X12_bit M 0))))))
def s_X12_sees (M : gM) (x1 : Int32) (x2 : Int32) (x3 : Int32) : Prop :=
  (s_X7_isPerson M 0 x1) ∧
  (if (f_X7_isPerson M 0 x1) = 0 then
    (True)
  else
    ((s_X7_isPaper M 0 x2) ∧
    (if (f_X7_isPaper M 0 x2) = 0 then
      (True)
    else
      ((s_X12_isDay M x3) ∧
      (if (f_X12_isDay M x3) = 0 then
        (True)
      else
        ((vp_in x1 10) ∧
        ((s_X6_livesOn M 0 (nn x1) x3) ∧
        (if (f_X6_livesOn M 0 (nn x1) x3) = 0 then
          (True)
        else
          ((vp_in x2 12) ∧
          ((vp_in (rdI M 25 0 (nn x2) 0) 10) ∧
          ((s_X6_livesOn M 0 (nn (rdI M 25 0 (nn x2) 0)) x3) ∧
          (if (f_X6_livesOn M 0 (nn (rdI M 25 0 (nn x2) 0)) x3) = 0 then
            ((s_X7_heirsOf M 0 (rdI M 25 0 (nn x2) 0)) ∧
            (if (((f_X7_heirsOf M 0 (rdI M 25 0 (nn x2) 0)) >>> (x1 &&& 31)) &&& 1) = 0 then
              (s_X12_sees_122 M x1 (nn x2) 0)
            else
              (s_X12_sees_122 M x1 (nn x2) 1)))
          else
            (if x1 = (rdI M 25 0 (nn x2) 0) then
              ((s_X12_bit M 1) ∧
              (True))
            else
              ((s_X12_bit M 0) ∧
              (True)))))))))))))))
set_option maxRecDepth 100000 in
set_option maxHeartbeats 4000000 in
theorem t_X12_sees {E : gE} {K : Int32 → Prop} {Q : Option Value → gM → Prop} {M : gM} (hK : ∀ z : Int32, K z → Q (some (.int z)) M)  (x1 : Int32) (x2 : Int32) (x3 : Int32)  (hs : s_X12_sees M x1 x2 x3) (hQ : K (f_X12_sees M x1 x2 x3)) : gG E RX12 cX12_sees 6 (some .int) (rm 3) 0 [(0, .ref (gla E 0)), (1, .int x1), (2, .int x2), (3, .int x3)] [] M Q := by
  rw [s_X12_sees] at hs
  rw [f_X12_sees] at hQ
  refine g_aload_n 0 dX12_sees_0 rfl ?_
  refine g_getR 0 (rgC 0) fd_X12_26 dF_Wd rfl rfl dX12_sees_1 ?_
  refine g_iload_n 1 dX12_sees_4 rfl ?_
  have h1 := hs.1; have hs := hs.2
  refine g_callV (As := [.int x1]) (st := []) (rgC 0) (c_X7_isPerson E M 0 lt02 x1 h1) mt_X7_isPerson ml_X12_101 (dF_Rg lt02) rfl rfl sg_X7_isPerson rfl (by decide) (Nat.le_of_ble_eq_true rfl) dX12_sees_5 ?_
  rintro _ _ ⟨q1, q2⟩; rw [q1, q2]; clear q1 q2
  refine g_if_eq 29 dX12_sees_8 (by decide) (fun c2 => ?_) (fun c2 => ?_)
  · have hs := ifSt hs c2; have hQ := ifQt hQ c2
    refine g_iconst (v := (-1)) dX12_sees_29 (by decide) ?_
    exact g_iret rfl dX12_sees_30 (hK _ hQ)
  · have hs := ifSf hs c2; have hQ := ifQf hQ c2
    refine g_aload_n 0 dX12_sees_11 rfl ?_
    refine g_getR 0 (rgC 0) fd_X12_26 dF_Wd rfl rfl dX12_sees_12 ?_
    refine g_iload_n 2 dX12_sees_15 rfl ?_
    have h3 := hs.1; have hs := hs.2
    refine g_callV (As := [.int x2]) (st := []) (rgC 0) (c_X7_isPaper E M 0 lt02 x2 h3) mt_X7_isPaper ml_X12_143 (dF_Rg lt02) rfl rfl sg_X7_isPaper rfl (by decide) (Nat.le_of_ble_eq_true rfl) dX12_sees_16 ?_
    rintro _ _ ⟨q1, q2⟩; rw [q1, q2]; clear q1 q2
    refine g_if_eq 29 dX12_sees_19 (by decide) (fun c4 => ?_) (fun c4 => ?_)
    · have hs := ifSt hs c4; have hQ := ifQt hQ c4
      refine g_iconst (v := (-1)) dX12_sees_29 (by decide) ?_
      exact g_iret rfl dX12_sees_30 (hK _ hQ)
    · have hs := ifSf hs c4; have hQ := ifQf hQ c4
      refine g_iload_n 3 dX12_sees_22 rfl ?_
      have h5 := hs.1; have hs := hs.2
      refine g_callS (As := [.int x3]) (st := []) (c_X12_isDay E M x3 h5) mt_X12_isDay ml_X12_284 sg_X12_isDay rfl (by decide) (Nat.le_of_ble_eq_true rfl) dX12_sees_23 ?_
      rintro _ _ ⟨q1, q2⟩; rw [q1, q2]; clear q1 q2
      refine g_if_ne 31 dX12_sees_26 (by decide) (fun c6 => ?_) (fun c6 => ?_)
      · have hs := ifSf hs c6; have hQ := ifQf hQ c6
        refine g_aload_n 0 dX12_sees_31 rfl ?_
        refine g_getR 0 (rgC 0) fd_X12_26 dF_Wd rfl rfl dX12_sees_32 ?_
        refine g_getR (rgC 0) (rgC 0 + 2) fd_X12_112 (dF_Rg lt02) rfl rfl dX12_sees_35 ?_
        refine g_iload_n 1 dX12_sees_38 rfl ?_
        have h7 := hs.1; have hs := hs.2
        refine g_aald (rgC 0 + 2) (peC 0 (nn x1)) rfl (dF_Rg_persons lt02) h7 (aj_Pe _ _) dX12_sees_39 ?_
        refine g_iload_n 3 dX12_sees_40 rfl ?_
        have h8 := hs.1; have hs := hs.2
        refine g_callV (As := [.int x3]) (st := []) (peC 0 (nn x1)) (c_X6_livesOn E M 0 (nn x1) lt02 (vpL h7) x3 h8) mt_X6_livesOn ml_X12_347 (dF_Pe lt02 (vpL h7)) rfl rfl sg_X6_livesOn rfl (by decide) (Nat.le_of_ble_eq_true rfl) dX12_sees_41 ?_
        rintro _ _ ⟨q1, q2⟩; rw [q1, q2]; clear q1 q2
        refine g_if_ne 49 dX12_sees_44 (by decide) (fun c9 => ?_) (fun c9 => ?_)
        · have hs := ifSf hs c9; have hQ := ifQf hQ c9
          refine g_aload_n 0 dX12_sees_49 rfl ?_
          refine g_getR 0 (rgC 0) fd_X12_26 dF_Wd rfl rfl dX12_sees_50 ?_
          refine g_getR (rgC 0) (rgC 0 + 4) fd_X12_148 (dF_Rg lt02) rfl rfl dX12_sees_53 ?_
          refine g_iload_n 2 dX12_sees_56 rfl ?_
          have h10 := hs.1; have hs := hs.2
          refine g_aald (rgC 0 + 4) (paC 0 (nn x2)) rfl (dF_Rg_papers lt02) h10 (aj_Pa _ _) dX12_sees_57 ?_
          refine g_astore _ dX12_sees_58 (by decide) rfl ?_
          refine g_aload_n 1 dX12_sees_60 rfl ?_
          refine g_getR 0 (rgC 0) fd_X12_26 dF_Wd rfl rfl dX12_sees_61 ?_
          refine g_getR (rgC 0) (rgC 0 + 2) fd_X12_112 (dF_Rg lt02) rfl rfl dX12_sees_64 ?_
          refine g_aload 0 dX12_sees_67 rfl ?_
          refine g_getI (paC 0 (nn x2)) fd_X12_152 (dF_Pa lt02 (vpL h10)) rfl dX12_sees_69 ?_
          have h11 := hs.1; have hs := hs.2
          refine g_aald (rgC 0 + 2) (peC 0 (nn (rdI M 25 0 (nn x2) 0))) rfl (dF_Rg_persons lt02) h11 (aj_Pe _ _) dX12_sees_72 ?_
          refine g_iload_n 4 dX12_sees_73 rfl ?_
          have h12 := hs.1; have hs := hs.2
          refine g_callV (As := [.int x3]) (st := []) (peC 0 (nn (rdI M 25 0 (nn x2) 0))) (c_X6_livesOn E M 0 (nn (rdI M 25 0 (nn x2) 0)) lt02 (vpL h11) x3 h12) mt_X6_livesOn ml_X12_347 (dF_Pe lt02 (vpL h11)) rfl rfl sg_X6_livesOn rfl (by decide) (Nat.le_of_ble_eq_true rfl) dX12_sees_74 ?_
          rintro _ _ ⟨q1, q2⟩; rw [q1, q2]; clear q1 q2
          refine g_if_eq 98 dX12_sees_77 (by decide) (fun c13 => ?_) (fun c13 => ?_)
          · have hs := ifSt hs c13; have hQ := ifQt hQ c13
            refine g_aload_n 1 dX12_sees_98 rfl ?_
            refine g_getR 0 (rgC 0) fd_X12_26 dF_Wd rfl rfl dX12_sees_99 ?_
            refine g_aload 0 dX12_sees_102 rfl ?_
            refine g_getI (paC 0 (nn x2)) fd_X12_152 (dF_Pa lt02 (vpL h10)) rfl dX12_sees_104 ?_
            have h14 := hs.1; have hs := hs.2
            refine g_callV (As := [.int (rdI M 25 0 (nn x2) 0)]) (st := []) (rgC 0) (c_X7_heirsOf E M 0 lt02 (rdI M 25 0 (nn x2) 0) h14) mt_X7_heirsOf ml_X12_332 (dF_Rg lt02) rfl rfl sg_X7_heirsOf rfl (by decide) (Nat.le_of_ble_eq_true rfl) dX12_sees_107 ?_
            rintro _ _ ⟨q1, q2⟩; rw [q1, q2]; clear q1 q2
            refine g_iload_n 2 dX12_sees_110 rfl ?_
            refine g_ishr dX12_sees_111 ?_
            refine g_iconst (v := 1) dX12_sees_112 (by decide) ?_
            refine g_iand dX12_sees_113 ?_
            refine g_if_eq 121 dX12_sees_114 (by decide) (fun c15 => ?_) (fun c15 => ?_)
            · have hs := ifSt hs c15; have hQ := ifQt hQ c15
              refine g_iconst (v := 0) dX12_sees_121 (by decide) ?_
              refine g_sub [2, 0] _ rfl ?_
              exact t_X12_sees_122 hK x1 (nn x2) 0 (vpL h10) hs hQ
            · have hs := ifSf hs c15; have hQ := ifQf hQ c15
              refine g_iconst (v := 1) dX12_sees_117 (by decide) ?_
              refine g_goto 122 dX12_sees_118 (by decide) ?_
              refine g_sub [2, 0] _ rfl ?_
              exact t_X12_sees_122 hK x1 (nn x2) 1 (vpL h10) hs hQ
          · have hs := ifSf hs c13; have hQ := ifQf hQ c13
            refine g_iload_n 2 dX12_sees_80 rfl ?_
            refine g_aload 0 dX12_sees_81 rfl ?_
            refine g_getI (paC 0 (nn x2)) fd_X12_152 (dF_Pa lt02 (vpL h10)) rfl dX12_sees_83 ?_
            refine g_icmp_ne 93 dX12_sees_86 (by decide) (fun c16 => ?_) (fun c16 => ?_)
            · have hs := ifSf hs c16; have hQ := ifQf hQ c16
              refine g_iconst (v := 0) dX12_sees_93 (by decide) ?_
              have h17 := hs.1; have hs := hs.2
              refine g_callS (As := [.int 0]) (st := []) (c_X12_bit E M 0 h17) mt_X12_bit ml_X12_170 sg_X12_bit rfl (by decide) (Nat.le_of_ble_eq_true rfl) dX12_sees_94 ?_
              rintro _ _ ⟨q1, q2⟩; rw [q1, q2]; clear q1 q2
              exact g_iret rfl dX12_sees_97 (hK _ hQ)
            · have hs := ifSt hs c16; have hQ := ifQt hQ c16
              refine g_iconst (v := 1) dX12_sees_89 (by decide) ?_
              refine g_goto 94 dX12_sees_90 (by decide) ?_
              have h18 := hs.1; have hs := hs.2
              refine g_callS (As := [.int 1]) (st := []) (c_X12_bit E M 1 h18) mt_X12_bit ml_X12_170 sg_X12_bit rfl (by decide) (Nat.le_of_ble_eq_true rfl) dX12_sees_94 ?_
              rintro _ _ ⟨q1, q2⟩; rw [q1, q2]; clear q1 q2
              exact g_iret rfl dX12_sees_97 (hK _ hQ)
        · have hs := ifSt hs c9; have hQ := ifQt hQ c9
          refine g_iconst (v := 0) dX12_sees_47 (by decide) ?_
          exact g_iret rfl dX12_sees_48 (hK _ hQ)
      · have hs := ifSt hs c6; have hQ := ifQt hQ c6
        refine g_iconst (v := (-1)) dX12_sees_29 (by decide) ?_
        exact g_iret rfl dX12_sees_30 (hK _ hQ)
theorem c_X12_sees (E : gE) (M : gM) (x1 : Int32) (x2 : Int32) (x3 : Int32) (hs : s_X12_sees M x1 x2 x3) : gC E yX12_sees cX12_sees 6 (some .int) (rm 3) [.ref (gla E 0), .int x1, .int x2, .int x3] M (fun o N => o = some (.int (f_X12_sees M x1 x2 x3)) ∧ N = M) :=
  gC.of (by decide +kernel) (Nat.le_of_ble_eq_true rfl) rfl (t_X12_sees (K := fun z => z = f_X12_sees M x1 x2 x3) (fun z hz => by rw [hz]; exact ⟨rfl, rfl⟩) x1 x2 x3 hs rfl)
def f_X12_why (M : gM) (x1 : Int32) (x2 : Int32) : Int32 × gM :=
  if (f_X7_isPaper M 0 x1) = 0 then
    (((-1), M))
  else
    (if (f_X7_isThing M 0 x2) = 0 then
      (((-1), M))
    else
      (bnd (f_X4_weigh M x2) fun M6 =>
      ((rdI M6 54 0 0 (nn x1), M6))))
def s_X12_why (M : gM) (x1 : Int32) (x2 : Int32) : Prop :=
  (s_X7_isPaper M 0 x1) ∧
  (if (f_X7_isPaper M 0 x1) = 0 then
    (True)
  else
    ((s_X7_isThing M 0 x2) ∧
    (if (f_X7_isThing M 0 x2) = 0 then
      (True)
    else
      ((s_X4_weigh M x2) ∧
      (bndP (f_X4_weigh M x2) fun M6 =>
      ((vp_in x1 12) ∧
      (True)))))))
theorem o_X12_why (M : gM) (x1 : Int32) (x2 : Int32) : offW [53, 54, 55] M (f_X12_why M x1 x2).2 := by
  rw [f_X12_why]
  refine offI2 ?_ ?_
  · exact offR
  · refine offI2 ?_ ?_
    · exact offR
    · refine offB2 (offR.tr ((o_X4_weigh M x2).mono (by decide))) (fun M6 oM6 => ?_)
      exact oM6
set_option maxRecDepth 100000 in
set_option maxHeartbeats 4000000 in
theorem t_X12_why {E : gE} {K : Int32 × gM → Prop} {Q : Option Value → gM → Prop} (hK : ∀ z : Int32 × gM, K z → Q (some (.int z.1)) z.2) (M : gM) (x1 : Int32) (x2 : Int32)  (hs : s_X12_why M x1 x2) (hQ : K (f_X12_why M x1 x2)) : gG E RX12 cX12_why 3 (some .int) (rm 4) 0 [(0, .ref (gla E 0)), (1, .int x1), (2, .int x2)] [] M Q := by
  rw [s_X12_why] at hs
  rw [f_X12_why] at hQ
  refine g_aload_n 0 dX12_why_0 rfl ?_
  refine g_getR 0 (rgC 0) fd_X12_26 dF_Wd rfl rfl dX12_why_1 ?_
  refine g_iload_n 1 dX12_why_4 rfl ?_
  have h1 := hs.1; have hs := hs.2
  refine g_callV (As := [.int x1]) (st := []) (rgC 0) (c_X7_isPaper E M 0 lt02 x1 h1) mt_X7_isPaper ml_X12_143 (dF_Rg lt02) rfl rfl sg_X7_isPaper rfl (by decide) (Nat.le_of_ble_eq_true rfl) dX12_why_5 ?_
  rintro _ _ ⟨q1, q2⟩; rw [q1, q2]; clear q1 q2
  refine g_if_eq 22 dX12_why_8 (by decide) (fun c2 => ?_) (fun c2 => ?_)
  · have hs := ifSt hs c2; have hQ := ifQt hQ c2
    refine g_iconst (v := (-1)) dX12_why_22 (by decide) ?_
    exact g_iret rfl dX12_why_23 (hK _ hQ)
  · have hs := ifSf hs c2; have hQ := ifQf hQ c2
    refine g_aload_n 0 dX12_why_11 rfl ?_
    refine g_getR 0 (rgC 0) fd_X12_26 dF_Wd rfl rfl dX12_why_12 ?_
    refine g_iload_n 2 dX12_why_15 rfl ?_
    have h3 := hs.1; have hs := hs.2
    refine g_callV (As := [.int x2]) (st := []) (rgC 0) (c_X7_isThing E M 0 lt02 x2 h3) mt_X7_isThing ml_X12_189 (dF_Rg lt02) rfl rfl sg_X7_isThing rfl (by decide) (Nat.le_of_ble_eq_true rfl) dX12_why_16 ?_
    rintro _ _ ⟨q1, q2⟩; rw [q1, q2]; clear q1 q2
    refine g_if_ne 24 dX12_why_19 (by decide) (fun c4 => ?_) (fun c4 => ?_)
    · have hs := ifSf hs c4; have hQ := ifQf hQ c4
      refine g_aload_n 0 dX12_why_24 rfl ?_
      refine g_getR 0 216 fd_X12_59 dF_Wd rfl rfl dX12_why_25 ?_
      refine g_iload_n 2 dX12_why_28 rfl ?_
      have h5 := hs.1; have hs := hs.2
      refine g_callV (As := [.int x2]) (st := []) 216 (c_X4_weigh E M x2 h5) mt_X4_weigh ml_X12_304 dF_Lw rfl rfl sg_X4_weigh rfl (by decide) (Nat.le_of_ble_eq_true rfl) dX12_why_29 ?_
      rintro _ M6 ⟨rfl, hM6⟩
      have hQ := bndQ hQ M6 hM6; have hs := bndS hs M6 hM6
      refine g_aload_n 0 dX12_why_32 rfl ?_
      refine g_getR 0 216 fd_X12_59 dF_Wd rfl rfl dX12_why_33 ?_
      refine g_getR 216 218 fd_X12_307 dF_Lw rfl rfl dX12_why_36 ?_
      refine g_iload_n 1 dX12_why_39 rfl ?_
      have h7 := hs.1; have hs := hs.2
      refine g_iald 218 dF_Lw_why h7 dX12_why_40 ?_
      exact g_iret rfl dX12_why_41 (hK _ hQ)
    · have hs := ifSt hs c4; have hQ := ifQt hQ c4
      refine g_iconst (v := (-1)) dX12_why_22 (by decide) ?_
      exact g_iret rfl dX12_why_23 (hK _ hQ)
theorem c_X12_why (E : gE) (M : gM) (x1 : Int32) (x2 : Int32) (hs : s_X12_why M x1 x2) : gC E yX12_why cX12_why 3 (some .int) (rm 4) [.ref (gla E 0), .int x1, .int x2] M (fun o N => o = some (.int (f_X12_why M x1 x2).1) ∧ N = (f_X12_why M x1 x2).2) :=
  gC.of (by decide +kernel) (Nat.le_of_ble_eq_true rfl) rfl (t_X12_why (K := fun z => z = f_X12_why M x1 x2) (fun z hz => by rw [hz]; exact ⟨rfl, rfl⟩) M x1 x2 hs rfl)
def f_X12_struckBy (M : gM) (x1 : Int32) (x2 : Int32) : Int32 × gM :=
  if (f_X7_isPaper M 0 x1) = 0 then
    (((-1), M))
  else
    (if (f_X7_isThing M 0 x2) = 0 then
      (((-1), M))
    else
      (bnd (f_X4_weigh M x2) fun M6 =>
      ((f_X12_orMinusTwo M6 (rdI M6 55 0 0 (nn x1)), M6))))
def s_X12_struckBy (M : gM) (x1 : Int32) (x2 : Int32) : Prop :=
  (s_X7_isPaper M 0 x1) ∧
  (if (f_X7_isPaper M 0 x1) = 0 then
    (True)
  else
    ((s_X7_isThing M 0 x2) ∧
    (if (f_X7_isThing M 0 x2) = 0 then
      (True)
    else
      ((s_X4_weigh M x2) ∧
      (bndP (f_X4_weigh M x2) fun M6 =>
      ((vp_in x1 12) ∧
      ((s_X12_orMinusTwo M6 (rdI M6 55 0 0 (nn x1))) ∧
      (True))))))))
theorem o_X12_struckBy (M : gM) (x1 : Int32) (x2 : Int32) : offW [53, 54, 55] M (f_X12_struckBy M x1 x2).2 := by
  rw [f_X12_struckBy]
  refine offI2 ?_ ?_
  · exact offR
  · refine offI2 ?_ ?_
    · exact offR
    · refine offB2 (offR.tr ((o_X4_weigh M x2).mono (by decide))) (fun M6 oM6 => ?_)
      exact oM6
set_option maxRecDepth 100000 in
set_option maxHeartbeats 4000000 in
theorem t_X12_struckBy {E : gE} {K : Int32 × gM → Prop} {Q : Option Value → gM → Prop} (hK : ∀ z : Int32 × gM, K z → Q (some (.int z.1)) z.2) (M : gM) (x1 : Int32) (x2 : Int32)  (hs : s_X12_struckBy M x1 x2) (hQ : K (f_X12_struckBy M x1 x2)) : gG E RX12 cX12_struckBy 3 (some .int) (rm 4) 0 [(0, .ref (gla E 0)), (1, .int x1), (2, .int x2)] [] M Q := by
  rw [s_X12_struckBy] at hs
  rw [f_X12_struckBy] at hQ
  refine g_aload_n 0 dX12_struckBy_0 rfl ?_
  refine g_getR 0 (rgC 0) fd_X12_26 dF_Wd rfl rfl dX12_struckBy_1 ?_
  refine g_iload_n 1 dX12_struckBy_4 rfl ?_
  have h1 := hs.1; have hs := hs.2
  refine g_callV (As := [.int x1]) (st := []) (rgC 0) (c_X7_isPaper E M 0 lt02 x1 h1) mt_X7_isPaper ml_X12_143 (dF_Rg lt02) rfl rfl sg_X7_isPaper rfl (by decide) (Nat.le_of_ble_eq_true rfl) dX12_struckBy_5 ?_
  rintro _ _ ⟨q1, q2⟩; rw [q1, q2]; clear q1 q2
  refine g_if_eq 22 dX12_struckBy_8 (by decide) (fun c2 => ?_) (fun c2 => ?_)
  · have hs := ifSt hs c2; have hQ := ifQt hQ c2
    refine g_iconst (v := (-1)) dX12_struckBy_22 (by decide) ?_
    exact g_iret rfl dX12_struckBy_23 (hK _ hQ)
  · have hs := ifSf hs c2; have hQ := ifQf hQ c2
    refine g_aload_n 0 dX12_struckBy_11 rfl ?_
    refine g_getR 0 (rgC 0) fd_X12_26 dF_Wd rfl rfl dX12_struckBy_12 ?_
    refine g_iload_n 2 dX12_struckBy_15 rfl ?_
    have h3 := hs.1; have hs := hs.2
    refine g_callV (As := [.int x2]) (st := []) (rgC 0) (c_X7_isThing E M 0 lt02 x2 h3) mt_X7_isThing ml_X12_189 (dF_Rg lt02) rfl rfl sg_X7_isThing rfl (by decide) (Nat.le_of_ble_eq_true rfl) dX12_struckBy_16 ?_
    rintro _ _ ⟨q1, q2⟩; rw [q1, q2]; clear q1 q2
    refine g_if_ne 24 dX12_struckBy_19 (by decide) (fun c4 => ?_) (fun c4 => ?_)
    · have hs := ifSf hs c4; have hQ := ifQf hQ c4
      refine g_aload_n 0 dX12_struckBy_24 rfl ?_
      refine g_getR 0 216 fd_X12_59 dF_Wd rfl rfl dX12_struckBy_25 ?_
      refine g_iload_n 2 dX12_struckBy_28 rfl ?_
      have h5 := hs.1; have hs := hs.2
      refine g_callV (As := [.int x2]) (st := []) 216 (c_X4_weigh E M x2 h5) mt_X4_weigh ml_X12_304 dF_Lw rfl rfl sg_X4_weigh rfl (by decide) (Nat.le_of_ble_eq_true rfl) dX12_struckBy_29 ?_
      rintro _ M6 ⟨rfl, hM6⟩
      have hQ := bndQ hQ M6 hM6; have hs := bndS hs M6 hM6
      refine g_aload_n 0 dX12_struckBy_32 rfl ?_
      refine g_getR 0 216 fd_X12_59 dF_Wd rfl rfl dX12_struckBy_33 ?_
      refine g_getR 216 219 fd_X12_310 dF_Lw rfl rfl dX12_struckBy_36 ?_
      refine g_iload_n 1 dX12_struckBy_39 rfl ?_
      have h7 := hs.1; have hs := hs.2
      refine g_iald 219 dF_Lw_striker h7 dX12_struckBy_40 ?_
      have h8 := hs.1; have hs := hs.2
      refine g_callS (As := [.int (rdI M6 55 0 0 (nn x1))]) (st := []) (c_X12_orMinusTwo E M6 (rdI M6 55 0 0 (nn x1)) h8) mt_X12_orMinusTwo ml_X12_124 sg_X12_orMinusTwo rfl (by decide) (Nat.le_of_ble_eq_true rfl) dX12_struckBy_41 ?_
      rintro _ _ ⟨q1, q2⟩; rw [q1, q2]; clear q1 q2
      exact g_iret rfl dX12_struckBy_44 (hK _ hQ)
    · have hs := ifSt hs c4; have hQ := ifQt hQ c4
      refine g_iconst (v := (-1)) dX12_struckBy_22 (by decide) ?_
      exact g_iret rfl dX12_struckBy_23 (hK _ hQ)
theorem c_X12_struckBy (E : gE) (M : gM) (x1 : Int32) (x2 : Int32) (hs : s_X12_struckBy M x1 x2) : gC E yX12_struckBy cX12_struckBy 3 (some .int) (rm 4) [.ref (gla E 0), .int x1, .int x2] M (fun o N => o = some (.int (f_X12_struckBy M x1 x2).1) ∧ N = (f_X12_struckBy M x1 x2).2) :=
  gC.of (by decide +kernel) (Nat.le_of_ble_eq_true rfl) rfl (t_X12_struckBy (K := fun z => z = f_X12_struckBy M x1 x2) (fun z hz => by rw [hz]; exact ⟨rfl, rfl⟩) M x1 x2 hs rfl)
def f_X12_counting_42 (M : gM) (x1 : Int32) (x3 : Int32)  : Nat → Int32 → Int32 → Int32 × gM
  | 0, _, _ => (0, M)
  | n + 1, x4, x5 =>
    if (rdI M 7 0 0 0) ≤ x5 then
      (((-2), M))
    else
      (if (f_X4_countsOf M x1 (rdI M 9 0 0 (nn x5))) = 0 then
        (f_X12_counting_42 M x1 x3 n x4 (x5 + 1))
      else
        (if x4 = x3 then
          ((rdI M 9 0 0 (nn x5), M))
        else
          (f_X12_counting_42 M x1 x3 n (x4 + 1) (x5 + 1))))
def s_X12_counting_42 (M : gM) (x1 : Int32) (x3 : Int32)  : Nat → Int32 → Int32 → Prop
  | 0, _, _ => False
  | n + 1, x4, x5 =>
    if (rdI M 7 0 0 0) ≤ x5 then
      (True)
    else
      ((vp_in x5 12) ∧
      ((s_X4_countsOf M x1 (rdI M 9 0 0 (nn x5))) ∧
      (if (f_X4_countsOf M x1 (rdI M 9 0 0 (nn x5))) = 0 then
        (s_X12_counting_42 M x1 x3 n x4 (x5 + 1))
      else
        (if x4 = x3 then
          (True)
        else
          (s_X12_counting_42 M x1 x3 n (x4 + 1) (x5 + 1))))))
theorem o_X12_counting_42 (M : gM) (x1 : Int32) (x3 : Int32)  : ∀ (n : Nat) (x4 : Int32) (x5 : Int32), offW [53, 54, 55] M (f_X12_counting_42 M x1 x3  n x4 x5).2 := by
  intro n
  induction n with
  | zero => intro x4 x5; exact offR
  | succ n ih =>
    intro x4 x5
    rw [f_X12_counting_42]
    refine offI2 ?_ ?_
    · exact offR
    · refine offI2 ?_ ?_
      · exact (ih x4 (x5 + 1))
      · refine offI2 ?_ ?_
        · exact offR
        · exact (ih (x4 + 1) (x5 + 1))
set_option maxRecDepth 100000 in
set_option maxHeartbeats 4000000 in
theorem t_X12_counting_42 {E : gE} {K : Int32 × gM → Prop} {Q : Option Value → gM → Prop} (hK : ∀ z : Int32 × gM, K z → Q (some (.int z.1)) z.2) (M : gM) (x1 : Int32) (x3 : Int32)   : ∀ (n : Nat) (x4 : Int32) (x5 : Int32) , s_X12_counting_42 M x1 x3  n x4 x5 → K (f_X12_counting_42 M x1 x3  n x4 x5) → gG E RX12 cX12_counting 7 (some .int) (rm 4) 42 [(0, .ref (gla E 0)), (1, .int x1), (3, .int x3), (4, .int x4), (5, .int x5)] [] M Q := by
  intro n
  induction n with
  | zero => intro x4 x5 hs hQ; exact (hs : False).elim
  | succ n ih =>
    intro x4 x5 hs hQ
    rw [s_X12_counting_42] at hs
    rw [f_X12_counting_42] at hQ
    refine g_iload 4 dX12_counting_42 rfl ?_
    refine g_aload_n 0 dX12_counting_44 rfl ?_
    refine g_getR 0 (rgC 0) fd_X12_26 dF_Wd rfl rfl dX12_counting_45 ?_
    refine g_getI (rgC 0) fd_X12_248 (dF_Rg lt02) rfl dX12_counting_48 ?_
    refine g_icmp_ge 97 dX12_counting_51 (by decide) (fun c8 => ?_) (fun c8 => ?_)
    · have hs := ifSt hs c8; have hQ := ifQt hQ c8
      refine g_bipush (v := (-2)) dX12_counting_97 (by decide) ?_
      exact g_iret rfl dX12_counting_99 (hK _ hQ)
    · have hs := ifSf hs c8; have hQ := ifQf hQ c8
      refine g_aload_n 0 dX12_counting_54 rfl ?_
      refine g_getR 0 (rgC 0) fd_X12_26 dF_Wd rfl rfl dX12_counting_55 ?_
      refine g_getR (rgC 0) (rgC 0 + 5) fd_X12_313 (dF_Rg lt02) rfl rfl dX12_counting_58 ?_
      refine g_iload 4 dX12_counting_61 rfl ?_
      have h9 := hs.1; have hs := hs.2
      refine g_iald (rgC 0 + 5) (dF_Rg_latestFirst lt02) h9 dX12_counting_63 ?_
      refine g_istore _ dX12_counting_64 (by decide) rfl ?_
      refine g_aload_n 1 dX12_counting_66 rfl ?_
      refine g_getR 0 216 fd_X12_59 dF_Wd rfl rfl dX12_counting_67 ?_
      refine g_iload_n 2 dX12_counting_70 rfl ?_
      refine g_iload 0 dX12_counting_71 rfl ?_
      have h10 := hs.1; have hs := hs.2
      refine g_callV (As := [.int x1, .int (rdI M 9 0 0 (nn x5))]) (st := []) 216 (c_X4_countsOf E M x1 (rdI M 9 0 0 (nn x5)) h10) mt_X4_countsOf ml_X12_316 dF_Lw rfl rfl sg_X4_countsOf rfl (by decide) (Nat.le_of_ble_eq_true rfl) dX12_counting_73 ?_
      rintro _ _ ⟨q1, q2⟩; rw [q1, q2]; clear q1 q2
      refine g_if_eq 91 dX12_counting_76 (by decide) (fun c11 => ?_) (fun c11 => ?_)
      · have hs := ifSt hs c11; have hQ := ifQt hQ c11
        refine g_iinc 5 (v := x5 + 1) _ dX12_counting_91 rfl rfl (by decide) rfl ?_
        refine g_goto 42 dX12_counting_94 (by decide) ?_
        refine g_sub [2, 3, 4, 5, 0] _ rfl ?_
        exact ih x4 (x5 + 1) hs hQ
      · have hs := ifSf hs c11; have hQ := ifQf hQ c11
        refine g_iload 4 dX12_counting_79 rfl ?_
        refine g_iload_n 3 dX12_counting_81 rfl ?_
        refine g_icmp_ne 88 dX12_counting_82 (by decide) (fun c12 => ?_) (fun c12 => ?_)
        · have hs := ifSf hs c12; have hQ := ifQf hQ c12
          refine g_iinc 4 (v := x4 + 1) _ dX12_counting_88 rfl rfl (by decide) rfl ?_
          refine g_iinc 5 (v := x5 + 1) _ dX12_counting_91 rfl rfl (by decide) rfl ?_
          refine g_goto 42 dX12_counting_94 (by decide) ?_
          refine g_sub [3, 4, 5, 1, 0] _ rfl ?_
          exact ih (x4 + 1) (x5 + 1) hs hQ
        · have hs := ifSt hs c12; have hQ := ifQt hQ c12
          refine g_iload 0 dX12_counting_85 rfl ?_
          exact g_iret rfl dX12_counting_87 (hK _ hQ)
def f_X12_counting (M : gM) (x1 : Int32) (x2 : Int32) (x3 : Int32) : Int32 × gM :=
  if (f_X7_isPerson M 0 x1) = 0 then
    (((-1), M))
  else
    (if (f_X7_isThing M 0 x2) = 0 then
      (((-1), M))
    else
      (if 0 ≤ x3 then
        (bnd (f_X4_weigh M x2) fun M7 =>
        (f_X12_counting_42 M7 x1 x3 FU 0 0))
      else
        (((-1), M))))
def s_X12_counting (M : gM) (x1 : Int32) (x2 : Int32) (x3 : Int32) : Prop :=
  (s_X7_isPerson M 0 x1) ∧
  (if (f_X7_isPerson M 0 x1) = 0 then
    (True)
  else
    ((s_X7_isThing M 0 x2) ∧
    (if (f_X7_isThing M 0 x2) = 0 then
      (True)
    else
      (if 0 ≤ x3 then
        ((s_X4_weigh M x2) ∧
        (bndP (f_X4_weigh M x2) fun M7 =>
        (s_X12_counting_42 M7 x1 x3 FU 0 0)))
      else
        (True)))))
theorem o_X12_counting (M : gM) (x1 : Int32) (x2 : Int32) (x3 : Int32) : offW [53, 54, 55] M (f_X12_counting M x1 x2 x3).2 := by
  rw [f_X12_counting]
  refine offI2 ?_ ?_
  · exact offR
  · refine offI2 ?_ ?_
    · exact offR
    · refine offI2 ?_ ?_
      · refine offB2 (offR.tr ((o_X4_weigh M x2).mono (by decide))) (fun M7 oM7 => ?_)
        exact oM7.tr (o_X12_counting_42 M7 x1 x3 FU 0 0)
      · exact offR
set_option maxRecDepth 100000 in
set_option maxHeartbeats 4000000 in
theorem t_X12_counting {E : gE} {K : Int32 × gM → Prop} {Q : Option Value → gM → Prop} (hK : ∀ z : Int32 × gM, K z → Q (some (.int z.1)) z.2) (M : gM) (x1 : Int32) (x2 : Int32) (x3 : Int32)  (hs : s_X12_counting M x1 x2 x3) (hQ : K (f_X12_counting M x1 x2 x3)) : gG E RX12 cX12_counting 7 (some .int) (rm 4) 0 [(0, .ref (gla E 0)), (1, .int x1), (2, .int x2), (3, .int x3)] [] M Q := by
  rw [s_X12_counting] at hs
  rw [f_X12_counting] at hQ
  refine g_aload_n 0 dX12_counting_0 rfl ?_
  refine g_getR 0 (rgC 0) fd_X12_26 dF_Wd rfl rfl dX12_counting_1 ?_
  refine g_iload_n 1 dX12_counting_4 rfl ?_
  have h1 := hs.1; have hs := hs.2
  refine g_callV (As := [.int x1]) (st := []) (rgC 0) (c_X7_isPerson E M 0 lt02 x1 h1) mt_X7_isPerson ml_X12_101 (dF_Rg lt02) rfl rfl sg_X7_isPerson rfl (by decide) (Nat.le_of_ble_eq_true rfl) dX12_counting_5 ?_
  rintro _ _ ⟨q1, q2⟩; rw [q1, q2]; clear q1 q2
  refine g_if_eq 26 dX12_counting_8 (by decide) (fun c2 => ?_) (fun c2 => ?_)
  · have hs := ifSt hs c2; have hQ := ifQt hQ c2
    refine g_iconst (v := (-1)) dX12_counting_26 (by decide) ?_
    exact g_iret rfl dX12_counting_27 (hK _ hQ)
  · have hs := ifSf hs c2; have hQ := ifQf hQ c2
    refine g_aload_n 0 dX12_counting_11 rfl ?_
    refine g_getR 0 (rgC 0) fd_X12_26 dF_Wd rfl rfl dX12_counting_12 ?_
    refine g_iload_n 2 dX12_counting_15 rfl ?_
    have h3 := hs.1; have hs := hs.2
    refine g_callV (As := [.int x2]) (st := []) (rgC 0) (c_X7_isThing E M 0 lt02 x2 h3) mt_X7_isThing ml_X12_189 (dF_Rg lt02) rfl rfl sg_X7_isThing rfl (by decide) (Nat.le_of_ble_eq_true rfl) dX12_counting_16 ?_
    rintro _ _ ⟨q1, q2⟩; rw [q1, q2]; clear q1 q2
    refine g_if_eq 26 dX12_counting_19 (by decide) (fun c4 => ?_) (fun c4 => ?_)
    · have hs := ifSt hs c4; have hQ := ifQt hQ c4
      refine g_iconst (v := (-1)) dX12_counting_26 (by decide) ?_
      exact g_iret rfl dX12_counting_27 (hK _ hQ)
    · have hs := ifSf hs c4; have hQ := ifQf hQ c4
      refine g_iload_n 3 dX12_counting_22 rfl ?_
      refine g_if_ge 28 dX12_counting_23 (by decide) (fun c5 => ?_) (fun c5 => ?_)
      · have hs := ifSt hs c5; have hQ := ifQt hQ c5
        refine g_aload_n 0 dX12_counting_28 rfl ?_
        refine g_getR 0 216 fd_X12_59 dF_Wd rfl rfl dX12_counting_29 ?_
        refine g_iload_n 2 dX12_counting_32 rfl ?_
        have h6 := hs.1; have hs := hs.2
        refine g_callV (As := [.int x2]) (st := []) 216 (c_X4_weigh E M x2 h6) mt_X4_weigh ml_X12_304 dF_Lw rfl rfl sg_X4_weigh rfl (by decide) (Nat.le_of_ble_eq_true rfl) dX12_counting_33 ?_
        rintro _ M7 ⟨rfl, hM7⟩
        have hQ := bndQ hQ M7 hM7; have hs := bndS hs M7 hM7
        refine g_iconst (v := 0) dX12_counting_36 (by decide) ?_
        refine g_istore _ dX12_counting_37 (by decide) rfl ?_
        refine g_iconst (v := 0) dX12_counting_39 (by decide) ?_
        refine g_istore _ dX12_counting_40 (by decide) rfl ?_
        refine g_sub [2, 3, 5, 1, 0] _ rfl ?_
        exact t_X12_counting_42 hK M7 x1 x3 FU 0 0 hs hQ
      · have hs := ifSf hs c5; have hQ := ifQf hQ c5
        refine g_iconst (v := (-1)) dX12_counting_26 (by decide) ?_
        exact g_iret rfl dX12_counting_27 (hK _ hQ)
theorem c_X12_counting (E : gE) (M : gM) (x1 : Int32) (x2 : Int32) (x3 : Int32) (hs : s_X12_counting M x1 x2 x3) : gC E yX12_counting cX12_counting 7 (some .int) (rm 4) [.ref (gla E 0), .int x1, .int x2, .int x3] M (fun o N => o = some (.int (f_X12_counting M x1 x2 x3).1) ∧ N = (f_X12_counting M x1 x2 x3).2) :=
  gC.of (by decide +kernel) (Nat.le_of_ble_eq_true rfl) rfl (t_X12_counting (K := fun z => z = f_X12_counting M x1 x2 x3) (fun z hz => by rw [hz]; exact ⟨rfl, rfl⟩) M x1 x2 x3 hs rfl)
def f_X12_taker (M : gM) (x1 : Int32) (x2 : Int32) : Int32 × gM :=
  if (f_X7_isPerson M 0 x1) = 0 then
    (((-1), M))
  else
    (if (f_X7_isThing M 0 x2) = 0 then
      (((-1), M))
    else
      (if (f_X6_isMortal M 0 (nn x1)) = 0 then
        (((-3), M))
      else
        (bnd (f_X4_weigh M x2) fun M9 =>
        (bnd (f_X4_chooseTaker M9 x1 x2) fun M11 =>
        ((f_X12_orMinusTwo M11 (rdI M11 51 0 0 0), M11))))))
def s_X12_taker (M : gM) (x1 : Int32) (x2 : Int32) : Prop :=
  (s_X7_isPerson M 0 x1) ∧
  (if (f_X7_isPerson M 0 x1) = 0 then
    (True)
  else
    ((s_X7_isThing M 0 x2) ∧
    (if (f_X7_isThing M 0 x2) = 0 then
      (True)
    else
      ((vp_in x1 10) ∧
      ((s_X6_isMortal M 0 (nn x1)) ∧
      (if (f_X6_isMortal M 0 (nn x1)) = 0 then
        (True)
      else
        ((s_X4_weigh M x2) ∧
        (bndP (f_X4_weigh M x2) fun M9 =>
        ((s_X4_chooseTaker M9 x1 x2) ∧
        (bndP (f_X4_chooseTaker M9 x1 x2) fun M11 =>
        ((s_X12_orMinusTwo M11 (rdI M11 51 0 0 0)) ∧
        (True))))))))))))
theorem o_X12_taker (M : gM) (x1 : Int32) (x2 : Int32) : offW [51, 52, 53, 54, 55] M (f_X12_taker M x1 x2).2 := by
  rw [f_X12_taker]
  refine offI2 ?_ ?_
  · exact offR
  · refine offI2 ?_ ?_
    · exact offR
    · refine offI2 ?_ ?_
      · exact offR
      · refine offB2 (offR.tr ((o_X4_weigh M x2).mono (by decide))) (fun M9 oM9 => ?_)
        refine offB2 (oM9.tr ((o_X4_chooseTaker M9 x1 x2).mono (by decide))) (fun M11 oM11 => ?_)
        exact oM11
set_option maxRecDepth 100000 in
set_option maxHeartbeats 4000000 in
theorem t_X12_taker {E : gE} {K : Int32 × gM → Prop} {Q : Option Value → gM → Prop} (hK : ∀ z : Int32 × gM, K z → Q (some (.int z.1)) z.2) (M : gM) (x1 : Int32) (x2 : Int32)  (hs : s_X12_taker M x1 x2) (hQ : K (f_X12_taker M x1 x2)) : gG E RX12 cX12_taker 3 (some .int) (rm 4) 0 [(0, .ref (gla E 0)), (1, .int x1), (2, .int x2)] [] M Q := by
  rw [s_X12_taker] at hs
  rw [f_X12_taker] at hQ
  refine g_aload_n 0 dX12_taker_0 rfl ?_
  refine g_getR 0 (rgC 0) fd_X12_26 dF_Wd rfl rfl dX12_taker_1 ?_
  refine g_iload_n 1 dX12_taker_4 rfl ?_
  have h1 := hs.1; have hs := hs.2
  refine g_callV (As := [.int x1]) (st := []) (rgC 0) (c_X7_isPerson E M 0 lt02 x1 h1) mt_X7_isPerson ml_X12_101 (dF_Rg lt02) rfl rfl sg_X7_isPerson rfl (by decide) (Nat.le_of_ble_eq_true rfl) dX12_taker_5 ?_
  rintro _ _ ⟨q1, q2⟩; rw [q1, q2]; clear q1 q2
  refine g_if_eq 22 dX12_taker_8 (by decide) (fun c2 => ?_) (fun c2 => ?_)
  · have hs := ifSt hs c2; have hQ := ifQt hQ c2
    refine g_iconst (v := (-1)) dX12_taker_22 (by decide) ?_
    exact g_iret rfl dX12_taker_23 (hK _ hQ)
  · have hs := ifSf hs c2; have hQ := ifQf hQ c2
    refine g_aload_n 0 dX12_taker_11 rfl ?_
    refine g_getR 0 (rgC 0) fd_X12_26 dF_Wd rfl rfl dX12_taker_12 ?_
    refine g_iload_n 2 dX12_taker_15 rfl ?_
    have h3 := hs.1; have hs := hs.2
    refine g_callV (As := [.int x2]) (st := []) (rgC 0) (c_X7_isThing E M 0 lt02 x2 h3) mt_X7_isThing ml_X12_189 (dF_Rg lt02) rfl rfl sg_X7_isThing rfl (by decide) (Nat.le_of_ble_eq_true rfl) dX12_taker_16 ?_
    rintro _ _ ⟨q1, q2⟩; rw [q1, q2]; clear q1 q2
    refine g_if_ne 24 dX12_taker_19 (by decide) (fun c4 => ?_) (fun c4 => ?_)
    · have hs := ifSf hs c4; have hQ := ifQf hQ c4
      refine g_aload_n 0 dX12_taker_24 rfl ?_
      refine g_getR 0 (rgC 0) fd_X12_26 dF_Wd rfl rfl dX12_taker_25 ?_
      refine g_getR (rgC 0) (rgC 0 + 2) fd_X12_112 (dF_Rg lt02) rfl rfl dX12_taker_28 ?_
      refine g_iload_n 1 dX12_taker_31 rfl ?_
      have h5 := hs.1; have hs := hs.2
      refine g_aald (rgC 0 + 2) (peC 0 (nn x1)) rfl (dF_Rg_persons lt02) h5 (aj_Pe _ _) dX12_taker_32 ?_
      have h6 := hs.1; have hs := hs.2
      refine g_callV (As := []) (st := []) (peC 0 (nn x1)) (c_X6_isMortal E M 0 (nn x1) lt02 (vpL h5) h6) mt_X6_isMortal ml_X12_320 (dF_Pe lt02 (vpL h5)) rfl rfl sg_X6_isMortal rfl (by decide) (Nat.le_of_ble_eq_true rfl) dX12_taker_33 ?_
      rintro _ _ ⟨q1, q2⟩; rw [q1, q2]; clear q1 q2
      refine g_if_ne 42 dX12_taker_36 (by decide) (fun c7 => ?_) (fun c7 => ?_)
      · have hs := ifSf hs c7; have hQ := ifQf hQ c7
        refine g_aload_n 0 dX12_taker_42 rfl ?_
        refine g_getR 0 216 fd_X12_59 dF_Wd rfl rfl dX12_taker_43 ?_
        refine g_iload_n 2 dX12_taker_46 rfl ?_
        have h8 := hs.1; have hs := hs.2
        refine g_callV (As := [.int x2]) (st := []) 216 (c_X4_weigh E M x2 h8) mt_X4_weigh ml_X12_304 dF_Lw rfl rfl sg_X4_weigh rfl (by decide) (Nat.le_of_ble_eq_true rfl) dX12_taker_47 ?_
        rintro _ M9 ⟨rfl, hM9⟩
        have hQ := bndQ hQ M9 hM9; have hs := bndS hs M9 hM9
        refine g_aload_n 0 dX12_taker_50 rfl ?_
        refine g_getR 0 216 fd_X12_59 dF_Wd rfl rfl dX12_taker_51 ?_
        refine g_iload_n 1 dX12_taker_54 rfl ?_
        refine g_iload_n 2 dX12_taker_55 rfl ?_
        have h10 := hs.1; have hs := hs.2
        refine g_callV (As := [.int x1, .int x2]) (st := []) 216 (c_X4_chooseTaker E M9 x1 x2 h10) mt_X4_chooseTaker ml_X12_323 dF_Lw rfl rfl sg_X4_chooseTaker rfl (by decide) (Nat.le_of_ble_eq_true rfl) dX12_taker_56 ?_
        rintro _ M11 ⟨rfl, hM11⟩
        have hQ := bndQ hQ M11 hM11; have hs := bndS hs M11 hM11
        refine g_aload_n 0 dX12_taker_59 rfl ?_
        refine g_getR 0 216 fd_X12_59 dF_Wd rfl rfl dX12_taker_60 ?_
        refine g_getI 216 fd_X12_326 dF_Lw rfl dX12_taker_63 ?_
        have h12 := hs.1; have hs := hs.2
        refine g_callS (As := [.int (rdI M11 51 0 0 0)]) (st := []) (c_X12_orMinusTwo E M11 (rdI M11 51 0 0 0) h12) mt_X12_orMinusTwo ml_X12_124 sg_X12_orMinusTwo rfl (by decide) (Nat.le_of_ble_eq_true rfl) dX12_taker_66 ?_
        rintro _ _ ⟨q1, q2⟩; rw [q1, q2]; clear q1 q2
        exact g_iret rfl dX12_taker_69 (hK _ hQ)
      · have hs := ifSt hs c7; have hQ := ifQt hQ c7
        refine g_bipush (v := (-3)) dX12_taker_39 (by decide) ?_
        exact g_iret rfl dX12_taker_41 (hK _ hQ)
    · have hs := ifSt hs c4; have hQ := ifQt hQ c4
      refine g_iconst (v := (-1)) dX12_taker_22 (by decide) ?_
      exact g_iret rfl dX12_taker_23 (hK _ hQ)
theorem c_X12_taker (E : gE) (M : gM) (x1 : Int32) (x2 : Int32) (hs : s_X12_taker M x1 x2) : gC E yX12_taker cX12_taker 3 (some .int) (rm 4) [.ref (gla E 0), .int x1, .int x2] M (fun o N => o = some (.int (f_X12_taker M x1 x2).1) ∧ N = (f_X12_taker M x1 x2).2) :=
  gC.of (by decide +kernel) (Nat.le_of_ble_eq_true rfl) rfl (t_X12_taker (K := fun z => z = f_X12_taker M x1 x2) (fun z hz => by rw [hz]; exact ⟨rfl, rfl⟩) M x1 x2 hs rfl)
def f_X12_takerBy (M : gM) (x1 : Int32) (x2 : Int32) : Int32 × gM :=
  if (f_X7_isPerson M 0 x1) = 0 then
    (((-1), M))
  else
    (if (f_X7_isThing M 0 x2) = 0 then
      (((-1), M))
    else
      (if (f_X6_isMortal M 0 (nn x1)) = 0 then
        (((-3), M))
      else
        (bnd (f_X4_weigh M x2) fun M9 =>
        (bnd (f_X4_chooseTaker M9 x1 x2) fun M11 =>
        ((f_X12_orMinusTwo M11 (rdI M11 52 0 0 0), M11))))))
def s_X12_takerBy (M : gM) (x1 : Int32) (x2 : Int32) : Prop :=
  (s_X7_isPerson M 0 x1) ∧
  (if (f_X7_isPerson M 0 x1) = 0 then
    (True)
  else
    ((s_X7_isThing M 0 x2) ∧
    (if (f_X7_isThing M 0 x2) = 0 then
      (True)
    else
      ((vp_in x1 10) ∧
      ((s_X6_isMortal M 0 (nn x1)) ∧
      (if (f_X6_isMortal M 0 (nn x1)) = 0 then
        (True)
      else
        ((s_X4_weigh M x2) ∧
        (bndP (f_X4_weigh M x2) fun M9 =>
        ((s_X4_chooseTaker M9 x1 x2) ∧
        (bndP (f_X4_chooseTaker M9 x1 x2) fun M11 =>
        ((s_X12_orMinusTwo M11 (rdI M11 52 0 0 0)) ∧
        (True))))))))))))
theorem o_X12_takerBy (M : gM) (x1 : Int32) (x2 : Int32) : offW [51, 52, 53, 54, 55] M (f_X12_takerBy M x1 x2).2 := by
  rw [f_X12_takerBy]
  refine offI2 ?_ ?_
  · exact offR
  · refine offI2 ?_ ?_
    · exact offR
    · refine offI2 ?_ ?_
      · exact offR
      · refine offB2 (offR.tr ((o_X4_weigh M x2).mono (by decide))) (fun M9 oM9 => ?_)
        refine offB2 (oM9.tr ((o_X4_chooseTaker M9 x1 x2).mono (by decide))) (fun M11 oM11 => ?_)
        exact oM11
set_option maxRecDepth 100000 in
set_option maxHeartbeats 4000000 in
theorem t_X12_takerBy {E : gE} {K : Int32 × gM → Prop} {Q : Option Value → gM → Prop} (hK : ∀ z : Int32 × gM, K z → Q (some (.int z.1)) z.2) (M : gM) (x1 : Int32) (x2 : Int32)  (hs : s_X12_takerBy M x1 x2) (hQ : K (f_X12_takerBy M x1 x2)) : gG E RX12 cX12_takerBy 3 (some .int) (rm 4) 0 [(0, .ref (gla E 0)), (1, .int x1), (2, .int x2)] [] M Q := by
  rw [s_X12_takerBy] at hs
  rw [f_X12_takerBy] at hQ
  refine g_aload_n 0 dX12_takerBy_0 rfl ?_
  refine g_getR 0 (rgC 0) fd_X12_26 dF_Wd rfl rfl dX12_takerBy_1 ?_
  refine g_iload_n 1 dX12_takerBy_4 rfl ?_
  have h1 := hs.1; have hs := hs.2
  refine g_callV (As := [.int x1]) (st := []) (rgC 0) (c_X7_isPerson E M 0 lt02 x1 h1) mt_X7_isPerson ml_X12_101 (dF_Rg lt02) rfl rfl sg_X7_isPerson rfl (by decide) (Nat.le_of_ble_eq_true rfl) dX12_takerBy_5 ?_
  rintro _ _ ⟨q1, q2⟩; rw [q1, q2]; clear q1 q2
  refine g_if_eq 22 dX12_takerBy_8 (by decide) (fun c2 => ?_) (fun c2 => ?_)
  · have hs := ifSt hs c2; have hQ := ifQt hQ c2
    refine g_iconst (v := (-1)) dX12_takerBy_22 (by decide) ?_
    exact g_iret rfl dX12_takerBy_23 (hK _ hQ)
  · have hs := ifSf hs c2; have hQ := ifQf hQ c2
    refine g_aload_n 0 dX12_takerBy_11 rfl ?_
    refine g_getR 0 (rgC 0) fd_X12_26 dF_Wd rfl rfl dX12_takerBy_12 ?_
    refine g_iload_n 2 dX12_takerBy_15 rfl ?_
    have h3 := hs.1; have hs := hs.2
    refine g_callV (As := [.int x2]) (st := []) (rgC 0) (c_X7_isThing E M 0 lt02 x2 h3) mt_X7_isThing ml_X12_189 (dF_Rg lt02) rfl rfl sg_X7_isThing rfl (by decide) (Nat.le_of_ble_eq_true rfl) dX12_takerBy_16 ?_
    rintro _ _ ⟨q1, q2⟩; rw [q1, q2]; clear q1 q2
    refine g_if_ne 24 dX12_takerBy_19 (by decide) (fun c4 => ?_) (fun c4 => ?_)
    · have hs := ifSf hs c4; have hQ := ifQf hQ c4
      refine g_aload_n 0 dX12_takerBy_24 rfl ?_
      refine g_getR 0 (rgC 0) fd_X12_26 dF_Wd rfl rfl dX12_takerBy_25 ?_
      refine g_getR (rgC 0) (rgC 0 + 2) fd_X12_112 (dF_Rg lt02) rfl rfl dX12_takerBy_28 ?_
      refine g_iload_n 1 dX12_takerBy_31 rfl ?_
      have h5 := hs.1; have hs := hs.2
      refine g_aald (rgC 0 + 2) (peC 0 (nn x1)) rfl (dF_Rg_persons lt02) h5 (aj_Pe _ _) dX12_takerBy_32 ?_
      have h6 := hs.1; have hs := hs.2
      refine g_callV (As := []) (st := []) (peC 0 (nn x1)) (c_X6_isMortal E M 0 (nn x1) lt02 (vpL h5) h6) mt_X6_isMortal ml_X12_320 (dF_Pe lt02 (vpL h5)) rfl rfl sg_X6_isMortal rfl (by decide) (Nat.le_of_ble_eq_true rfl) dX12_takerBy_33 ?_
      rintro _ _ ⟨q1, q2⟩; rw [q1, q2]; clear q1 q2
      refine g_if_ne 42 dX12_takerBy_36 (by decide) (fun c7 => ?_) (fun c7 => ?_)
      · have hs := ifSf hs c7; have hQ := ifQf hQ c7
        refine g_aload_n 0 dX12_takerBy_42 rfl ?_
        refine g_getR 0 216 fd_X12_59 dF_Wd rfl rfl dX12_takerBy_43 ?_
        refine g_iload_n 2 dX12_takerBy_46 rfl ?_
        have h8 := hs.1; have hs := hs.2
        refine g_callV (As := [.int x2]) (st := []) 216 (c_X4_weigh E M x2 h8) mt_X4_weigh ml_X12_304 dF_Lw rfl rfl sg_X4_weigh rfl (by decide) (Nat.le_of_ble_eq_true rfl) dX12_takerBy_47 ?_
        rintro _ M9 ⟨rfl, hM9⟩
        have hQ := bndQ hQ M9 hM9; have hs := bndS hs M9 hM9
        refine g_aload_n 0 dX12_takerBy_50 rfl ?_
        refine g_getR 0 216 fd_X12_59 dF_Wd rfl rfl dX12_takerBy_51 ?_
        refine g_iload_n 1 dX12_takerBy_54 rfl ?_
        refine g_iload_n 2 dX12_takerBy_55 rfl ?_
        have h10 := hs.1; have hs := hs.2
        refine g_callV (As := [.int x1, .int x2]) (st := []) 216 (c_X4_chooseTaker E M9 x1 x2 h10) mt_X4_chooseTaker ml_X12_323 dF_Lw rfl rfl sg_X4_chooseTaker rfl (by decide) (Nat.le_of_ble_eq_true rfl) dX12_takerBy_56 ?_
        rintro _ M11 ⟨rfl, hM11⟩
        have hQ := bndQ hQ M11 hM11; have hs := bndS hs M11 hM11
        refine g_aload_n 0 dX12_takerBy_59 rfl ?_
        refine g_getR 0 216 fd_X12_59 dF_Wd rfl rfl dX12_takerBy_60 ?_
        refine g_getI 216 fd_X12_329 dF_Lw rfl dX12_takerBy_63 ?_
        have h12 := hs.1; have hs := hs.2
        refine g_callS (As := [.int (rdI M11 52 0 0 0)]) (st := []) (c_X12_orMinusTwo E M11 (rdI M11 52 0 0 0) h12) mt_X12_orMinusTwo ml_X12_124 sg_X12_orMinusTwo rfl (by decide) (Nat.le_of_ble_eq_true rfl) dX12_takerBy_66 ?_
        rintro _ _ ⟨q1, q2⟩; rw [q1, q2]; clear q1 q2
        exact g_iret rfl dX12_takerBy_69 (hK _ hQ)
      · have hs := ifSt hs c7; have hQ := ifQt hQ c7
        refine g_bipush (v := (-3)) dX12_takerBy_39 (by decide) ?_
        exact g_iret rfl dX12_takerBy_41 (hK _ hQ)
    · have hs := ifSt hs c4; have hQ := ifQt hQ c4
      refine g_iconst (v := (-1)) dX12_takerBy_22 (by decide) ?_
      exact g_iret rfl dX12_takerBy_23 (hK _ hQ)
theorem c_X12_takerBy (E : gE) (M : gM) (x1 : Int32) (x2 : Int32) (hs : s_X12_takerBy M x1 x2) : gC E yX12_takerBy cX12_takerBy 3 (some .int) (rm 4) [.ref (gla E 0), .int x1, .int x2] M (fun o N => o = some (.int (f_X12_takerBy M x1 x2).1) ∧ N = (f_X12_takerBy M x1 x2).2) :=
  gC.of (by decide +kernel) (Nat.le_of_ble_eq_true rfl) rfl (t_X12_takerBy (K := fun z => z = f_X12_takerBy M x1 x2) (fun z hz => by rw [hz]; exact ⟨rfl, rfl⟩) M x1 x2 hs rfl)
def f_X12_has (M : gM) (x1 : Int32) (x2 : Int32) (x3 : Int32) (x4 : Int32) : Int64 × gM :=
  if (f_X12_isPersonOrCrown M x1) = 0 then
    (((-1), M))
  else
    (if (f_X7_isThing M 0 x2) = 0 then
      (((-1), M))
    else
      (if (f_X12_isDay M x3) = 0 then
        (((-1), M))
      else
        (if x4 < 0 then
          (((-1), M))
        else
          (if x4 ≤ 1 then
            (bnd (f_X1_goOn M x2 x3) fun M10 =>
            (bnd (rdJ M10 61 0 0 (nn (f_X12_holder M10 x1))) fun v13 =>
            (bnd (f_X12_greatestDivisor M10 (rdJ M10 56 0 0 0) v13) fun v15 =>
            (if 0 < (lg_cmp v15 0) then
              (if x4 = 0 then
                ((v13 / v15, M10))
              else
                (((rdJ M10 56 0 0 0) / v15, M10)))
            else
              (((-1), M10))))))
          else
            (((-1), M))))))
def s_X12_has (M : gM) (x1 : Int32) (x2 : Int32) (x3 : Int32) (x4 : Int32) : Prop :=
  (s_X12_isPersonOrCrown M x1) ∧
  (if (f_X12_isPersonOrCrown M x1) = 0 then
    (True)
  else
    ((s_X7_isThing M 0 x2) ∧
    (if (f_X7_isThing M 0 x2) = 0 then
      (True)
    else
      ((s_X12_isDay M x3) ∧
      (if (f_X12_isDay M x3) = 0 then
        (True)
      else
        (if x4 < 0 then
          (True)
        else
          (if x4 ≤ 1 then
            ((s_X1_goOn M x2 x3) ∧
            (bndP (f_X1_goOn M x2 x3) fun M10 =>
            ((s_X12_holder M10 x1) ∧
            ((vp_in (f_X12_holder M10 x1) 11) ∧
            (bndP (rdJ M10 61 0 0 (nn (f_X12_holder M10 x1))) fun v13 =>
            ((s_X12_greatestDivisor M10 (rdJ M10 56 0 0 0) v13) ∧
            (bndP (f_X12_greatestDivisor M10 (rdJ M10 56 0 0 0) v13) fun v15 =>
            (if 0 < (lg_cmp v15 0) then
              (if x4 = 0 then
                ((¬ v15 = 0) ∧
                (True))
              else
                ((¬ v15 = 0) ∧
                (True)))
            else
              (True)))))))))
          else
            (True))))))))
theorem o_X12_has (M : gM) (x1 : Int32) (x2 : Int32) (x3 : Int32) (x4 : Int32) : offW [51, 52, 53, 54, 55, 56, 57, 58, 59, 60, 61] M (f_X12_has M x1 x2 x3 x4).2 := by
  rw [f_X12_has]
  refine offI2 ?_ ?_
  · exact offR
  · refine offI2 ?_ ?_
    · exact offR
    · refine offI2 ?_ ?_
      · exact offR
      · refine offI2 ?_ ?_
        · exact offR
        · refine offI2 ?_ ?_
          · refine offB2 (offR.tr ((o_X1_goOn M x2 x3).mono (by decide))) (fun M10 oM10 => ?_)
            refine offV2 (fun v13 => ?_)
            refine offV2 (fun v15 => ?_)
            refine offI2 ?_ ?_
            · refine offI2 ?_ ?_
              · exact oM10
              · exact oM10
            · exact oM10
          · exact offR
set_option maxRecDepth 100000 in
set_option maxHeartbeats 4000000 in
theorem t_X12_has {E : gE} {K : Int64 × gM → Prop} {Q : Option Value → gM → Prop} (hK : ∀ z : Int64 × gM, K z → Q (some (.long z.1)) z.2) (M : gM) (x1 : Int32) (x2 : Int32) (x3 : Int32) (x4 : Int32)  (hs : s_X12_has M x1 x2 x3 x4) (hQ : K (f_X12_has M x1 x2 x3 x4)) : gG E RX12 cX12_has 9 (some .long) (rm 5) 0 [(0, .ref (gla E 0)), (1, .int x1), (2, .int x2), (3, .int x3), (4, .int x4)] [] M Q := by
  rw [s_X12_has] at hs
  rw [f_X12_has] at hQ
  refine g_aload_n 0 dX12_has_0 rfl ?_
  refine g_iload_n 1 dX12_has_1 rfl ?_
  have h1 := hs.1; have hs := hs.2
  refine g_callV (As := [.int x1]) (st := []) 0 (c_X12_isPersonOrCrown E M x1 h1) mt_X12_isPersonOrCrown ml_X12_350 dF_Wd rfl rfl sg_X12_isPersonOrCrown rfl (by decide) (Nat.le_of_ble_eq_true rfl) dX12_has_2 ?_
  rintro _ _ ⟨q1, q2⟩; rw [q1, q2]; clear q1 q2
  refine g_if_eq 37 dX12_has_5 (by decide) (fun c2 => ?_) (fun c2 => ?_)
  · have hs := ifSt hs c2; have hQ := ifQt hQ c2
    refine g_ldc2 kc_X12_353 dX12_has_37 ?_
    exact g_lret rfl dX12_has_40 (hK _ hQ)
  · have hs := ifSf hs c2; have hQ := ifQf hQ c2
    refine g_aload_n 0 dX12_has_8 rfl ?_
    refine g_getR 0 (rgC 0) fd_X12_26 dF_Wd rfl rfl dX12_has_9 ?_
    refine g_iload_n 2 dX12_has_12 rfl ?_
    have h3 := hs.1; have hs := hs.2
    refine g_callV (As := [.int x2]) (st := []) (rgC 0) (c_X7_isThing E M 0 lt02 x2 h3) mt_X7_isThing ml_X12_189 (dF_Rg lt02) rfl rfl sg_X7_isThing rfl (by decide) (Nat.le_of_ble_eq_true rfl) dX12_has_13 ?_
    rintro _ _ ⟨q1, q2⟩; rw [q1, q2]; clear q1 q2
    refine g_if_eq 37 dX12_has_16 (by decide) (fun c4 => ?_) (fun c4 => ?_)
    · have hs := ifSt hs c4; have hQ := ifQt hQ c4
      refine g_ldc2 kc_X12_353 dX12_has_37 ?_
      exact g_lret rfl dX12_has_40 (hK _ hQ)
    · have hs := ifSf hs c4; have hQ := ifQf hQ c4
      refine g_iload_n 3 dX12_has_19 rfl ?_
      have h5 := hs.1; have hs := hs.2
      refine g_callS (As := [.int x3]) (st := []) (c_X12_isDay E M x3 h5) mt_X12_isDay ml_X12_284 sg_X12_isDay rfl (by decide) (Nat.le_of_ble_eq_true rfl) dX12_has_20 ?_
      rintro _ _ ⟨q1, q2⟩; rw [q1, q2]; clear q1 q2
      refine g_if_eq 37 dX12_has_23 (by decide) (fun c6 => ?_) (fun c6 => ?_)
      · have hs := ifSt hs c6; have hQ := ifQt hQ c6
        refine g_ldc2 kc_X12_353 dX12_has_37 ?_
        exact g_lret rfl dX12_has_40 (hK _ hQ)
      · have hs := ifSf hs c6; have hQ := ifQf hQ c6
        refine g_iload 4 dX12_has_26 rfl ?_
        refine g_if_lt 37 dX12_has_28 (by decide) (fun c7 => ?_) (fun c7 => ?_)
        · have hs := ifSt hs c7; have hQ := ifQt hQ c7
          refine g_ldc2 kc_X12_353 dX12_has_37 ?_
          exact g_lret rfl dX12_has_40 (hK _ hQ)
        · have hs := ifSf hs c7; have hQ := ifQf hQ c7
          refine g_iload 4 dX12_has_31 rfl ?_
          refine g_iconst (v := 1) dX12_has_33 (by decide) ?_
          refine g_icmp_le 41 dX12_has_34 (by decide) (fun c8 => ?_) (fun c8 => ?_)
          · have hs := ifSt hs c8; have hQ := ifQt hQ c8
            refine g_aload_n 0 dX12_has_41 rfl ?_
            refine g_getR 0 220 fd_X12_68 dF_Wd rfl rfl dX12_has_42 ?_
            refine g_iload_n 2 dX12_has_45 rfl ?_
            refine g_iload_n 3 dX12_has_46 rfl ?_
            have h9 := hs.1; have hs := hs.2
            refine g_callV (As := [.int x2, .int x3]) (st := []) 220 (c_X1_goOn E M x2 x3 h9) mt_X1_goOn ml_X12_355 dF_Es rfl rfl sg_X1_goOn rfl (by decide) (Nat.le_of_ble_eq_true rfl) dX12_has_47 ?_
            rintro _ M10 ⟨rfl, hM10⟩
            have hQ := bndQ hQ M10 hM10; have hs := bndS hs M10 hM10
            refine g_aload_n 0 dX12_has_50 rfl ?_
            refine g_getR 0 220 fd_X12_68 dF_Wd rfl rfl dX12_has_51 ?_
            refine g_getR 220 221 fd_X12_358 dF_Es rfl rfl dX12_has_54 ?_
            refine g_iload_n 1 dX12_has_57 rfl ?_
            have h11 := hs.1; have hs := hs.2
            refine g_callS (As := [.int x1]) (st := [.ref (gla E 221)]) (c_X12_holder E M10 x1 h11) mt_X12_holder ml_X12_362 sg_X12_holder rfl (by decide) (Nat.le_of_ble_eq_true rfl) dX12_has_58 ?_
            rintro _ _ ⟨q1, q2⟩; rw [q1, q2]; clear q1 q2
            have h12 := hs.1; have hs := hs.2
            refine g_lald 221 dF_Es_parts h12 dX12_has_61 ?_
            refine g_topJ (fun v13 hv13 => ?_)
            have hQ := bndQ hQ v13 hv13; have hs := bndS hs v13 hv13
            refine g_lstore _ dX12_has_62 (by decide) rfl ?_
            refine g_aload_n 1 dX12_has_64 rfl ?_
            refine g_getR 0 220 fd_X12_68 dF_Wd rfl rfl dX12_has_65 ?_
            refine g_getJ 220 fd_X12_365 dF_Es rfl dX12_has_68 ?_
            refine g_lload 0 dX12_has_71 rfl ?_
            have h14 := hs.1; have hs := hs.2
            refine g_callS (As := [.long (rdJ M10 56 0 0 0), .long v13]) (st := []) (c_X12_greatestDivisor E M10 (rdJ M10 56 0 0 0) v13 h14) mt_X12_greatestDivisor ml_X12_369 sg_X12_greatestDivisor rfl (by decide) (Nat.le_of_ble_eq_true rfl) dX12_has_73 ?_
            rintro _ _ ⟨q1, q2⟩; rw [q1, q2]; clear q1 q2
            refine g_topJ (fun v15 hv15 => ?_)
            have hQ := bndQ hQ v15 hv15; have hs := bndS hs v15 hv15
            refine g_lstore _ dX12_has_76 (by decide) rfl ?_
            refine g_lload 0 dX12_has_78 rfl ?_
            refine g_lconst (v := 0) dX12_has_80 (by decide) ?_
            refine g_lcmp dX12_has_81 ?_
            refine g_if_gt 89 dX12_has_82 (by decide) (fun c16 => ?_) (fun c16 => ?_)
            · have hs := ifSt hs c16; have hQ := ifQt hQ c16
              refine g_iload 6 dX12_has_89 rfl ?_
              refine g_if_ne 99 dX12_has_91 (by decide) (fun c17 => ?_) (fun c17 => ?_)
              · have hs := ifSf hs c17; have hQ := ifQf hQ c17
                refine g_aload_n 2 dX12_has_99 rfl ?_
                refine g_getR 0 220 fd_X12_68 dF_Wd rfl rfl dX12_has_100 ?_
                refine g_getJ 220 fd_X12_365 dF_Es rfl dX12_has_103 ?_
                refine g_lload 0 dX12_has_106 rfl ?_
                have h18 := hs.1; have hs := hs.2
                refine g_ldiv dX12_has_108 h18 ?_
                exact g_lret rfl dX12_has_109 (hK _ hQ)
              · have hs := ifSt hs c17; have hQ := ifQt hQ c17
                refine g_lload 1 dX12_has_94 rfl ?_
                refine g_goto 106 dX12_has_96 (by decide) ?_
                refine g_lload 0 dX12_has_106 rfl ?_
                have h19 := hs.1; have hs := hs.2
                refine g_ldiv dX12_has_108 h19 ?_
                exact g_lret rfl dX12_has_109 (hK _ hQ)
            · have hs := ifSf hs c16; have hQ := ifQf hQ c16
              refine g_ldc2 kc_X12_353 dX12_has_85 ?_
              exact g_lret rfl dX12_has_88 (hK _ hQ)
          · have hs := ifSf hs c8; have hQ := ifQf hQ c8
            refine g_ldc2 kc_X12_353 dX12_has_37 ?_
            exact g_lret rfl dX12_has_40 (hK _ hQ)
theorem c_X12_has (E : gE) (M : gM) (x1 : Int32) (x2 : Int32) (x3 : Int32) (x4 : Int32) (hs : s_X12_has M x1 x2 x3 x4) : gC E yX12_has cX12_has 9 (some .long) (rm 5) [.ref (gla E 0), .int x1, .int x2, .int x3, .int x4] M (fun o N => o = some (.long (f_X12_has M x1 x2 x3 x4).1) ∧ N = (f_X12_has M x1 x2 x3 x4).2) :=
  gC.of (by decide +kernel) (Nat.le_of_ble_eq_true rfl) rfl (t_X12_has (K := fun z => z = f_X12_has M x1 x2 x3 x4) (fun z hz => by rw [hz]; exact ⟨rfl, rfl⟩) M x1 x2 x3 x4 hs rfl)
def f_X12_ever_17 (x1 : Int32)  : Nat → gM → Int32 → Int32 → Int32 × gM
  | 0, M, _, _ => (0, M)
  | n + 1, M, x2, x3 =>
    if (rdI M 6 0 0 0) ≤ x3 then
      ((x2, M))
    else
      (bnd (f_X1_goOn M x3 9999) fun M5 =>
      (bnd (x2 ||| ((((rdI M5 57 0 0 0) >>> (x1 &&& 31)) &&& 1) <<< (x3 &&& 31))) fun v6 =>
      (f_X12_ever_17 x1 n M5 v6 (x3 + 1))))
def s_X12_ever_17 (x1 : Int32)  : Nat → gM → Int32 → Int32 → Prop
  | 0, _, _, _ => False
  | n + 1, M, x2, x3 =>
    if (rdI M 6 0 0 0) ≤ x3 then
      (True)
    else
      ((s_X1_goOn M x3 9999) ∧
      (bndP (f_X1_goOn M x3 9999) fun M5 =>
      (bndP (x2 ||| ((((rdI M5 57 0 0 0) >>> (x1 &&& 31)) &&& 1) <<< (x3 &&& 31))) fun v6 =>
      (s_X12_ever_17 x1 n M5 v6 (x3 + 1)))))
theorem o_X12_ever_17 (x1 : Int32)  : ∀ (n : Nat) (M : gM) (x2 : Int32) (x3 : Int32), offW [51, 52, 53, 54, 55, 56, 57, 58, 59, 60, 61] M (f_X12_ever_17 x1  n M x2 x3).2 := by
  intro n
  induction n with
  | zero => intro M x2 x3; exact offR
  | succ n ih =>
    intro M x2 x3
    rw [f_X12_ever_17]
    refine offI2 ?_ ?_
    · exact offR
    · refine offB2 (offR.tr ((o_X1_goOn M x3 9999).mono (by decide))) (fun M5 oM5 => ?_)
      refine offV2 (fun v6 => ?_)
      exact oM5.tr (ih M5 v6 (x3 + 1))
set_option maxRecDepth 100000 in
set_option maxHeartbeats 4000000 in
theorem t_X12_ever_17 {E : gE} {K : Int32 × gM → Prop} {Q : Option Value → gM → Prop} (hK : ∀ z : Int32 × gM, K z → Q (some (.int z.1)) z.2) (x1 : Int32)   : ∀ (n : Nat) (M : gM) (x2 : Int32) (x3 : Int32) , s_X12_ever_17 x1  n M x2 x3 → K (f_X12_ever_17 x1  n M x2 x3) → gG E RX12 cX12_ever 4 (some .int) (rm 5) 17 [(0, .ref (gla E 0)), (1, .int x1), (2, .int x2), (3, .int x3)] [] M Q := by
  intro n
  induction n with
  | zero => intro M x2 x3 hs hQ; exact (hs : False).elim
  | succ n ih =>
    intro M x2 x3 hs hQ
    rw [s_X12_ever_17] at hs
    rw [f_X12_ever_17] at hQ
    refine g_iload_n 3 dX12_ever_17 rfl ?_
    refine g_aload_n 0 dX12_ever_18 rfl ?_
    refine g_getR 0 (rgC 0) fd_X12_26 dF_Wd rfl rfl dX12_ever_19 ?_
    refine g_getI (rgC 0) fd_X12_245 (dF_Rg lt02) rfl dX12_ever_22 ?_
    refine g_icmp_ge 61 dX12_ever_25 (by decide) (fun c3 => ?_) (fun c3 => ?_)
    · have hs := ifSt hs c3; have hQ := ifQt hQ c3
      refine g_iload_n 2 dX12_ever_61 rfl ?_
      exact g_iret rfl dX12_ever_62 (hK _ hQ)
    · have hs := ifSf hs c3; have hQ := ifQf hQ c3
      refine g_aload_n 0 dX12_ever_28 rfl ?_
      refine g_getR 0 220 fd_X12_68 dF_Wd rfl rfl dX12_ever_29 ?_
      refine g_iload_n 3 dX12_ever_32 rfl ?_
      refine g_sipush (v := 9999) dX12_ever_33 (by decide) ?_
      have h4 := hs.1; have hs := hs.2
      refine g_callV (As := [.int x3, .int 9999]) (st := []) 220 (c_X1_goOn E M x3 9999 h4) mt_X1_goOn ml_X12_355 dF_Es rfl rfl sg_X1_goOn rfl (by decide) (Nat.le_of_ble_eq_true rfl) dX12_ever_36 ?_
      rintro _ M5 ⟨rfl, hM5⟩
      have hQ := bndQ hQ M5 hM5; have hs := bndS hs M5 hM5
      refine g_iload_n 2 dX12_ever_39 rfl ?_
      refine g_aload_n 0 dX12_ever_40 rfl ?_
      refine g_getR 0 220 fd_X12_68 dF_Wd rfl rfl dX12_ever_41 ?_
      refine g_getI 220 fd_X12_379 dF_Es rfl dX12_ever_44 ?_
      refine g_iload_n 1 dX12_ever_47 rfl ?_
      refine g_ishr dX12_ever_48 ?_
      refine g_iconst (v := 1) dX12_ever_49 (by decide) ?_
      refine g_iand dX12_ever_50 ?_
      refine g_iload_n 3 dX12_ever_51 rfl ?_
      refine g_ishl dX12_ever_52 ?_
      refine g_ior dX12_ever_53 ?_
      refine g_topI (fun v6 hv6 => ?_)
      have hQ := bndQ hQ v6 hv6; have hs := bndS hs v6 hv6
      refine g_istore_n _ dX12_ever_54 (by decide) rfl ?_
      refine g_iinc 3 (v := x3 + 1) _ dX12_ever_55 rfl rfl (by decide) rfl ?_
      refine g_goto 17 dX12_ever_58 (by decide) ?_
      refine g_sub [2, 3, 1, 0] _ rfl ?_
      exact ih M5 v6 (x3 + 1) hs hQ
def f_X12_ever (M : gM) (x1 : Int32) : Int32 × gM :=
  if (f_X7_isPerson M 0 x1) = 0 then
    (((-1), M))
  else
    (f_X12_ever_17 x1 FU M 0 0)
def s_X12_ever (M : gM) (x1 : Int32) : Prop :=
  (s_X7_isPerson M 0 x1) ∧
  (if (f_X7_isPerson M 0 x1) = 0 then
    (True)
  else
    (s_X12_ever_17 x1 FU M 0 0))
theorem o_X12_ever (M : gM) (x1 : Int32) : offW [51, 52, 53, 54, 55, 56, 57, 58, 59, 60, 61] M (f_X12_ever M x1).2 := by
  rw [f_X12_ever]
  refine offI2 ?_ ?_
  · exact offR
  · exact (o_X12_ever_17 x1 FU M 0 0)
set_option maxRecDepth 100000 in
set_option maxHeartbeats 4000000 in
theorem t_X12_ever {E : gE} {K : Int32 × gM → Prop} {Q : Option Value → gM → Prop} (hK : ∀ z : Int32 × gM, K z → Q (some (.int z.1)) z.2) (M : gM) (x1 : Int32)  (hs : s_X12_ever M x1) (hQ : K (f_X12_ever M x1)) : gG E RX12 cX12_ever 4 (some .int) (rm 5) 0 [(0, .ref (gla E 0)), (1, .int x1)] [] M Q := by
  rw [s_X12_ever] at hs
  rw [f_X12_ever] at hQ
  refine g_aload_n 0 dX12_ever_0 rfl ?_
  refine g_getR 0 (rgC 0) fd_X12_26 dF_Wd rfl rfl dX12_ever_1 ?_
  refine g_iload_n 1 dX12_ever_4 rfl ?_
  have h1 := hs.1; have hs := hs.2
  refine g_callV (As := [.int x1]) (st := []) (rgC 0) (c_X7_isPerson E M 0 lt02 x1 h1) mt_X7_isPerson ml_X12_101 (dF_Rg lt02) rfl rfl sg_X7_isPerson rfl (by decide) (Nat.le_of_ble_eq_true rfl) dX12_ever_5 ?_
  rintro _ _ ⟨q1, q2⟩; rw [q1, q2]; clear q1 q2
  refine g_if_ne 13 dX12_ever_8 (by decide) (fun c2 => ?_) (fun c2 => ?_)
  · have hs := ifSf hs c2; have hQ := ifQf hQ c2
    refine g_iconst (v := 0) dX12_ever_13 (by decide) ?_
    refine g_istore_n _ dX12_ever_14 (by decide) rfl ?_
    refine g_iconst (v := 0) dX12_ever_15 (by decide) ?_
    refine g_istore_n _ dX12_ever_16 (by decide) rfl ?_
    refine g_sub [2, 3, 1, 0] _ rfl ?_
    exact t_X12_ever_17 hK x1 FU M 0 0 hs hQ
  · have hs := ifSt hs c2; have hQ := ifQt hQ c2
    refine g_iconst (v := (-1)) dX12_ever_11 (by decide) ?_
    exact g_iret rfl dX12_ever_12 (hK _ hQ)
theorem c_X12_ever (E : gE) (M : gM) (x1 : Int32) (hs : s_X12_ever M x1) : gC E yX12_ever cX12_ever 4 (some .int) (rm 5) [.ref (gla E 0), .int x1] M (fun o N => o = some (.int (f_X12_ever M x1).1) ∧ N = (f_X12_ever M x1).2) :=
  gC.of (by decide +kernel) (Nat.le_of_ble_eq_true rfl) rfl (t_X12_ever (K := fun z => z = f_X12_ever M x1) (fun z hz => by rw [hz]; exact ⟨rfl, rfl⟩) M x1 hs rfl)
def f_X12_moves (M : gM) (x1 : Int32) (x2 : Int32) : Int32 × gM :=
  if (f_X7_isThing M 0 x1) = 0 then
    (((-1), M))
  else
    (if x2 < 0 then
      (((-1), M))
    else
      (if x2 ≤ 1 then
        (bnd (f_X1_goOn M x1 9999) fun M6 =>
        (if x2 = 0 then
          ((rdI M6 59 0 0 0, M6))
        else
          ((f_X12_orMinusTwo M6 (rdI M6 60 0 0 0), M6))))
      else
        (((-1), M))))
def s_X12_moves (M : gM) (x1 : Int32) (x2 : Int32) : Prop :=
  (s_X7_isThing M 0 x1) ∧
  (if (f_X7_isThing M 0 x1) = 0 then
    (True)
  else
    (if x2 < 0 then
      (True)
    else
      (if x2 ≤ 1 then
        ((s_X1_goOn M x1 9999) ∧
        (bndP (f_X1_goOn M x1 9999) fun M6 =>
        (if x2 = 0 then
          (True)
        else
          ((s_X12_orMinusTwo M6 (rdI M6 60 0 0 0)) ∧
          (True)))))
      else
        (True))))
theorem o_X12_moves (M : gM) (x1 : Int32) (x2 : Int32) : offW [51, 52, 53, 54, 55, 56, 57, 58, 59, 60, 61] M (f_X12_moves M x1 x2).2 := by
  rw [f_X12_moves]
  refine offI2 ?_ ?_
  · exact offR
  · refine offI2 ?_ ?_
    · exact offR
    · refine offI2 ?_ ?_
      · refine offB2 (offR.tr ((o_X1_goOn M x1 9999).mono (by decide))) (fun M6 oM6 => ?_)
        refine offI2 ?_ ?_
        · exact oM6
        · exact oM6
      · exact offR
set_option maxRecDepth 100000 in
set_option maxHeartbeats 4000000 in
theorem t_X12_moves {E : gE} {K : Int32 × gM → Prop} {Q : Option Value → gM → Prop} (hK : ∀ z : Int32 × gM, K z → Q (some (.int z.1)) z.2) (M : gM) (x1 : Int32) (x2 : Int32)  (hs : s_X12_moves M x1 x2) (hQ : K (f_X12_moves M x1 x2)) : gG E RX12 cX12_moves 3 (some .int) (rm 5) 0 [(0, .ref (gla E 0)), (1, .int x1), (2, .int x2)] [] M Q := by
  rw [s_X12_moves] at hs
  rw [f_X12_moves] at hQ
  refine g_aload_n 0 dX12_moves_0 rfl ?_
  refine g_getR 0 (rgC 0) fd_X12_26 dF_Wd rfl rfl dX12_moves_1 ?_
  refine g_iload_n 1 dX12_moves_4 rfl ?_
  have h1 := hs.1; have hs := hs.2
  refine g_callV (As := [.int x1]) (st := []) (rgC 0) (c_X7_isThing E M 0 lt02 x1 h1) mt_X7_isThing ml_X12_189 (dF_Rg lt02) rfl rfl sg_X7_isThing rfl (by decide) (Nat.le_of_ble_eq_true rfl) dX12_moves_5 ?_
  rintro _ _ ⟨q1, q2⟩; rw [q1, q2]; clear q1 q2
  refine g_if_eq 20 dX12_moves_8 (by decide) (fun c2 => ?_) (fun c2 => ?_)
  · have hs := ifSt hs c2; have hQ := ifQt hQ c2
    refine g_iconst (v := (-1)) dX12_moves_20 (by decide) ?_
    exact g_iret rfl dX12_moves_21 (hK _ hQ)
  · have hs := ifSf hs c2; have hQ := ifQf hQ c2
    refine g_iload_n 2 dX12_moves_11 rfl ?_
    refine g_if_lt 20 dX12_moves_12 (by decide) (fun c3 => ?_) (fun c3 => ?_)
    · have hs := ifSt hs c3; have hQ := ifQt hQ c3
      refine g_iconst (v := (-1)) dX12_moves_20 (by decide) ?_
      exact g_iret rfl dX12_moves_21 (hK _ hQ)
    · have hs := ifSf hs c3; have hQ := ifQf hQ c3
      refine g_iload_n 2 dX12_moves_15 rfl ?_
      refine g_iconst (v := 1) dX12_moves_16 (by decide) ?_
      refine g_icmp_le 22 dX12_moves_17 (by decide) (fun c4 => ?_) (fun c4 => ?_)
      · have hs := ifSt hs c4; have hQ := ifQt hQ c4
        refine g_aload_n 0 dX12_moves_22 rfl ?_
        refine g_getR 0 220 fd_X12_68 dF_Wd rfl rfl dX12_moves_23 ?_
        refine g_iload_n 1 dX12_moves_26 rfl ?_
        refine g_sipush (v := 9999) dX12_moves_27 (by decide) ?_
        have h5 := hs.1; have hs := hs.2
        refine g_callV (As := [.int x1, .int 9999]) (st := []) 220 (c_X1_goOn E M x1 9999 h5) mt_X1_goOn ml_X12_355 dF_Es rfl rfl sg_X1_goOn rfl (by decide) (Nat.le_of_ble_eq_true rfl) dX12_moves_30 ?_
        rintro _ M6 ⟨rfl, hM6⟩
        have hQ := bndQ hQ M6 hM6; have hs := bndS hs M6 hM6
        refine g_iload_n 2 dX12_moves_33 rfl ?_
        refine g_if_ne 47 dX12_moves_34 (by decide) (fun c7 => ?_) (fun c7 => ?_)
        · have hs := ifSf hs c7; have hQ := ifQf hQ c7
          refine g_aload_n 0 dX12_moves_47 rfl ?_
          refine g_getR 0 220 fd_X12_68 dF_Wd rfl rfl dX12_moves_48 ?_
          refine g_getI 220 fd_X12_391 dF_Es rfl dX12_moves_51 ?_
          have h8 := hs.1; have hs := hs.2
          refine g_callS (As := [.int (rdI M6 60 0 0 0)]) (st := []) (c_X12_orMinusTwo E M6 (rdI M6 60 0 0 0) h8) mt_X12_orMinusTwo ml_X12_124 sg_X12_orMinusTwo rfl (by decide) (Nat.le_of_ble_eq_true rfl) dX12_moves_54 ?_
          rintro _ _ ⟨q1, q2⟩; rw [q1, q2]; clear q1 q2
          exact g_iret rfl dX12_moves_57 (hK _ hQ)
        · have hs := ifSt hs c7; have hQ := ifQt hQ c7
          refine g_aload_n 0 dX12_moves_37 rfl ?_
          refine g_getR 0 220 fd_X12_68 dF_Wd rfl rfl dX12_moves_38 ?_
          refine g_getI 220 fd_X12_388 dF_Es rfl dX12_moves_41 ?_
          refine g_goto 57 dX12_moves_44 (by decide) ?_
          exact g_iret rfl dX12_moves_57 (hK _ hQ)
      · have hs := ifSf hs c4; have hQ := ifQf hQ c4
        refine g_iconst (v := (-1)) dX12_moves_20 (by decide) ?_
        exact g_iret rfl dX12_moves_21 (hK _ hQ)
theorem c_X12_moves (E : gE) (M : gM) (x1 : Int32) (x2 : Int32) (hs : s_X12_moves M x1 x2) : gC E yX12_moves cX12_moves 3 (some .int) (rm 5) [.ref (gla E 0), .int x1, .int x2] M (fun o N => o = some (.int (f_X12_moves M x1 x2).1) ∧ N = (f_X12_moves M x1 x2).2) :=
  gC.of (by decide +kernel) (Nat.le_of_ble_eq_true rfl) rfl (t_X12_moves (K := fun z => z = f_X12_moves M x1 x2) (fun z hz => by rw [hz]; exact ⟨rfl, rfl⟩) M x1 x2 hs rfl)
def f_X12_holders (M : gM) (x1 : Int32) (x2 : Int32) : Int32 × gM :=
  if (f_X7_isThing M 0 x1) = 0 then
    (((-1), M))
  else
    (if (f_X12_isDay M x2) = 0 then
      (((-1), M))
    else
      (bnd (f_X1_holdersOn M x1 x2) fun z6 =>
      ((z6.1, z6.2))))
def s_X12_holders (M : gM) (x1 : Int32) (x2 : Int32) : Prop :=
  (s_X7_isThing M 0 x1) ∧
  (if (f_X7_isThing M 0 x1) = 0 then
    (True)
  else
    ((s_X12_isDay M x2) ∧
    (if (f_X12_isDay M x2) = 0 then
      (True)
    else
      ((s_X1_holdersOn M x1 x2) ∧
      (bndP (f_X1_holdersOn M x1 x2) fun z6 =>
      (True))))))
theorem o_X12_holders (M : gM) (x1 : Int32) (x2 : Int32) : offW [51, 52, 53, 54, 55, 56, 57, 58, 59, 60, 61] M (f_X12_holders M x1 x2).2 := by
  rw [f_X12_holders]
  refine offI2 ?_ ?_
  · exact offR
  · refine offI2 ?_ ?_
    · exact offR
    · refine offZ2 (offR.tr ((o_X1_holdersOn M x1 x2).mono (by decide))) (fun z6 oz6 => ?_)
      exact oz6
set_option maxRecDepth 100000 in
set_option maxHeartbeats 4000000 in
theorem t_X12_holders {E : gE} {K : Int32 × gM → Prop} {Q : Option Value → gM → Prop} (hK : ∀ z : Int32 × gM, K z → Q (some (.int z.1)) z.2) (M : gM) (x1 : Int32) (x2 : Int32)  (hs : s_X12_holders M x1 x2) (hQ : K (f_X12_holders M x1 x2)) : gG E RX12 cX12_holders 3 (some .int) (rm 6) 0 [(0, .ref (gla E 0)), (1, .int x1), (2, .int x2)] [] M Q := by
  rw [s_X12_holders] at hs
  rw [f_X12_holders] at hQ
  refine g_aload_n 0 dX12_holders_0 rfl ?_
  refine g_getR 0 (rgC 0) fd_X12_26 dF_Wd rfl rfl dX12_holders_1 ?_
  refine g_iload_n 1 dX12_holders_4 rfl ?_
  have h1 := hs.1; have hs := hs.2
  refine g_callV (As := [.int x1]) (st := []) (rgC 0) (c_X7_isThing E M 0 lt02 x1 h1) mt_X7_isThing ml_X12_189 (dF_Rg lt02) rfl rfl sg_X7_isThing rfl (by decide) (Nat.le_of_ble_eq_true rfl) dX12_holders_5 ?_
  rintro _ _ ⟨q1, q2⟩; rw [q1, q2]; clear q1 q2
  refine g_if_eq 18 dX12_holders_8 (by decide) (fun c2 => ?_) (fun c2 => ?_)
  · have hs := ifSt hs c2; have hQ := ifQt hQ c2
    refine g_iconst (v := (-1)) dX12_holders_18 (by decide) ?_
    exact g_iret rfl dX12_holders_19 (hK _ hQ)
  · have hs := ifSf hs c2; have hQ := ifQf hQ c2
    refine g_iload_n 2 dX12_holders_11 rfl ?_
    have h3 := hs.1; have hs := hs.2
    refine g_callS (As := [.int x2]) (st := []) (c_X12_isDay E M x2 h3) mt_X12_isDay ml_X12_284 sg_X12_isDay rfl (by decide) (Nat.le_of_ble_eq_true rfl) dX12_holders_12 ?_
    rintro _ _ ⟨q1, q2⟩; rw [q1, q2]; clear q1 q2
    refine g_if_ne 20 dX12_holders_15 (by decide) (fun c4 => ?_) (fun c4 => ?_)
    · have hs := ifSf hs c4; have hQ := ifQf hQ c4
      refine g_aload_n 0 dX12_holders_20 rfl ?_
      refine g_getR 0 220 fd_X12_68 dF_Wd rfl rfl dX12_holders_21 ?_
      refine g_iload_n 1 dX12_holders_24 rfl ?_
      refine g_iload_n 2 dX12_holders_25 rfl ?_
      have h5 := hs.1; have hs := hs.2
      refine g_callV (As := [.int x1, .int x2]) (st := []) 220 (c_X1_holdersOn E M x1 x2 h5) mt_X1_holdersOn ml_X12_373 dF_Es rfl rfl sg_X1_holdersOn rfl (by decide) (Nat.le_of_ble_eq_true rfl) dX12_holders_26 ?_
      rintro _ _ ⟨rfl, rfl⟩
      obtain ⟨z6, hz6⟩ : ∃ z, z = f_X1_holdersOn M x1 x2 := ⟨_, rfl⟩
      rw [← hz6]
      have hQ := bndQ hQ z6 hz6; have hs := bndS hs z6 hz6
      exact g_iret rfl dX12_holders_29 (hK _ hQ)
    · have hs := ifSt hs c4; have hQ := ifQt hQ c4
      refine g_iconst (v := (-1)) dX12_holders_18 (by decide) ?_
      exact g_iret rfl dX12_holders_19 (hK _ hQ)
theorem c_X12_holders (E : gE) (M : gM) (x1 : Int32) (x2 : Int32) (hs : s_X12_holders M x1 x2) : gC E yX12_holders cX12_holders 3 (some .int) (rm 6) [.ref (gla E 0), .int x1, .int x2] M (fun o N => o = some (.int (f_X12_holders M x1 x2).1) ∧ N = (f_X12_holders M x1 x2).2) :=
  gC.of (by decide +kernel) (Nat.le_of_ble_eq_true rfl) rfl (t_X12_holders (K := fun z => z = f_X12_holders M x1 x2) (fun z hz => by rw [hz]; exact ⟨rfl, rfl⟩) M x1 x2 hs rfl)
def f_X12_wealth (M : gM) (x1 : Int32) : Int32 × gM :=
  if (f_X12_isPersonOrCrown M x1) = 0 then
    (((-2), M))
  else
    (bnd (f_X1_wealthOf M (f_X12_holder M x1)) fun z5 =>
    ((z5.1, z5.2)))
def s_X12_wealth (M : gM) (x1 : Int32) : Prop :=
  (s_X12_isPersonOrCrown M x1) ∧
  (if (f_X12_isPersonOrCrown M x1) = 0 then
    (True)
  else
    ((s_X12_holder M x1) ∧
    ((s_X1_wealthOf M (f_X12_holder M x1)) ∧
    (bndP (f_X1_wealthOf M (f_X12_holder M x1)) fun z5 =>
    (True)))))
theorem o_X12_wealth (M : gM) (x1 : Int32) : offW [51, 52, 53, 54, 55, 56, 57, 58, 59, 60, 61] M (f_X12_wealth M x1).2 := by
  rw [f_X12_wealth]
  refine offI2 ?_ ?_
  · exact offR
  · refine offZ2 (offR.tr ((o_X1_wealthOf M (f_X12_holder M x1)).mono (by decide))) (fun z5 oz5 => ?_)
    exact oz5
set_option maxRecDepth 100000 in
set_option maxHeartbeats 4000000 in
theorem t_X12_wealth {E : gE} {K : Int32 × gM → Prop} {Q : Option Value → gM → Prop} (hK : ∀ z : Int32 × gM, K z → Q (some (.int z.1)) z.2) (M : gM) (x1 : Int32)  (hs : s_X12_wealth M x1) (hQ : K (f_X12_wealth M x1)) : gG E RX12 cX12_wealth 2 (some .int) (rm 6) 0 [(0, .ref (gla E 0)), (1, .int x1)] [] M Q := by
  rw [s_X12_wealth] at hs
  rw [f_X12_wealth] at hQ
  refine g_aload_n 0 dX12_wealth_0 rfl ?_
  refine g_iload_n 1 dX12_wealth_1 rfl ?_
  have h1 := hs.1; have hs := hs.2
  refine g_callV (As := [.int x1]) (st := []) 0 (c_X12_isPersonOrCrown E M x1 h1) mt_X12_isPersonOrCrown ml_X12_350 dF_Wd rfl rfl sg_X12_isPersonOrCrown rfl (by decide) (Nat.le_of_ble_eq_true rfl) dX12_wealth_2 ?_
  rintro _ _ ⟨q1, q2⟩; rw [q1, q2]; clear q1 q2
  refine g_if_ne 11 dX12_wealth_5 (by decide) (fun c2 => ?_) (fun c2 => ?_)
  · have hs := ifSf hs c2; have hQ := ifQf hQ c2
    refine g_aload_n 0 dX12_wealth_11 rfl ?_
    refine g_getR 0 220 fd_X12_68 dF_Wd rfl rfl dX12_wealth_12 ?_
    refine g_iload_n 1 dX12_wealth_15 rfl ?_
    have h3 := hs.1; have hs := hs.2
    refine g_callS (As := [.int x1]) (st := [.ref (gla E 220)]) (c_X12_holder E M x1 h3) mt_X12_holder ml_X12_362 sg_X12_holder rfl (by decide) (Nat.le_of_ble_eq_true rfl) dX12_wealth_16 ?_
    rintro _ _ ⟨q1, q2⟩; rw [q1, q2]; clear q1 q2
    have h4 := hs.1; have hs := hs.2
    refine g_callV (As := [.int (f_X12_holder M x1)]) (st := []) 220 (c_X1_wealthOf E M (f_X12_holder M x1) h4) mt_X1_wealthOf ml_X12_376 dF_Es rfl rfl sg_X1_wealthOf rfl (by decide) (Nat.le_of_ble_eq_true rfl) dX12_wealth_19 ?_
    rintro _ _ ⟨rfl, rfl⟩
    obtain ⟨z5, hz5⟩ : ∃ z, z = f_X1_wealthOf M (f_X12_holder M x1) := ⟨_, rfl⟩
    rw [← hz5]
    have hQ := bndQ hQ z5 hz5; have hs := bndS hs z5 hz5
    exact g_iret rfl dX12_wealth_22 (hK _ hQ)
  · have hs := ifSt hs c2; have hQ := ifQt hQ c2
    refine g_bipush (v := (-2)) dX12_wealth_8 (by decide) ?_
    exact g_iret rfl dX12_wealth_10 (hK _ hQ)
theorem c_X12_wealth (E : gE) (M : gM) (x1 : Int32) (hs : s_X12_wealth M x1) : gC E yX12_wealth cX12_wealth 2 (some .int) (rm 6) [.ref (gla E 0), .int x1] M (fun o N => o = some (.int (f_X12_wealth M x1).1) ∧ N = (f_X12_wealth M x1).2) :=
  gC.of (by decide +kernel) (Nat.le_of_ble_eq_true rfl) rfl (t_X12_wealth (K := fun z => z = f_X12_wealth M x1) (fun z hz => by rw [hz]; exact ⟨rfl, rfl⟩) M x1 hs rfl)
def f_X12_death_53 (M : gM) (x2 : Int32) (x3 : Int32)  : Int32 × gM :=
  if (f_X7_isPerson M 0 x3) = 0 then
    (((-2), M))
  else
    (if x2 = 0 then
      ((x3, M))
    else
      (if x2 = 1 then
        ((rdI M 20 0 (nn x3) 0, M))
      else
        (bnd (f_X1_thingsLeftBy M x3) fun z13 =>
        ((z13.1, z13.2)))))
def s_X12_death_53 (M : gM) (x2 : Int32) (x3 : Int32)  : Prop :=
  (s_X7_isPerson M 0 x3) ∧
  (if (f_X7_isPerson M 0 x3) = 0 then
    (True)
  else
    (if x2 = 0 then
      (True)
    else
      (if x2 = 1 then
        ((vp_in x3 10) ∧
        (True))
      else
        ((s_X1_thingsLeftBy M x3) ∧
        (bndP (f_X1_thingsLeftBy M x3) fun z13 =>
        (True))))))
theorem o_X12_death_53 (M : gM) (x2 : Int32) (x3 : Int32)  : offW [51, 52, 53, 54, 55, 56, 57, 58, 59, 60, 61] M (f_X12_death_53 M x2 x3 ).2 := by
  rw [f_X12_death_53]
  refine offI2 ?_ ?_
  · exact offR
  · refine offI2 ?_ ?_
    · exact offR
    refine offI2 ?_ ?_
    · exact offR
    refine offZ2 (offR.tr ((o_X1_thingsLeftBy M x3).mono (by decide))) (fun z13 oz13 => ?_)
    exact oz13
set_option maxRecDepth 100000 in
set_option maxHeartbeats 4000000 in
theorem t_X12_death_53 {E : gE} {K : Int32 × gM → Prop} {Q : Option Value → gM → Prop} (hK : ∀ z : Int32 × gM, K z → Q (some (.int z.1)) z.2) (M : gM) (x2 : Int32) (x3 : Int32)   (hs : s_X12_death_53 M x2 x3 ) (hQ : K (f_X12_death_53 M x2 x3 )) : gG E RX12 cX12_death 5 (some .int) (rm 6) 53 [(0, .ref (gla E 0)), (2, .int x2), (3, .int x3)] [] M Q := by
  rw [s_X12_death_53] at hs
  rw [f_X12_death_53] at hQ
  refine g_aload_n 0 dX12_death_53 rfl ?_
  refine g_getR 0 (rgC 0) fd_X12_26 dF_Wd rfl rfl dX12_death_54 ?_
  refine g_iload_n 2 dX12_death_57 rfl ?_
  have h9 := hs.1; have hs := hs.2
  refine g_callV (As := [.int x3]) (st := []) (rgC 0) (c_X7_isPerson E M 0 lt02 x3 h9) mt_X7_isPerson ml_X12_101 (dF_Rg lt02) rfl rfl sg_X7_isPerson rfl (by decide) (Nat.le_of_ble_eq_true rfl) dX12_death_58 ?_
  rintro _ _ ⟨q1, q2⟩; rw [q1, q2]; clear q1 q2
  refine g_if_ne 67 dX12_death_61 (by decide) (fun c10 => ?_) (fun c10 => ?_)
  · have hs := ifSf hs c10; have hQ := ifQf hQ c10
    refine g_iload_n 1 dX12_death_67 rfl ?_
    by_cases c14 : x2 = 0
    · have hs := ifSt hs c14; have hQ := ifQt hQ c14
      refine g_lsw 96 (k := 0) (z := 0) (off := 28) c14 dX12_death_68 (by decide) (by decide) (by decide) (by decide) ?_
      refine g_iload_n 2 dX12_death_96 rfl ?_
      exact g_iret rfl dX12_death_97 (hK _ hQ)
    have hs := ifSf hs c14; have hQ := ifQf hQ c14
    by_cases c15 : x2 = 1
    · have hs := ifSt hs c15; have hQ := ifQt hQ c15
      refine g_lsw 98 (k := 1) (z := 1) (off := 30) c15 dX12_death_68 (by decide) (by decide) (by decide) (by decide) ?_
      refine g_aload_n 0 dX12_death_98 rfl ?_
      refine g_getR 0 (rgC 0) fd_X12_26 dF_Wd rfl rfl dX12_death_99 ?_
      refine g_getR (rgC 0) (rgC 0 + 2) fd_X12_112 (dF_Rg lt02) rfl rfl dX12_death_102 ?_
      refine g_iload_n 2 dX12_death_105 rfl ?_
      have h11 := hs.1; have hs := hs.2
      refine g_aald (rgC 0 + 2) (peC 0 (nn x3)) rfl (dF_Rg_persons lt02) h11 (aj_Pe _ _) dX12_death_106 ?_
      refine g_getI (peC 0 (nn x3)) fd_X12_121 (dF_Pe lt02 (vpL h11)) rfl dX12_death_107 ?_
      exact g_iret rfl dX12_death_110 (hK _ hQ)
    have hs := ifSf hs c15; have hQ := ifQf hQ c15
    refine g_lsd 111 dX12_death_68 (by decide) (lso_cons (ne_ti c14 (by decide)) (lso_cons (ne_ti c15 (by decide)) lso_nil)) (by decide) ?_
    refine g_aload_n 0 dX12_death_111 rfl ?_
    refine g_getR 0 220 fd_X12_68 dF_Wd rfl rfl dX12_death_112 ?_
    refine g_iload_n 2 dX12_death_115 rfl ?_
    have h12 := hs.1; have hs := hs.2
    refine g_callV (As := [.int x3]) (st := []) 220 (c_X1_thingsLeftBy E M x3 h12) mt_X1_thingsLeftBy ml_X12_385 dF_Es rfl rfl sg_X1_thingsLeftBy rfl (by decide) (Nat.le_of_ble_eq_true rfl) dX12_death_116 ?_
    rintro _ _ ⟨rfl, rfl⟩
    obtain ⟨z13, hz13⟩ : ∃ z, z = f_X1_thingsLeftBy M x3 := ⟨_, rfl⟩
    rw [← hz13]
    have hQ := bndQ hQ z13 hz13; have hs := bndS hs z13 hz13
    exact g_iret rfl dX12_death_119 (hK _ hQ)
  · have hs := ifSt hs c10; have hQ := ifQt hQ c10
    refine g_bipush (v := (-2)) dX12_death_64 (by decide) ?_
    exact g_iret rfl dX12_death_66 (hK _ hQ)
def f_X12_death_27 (M : gM) (x1 : Int32) (x2 : Int32)  : Nat → Int32 → Int32 → Int32 × gM
  | 0, _, _ => (0, M)
  | n + 1, x3, x4 =>
    if x1 ≤ x4 then
      (f_X12_death_53 M x2 x3)
    else
      (if x3 = (-1) then
        (f_X12_death_53 M x2 x3)
      else
        (f_X12_death_27 M x1 x2 n (f_X7_deathBehind M 0 x3) (x4 + 1)))
def s_X12_death_27 (M : gM) (x1 : Int32) (x2 : Int32)  : Nat → Int32 → Int32 → Prop
  | 0, _, _ => False
  | n + 1, x3, x4 =>
    if x1 ≤ x4 then
      (s_X12_death_53 M x2 x3)
    else
      (if x3 = (-1) then
        (s_X12_death_53 M x2 x3)
      else
        ((s_X7_deathBehind M 0 x3) ∧
        (s_X12_death_27 M x1 x2 n (f_X7_deathBehind M 0 x3) (x4 + 1))))
theorem o_X12_death_27 (M : gM) (x1 : Int32) (x2 : Int32)  : ∀ (n : Nat) (x3 : Int32) (x4 : Int32), offW [51, 52, 53, 54, 55, 56, 57, 58, 59, 60, 61] M (f_X12_death_27 M x1 x2  n x3 x4).2 := by
  intro n
  induction n with
  | zero => intro x3 x4; exact offR
  | succ n ih =>
    intro x3 x4
    rw [f_X12_death_27]
    refine offI2 ?_ ?_
    · exact (o_X12_death_53 M x2 x3)
    · refine offI2 ?_ ?_
      · exact (o_X12_death_53 M x2 x3)
      · exact (ih (f_X7_deathBehind M 0 x3) (x4 + 1))
set_option maxRecDepth 100000 in
set_option maxHeartbeats 4000000 in
theorem t_X12_death_27 {E : gE} {K : Int32 × gM → Prop} {Q : Option Value → gM → Prop} (hK : ∀ z : Int32 × gM, K z → Q (some (.int z.1)) z.2) (M : gM) (x1 : Int32) (x2 : Int32)   : ∀ (n : Nat) (x3 : Int32) (x4 : Int32) , s_X12_death_27 M x1 x2  n x3 x4 → K (f_X12_death_27 M x1 x2  n x3 x4) → gG E RX12 cX12_death 5 (some .int) (rm 6) 27 [(0, .ref (gla E 0)), (1, .int x1), (2, .int x2), (3, .int x3), (4, .int x4)] [] M Q := by
  intro n
  induction n with
  | zero => intro x3 x4 hs hQ; exact (hs : False).elim
  | succ n ih =>
    intro x3 x4 hs hQ
    rw [s_X12_death_27] at hs
    rw [f_X12_death_27] at hQ
    refine g_iload 4 dX12_death_27 rfl ?_
    refine g_iload_n 1 dX12_death_29 rfl ?_
    refine g_icmp_ge 53 dX12_death_30 (by decide) (fun c6 => ?_) (fun c6 => ?_)
    · have hs := ifSt hs c6; have hQ := ifQt hQ c6
      refine g_sub [0, 2, 3] _ rfl ?_
      exact t_X12_death_53 hK M x2 x3 hs hQ
    · have hs := ifSf hs c6; have hQ := ifQf hQ c6
      refine g_iload_n 3 dX12_death_33 rfl ?_
      refine g_iconst (v := (-1)) dX12_death_34 (by decide) ?_
      refine g_icmp_eq 53 dX12_death_35 (by decide) (fun c7 => ?_) (fun c7 => ?_)
      · have hs := ifSt hs c7; have hQ := ifQt hQ c7
        refine g_sub [0, 2, 3] _ rfl ?_
        exact t_X12_death_53 hK M x2 x3 hs hQ
      · have hs := ifSf hs c7; have hQ := ifQf hQ c7
        refine g_aload_n 0 dX12_death_38 rfl ?_
        refine g_getR 0 (rgC 0) fd_X12_26 dF_Wd rfl rfl dX12_death_39 ?_
        refine g_iload_n 3 dX12_death_42 rfl ?_
        have h8 := hs.1; have hs := hs.2
        refine g_callV (As := [.int x3]) (st := []) (rgC 0) (c_X7_deathBehind E M 0 lt02 x3 h8) mt_X7_deathBehind ml_X12_382 (dF_Rg lt02) rfl rfl sg_X7_deathBehind rfl (by decide) (Nat.le_of_ble_eq_true rfl) dX12_death_43 ?_
        rintro _ _ ⟨q1, q2⟩; rw [q1, q2]; clear q1 q2
        refine g_istore_n _ dX12_death_46 (by decide) rfl ?_
        refine g_iinc 4 (v := x4 + 1) _ dX12_death_47 rfl rfl (by decide) rfl ?_
        refine g_goto 27 dX12_death_50 (by decide) ?_
        refine g_sub [2, 3, 4, 1, 0] _ rfl ?_
        exact ih (f_X7_deathBehind M 0 x3) (x4 + 1) hs hQ
def f_X12_death (M : gM) (x1 : Int32) (x2 : Int32) : Int32 × gM :=
  if x1 < 0 then
    (((-1), M))
  else
    (if x2 < 0 then
      (((-1), M))
    else
      (if x2 ≤ 2 then
        (bnd (f_X7_deathBehind M 0 (-1)) fun v5 =>
        (f_X12_death_27 M x1 x2 FU v5 0))
      else
        (((-1), M))))
def s_X12_death (M : gM) (x1 : Int32) (x2 : Int32) : Prop :=
  if x1 < 0 then
    (True)
  else
    (if x2 < 0 then
      (True)
    else
      (if x2 ≤ 2 then
        ((s_X7_deathBehind M 0 (-1)) ∧
        (bndP (f_X7_deathBehind M 0 (-1)) fun v5 =>
        (s_X12_death_27 M x1 x2 FU v5 0)))
      else
        (True)))
theorem o_X12_death (M : gM) (x1 : Int32) (x2 : Int32) : offW [51, 52, 53, 54, 55, 56, 57, 58, 59, 60, 61] M (f_X12_death M x1 x2).2 := by
  rw [f_X12_death]
  refine offI2 ?_ ?_
  · exact offR
  · refine offI2 ?_ ?_
    · exact offR
    · refine offI2 ?_ ?_
      · refine offV2 (fun v5 => ?_)
        exact (o_X12_death_27 M x1 x2 FU v5 0)
      · exact offR
set_option maxRecDepth 100000 in
set_option maxHeartbeats 4000000 in
theorem t_X12_death {E : gE} {K : Int32 × gM → Prop} {Q : Option Value → gM → Prop} (hK : ∀ z : Int32 × gM, K z → Q (some (.int z.1)) z.2) (M : gM) (x1 : Int32) (x2 : Int32)  (hs : s_X12_death M x1 x2) (hQ : K (f_X12_death M x1 x2)) : gG E RX12 cX12_death 5 (some .int) (rm 6) 0 [(0, .ref (gla E 0)), (1, .int x1), (2, .int x2)] [] M Q := by
  rw [s_X12_death] at hs
  rw [f_X12_death] at hQ
  refine g_iload_n 1 dX12_death_0 rfl ?_
  refine g_if_lt 13 dX12_death_1 (by decide) (fun c1 => ?_) (fun c1 => ?_)
  · have hs := ifSt hs c1; have hQ := ifQt hQ c1
    refine g_iconst (v := (-1)) dX12_death_13 (by decide) ?_
    exact g_iret rfl dX12_death_14 (hK _ hQ)
  · have hs := ifSf hs c1; have hQ := ifQf hQ c1
    refine g_iload_n 2 dX12_death_4 rfl ?_
    refine g_if_lt 13 dX12_death_5 (by decide) (fun c2 => ?_) (fun c2 => ?_)
    · have hs := ifSt hs c2; have hQ := ifQt hQ c2
      refine g_iconst (v := (-1)) dX12_death_13 (by decide) ?_
      exact g_iret rfl dX12_death_14 (hK _ hQ)
    · have hs := ifSf hs c2; have hQ := ifQf hQ c2
      refine g_iload_n 2 dX12_death_8 rfl ?_
      refine g_iconst (v := 2) dX12_death_9 (by decide) ?_
      refine g_icmp_le 15 dX12_death_10 (by decide) (fun c3 => ?_) (fun c3 => ?_)
      · have hs := ifSt hs c3; have hQ := ifQt hQ c3
        refine g_aload_n 0 dX12_death_15 rfl ?_
        refine g_getR 0 (rgC 0) fd_X12_26 dF_Wd rfl rfl dX12_death_16 ?_
        refine g_iconst (v := (-1)) dX12_death_19 (by decide) ?_
        have h4 := hs.1; have hs := hs.2
        refine g_callV (As := [.int (-1)]) (st := []) (rgC 0) (c_X7_deathBehind E M 0 lt02 (-1) h4) mt_X7_deathBehind ml_X12_382 (dF_Rg lt02) rfl rfl sg_X7_deathBehind rfl (by decide) (Nat.le_of_ble_eq_true rfl) dX12_death_20 ?_
        rintro _ _ ⟨q1, q2⟩; rw [q1, q2]; clear q1 q2
        refine g_topI (fun v5 hv5 => ?_)
        have hQ := bndQ hQ v5 hv5; have hs := bndS hs v5 hv5
        refine g_istore_n _ dX12_death_23 (by decide) rfl ?_
        refine g_iconst (v := 0) dX12_death_24 (by decide) ?_
        refine g_istore _ dX12_death_25 (by decide) rfl ?_
        refine g_sub [2, 3, 4, 1, 0] _ rfl ?_
        exact t_X12_death_27 hK M x1 x2 FU v5 0 hs hQ
      · have hs := ifSf hs c3; have hQ := ifQf hQ c3
        refine g_iconst (v := (-1)) dX12_death_13 (by decide) ?_
        exact g_iret rfl dX12_death_14 (hK _ hQ)
theorem c_X12_death (E : gE) (M : gM) (x1 : Int32) (x2 : Int32) (hs : s_X12_death M x1 x2) : gC E yX12_death cX12_death 5 (some .int) (rm 6) [.ref (gla E 0), .int x1, .int x2] M (fun o N => o = some (.int (f_X12_death M x1 x2).1) ∧ N = (f_X12_death M x1 x2).2) :=
  gC.of (by decide +kernel) (Nat.le_of_ble_eq_true rfl) rfl (t_X12_death (K := fun z => z = f_X12_death M x1 x2) (fun z hz => by rw [hz]; exact ⟨rfl, rfl⟩) M x1 x2 hs rfl)
def f_X12_wouldPaper_108 (M : gM) (x3 : Int32) (x4c1 : Nat) (x5 : Int32) (x6 : Int32)  : Int32 × gM :=
  bnd (f_X1_holdersOn M x3 9999) fun z14 =>
  (bnd (wrI z14.2 33 0 x4c1 0 x5) fun M15 =>
  (bnd (wrI M15 34 0 x4c1 0 x6) fun M17 =>
  ((z14.1, M17))))
def s_X12_wouldPaper_108 (M : gM) (x3 : Int32) (x4c1 : Nat) (x5 : Int32) (x6 : Int32)  : Prop :=
  (s_X1_holdersOn M x3 9999) ∧
  (bndP (f_X1_holdersOn M x3 9999) fun z14 =>
  (bndP (wrI z14.2 33 0 x4c1 0 x5) fun M15 =>
  ((gB x6) ∧
  (bndP (wrI M15 34 0 x4c1 0 x6) fun M17 =>
  (True)))))
theorem o_X12_wouldPaper_108 (M : gM) (x3 : Int32) (x4c1 : Nat) (x5 : Int32) (x6 : Int32)  : offW [33, 34, 51, 52, 53, 54, 55, 56, 57, 58, 59, 60, 61] M (f_X12_wouldPaper_108 M x3 x4c1 x5 x6 ).2 := by
  rw [f_X12_wouldPaper_108]
  refine offZ2 (offR.tr ((o_X1_holdersOn M x3 9999).mono (by decide))) (fun z14 oz14 => ?_)
  refine offB2 (oz14.wI (by decide)) (fun M15 oM15 => ?_)
  refine offB2 (oM15.wI (by decide)) (fun M17 oM17 => ?_)
  exact oM17
set_option maxRecDepth 100000 in
set_option maxHeartbeats 4000000 in
theorem t_X12_wouldPaper_108 {E : gE} {K : Int32 × gM → Prop} {Q : Option Value → gM → Prop} (hK : ∀ z : Int32 × gM, K z → Q (some (.int z.1)) z.2) (M : gM) (x3 : Int32) (x4c1 : Nat) (x5 : Int32) (x6 : Int32) (hx4c1 : x4c1 < 12)  (hs : s_X12_wouldPaper_108 M x3 x4c1 x5 x6 ) (hQ : K (f_X12_wouldPaper_108 M x3 x4c1 x5 x6 )) : gG E RX12 cX12_wouldPaper 8 (some .int) (rm 6) 108 [(0, .ref (gla E 0)), (3, .int x3), (4, .ref (gla E (paC 0 x4c1))), (5, .int x5), (6, .int x6)] [] M Q := by
  rw [s_X12_wouldPaper_108] at hs
  rw [f_X12_wouldPaper_108] at hQ
  refine g_aload_n 0 dX12_wouldPaper_108 rfl ?_
  refine g_getR 0 220 fd_X12_68 dF_Wd rfl rfl dX12_wouldPaper_109 ?_
  refine g_iload_n 1 dX12_wouldPaper_112 rfl ?_
  refine g_sipush (v := 9999) dX12_wouldPaper_113 (by decide) ?_
  have h13 := hs.1; have hs := hs.2
  refine g_callV (As := [.int x3, .int 9999]) (st := []) 220 (c_X1_holdersOn E M x3 9999 h13) mt_X1_holdersOn ml_X12_373 dF_Es rfl rfl sg_X1_holdersOn rfl (by decide) (Nat.le_of_ble_eq_true rfl) dX12_wouldPaper_116 ?_
  rintro _ _ ⟨rfl, rfl⟩
  obtain ⟨z14, hz14⟩ : ∃ z, z = f_X1_holdersOn M x3 9999 := ⟨_, rfl⟩
  rw [← hz14]
  have hQ := bndQ hQ z14 hz14; have hs := bndS hs z14 hz14
  refine g_istore _ dX12_wouldPaper_119 (by decide) rfl ?_
  refine g_aload 3 dX12_wouldPaper_121 rfl ?_
  refine g_iload 4 dX12_wouldPaper_123 rfl ?_
  refine g_putI (paC 0 x4c1) fd_X12_183 (dF_Pa lt02 hx4c1) rfl dX12_wouldPaper_125 (fun M15 hM15 => ?_)
  have hQ := bndQ hQ M15 hM15; have hs := bndS hs M15 hM15
  refine g_aload 3 dX12_wouldPaper_128 rfl ?_
  refine g_iload 5 dX12_wouldPaper_130 rfl ?_
  have h16 := hs.1; have hs := hs.2
  refine g_putZ (paC 0 x4c1) fd_X12_186 h16 (dF_Pa lt02 hx4c1) rfl dX12_wouldPaper_132 (fun M17 hM17 => ?_)
  have hQ := bndQ hQ M17 hM17; have hs := bndS hs M17 hM17
  refine g_iload 0 dX12_wouldPaper_135 rfl ?_
  exact g_iret rfl dX12_wouldPaper_137 (hK _ hQ)
def f_X12_wouldPaper (M : gM) (x1 : Int32) (x2 : Int32) (x3 : Int32) : Int32 × gM :=
  if (f_X7_isPaper M 0 x1) = 0 then
    (((-1), M))
  else
    (if x2 < 0 then
      (((-1), M))
    else
      (if 2 < x2 then
        (((-1), M))
      else
        (if (f_X7_isThing M 0 x3) = 0 then
          (((-1), M))
        else
          (if x2 = 0 then
            (bnd (wrI M 33 0 (nn x1) 0 0) fun M8 =>
            (f_X12_wouldPaper_108 M8 x3 (nn x1) (rdI M 33 0 (nn x1) 0) (rdI M 34 0 (nn x1) 0)))
          else
            (if x2 = 1 then
              (bnd (wrI M 33 0 (nn x1) 0 (-1)) fun M9 =>
              (f_X12_wouldPaper_108 M9 x3 (nn x1) (rdI M 33 0 (nn x1) 0) (rdI M 34 0 (nn x1) 0)))
            else
              (bnd (wrI M 34 0 (nn x1) 0 1) fun M10 =>
              (f_X12_wouldPaper_108 M10 x3 (nn x1) (rdI M 33 0 (nn x1) 0) (rdI M 34 0 (nn x1) 0))))))))
def s_X12_wouldPaper (M : gM) (x1 : Int32) (x2 : Int32) (x3 : Int32) : Prop :=
  (s_X7_isPaper M 0 x1) ∧
  (if (f_X7_isPaper M 0 x1) = 0 then
    (True)
  else
    (if x2 < 0 then
      (True)
    else
      (if 2 < x2 then
        (True)
      else
        ((s_X7_isThing M 0 x3) ∧
        (if (f_X7_isThing M 0 x3) = 0 then
          (True)
        else
          ((vp_in x1 12) ∧
          (if x2 = 0 then
            (bndP (wrI M 33 0 (nn x1) 0 0) fun M8 =>
            (s_X12_wouldPaper_108 M8 x3 (nn x1) (rdI M 33 0 (nn x1) 0) (rdI M 34 0 (nn x1) 0)))
          else
            (if x2 = 1 then
              (bndP (wrI M 33 0 (nn x1) 0 (-1)) fun M9 =>
              (s_X12_wouldPaper_108 M9 x3 (nn x1) (rdI M 33 0 (nn x1) 0) (rdI M 34 0 (nn x1) 0)))
            else
              (bndP (wrI M 34 0 (nn x1) 0 1) fun M10 =>
              (s_X12_wouldPaper_108 M10 x3 (nn x1) (rdI M 33 0 (nn x1) 0) (rdI M 34 0 (nn x1) 0)))))))))))
theorem o_X12_wouldPaper (M : gM) (x1 : Int32) (x2 : Int32) (x3 : Int32) : offW [33, 34, 51, 52, 53, 54, 55, 56, 57, 58, 59, 60, 61] M (f_X12_wouldPaper M x1 x2 x3).2 := by
  rw [f_X12_wouldPaper]
  refine offI2 ?_ ?_
  · exact offR
  · refine offI2 ?_ ?_
    · exact offR
    · refine offI2 ?_ ?_
      · exact offR
      · refine offI2 ?_ ?_
        · exact offR
        · refine offI2 ?_ ?_
          · refine offB2 (offR.wI (by decide)) (fun M8 oM8 => ?_)
            exact oM8.tr (o_X12_wouldPaper_108 M8 x3 (nn x1) (rdI M 33 0 (nn x1) 0) (rdI M 34 0 (nn x1) 0))
          refine offI2 ?_ ?_
          · refine offB2 (offR.wI (by decide)) (fun M9 oM9 => ?_)
            exact oM9.tr (o_X12_wouldPaper_108 M9 x3 (nn x1) (rdI M 33 0 (nn x1) 0) (rdI M 34 0 (nn x1) 0))
          refine offB2 (offR.wI (by decide)) (fun M10 oM10 => ?_)
          exact oM10.tr (o_X12_wouldPaper_108 M10 x3 (nn x1) (rdI M 33 0 (nn x1) 0) (rdI M 34 0 (nn x1) 0))
set_option maxRecDepth 100000 in
set_option maxHeartbeats 4000000 in
theorem t_X12_wouldPaper {E : gE} {K : Int32 × gM → Prop} {Q : Option Value → gM → Prop} (hK : ∀ z : Int32 × gM, K z → Q (some (.int z.1)) z.2) (M : gM) (x1 : Int32) (x2 : Int32) (x3 : Int32)  (hs : s_X12_wouldPaper M x1 x2 x3) (hQ : K (f_X12_wouldPaper M x1 x2 x3)) : gG E RX12 cX12_wouldPaper 8 (some .int) (rm 6) 0 [(0, .ref (gla E 0)), (1, .int x1), (2, .int x2), (3, .int x3)] [] M Q := by
  rw [s_X12_wouldPaper] at hs
  rw [f_X12_wouldPaper] at hQ
  refine g_aload_n 0 dX12_wouldPaper_0 rfl ?_
  refine g_getR 0 (rgC 0) fd_X12_26 dF_Wd rfl rfl dX12_wouldPaper_1 ?_
  refine g_iload_n 1 dX12_wouldPaper_4 rfl ?_
  have h1 := hs.1; have hs := hs.2
  refine g_callV (As := [.int x1]) (st := []) (rgC 0) (c_X7_isPaper E M 0 lt02 x1 h1) mt_X7_isPaper ml_X12_143 (dF_Rg lt02) rfl rfl sg_X7_isPaper rfl (by decide) (Nat.le_of_ble_eq_true rfl) dX12_wouldPaper_5 ?_
  rintro _ _ ⟨q1, q2⟩; rw [q1, q2]; clear q1 q2
  refine g_if_eq 31 dX12_wouldPaper_8 (by decide) (fun c2 => ?_) (fun c2 => ?_)
  · have hs := ifSt hs c2; have hQ := ifQt hQ c2
    refine g_iconst (v := (-1)) dX12_wouldPaper_31 (by decide) ?_
    exact g_iret rfl dX12_wouldPaper_32 (hK _ hQ)
  · have hs := ifSf hs c2; have hQ := ifQf hQ c2
    refine g_iload_n 2 dX12_wouldPaper_11 rfl ?_
    refine g_if_lt 31 dX12_wouldPaper_12 (by decide) (fun c3 => ?_) (fun c3 => ?_)
    · have hs := ifSt hs c3; have hQ := ifQt hQ c3
      refine g_iconst (v := (-1)) dX12_wouldPaper_31 (by decide) ?_
      exact g_iret rfl dX12_wouldPaper_32 (hK _ hQ)
    · have hs := ifSf hs c3; have hQ := ifQf hQ c3
      refine g_iload_n 2 dX12_wouldPaper_15 rfl ?_
      refine g_iconst (v := 2) dX12_wouldPaper_16 (by decide) ?_
      refine g_icmp_gt 31 dX12_wouldPaper_17 (by decide) (fun c4 => ?_) (fun c4 => ?_)
      · have hs := ifSt hs c4; have hQ := ifQt hQ c4
        refine g_iconst (v := (-1)) dX12_wouldPaper_31 (by decide) ?_
        exact g_iret rfl dX12_wouldPaper_32 (hK _ hQ)
      · have hs := ifSf hs c4; have hQ := ifQf hQ c4
        refine g_aload_n 0 dX12_wouldPaper_20 rfl ?_
        refine g_getR 0 (rgC 0) fd_X12_26 dF_Wd rfl rfl dX12_wouldPaper_21 ?_
        refine g_iload_n 3 dX12_wouldPaper_24 rfl ?_
        have h5 := hs.1; have hs := hs.2
        refine g_callV (As := [.int x3]) (st := []) (rgC 0) (c_X7_isThing E M 0 lt02 x3 h5) mt_X7_isThing ml_X12_189 (dF_Rg lt02) rfl rfl sg_X7_isThing rfl (by decide) (Nat.le_of_ble_eq_true rfl) dX12_wouldPaper_25 ?_
        rintro _ _ ⟨q1, q2⟩; rw [q1, q2]; clear q1 q2
        refine g_if_ne 33 dX12_wouldPaper_28 (by decide) (fun c6 => ?_) (fun c6 => ?_)
        · have hs := ifSf hs c6; have hQ := ifQf hQ c6
          refine g_aload_n 0 dX12_wouldPaper_33 rfl ?_
          refine g_getR 0 (rgC 0) fd_X12_26 dF_Wd rfl rfl dX12_wouldPaper_34 ?_
          refine g_getR (rgC 0) (rgC 0 + 4) fd_X12_148 (dF_Rg lt02) rfl rfl dX12_wouldPaper_37 ?_
          refine g_iload_n 1 dX12_wouldPaper_40 rfl ?_
          have h7 := hs.1; have hs := hs.2
          refine g_aald (rgC 0 + 4) (paC 0 (nn x1)) rfl (dF_Rg_papers lt02) h7 (aj_Pa _ _) dX12_wouldPaper_41 ?_
          refine g_astore _ dX12_wouldPaper_42 (by decide) rfl ?_
          refine g_aload 0 dX12_wouldPaper_44 rfl ?_
          refine g_getI (paC 0 (nn x1)) fd_X12_183 (dF_Pa lt02 (vpL h7)) rfl dX12_wouldPaper_46 ?_
          refine g_istore _ dX12_wouldPaper_49 (by decide) rfl ?_
          refine g_aload 1 dX12_wouldPaper_51 rfl ?_
          refine g_getI (paC 0 (nn x1)) fd_X12_186 (dF_Pa lt02 (vpL h7)) rfl dX12_wouldPaper_53 ?_
          refine g_istore _ dX12_wouldPaper_56 (by decide) rfl ?_
          refine g_iload_n 5 dX12_wouldPaper_58 rfl ?_
          by_cases c11 : x2 = 0
          · have hs := ifSt hs c11; have hQ := ifQt hQ c11
            refine g_lsw 84 (k := 0) (z := 0) (off := 25) c11 dX12_wouldPaper_59 (by decide) (by decide) (by decide) (by decide) ?_
            refine g_aload 2 dX12_wouldPaper_84 rfl ?_
            refine g_iconst (v := 0) dX12_wouldPaper_86 (by decide) ?_
            refine g_putI (paC 0 (nn x1)) fd_X12_183 (dF_Pa lt02 (vpL h7)) rfl dX12_wouldPaper_87 (fun M8 hM8 => ?_)
            have hQ := bndQ hQ M8 hM8; have hs := bndS hs M8 hM8
            refine g_goto 108 dX12_wouldPaper_90 (by decide) ?_
            refine g_sub [3, 6, 2, 1, 0] _ rfl ?_
            exact t_X12_wouldPaper_108 hK M8 x3 (nn x1) (rdI M 33 0 (nn x1) 0) (rdI M 34 0 (nn x1) 0) (vpL h7) hs hQ
          have hs := ifSf hs c11; have hQ := ifQf hQ c11
          by_cases c12 : x2 = 1
          · have hs := ifSt hs c12; have hQ := ifQt hQ c12
            refine g_lsw 93 (k := 1) (z := 1) (off := 34) c12 dX12_wouldPaper_59 (by decide) (by decide) (by decide) (by decide) ?_
            refine g_aload 2 dX12_wouldPaper_93 rfl ?_
            refine g_iconst (v := (-1)) dX12_wouldPaper_95 (by decide) ?_
            refine g_putI (paC 0 (nn x1)) fd_X12_183 (dF_Pa lt02 (vpL h7)) rfl dX12_wouldPaper_96 (fun M9 hM9 => ?_)
            have hQ := bndQ hQ M9 hM9; have hs := bndS hs M9 hM9
            refine g_goto 108 dX12_wouldPaper_99 (by decide) ?_
            refine g_sub [3, 6, 2, 1, 0] _ rfl ?_
            exact t_X12_wouldPaper_108 hK M9 x3 (nn x1) (rdI M 33 0 (nn x1) 0) (rdI M 34 0 (nn x1) 0) (vpL h7) hs hQ
          have hs := ifSf hs c12; have hQ := ifQf hQ c12
          refine g_lsd 102 dX12_wouldPaper_59 (by decide) (lso_cons (ne_ti c11 (by decide)) (lso_cons (ne_ti c12 (by decide)) lso_nil)) (by decide) ?_
          refine g_aload 2 dX12_wouldPaper_102 rfl ?_
          refine g_iconst (v := 1) dX12_wouldPaper_104 (by decide) ?_
          refine g_putZ (paC 0 (nn x1)) fd_X12_186 (Or.inr rfl) (dF_Pa lt02 (vpL h7)) rfl dX12_wouldPaper_105 (fun M10 hM10 => ?_)
          have hQ := bndQ hQ M10 hM10; have hs := bndS hs M10 hM10
          refine g_sub [3, 6, 2, 1, 0] _ rfl ?_
          exact t_X12_wouldPaper_108 hK M10 x3 (nn x1) (rdI M 33 0 (nn x1) 0) (rdI M 34 0 (nn x1) 0) (vpL h7) hs hQ
        · have hs := ifSt hs c6; have hQ := ifQt hQ c6
          refine g_iconst (v := (-1)) dX12_wouldPaper_31 (by decide) ?_
          exact g_iret rfl dX12_wouldPaper_32 (hK _ hQ)
theorem c_X12_wouldPaper (E : gE) (M : gM) (x1 : Int32) (x2 : Int32) (x3 : Int32) (hs : s_X12_wouldPaper M x1 x2 x3) : gC E yX12_wouldPaper cX12_wouldPaper 8 (some .int) (rm 6) [.ref (gla E 0), .int x1, .int x2, .int x3] M (fun o N => o = some (.int (f_X12_wouldPaper M x1 x2 x3).1) ∧ N = (f_X12_wouldPaper M x1 x2 x3).2) :=
  gC.of (by decide +kernel) (Nat.le_of_ble_eq_true rfl) rfl (t_X12_wouldPaper (K := fun z => z = f_X12_wouldPaper M x1 x2 x3) (fun z hz => by rw [hz]; exact ⟨rfl, rfl⟩) M x1 x2 x3 hs rfl)
def f_X12_gain (M : gM) (x1 : Int32) (x2 : Int32) : Int32 × gM :=
  if (f_X7_isPerson M 0 x1) = 0 then
    (((-1000000), M))
  else
    (if (f_X7_isPaper M 0 x2) = 0 then
      (((-1000000), M))
    else
      (bnd (f_X1_wealthOf M x1) fun z6 =>
      (bnd (f_X1_wealthWithout z6.2 x1 x2) fun z8 =>
      ((z6.1 - z8.1, z8.2)))))
def s_X12_gain (M : gM) (x1 : Int32) (x2 : Int32) : Prop :=
  (s_X7_isPerson M 0 x1) ∧
  (if (f_X7_isPerson M 0 x1) = 0 then
    (True)
  else
    ((s_X7_isPaper M 0 x2) ∧
    (if (f_X7_isPaper M 0 x2) = 0 then
      (True)
    else
      ((s_X1_wealthOf M x1) ∧
      (bndP (f_X1_wealthOf M x1) fun z6 =>
      ((s_X1_wealthWithout z6.2 x1 x2) ∧
      (bndP (f_X1_wealthWithout z6.2 x1 x2) fun z8 =>
      (True))))))))
theorem o_X12_gain (M : gM) (x1 : Int32) (x2 : Int32) : offW [34, 51, 52, 53, 54, 55, 56, 57, 58, 59, 60, 61] M (f_X12_gain M x1 x2).2 := by
  rw [f_X12_gain]
  refine offI2 ?_ ?_
  · exact offR
  · refine offI2 ?_ ?_
    · exact offR
    · refine offZ2 (offR.tr ((o_X1_wealthOf M x1).mono (by decide))) (fun z6 oz6 => ?_)
      refine offZ2 (oz6.tr ((o_X1_wealthWithout z6.2 x1 x2).mono (by decide))) (fun z8 oz8 => ?_)
      exact oz8
set_option maxRecDepth 100000 in
set_option maxHeartbeats 4000000 in
theorem t_X12_gain {E : gE} {K : Int32 × gM → Prop} {Q : Option Value → gM → Prop} (hK : ∀ z : Int32 × gM, K z → Q (some (.int z.1)) z.2) (M : gM) (x1 : Int32) (x2 : Int32)  (hs : s_X12_gain M x1 x2) (hQ : K (f_X12_gain M x1 x2)) : gG E RX12 cX12_gain 3 (some .int) (rm 7) 0 [(0, .ref (gla E 0)), (1, .int x1), (2, .int x2)] [] M Q := by
  rw [s_X12_gain] at hs
  rw [f_X12_gain] at hQ
  refine g_aload_n 0 dX12_gain_0 rfl ?_
  refine g_getR 0 (rgC 0) fd_X12_26 dF_Wd rfl rfl dX12_gain_1 ?_
  refine g_iload_n 1 dX12_gain_4 rfl ?_
  have h1 := hs.1; have hs := hs.2
  refine g_callV (As := [.int x1]) (st := []) (rgC 0) (c_X7_isPerson E M 0 lt02 x1 h1) mt_X7_isPerson ml_X12_101 (dF_Rg lt02) rfl rfl sg_X7_isPerson rfl (by decide) (Nat.le_of_ble_eq_true rfl) dX12_gain_5 ?_
  rintro _ _ ⟨q1, q2⟩; rw [q1, q2]; clear q1 q2
  refine g_if_eq 22 dX12_gain_8 (by decide) (fun c2 => ?_) (fun c2 => ?_)
  · have hs := ifSt hs c2; have hQ := ifQt hQ c2
    refine g_ldcw kc_X12_397 dX12_gain_22 ?_
    exact g_iret rfl dX12_gain_25 (hK _ hQ)
  · have hs := ifSf hs c2; have hQ := ifQf hQ c2
    refine g_aload_n 0 dX12_gain_11 rfl ?_
    refine g_getR 0 (rgC 0) fd_X12_26 dF_Wd rfl rfl dX12_gain_12 ?_
    refine g_iload_n 2 dX12_gain_15 rfl ?_
    have h3 := hs.1; have hs := hs.2
    refine g_callV (As := [.int x2]) (st := []) (rgC 0) (c_X7_isPaper E M 0 lt02 x2 h3) mt_X7_isPaper ml_X12_143 (dF_Rg lt02) rfl rfl sg_X7_isPaper rfl (by decide) (Nat.le_of_ble_eq_true rfl) dX12_gain_16 ?_
    rintro _ _ ⟨q1, q2⟩; rw [q1, q2]; clear q1 q2
    refine g_if_ne 26 dX12_gain_19 (by decide) (fun c4 => ?_) (fun c4 => ?_)
    · have hs := ifSf hs c4; have hQ := ifQf hQ c4
      refine g_aload_n 0 dX12_gain_26 rfl ?_
      refine g_getR 0 220 fd_X12_68 dF_Wd rfl rfl dX12_gain_27 ?_
      refine g_iload_n 1 dX12_gain_30 rfl ?_
      have h5 := hs.1; have hs := hs.2
      refine g_callV (As := [.int x1]) (st := []) 220 (c_X1_wealthOf E M x1 h5) mt_X1_wealthOf ml_X12_376 dF_Es rfl rfl sg_X1_wealthOf rfl (by decide) (Nat.le_of_ble_eq_true rfl) dX12_gain_31 ?_
      rintro _ _ ⟨rfl, rfl⟩
      obtain ⟨z6, hz6⟩ : ∃ z, z = f_X1_wealthOf M x1 := ⟨_, rfl⟩
      rw [← hz6]
      have hQ := bndQ hQ z6 hz6; have hs := bndS hs z6 hz6
      refine g_aload_n 0 dX12_gain_34 rfl ?_
      refine g_getR 0 220 fd_X12_68 dF_Wd rfl rfl dX12_gain_35 ?_
      refine g_iload_n 1 dX12_gain_38 rfl ?_
      refine g_iload_n 2 dX12_gain_39 rfl ?_
      have h7 := hs.1; have hs := hs.2
      refine g_callV (As := [.int x1, .int x2]) (st := [.int z6.1]) 220 (c_X1_wealthWithout E z6.2 x1 x2 h7) mt_X1_wealthWithout ml_X12_398 dF_Es rfl rfl sg_X1_wealthWithout rfl (by decide) (Nat.le_of_ble_eq_true rfl) dX12_gain_40 ?_
      rintro _ _ ⟨rfl, rfl⟩
      obtain ⟨z8, hz8⟩ : ∃ z, z = f_X1_wealthWithout z6.2 x1 x2 := ⟨_, rfl⟩
      rw [← hz8]
      have hQ := bndQ hQ z8 hz8; have hs := bndS hs z8 hz8
      refine g_isub dX12_gain_43 ?_
      exact g_iret rfl dX12_gain_44 (hK _ hQ)
    · have hs := ifSt hs c4; have hQ := ifQt hQ c4
      refine g_ldcw kc_X12_397 dX12_gain_22 ?_
      exact g_iret rfl dX12_gain_25 (hK _ hQ)
theorem c_X12_gain (E : gE) (M : gM) (x1 : Int32) (x2 : Int32) (hs : s_X12_gain M x1 x2) : gC E yX12_gain cX12_gain 3 (some .int) (rm 7) [.ref (gla E 0), .int x1, .int x2] M (fun o N => o = some (.int (f_X12_gain M x1 x2).1) ∧ N = (f_X12_gain M x1 x2).2) :=
  gC.of (by decide +kernel) (Nat.le_of_ble_eq_true rfl) rfl (t_X12_gain (K := fun z => z = f_X12_gain M x1 x2) (fun z hz => by rw [hz]; exact ⟨rfl, rfl⟩) M x1 x2 hs rfl)
def f_X12_against_99 (M : gM) (x4 : Int32)  : Int32 × gM :=
  (x4, M)
def s_X12_against_99 (M : gM) (x4 : Int32)  : Prop :=
  True
theorem o_X12_against_99 (M : gM) (x4 : Int32)  : offW [34, 51, 52, 53, 54, 55, 56, 57, 58, 59, 60, 61] M (f_X12_against_99 M x4 ).2 := by
  rw [f_X12_against_99]
  exact offR
set_option maxRecDepth 100000 in
set_option maxHeartbeats 4000000 in
theorem t_X12_against_99 {E : gE} {K : Int32 × gM → Prop} {Q : Option Value → gM → Prop} (hK : ∀ z : Int32 × gM, K z → Q (some (.int z.1)) z.2) (M : gM) (x4 : Int32)   (hs : s_X12_against_99 M x4 ) (hQ : K (f_X12_against_99 M x4 )) : gG E RX12 cX12_against 8 (some .int) (rm 7) 99 [(4, .int x4)] [] M Q := by
  rw [s_X12_against_99] at hs
  rw [f_X12_against_99] at hQ
  refine g_iload 0 dX12_against_99 rfl ?_
  refine g_goto 106 dX12_against_101 (by decide) ?_
  exact g_iret rfl dX12_against_106 (hK _ hQ)
def f_X12_against_41 (x1 : Int32) (x2 : Int32) (x3 : Int32)  : Nat → gM → Int32 → Int32 → Int32 → Int32 × gM
  | 0, M, _, _, _ => (0, M)
  | n + 1, M, x4, x5, x6 =>
    if (rdI M 7 0 0 0) ≤ x6 then
      (if x2 = 0 then
        (f_X12_against_99 M x4)
      else
        (if x4 = (-2) then
          (f_X12_against_99 M x4)
        else
          ((x5, M))))
    else
      (bnd (f_X1_wealthWithout M x1 x6) fun z11 =>
      (if x5 ≤ (x3 - z11.1) then
        (f_X12_against_41 x1 x2 x3 n z11.2 x4 x5 (x6 + 1))
      else
        (f_X12_against_41 x1 x2 x3 n z11.2 x6 (x3 - z11.1) (x6 + 1))))
def s_X12_against_41 (x1 : Int32) (x2 : Int32) (x3 : Int32)  : Nat → gM → Int32 → Int32 → Int32 → Prop
  | 0, _, _, _, _ => False
  | n + 1, M, x4, x5, x6 =>
    if (rdI M 7 0 0 0) ≤ x6 then
      (if x2 = 0 then
        (s_X12_against_99 M x4)
      else
        (if x4 = (-2) then
          (s_X12_against_99 M x4)
        else
          (True)))
    else
      ((s_X1_wealthWithout M x1 x6) ∧
      (bndP (f_X1_wealthWithout M x1 x6) fun z11 =>
      (if x5 ≤ (x3 - z11.1) then
        (s_X12_against_41 x1 x2 x3 n z11.2 x4 x5 (x6 + 1))
      else
        (s_X12_against_41 x1 x2 x3 n z11.2 x6 (x3 - z11.1) (x6 + 1)))))
theorem o_X12_against_41 (x1 : Int32) (x2 : Int32) (x3 : Int32)  : ∀ (n : Nat) (M : gM) (x4 : Int32) (x5 : Int32) (x6 : Int32), offW [34, 51, 52, 53, 54, 55, 56, 57, 58, 59, 60, 61] M (f_X12_against_41 x1 x2 x3  n M x4 x5 x6).2 := by
  intro n
  induction n with
  | zero => intro M x4 x5 x6; exact offR
  | succ n ih =>
    intro M x4 x5 x6
    rw [f_X12_against_41]
    refine offI2 ?_ ?_
    · refine offI2 ?_ ?_
      · exact (o_X12_against_99 M x4)
      · refine offI2 ?_ ?_
        · exact (o_X12_against_99 M x4)
        · exact offR
    · refine offZ2 (offR.tr ((o_X1_wealthWithout M x1 x6).mono (by decide))) (fun z11 oz11 => ?_)
      refine offI2 ?_ ?_
      · exact oz11.tr (ih z11.2 x4 x5 (x6 + 1))
      · exact oz11.tr (ih z11.2 x6 (x3 - z11.1) (x6 + 1))
set_option maxRecDepth 100000 in
set_option maxHeartbeats 4000000 in
theorem t_X12_against_41 {E : gE} {K : Int32 × gM → Prop} {Q : Option Value → gM → Prop} (hK : ∀ z : Int32 × gM, K z → Q (some (.int z.1)) z.2) (x1 : Int32) (x2 : Int32) (x3 : Int32)   : ∀ (n : Nat) (M : gM) (x4 : Int32) (x5 : Int32) (x6 : Int32) , s_X12_against_41 x1 x2 x3  n M x4 x5 x6 → K (f_X12_against_41 x1 x2 x3  n M x4 x5 x6) → gG E RX12 cX12_against 8 (some .int) (rm 7) 41 [(0, .ref (gla E 0)), (1, .int x1), (2, .int x2), (3, .int x3), (4, .int x4), (5, .int x5), (6, .int x6)] [] M Q := by
  intro n
  induction n with
  | zero => intro M x4 x5 x6 hs hQ; exact (hs : False).elim
  | succ n ih =>
    intro M x4 x5 x6 hs hQ
    rw [s_X12_against_41] at hs
    rw [f_X12_against_41] at hQ
    refine g_iload 6 dX12_against_41 rfl ?_
    refine g_aload_n 0 dX12_against_43 rfl ?_
    refine g_getR 0 (rgC 0) fd_X12_26 dF_Wd rfl rfl dX12_against_44 ?_
    refine g_getI (rgC 0) fd_X12_248 (dF_Rg lt02) rfl dX12_against_47 ?_
    refine g_icmp_ge 88 dX12_against_50 (by decide) (fun c7 => ?_) (fun c7 => ?_)
    · have hs := ifSt hs c7; have hQ := ifQt hQ c7
      refine g_iload_n 2 dX12_against_88 rfl ?_
      refine g_if_eq 99 dX12_against_89 (by decide) (fun c8 => ?_) (fun c8 => ?_)
      · have hs := ifSt hs c8; have hQ := ifQt hQ c8
        refine g_sub [4] _ rfl ?_
        exact t_X12_against_99 hK M x4 hs hQ
      · have hs := ifSf hs c8; have hQ := ifQf hQ c8
        refine g_iload 4 dX12_against_92 rfl ?_
        refine g_bipush (v := (-2)) dX12_against_94 (by decide) ?_
        refine g_icmp_ne 104 dX12_against_96 (by decide) (fun c9 => ?_) (fun c9 => ?_)
        · have hs := ifSf hs c9; have hQ := ifQf hQ c9
          refine g_iload 5 dX12_against_104 rfl ?_
          exact g_iret rfl dX12_against_106 (hK _ hQ)
        · have hs := ifSt hs c9; have hQ := ifQt hQ c9
          refine g_sub [4] _ rfl ?_
          exact t_X12_against_99 hK M x4 hs hQ
    · have hs := ifSf hs c7; have hQ := ifQf hQ c7
      refine g_iload_n 3 dX12_against_53 rfl ?_
      refine g_aload_n 0 dX12_against_54 rfl ?_
      refine g_getR 0 220 fd_X12_68 dF_Wd rfl rfl dX12_against_55 ?_
      refine g_iload_n 1 dX12_against_58 rfl ?_
      refine g_iload 6 dX12_against_59 rfl ?_
      have h10 := hs.1; have hs := hs.2
      refine g_callV (As := [.int x1, .int x6]) (st := [.int x3]) 220 (c_X1_wealthWithout E M x1 x6 h10) mt_X1_wealthWithout ml_X12_398 dF_Es rfl rfl sg_X1_wealthWithout rfl (by decide) (Nat.le_of_ble_eq_true rfl) dX12_against_61 ?_
      rintro _ _ ⟨rfl, rfl⟩
      obtain ⟨z11, hz11⟩ : ∃ z, z = f_X1_wealthWithout M x1 x6 := ⟨_, rfl⟩
      rw [← hz11]
      have hQ := bndQ hQ z11 hz11; have hs := bndS hs z11 hz11
      refine g_isub dX12_against_64 ?_
      refine g_istore _ dX12_against_65 (by decide) rfl ?_
      refine g_iload 0 dX12_against_67 rfl ?_
      refine g_iload 6 dX12_against_69 rfl ?_
      refine g_icmp_ge 82 dX12_against_71 (by decide) (fun c12 => ?_) (fun c12 => ?_)
      · have hs := ifSt hs c12; have hQ := ifQt hQ c12
        refine g_iinc 7 (v := x6 + 1) _ dX12_against_82 rfl rfl (by decide) rfl ?_
        refine g_goto 41 dX12_against_85 (by decide) ?_
        refine g_sub [2, 3, 4, 5, 6, 7, 0] _ rfl ?_
        exact ih z11.2 x4 x5 (x6 + 1) hs hQ
      · have hs := ifSf hs c12; have hQ := ifQf hQ c12
        refine g_iload 0 dX12_against_74 rfl ?_
        refine g_istore _ dX12_against_76 (by decide) rfl ?_
        refine g_iload 7 dX12_against_78 rfl ?_
        refine g_istore _ dX12_against_80 (by decide) rfl ?_
        refine g_iinc 7 (v := x6 + 1) _ dX12_against_82 rfl rfl (by decide) rfl ?_
        refine g_goto 41 dX12_against_85 (by decide) ?_
        refine g_sub [4, 5, 6, 7, 1, 2, 0] _ rfl ?_
        exact ih z11.2 x6 (x3 - z11.1) (x6 + 1) hs hQ
def f_X12_against (M : gM) (x1 : Int32) (x2 : Int32) : Int32 × gM :=
  if (f_X7_isPerson M 0 x1) = 0 then
    (((-1), M))
  else
    (if x2 < 0 then
      (((-1), M))
    else
      (if x2 ≤ 1 then
        (bnd (f_X1_wealthOf M x1) fun z6 =>
        (f_X12_against_41 x1 x2 z6.1 FU z6.2 (-2) 0 0))
      else
        (((-1), M))))
def s_X12_against (M : gM) (x1 : Int32) (x2 : Int32) : Prop :=
  (s_X7_isPerson M 0 x1) ∧
  (if (f_X7_isPerson M 0 x1) = 0 then
    (True)
  else
    (if x2 < 0 then
      (True)
    else
      (if x2 ≤ 1 then
        ((s_X1_wealthOf M x1) ∧
        (bndP (f_X1_wealthOf M x1) fun z6 =>
        (s_X12_against_41 x1 x2 z6.1 FU z6.2 (-2) 0 0)))
      else
        (True))))
theorem o_X12_against (M : gM) (x1 : Int32) (x2 : Int32) : offW [34, 51, 52, 53, 54, 55, 56, 57, 58, 59, 60, 61] M (f_X12_against M x1 x2).2 := by
  rw [f_X12_against]
  refine offI2 ?_ ?_
  · exact offR
  · refine offI2 ?_ ?_
    · exact offR
    · refine offI2 ?_ ?_
      · refine offZ2 (offR.tr ((o_X1_wealthOf M x1).mono (by decide))) (fun z6 oz6 => ?_)
        exact oz6.tr (o_X12_against_41 x1 x2 z6.1 FU z6.2 (-2) 0 0)
      · exact offR
set_option maxRecDepth 100000 in
set_option maxHeartbeats 4000000 in
theorem t_X12_against {E : gE} {K : Int32 × gM → Prop} {Q : Option Value → gM → Prop} (hK : ∀ z : Int32 × gM, K z → Q (some (.int z.1)) z.2) (M : gM) (x1 : Int32) (x2 : Int32)  (hs : s_X12_against M x1 x2) (hQ : K (f_X12_against M x1 x2)) : gG E RX12 cX12_against 8 (some .int) (rm 7) 0 [(0, .ref (gla E 0)), (1, .int x1), (2, .int x2)] [] M Q := by
  rw [s_X12_against] at hs
  rw [f_X12_against] at hQ
  refine g_aload_n 0 dX12_against_0 rfl ?_
  refine g_getR 0 (rgC 0) fd_X12_26 dF_Wd rfl rfl dX12_against_1 ?_
  refine g_iload_n 1 dX12_against_4 rfl ?_
  have h1 := hs.1; have hs := hs.2
  refine g_callV (As := [.int x1]) (st := []) (rgC 0) (c_X7_isPerson E M 0 lt02 x1 h1) mt_X7_isPerson ml_X12_101 (dF_Rg lt02) rfl rfl sg_X7_isPerson rfl (by decide) (Nat.le_of_ble_eq_true rfl) dX12_against_5 ?_
  rintro _ _ ⟨q1, q2⟩; rw [q1, q2]; clear q1 q2
  refine g_if_eq 20 dX12_against_8 (by decide) (fun c2 => ?_) (fun c2 => ?_)
  · have hs := ifSt hs c2; have hQ := ifQt hQ c2
    refine g_iconst (v := (-1)) dX12_against_20 (by decide) ?_
    exact g_iret rfl dX12_against_21 (hK _ hQ)
  · have hs := ifSf hs c2; have hQ := ifQf hQ c2
    refine g_iload_n 2 dX12_against_11 rfl ?_
    refine g_if_lt 20 dX12_against_12 (by decide) (fun c3 => ?_) (fun c3 => ?_)
    · have hs := ifSt hs c3; have hQ := ifQt hQ c3
      refine g_iconst (v := (-1)) dX12_against_20 (by decide) ?_
      exact g_iret rfl dX12_against_21 (hK _ hQ)
    · have hs := ifSf hs c3; have hQ := ifQf hQ c3
      refine g_iload_n 2 dX12_against_15 rfl ?_
      refine g_iconst (v := 1) dX12_against_16 (by decide) ?_
      refine g_icmp_le 22 dX12_against_17 (by decide) (fun c4 => ?_) (fun c4 => ?_)
      · have hs := ifSt hs c4; have hQ := ifQt hQ c4
        refine g_aload_n 0 dX12_against_22 rfl ?_
        refine g_getR 0 220 fd_X12_68 dF_Wd rfl rfl dX12_against_23 ?_
        refine g_iload_n 1 dX12_against_26 rfl ?_
        have h5 := hs.1; have hs := hs.2
        refine g_callV (As := [.int x1]) (st := []) 220 (c_X1_wealthOf E M x1 h5) mt_X1_wealthOf ml_X12_376 dF_Es rfl rfl sg_X1_wealthOf rfl (by decide) (Nat.le_of_ble_eq_true rfl) dX12_against_27 ?_
        rintro _ _ ⟨rfl, rfl⟩
        obtain ⟨z6, hz6⟩ : ∃ z, z = f_X1_wealthOf M x1 := ⟨_, rfl⟩
        rw [← hz6]
        have hQ := bndQ hQ z6 hz6; have hs := bndS hs z6 hz6
        refine g_istore_n _ dX12_against_30 (by decide) rfl ?_
        refine g_bipush (v := (-2)) dX12_against_31 (by decide) ?_
        refine g_istore _ dX12_against_33 (by decide) rfl ?_
        refine g_iconst (v := 0) dX12_against_35 (by decide) ?_
        refine g_istore _ dX12_against_36 (by decide) rfl ?_
        refine g_iconst (v := 0) dX12_against_38 (by decide) ?_
        refine g_istore _ dX12_against_39 (by decide) rfl ?_
        refine g_sub [4, 5, 6, 3, 2, 1, 0] _ rfl ?_
        exact t_X12_against_41 hK x1 x2 z6.1 FU z6.2 (-2) 0 0 hs hQ
      · have hs := ifSf hs c4; have hQ := ifQf hQ c4
        refine g_iconst (v := (-1)) dX12_against_20 (by decide) ?_
        exact g_iret rfl dX12_against_21 (hK _ hQ)
theorem c_X12_against (E : gE) (M : gM) (x1 : Int32) (x2 : Int32) (hs : s_X12_against M x1 x2) : gC E yX12_against cX12_against 8 (some .int) (rm 7) [.ref (gla E 0), .int x1, .int x2] M (fun o N => o = some (.int (f_X12_against M x1 x2).1) ∧ N = (f_X12_against M x1 x2).2) :=
  gC.of (by decide +kernel) (Nat.le_of_ble_eq_true rfl) rfl (t_X12_against (K := fun z => z = f_X12_against M x1 x2) (fun z hz => by rw [hz]; exact ⟨rfl, rfl⟩) M x1 x2 hs rfl)
def f_X12_key_20 (x1 : Int32)  : Nat → gM → Int32 → Int32 → Int32 → Int32 × gM
  | 0, M, _, _, _ => (0, M)
  | n + 1, M, x2, x3, x4 =>
    if (rdI M 7 0 0 0) ≤ x4 then
      (if x1 = 0 then
        ((x2, M))
      else
        ((x3, M)))
    else
      (bnd (f_X1_thingsOtherWithout M x4) fun z6 =>
      (if z6.1 ≤ x3 then
        (f_X12_key_20 x1 n z6.2 x2 x3 (x4 + 1))
      else
        (f_X12_key_20 x1 n z6.2 x4 z6.1 (x4 + 1))))
def s_X12_key_20 (x1 : Int32)  : Nat → gM → Int32 → Int32 → Int32 → Prop
  | 0, _, _, _, _ => False
  | n + 1, M, x2, x3, x4 =>
    if (rdI M 7 0 0 0) ≤ x4 then
      (if x1 = 0 then
        (True)
      else
        (True))
    else
      ((s_X1_thingsOtherWithout M x4) ∧
      (bndP (f_X1_thingsOtherWithout M x4) fun z6 =>
      (if z6.1 ≤ x3 then
        (s_X12_key_20 x1 n z6.2 x2 x3 (x4 + 1))
      else
        (s_X12_key_20 x1 n z6.2 x4 z6.1 (x4 + 1)))))
theorem o_X12_key_20 (x1 : Int32)  : ∀ (n : Nat) (M : gM) (x2 : Int32) (x3 : Int32) (x4 : Int32), offW [34, 51, 52, 53, 54, 55, 56, 57, 58, 59, 60, 61] M (f_X12_key_20 x1  n M x2 x3 x4).2 := by
  intro n
  induction n with
  | zero => intro M x2 x3 x4; exact offR
  | succ n ih =>
    intro M x2 x3 x4
    rw [f_X12_key_20]
    refine offI2 ?_ ?_
    · refine offI2 ?_ ?_
      · exact offR
      · exact offR
    · refine offZ2 (offR.tr ((o_X1_thingsOtherWithout M x4).mono (by decide))) (fun z6 oz6 => ?_)
      refine offI2 ?_ ?_
      · exact oz6.tr (ih z6.2 x2 x3 (x4 + 1))
      · exact oz6.tr (ih z6.2 x4 z6.1 (x4 + 1))
set_option maxRecDepth 100000 in
set_option maxHeartbeats 4000000 in
theorem t_X12_key_20 {E : gE} {K : Int32 × gM → Prop} {Q : Option Value → gM → Prop} (hK : ∀ z : Int32 × gM, K z → Q (some (.int z.1)) z.2) (x1 : Int32)   : ∀ (n : Nat) (M : gM) (x2 : Int32) (x3 : Int32) (x4 : Int32) , s_X12_key_20 x1  n M x2 x3 x4 → K (f_X12_key_20 x1  n M x2 x3 x4) → gG E RX12 cX12_key 6 (some .int) (rm 7) 20 [(0, .ref (gla E 0)), (1, .int x1), (2, .int x2), (3, .int x3), (4, .int x4)] [] M Q := by
  intro n
  induction n with
  | zero => intro M x2 x3 x4 hs hQ; exact (hs : False).elim
  | succ n ih =>
    intro M x2 x3 x4 hs hQ
    rw [s_X12_key_20] at hs
    rw [f_X12_key_20] at hQ
    refine g_iload 4 dX12_key_20 rfl ?_
    refine g_aload_n 0 dX12_key_22 rfl ?_
    refine g_getR 0 (rgC 0) fd_X12_26 dF_Wd rfl rfl dX12_key_23 ?_
    refine g_getI (rgC 0) fd_X12_248 (dF_Rg lt02) rfl dX12_key_26 ?_
    refine g_icmp_ge 61 dX12_key_29 (by decide) (fun c3 => ?_) (fun c3 => ?_)
    · have hs := ifSt hs c3; have hQ := ifQt hQ c3
      refine g_iload_n 1 dX12_key_61 rfl ?_
      refine g_if_ne 69 dX12_key_62 (by decide) (fun c4 => ?_) (fun c4 => ?_)
      · have hs := ifSf hs c4; have hQ := ifQf hQ c4
        refine g_iload_n 3 dX12_key_69 rfl ?_
        exact g_iret rfl dX12_key_70 (hK _ hQ)
      · have hs := ifSt hs c4; have hQ := ifQt hQ c4
        refine g_iload_n 2 dX12_key_65 rfl ?_
        refine g_goto 70 dX12_key_66 (by decide) ?_
        exact g_iret rfl dX12_key_70 (hK _ hQ)
    · have hs := ifSf hs c3; have hQ := ifQf hQ c3
      refine g_aload_n 0 dX12_key_32 rfl ?_
      refine g_getR 0 220 fd_X12_68 dF_Wd rfl rfl dX12_key_33 ?_
      refine g_iload 4 dX12_key_36 rfl ?_
      have h5 := hs.1; have hs := hs.2
      refine g_callV (As := [.int x4]) (st := []) 220 (c_X1_thingsOtherWithout E M x4 h5) mt_X1_thingsOtherWithout ml_X12_401 dF_Es rfl rfl sg_X1_thingsOtherWithout rfl (by decide) (Nat.le_of_ble_eq_true rfl) dX12_key_38 ?_
      rintro _ _ ⟨rfl, rfl⟩
      obtain ⟨z6, hz6⟩ : ∃ z, z = f_X1_thingsOtherWithout M x4 := ⟨_, rfl⟩
      rw [← hz6]
      have hQ := bndQ hQ z6 hz6; have hs := bndS hs z6 hz6
      refine g_istore _ dX12_key_41 (by decide) rfl ?_
      refine g_iload 0 dX12_key_43 rfl ?_
      refine g_iload_n 4 dX12_key_45 rfl ?_
      refine g_icmp_le 55 dX12_key_46 (by decide) (fun c7 => ?_) (fun c7 => ?_)
      · have hs := ifSt hs c7; have hQ := ifQt hQ c7
        refine g_iinc 5 (v := x4 + 1) _ dX12_key_55 rfl rfl (by decide) rfl ?_
        refine g_goto 20 dX12_key_58 (by decide) ?_
        refine g_sub [2, 3, 4, 5, 0] _ rfl ?_
        exact ih z6.2 x2 x3 (x4 + 1) hs hQ
      · have hs := ifSf hs c7; have hQ := ifQf hQ c7
        refine g_iload 0 dX12_key_49 rfl ?_
        refine g_istore_n _ dX12_key_51 (by decide) rfl ?_
        refine g_iload 5 dX12_key_52 rfl ?_
        refine g_istore_n _ dX12_key_54 (by decide) rfl ?_
        refine g_iinc 5 (v := x4 + 1) _ dX12_key_55 rfl rfl (by decide) rfl ?_
        refine g_goto 20 dX12_key_58 (by decide) ?_
        refine g_sub [4, 5, 1, 2, 0] _ rfl ?_
        exact ih z6.2 x4 z6.1 (x4 + 1) hs hQ
def f_X12_key (M : gM) (x1 : Int32) : Int32 × gM :=
  if x1 < 0 then
    (((-1), M))
  else
    (if x1 ≤ 1 then
      (f_X12_key_20 x1 FU M (-2) (-2) 0)
    else
      (((-1), M)))
def s_X12_key (M : gM) (x1 : Int32) : Prop :=
  if x1 < 0 then
    (True)
  else
    (if x1 ≤ 1 then
      (s_X12_key_20 x1 FU M (-2) (-2) 0)
    else
      (True))
theorem o_X12_key (M : gM) (x1 : Int32) : offW [34, 51, 52, 53, 54, 55, 56, 57, 58, 59, 60, 61] M (f_X12_key M x1).2 := by
  rw [f_X12_key]
  refine offI2 ?_ ?_
  · exact offR
  · refine offI2 ?_ ?_
    · exact (o_X12_key_20 x1 FU M (-2) (-2) 0)
    · exact offR
set_option maxRecDepth 100000 in
set_option maxHeartbeats 4000000 in
theorem t_X12_key {E : gE} {K : Int32 × gM → Prop} {Q : Option Value → gM → Prop} (hK : ∀ z : Int32 × gM, K z → Q (some (.int z.1)) z.2) (M : gM) (x1 : Int32)  (hs : s_X12_key M x1) (hQ : K (f_X12_key M x1)) : gG E RX12 cX12_key 6 (some .int) (rm 7) 0 [(0, .ref (gla E 0)), (1, .int x1)] [] M Q := by
  rw [s_X12_key] at hs
  rw [f_X12_key] at hQ
  refine g_iload_n 1 dX12_key_0 rfl ?_
  refine g_if_lt 9 dX12_key_1 (by decide) (fun c1 => ?_) (fun c1 => ?_)
  · have hs := ifSt hs c1; have hQ := ifQt hQ c1
    refine g_iconst (v := (-1)) dX12_key_9 (by decide) ?_
    exact g_iret rfl dX12_key_10 (hK _ hQ)
  · have hs := ifSf hs c1; have hQ := ifQf hQ c1
    refine g_iload_n 1 dX12_key_4 rfl ?_
    refine g_iconst (v := 1) dX12_key_5 (by decide) ?_
    refine g_icmp_le 11 dX12_key_6 (by decide) (fun c2 => ?_) (fun c2 => ?_)
    · have hs := ifSt hs c2; have hQ := ifQt hQ c2
      refine g_bipush (v := (-2)) dX12_key_11 (by decide) ?_
      refine g_istore_n _ dX12_key_13 (by decide) rfl ?_
      refine g_bipush (v := (-2)) dX12_key_14 (by decide) ?_
      refine g_istore_n _ dX12_key_16 (by decide) rfl ?_
      refine g_iconst (v := 0) dX12_key_17 (by decide) ?_
      refine g_istore _ dX12_key_18 (by decide) rfl ?_
      refine g_sub [3, 4, 2, 1, 0] _ rfl ?_
      exact t_X12_key_20 hK x1 FU M (-2) (-2) 0 hs hQ
    · have hs := ifSf hs c2; have hQ := ifQf hQ c2
      refine g_iconst (v := (-1)) dX12_key_9 (by decide) ?_
      exact g_iret rfl dX12_key_10 (hK _ hQ)
theorem c_X12_key (E : gE) (M : gM) (x1 : Int32) (hs : s_X12_key M x1) : gC E yX12_key cX12_key 6 (some .int) (rm 7) [.ref (gla E 0), .int x1] M (fun o N => o = some (.int (f_X12_key M x1).1) ∧ N = (f_X12_key M x1).2) :=
  gC.of (by decide +kernel) (Nat.le_of_ble_eq_true rfl) rfl (t_X12_key (K := fun z => z = f_X12_key M x1) (fun z hz => by rw [hz]; exact ⟨rfl, rfl⟩) M x1 hs rfl)
def f_X12_wouldDie (M : gM) (x1 : Int32) (x2 : Int32) (x3 : Int32) : Int32 × gM :=
  if (f_X7_isPerson M 0 x1) = 0 then
    (((-1), M))
  else
    (if (f_X12_isDayOrNever M x2) = 0 then
      (((-1), M))
    else
      (if (f_X7_isThing M 0 x3) = 0 then
        (((-1), M))
      else
        (bnd (f_X1_holdersIfDying M x1 x2 x3) fun z8 =>
        ((z8.1, z8.2)))))
def s_X12_wouldDie (M : gM) (x1 : Int32) (x2 : Int32) (x3 : Int32) : Prop :=
  (s_X7_isPerson M 0 x1) ∧
  (if (f_X7_isPerson M 0 x1) = 0 then
    (True)
  else
    ((s_X12_isDayOrNever M x2) ∧
    (if (f_X12_isDayOrNever M x2) = 0 then
      (True)
    else
      ((s_X7_isThing M 0 x3) ∧
      (if (f_X7_isThing M 0 x3) = 0 then
        (True)
      else
        ((s_X1_holdersIfDying M x1 x2 x3) ∧
        (bndP (f_X1_holdersIfDying M x1 x2 x3) fun z8 =>
        (True))))))))
theorem o_X12_wouldDie (M : gM) (x1 : Int32) (x2 : Int32) (x3 : Int32) : offW [20, 51, 52, 53, 54, 55, 56, 57, 58, 59, 60, 61] M (f_X12_wouldDie M x1 x2 x3).2 := by
  rw [f_X12_wouldDie]
  refine offI2 ?_ ?_
  · exact offR
  · refine offI2 ?_ ?_
    · exact offR
    · refine offI2 ?_ ?_
      · exact offR
      · refine offZ2 (offR.tr ((o_X1_holdersIfDying M x1 x2 x3).mono (by decide))) (fun z8 oz8 => ?_)
        exact oz8
set_option maxRecDepth 100000 in
set_option maxHeartbeats 4000000 in
theorem t_X12_wouldDie {E : gE} {K : Int32 × gM → Prop} {Q : Option Value → gM → Prop} (hK : ∀ z : Int32 × gM, K z → Q (some (.int z.1)) z.2) (M : gM) (x1 : Int32) (x2 : Int32) (x3 : Int32)  (hs : s_X12_wouldDie M x1 x2 x3) (hQ : K (f_X12_wouldDie M x1 x2 x3)) : gG E RX12 cX12_wouldDie 4 (some .int) (rm 7) 0 [(0, .ref (gla E 0)), (1, .int x1), (2, .int x2), (3, .int x3)] [] M Q := by
  rw [s_X12_wouldDie] at hs
  rw [f_X12_wouldDie] at hQ
  refine g_aload_n 0 dX12_wouldDie_0 rfl ?_
  refine g_getR 0 (rgC 0) fd_X12_26 dF_Wd rfl rfl dX12_wouldDie_1 ?_
  refine g_iload_n 1 dX12_wouldDie_4 rfl ?_
  have h1 := hs.1; have hs := hs.2
  refine g_callV (As := [.int x1]) (st := []) (rgC 0) (c_X7_isPerson E M 0 lt02 x1 h1) mt_X7_isPerson ml_X12_101 (dF_Rg lt02) rfl rfl sg_X7_isPerson rfl (by decide) (Nat.le_of_ble_eq_true rfl) dX12_wouldDie_5 ?_
  rintro _ _ ⟨q1, q2⟩; rw [q1, q2]; clear q1 q2
  refine g_if_eq 29 dX12_wouldDie_8 (by decide) (fun c2 => ?_) (fun c2 => ?_)
  · have hs := ifSt hs c2; have hQ := ifQt hQ c2
    refine g_iconst (v := (-1)) dX12_wouldDie_29 (by decide) ?_
    exact g_iret rfl dX12_wouldDie_30 (hK _ hQ)
  · have hs := ifSf hs c2; have hQ := ifQf hQ c2
    refine g_iload_n 2 dX12_wouldDie_11 rfl ?_
    have h3 := hs.1; have hs := hs.2
    refine g_callS (As := [.int x2]) (st := []) (c_X12_isDayOrNever E M x2 h3) mt_X12_isDayOrNever ml_X12_290 sg_X12_isDayOrNever rfl (by decide) (Nat.le_of_ble_eq_true rfl) dX12_wouldDie_12 ?_
    rintro _ _ ⟨q1, q2⟩; rw [q1, q2]; clear q1 q2
    refine g_if_eq 29 dX12_wouldDie_15 (by decide) (fun c4 => ?_) (fun c4 => ?_)
    · have hs := ifSt hs c4; have hQ := ifQt hQ c4
      refine g_iconst (v := (-1)) dX12_wouldDie_29 (by decide) ?_
      exact g_iret rfl dX12_wouldDie_30 (hK _ hQ)
    · have hs := ifSf hs c4; have hQ := ifQf hQ c4
      refine g_aload_n 0 dX12_wouldDie_18 rfl ?_
      refine g_getR 0 (rgC 0) fd_X12_26 dF_Wd rfl rfl dX12_wouldDie_19 ?_
      refine g_iload_n 3 dX12_wouldDie_22 rfl ?_
      have h5 := hs.1; have hs := hs.2
      refine g_callV (As := [.int x3]) (st := []) (rgC 0) (c_X7_isThing E M 0 lt02 x3 h5) mt_X7_isThing ml_X12_189 (dF_Rg lt02) rfl rfl sg_X7_isThing rfl (by decide) (Nat.le_of_ble_eq_true rfl) dX12_wouldDie_23 ?_
      rintro _ _ ⟨q1, q2⟩; rw [q1, q2]; clear q1 q2
      refine g_if_ne 31 dX12_wouldDie_26 (by decide) (fun c6 => ?_) (fun c6 => ?_)
      · have hs := ifSf hs c6; have hQ := ifQf hQ c6
        refine g_aload_n 0 dX12_wouldDie_31 rfl ?_
        refine g_getR 0 220 fd_X12_68 dF_Wd rfl rfl dX12_wouldDie_32 ?_
        refine g_iload_n 1 dX12_wouldDie_35 rfl ?_
        refine g_iload_n 2 dX12_wouldDie_36 rfl ?_
        refine g_iload_n 3 dX12_wouldDie_37 rfl ?_
        have h7 := hs.1; have hs := hs.2
        refine g_callV (As := [.int x1, .int x2, .int x3]) (st := []) 220 (c_X1_holdersIfDying E M x1 x2 x3 h7) mt_X1_holdersIfDying ml_X12_404 dF_Es rfl rfl sg_X1_holdersIfDying rfl (by decide) (Nat.le_of_ble_eq_true rfl) dX12_wouldDie_38 ?_
        rintro _ _ ⟨rfl, rfl⟩
        obtain ⟨z8, hz8⟩ : ∃ z, z = f_X1_holdersIfDying M x1 x2 x3 := ⟨_, rfl⟩
        rw [← hz8]
        have hQ := bndQ hQ z8 hz8; have hs := bndS hs z8 hz8
        exact g_iret rfl dX12_wouldDie_41 (hK _ hQ)
      · have hs := ifSt hs c6; have hQ := ifQt hQ c6
        refine g_iconst (v := (-1)) dX12_wouldDie_29 (by decide) ?_
        exact g_iret rfl dX12_wouldDie_30 (hK _ hQ)
theorem c_X12_wouldDie (E : gE) (M : gM) (x1 : Int32) (x2 : Int32) (x3 : Int32) (hs : s_X12_wouldDie M x1 x2 x3) : gC E yX12_wouldDie cX12_wouldDie 4 (some .int) (rm 7) [.ref (gla E 0), .int x1, .int x2, .int x3] M (fun o N => o = some (.int (f_X12_wouldDie M x1 x2 x3).1) ∧ N = (f_X12_wouldDie M x1 x2 x3).2) :=
  gC.of (by decide +kernel) (Nat.le_of_ble_eq_true rfl) rfl (t_X12_wouldDie (K := fun z => z = f_X12_wouldDie M x1 x2 x3) (fun z hz => by rw [hz]; exact ⟨rfl, rfl⟩) M x1 x2 x3 hs rfl)
def f_X12_dayFor_46 (x1 : Int32) (x2 : Int32) (x3 : Int32)  : Nat → gM → Int32 → Int32 → Int32 × gM
  | 0, M, _, _ => (0, M)
  | n + 1, M, x4, x5 =>
    if 57 ≤ x5 then
      (((-2), M))
    else
      (if 9999 < x4 then
        (((-2), M))
      else
        (bnd (f_X1_holdersIfDying M x1 x4 x3) fun z11 =>
        (if ((z11.1 >>> (x2 &&& 31)) &&& 1) = 0 then
          (bnd (f_X7_turnBehind z11.2 0 x4 x1) fun v14 =>
          (f_X12_dayFor_46 x1 x2 x3 n z11.2 v14 (x5 + 1)))
        else
          ((x4, z11.2)))))
def s_X12_dayFor_46 (x1 : Int32) (x2 : Int32) (x3 : Int32)  : Nat → gM → Int32 → Int32 → Prop
  | 0, _, _, _ => False
  | n + 1, M, x4, x5 =>
    if 57 ≤ x5 then
      (True)
    else
      (if 9999 < x4 then
        (True)
      else
        ((s_X1_holdersIfDying M x1 x4 x3) ∧
        (bndP (f_X1_holdersIfDying M x1 x4 x3) fun z11 =>
        (if ((z11.1 >>> (x2 &&& 31)) &&& 1) = 0 then
          ((s_X7_turnBehind z11.2 0 x4 x1) ∧
          (bndP (f_X7_turnBehind z11.2 0 x4 x1) fun v14 =>
          (s_X12_dayFor_46 x1 x2 x3 n z11.2 v14 (x5 + 1))))
        else
          (True)))))
theorem o_X12_dayFor_46 (x1 : Int32) (x2 : Int32) (x3 : Int32)  : ∀ (n : Nat) (M : gM) (x4 : Int32) (x5 : Int32), offW [20, 51, 52, 53, 54, 55, 56, 57, 58, 59, 60, 61] M (f_X12_dayFor_46 x1 x2 x3  n M x4 x5).2 := by
  intro n
  induction n with
  | zero => intro M x4 x5; exact offR
  | succ n ih =>
    intro M x4 x5
    rw [f_X12_dayFor_46]
    refine offI2 ?_ ?_
    · exact offR
    · refine offI2 ?_ ?_
      · exact offR
      · refine offZ2 (offR.tr ((o_X1_holdersIfDying M x1 x4 x3).mono (by decide))) (fun z11 oz11 => ?_)
        refine offI2 ?_ ?_
        · refine offV2 (fun v14 => ?_)
          exact oz11.tr (ih z11.2 v14 (x5 + 1))
        · exact oz11
set_option maxRecDepth 100000 in
set_option maxHeartbeats 4000000 in
theorem t_X12_dayFor_46 {E : gE} {K : Int32 × gM → Prop} {Q : Option Value → gM → Prop} (hK : ∀ z : Int32 × gM, K z → Q (some (.int z.1)) z.2) (x1 : Int32) (x2 : Int32) (x3 : Int32)   : ∀ (n : Nat) (M : gM) (x4 : Int32) (x5 : Int32) , s_X12_dayFor_46 x1 x2 x3  n M x4 x5 → K (f_X12_dayFor_46 x1 x2 x3  n M x4 x5) → gG E RX12 cX12_dayFor 7 (some .int) (rm 7) 46 [(0, .ref (gla E 0)), (1, .int x1), (2, .int x2), (3, .int x3), (4, .int x4), (5, .int x5)] [] M Q := by
  intro n
  induction n with
  | zero => intro M x4 x5 hs hQ; exact (hs : False).elim
  | succ n ih =>
    intro M x4 x5 hs hQ
    rw [s_X12_dayFor_46] at hs
    rw [f_X12_dayFor_46] at hQ
    refine g_iload 5 dX12_dayFor_46 rfl ?_
    refine g_bipush (v := 57) dX12_dayFor_48 (by decide) ?_
    refine g_icmp_ge 104 dX12_dayFor_50 (by decide) (fun c8 => ?_) (fun c8 => ?_)
    · have hs := ifSt hs c8; have hQ := ifQt hQ c8
      refine g_bipush (v := (-2)) dX12_dayFor_104 (by decide) ?_
      exact g_iret rfl dX12_dayFor_106 (hK _ hQ)
    · have hs := ifSf hs c8; have hQ := ifQf hQ c8
      refine g_iload 4 dX12_dayFor_53 rfl ?_
      refine g_sipush (v := 9999) dX12_dayFor_55 (by decide) ?_
      refine g_icmp_gt 104 dX12_dayFor_58 (by decide) (fun c9 => ?_) (fun c9 => ?_)
      · have hs := ifSt hs c9; have hQ := ifQt hQ c9
        refine g_bipush (v := (-2)) dX12_dayFor_104 (by decide) ?_
        exact g_iret rfl dX12_dayFor_106 (hK _ hQ)
      · have hs := ifSf hs c9; have hQ := ifQf hQ c9
        refine g_aload_n 0 dX12_dayFor_61 rfl ?_
        refine g_getR 0 220 fd_X12_68 dF_Wd rfl rfl dX12_dayFor_62 ?_
        refine g_iload_n 1 dX12_dayFor_65 rfl ?_
        refine g_iload 4 dX12_dayFor_66 rfl ?_
        refine g_iload_n 3 dX12_dayFor_68 rfl ?_
        have h10 := hs.1; have hs := hs.2
        refine g_callV (As := [.int x1, .int x4, .int x3]) (st := []) 220 (c_X1_holdersIfDying E M x1 x4 x3 h10) mt_X1_holdersIfDying ml_X12_404 dF_Es rfl rfl sg_X1_holdersIfDying rfl (by decide) (Nat.le_of_ble_eq_true rfl) dX12_dayFor_69 ?_
        rintro _ _ ⟨rfl, rfl⟩
        obtain ⟨z11, hz11⟩ : ∃ z, z = f_X1_holdersIfDying M x1 x4 x3 := ⟨_, rfl⟩
        rw [← hz11]
        have hQ := bndQ hQ z11 hz11; have hs := bndS hs z11 hz11
        refine g_istore _ dX12_dayFor_72 (by decide) rfl ?_
        refine g_iload 0 dX12_dayFor_74 rfl ?_
        refine g_iload_n 3 dX12_dayFor_76 rfl ?_
        refine g_ishr dX12_dayFor_77 ?_
        refine g_iconst (v := 1) dX12_dayFor_78 (by decide) ?_
        refine g_iand dX12_dayFor_79 ?_
        refine g_if_eq 86 dX12_dayFor_80 (by decide) (fun c12 => ?_) (fun c12 => ?_)
        · have hs := ifSt hs c12; have hQ := ifQt hQ c12
          refine g_aload_n 1 dX12_dayFor_86 rfl ?_
          refine g_getR 0 (rgC 0) fd_X12_26 dF_Wd rfl rfl dX12_dayFor_87 ?_
          refine g_iload 5 dX12_dayFor_90 rfl ?_
          refine g_iload_n 2 dX12_dayFor_92 rfl ?_
          have h13 := hs.1; have hs := hs.2
          refine g_callV (As := [.int x4, .int x1]) (st := []) (rgC 0) (c_X7_turnBehind E z11.2 0 lt02 x4 x1 h13) mt_X7_turnBehind ml_X12_408 (dF_Rg lt02) rfl rfl sg_X7_turnBehind rfl (by decide) (Nat.le_of_ble_eq_true rfl) dX12_dayFor_93 ?_
          rintro _ _ ⟨q1, q2⟩; rw [q1, q2]; clear q1 q2
          refine g_topI (fun v14 hv14 => ?_)
          have hQ := bndQ hQ v14 hv14; have hs := bndS hs v14 hv14
          refine g_istore _ dX12_dayFor_96 (by decide) rfl ?_
          refine g_iinc 6 (v := x5 + 1) _ dX12_dayFor_98 rfl rfl (by decide) rfl ?_
          refine g_goto 46 dX12_dayFor_101 (by decide) ?_
          refine g_sub [3, 4, 5, 6, 1, 0] _ rfl ?_
          exact ih z11.2 v14 (x5 + 1) hs hQ
        · have hs := ifSf hs c12; have hQ := ifQf hQ c12
          refine g_iload 5 dX12_dayFor_83 rfl ?_
          exact g_iret rfl dX12_dayFor_85 (hK _ hQ)
def f_X12_dayFor (M : gM) (x1 : Int32) (x2 : Int32) (x3 : Int32) : Int32 × gM :=
  if (f_X7_isPerson M 0 x1) = 0 then
    (((-1), M))
  else
    (if (f_X7_isPerson M 0 x2) = 0 then
      (((-1), M))
    else
      (if x1 = x2 then
        (((-1), M))
      else
        (if (f_X7_isThing M 0 x3) = 0 then
          (((-1), M))
        else
          (f_X12_dayFor_46 x1 x2 x3 FU M 0 0))))
def s_X12_dayFor (M : gM) (x1 : Int32) (x2 : Int32) (x3 : Int32) : Prop :=
  (s_X7_isPerson M 0 x1) ∧
  (if (f_X7_isPerson M 0 x1) = 0 then
    (True)
  else
    ((s_X7_isPerson M 0 x2) ∧
    (if (f_X7_isPerson M 0 x2) = 0 then
      (True)
    else
      (if x1 = x2 then
        (True)
      else
        ((s_X7_isThing M 0 x3) ∧
        (if (f_X7_isThing M 0 x3) = 0 then
          (True)
        else
          (s_X12_dayFor_46 x1 x2 x3 FU M 0 0)))))))
theorem o_X12_dayFor (M : gM) (x1 : Int32) (x2 : Int32) (x3 : Int32) : offW [20, 51, 52, 53, 54, 55, 56, 57, 58, 59, 60, 61] M (f_X12_dayFor M x1 x2 x3).2 := by
  rw [f_X12_dayFor]
  refine offI2 ?_ ?_
  · exact offR
  · refine offI2 ?_ ?_
    · exact offR
    · refine offI2 ?_ ?_
      · exact offR
      · refine offI2 ?_ ?_
        · exact offR
        · exact (o_X12_dayFor_46 x1 x2 x3 FU M 0 0)
set_option maxRecDepth 100000 in
set_option maxHeartbeats 4000000 in
theorem t_X12_dayFor {E : gE} {K : Int32 × gM → Prop} {Q : Option Value → gM → Prop} (hK : ∀ z : Int32 × gM, K z → Q (some (.int z.1)) z.2) (M : gM) (x1 : Int32) (x2 : Int32) (x3 : Int32)  (hs : s_X12_dayFor M x1 x2 x3) (hQ : K (f_X12_dayFor M x1 x2 x3)) : gG E RX12 cX12_dayFor 7 (some .int) (rm 7) 0 [(0, .ref (gla E 0)), (1, .int x1), (2, .int x2), (3, .int x3)] [] M Q := by
  rw [s_X12_dayFor] at hs
  rw [f_X12_dayFor] at hQ
  refine g_aload_n 0 dX12_dayFor_0 rfl ?_
  refine g_getR 0 (rgC 0) fd_X12_26 dF_Wd rfl rfl dX12_dayFor_1 ?_
  refine g_iload_n 1 dX12_dayFor_4 rfl ?_
  have h1 := hs.1; have hs := hs.2
  refine g_callV (As := [.int x1]) (st := []) (rgC 0) (c_X7_isPerson E M 0 lt02 x1 h1) mt_X7_isPerson ml_X12_101 (dF_Rg lt02) rfl rfl sg_X7_isPerson rfl (by decide) (Nat.le_of_ble_eq_true rfl) dX12_dayFor_5 ?_
  rintro _ _ ⟨q1, q2⟩; rw [q1, q2]; clear q1 q2
  refine g_if_eq 38 dX12_dayFor_8 (by decide) (fun c2 => ?_) (fun c2 => ?_)
  · have hs := ifSt hs c2; have hQ := ifQt hQ c2
    refine g_iconst (v := (-1)) dX12_dayFor_38 (by decide) ?_
    exact g_iret rfl dX12_dayFor_39 (hK _ hQ)
  · have hs := ifSf hs c2; have hQ := ifQf hQ c2
    refine g_aload_n 0 dX12_dayFor_11 rfl ?_
    refine g_getR 0 (rgC 0) fd_X12_26 dF_Wd rfl rfl dX12_dayFor_12 ?_
    refine g_iload_n 2 dX12_dayFor_15 rfl ?_
    have h3 := hs.1; have hs := hs.2
    refine g_callV (As := [.int x2]) (st := []) (rgC 0) (c_X7_isPerson E M 0 lt02 x2 h3) mt_X7_isPerson ml_X12_101 (dF_Rg lt02) rfl rfl sg_X7_isPerson rfl (by decide) (Nat.le_of_ble_eq_true rfl) dX12_dayFor_16 ?_
    rintro _ _ ⟨q1, q2⟩; rw [q1, q2]; clear q1 q2
    refine g_if_eq 38 dX12_dayFor_19 (by decide) (fun c4 => ?_) (fun c4 => ?_)
    · have hs := ifSt hs c4; have hQ := ifQt hQ c4
      refine g_iconst (v := (-1)) dX12_dayFor_38 (by decide) ?_
      exact g_iret rfl dX12_dayFor_39 (hK _ hQ)
    · have hs := ifSf hs c4; have hQ := ifQf hQ c4
      refine g_iload_n 1 dX12_dayFor_22 rfl ?_
      refine g_iload_n 2 dX12_dayFor_23 rfl ?_
      refine g_icmp_eq 38 dX12_dayFor_24 (by decide) (fun c5 => ?_) (fun c5 => ?_)
      · have hs := ifSt hs c5; have hQ := ifQt hQ c5
        refine g_iconst (v := (-1)) dX12_dayFor_38 (by decide) ?_
        exact g_iret rfl dX12_dayFor_39 (hK _ hQ)
      · have hs := ifSf hs c5; have hQ := ifQf hQ c5
        refine g_aload_n 0 dX12_dayFor_27 rfl ?_
        refine g_getR 0 (rgC 0) fd_X12_26 dF_Wd rfl rfl dX12_dayFor_28 ?_
        refine g_iload_n 3 dX12_dayFor_31 rfl ?_
        have h6 := hs.1; have hs := hs.2
        refine g_callV (As := [.int x3]) (st := []) (rgC 0) (c_X7_isThing E M 0 lt02 x3 h6) mt_X7_isThing ml_X12_189 (dF_Rg lt02) rfl rfl sg_X7_isThing rfl (by decide) (Nat.le_of_ble_eq_true rfl) dX12_dayFor_32 ?_
        rintro _ _ ⟨q1, q2⟩; rw [q1, q2]; clear q1 q2
        refine g_if_ne 40 dX12_dayFor_35 (by decide) (fun c7 => ?_) (fun c7 => ?_)
        · have hs := ifSf hs c7; have hQ := ifQf hQ c7
          refine g_iconst (v := 0) dX12_dayFor_40 (by decide) ?_
          refine g_istore _ dX12_dayFor_41 (by decide) rfl ?_
          refine g_iconst (v := 0) dX12_dayFor_43 (by decide) ?_
          refine g_istore _ dX12_dayFor_44 (by decide) rfl ?_
          refine g_sub [2, 3, 4, 5, 1, 0] _ rfl ?_
          exact t_X12_dayFor_46 hK x1 x2 x3 FU M 0 0 hs hQ
        · have hs := ifSt hs c7; have hQ := ifQt hQ c7
          refine g_iconst (v := (-1)) dX12_dayFor_38 (by decide) ?_
          exact g_iret rfl dX12_dayFor_39 (hK _ hQ)
theorem c_X12_dayFor (E : gE) (M : gM) (x1 : Int32) (x2 : Int32) (x3 : Int32) (hs : s_X12_dayFor M x1 x2 x3) : gC E yX12_dayFor cX12_dayFor 7 (some .int) (rm 7) [.ref (gla E 0), .int x1, .int x2, .int x3] M (fun o N => o = some (.int (f_X12_dayFor M x1 x2 x3).1) ∧ N = (f_X12_dayFor M x1 x2 x3).2) :=
  gC.of (by decide +kernel) (Nat.le_of_ble_eq_true rfl) rfl (t_X12_dayFor (K := fun z => z = f_X12_dayFor M x1 x2 x3) (fun z hz => by rw [hz]; exact ⟨rfl, rfl⟩) M x1 x2 x3 hs rfl)
def f_X12_text (M : gM) (x1 : Int32) : Int32 × gM :=
  if x1 < 0 then
    (((-2), M))
  else
    (if x1 ≤ (rdI M 0 0 0 0) then
      (bnd (wrI M 0 0 0 0 0) fun M3 =>
      (bnd (f_X11_cutTape M3 x1) fun M5 =>
      (bnd (f_X8_readAll M5 1) fun M7 =>
      (bnd (wrI M7 1 0 0 0 (rdI M7 48 1 0 0)) fun M8 =>
      (bnd (wrI M8 2 0 0 0 (rdI M8 49 1 0 0)) fun M9 =>
      (if (rdI M9 1 0 0 0) = 0 then
        (bnd (f_X8_readAll M9 0) fun M12 =>
        (bnd (f_X2_forgetAll M12) fun M14 =>
        ((rdI M14 4 0 0 0, M14))))
      else
        (((-1), M9))))))))
    else
      (((-2), M)))
def s_X12_text (M : gM) (x1 : Int32) : Prop :=
  if x1 < 0 then
    (True)
  else
    (if x1 ≤ (rdI M 0 0 0 0) then
      (bndP (wrI M 0 0 0 0 0) fun M3 =>
      ((s_X11_cutTape M3 x1) ∧
      (bndP (f_X11_cutTape M3 x1) fun M5 =>
      ((s_X8_readAll M5 1) ∧
      (bndP (f_X8_readAll M5 1) fun M7 =>
      (bndP (wrI M7 1 0 0 0 (rdI M7 48 1 0 0)) fun M8 =>
      (bndP (wrI M8 2 0 0 0 (rdI M8 49 1 0 0)) fun M9 =>
      (if (rdI M9 1 0 0 0) = 0 then
        ((s_X8_readAll M9 0) ∧
        (bndP (f_X8_readAll M9 0) fun M12 =>
        ((s_X2_forgetAll M12) ∧
        (bndP (f_X2_forgetAll M12) fun M14 =>
        (True)))))
      else
        (True)))))))))
    else
      (True))
theorem o_X12_text (M : gM) (x1 : Int32) : offW [0, 1, 2, 4, 5, 6, 7, 8, 9, 10, 11, 12, 13, 14, 15, 16, 17, 18, 19, 20, 21, 22, 23, 24, 25, 26, 27, 28, 29, 30, 31, 32, 33, 34, 35, 36, 37, 38, 39, 40, 41, 42, 43, 44, 45, 46, 47, 48, 49, 50, 63] M (f_X12_text M x1).2 := by
  rw [f_X12_text]
  refine offI2 ?_ ?_
  · exact offR
  · refine offI2 ?_ ?_
    · refine offB2 (offR.wI (by decide)) (fun M3 oM3 => ?_)
      refine offB2 (oM3.tr ((o_X11_cutTape M3 x1).mono (by decide))) (fun M5 oM5 => ?_)
      refine offB2 (oM5.tr ((o_X8_readAll M5 1).mono (by decide))) (fun M7 oM7 => ?_)
      refine offB2 (oM7.wI (by decide)) (fun M8 oM8 => ?_)
      refine offB2 (oM8.wI (by decide)) (fun M9 oM9 => ?_)
      refine offI2 ?_ ?_
      · refine offB2 (oM9.tr ((o_X8_readAll M9 0).mono (by decide))) (fun M12 oM12 => ?_)
        refine offB2 (oM12.tr ((o_X2_forgetAll M12).mono (by decide))) (fun M14 oM14 => ?_)
        exact oM14
      · exact oM9
    · exact offR
set_option maxRecDepth 100000 in
set_option maxHeartbeats 4000000 in
theorem t_X12_text {E : gE} {K : Int32 × gM → Prop} {Q : Option Value → gM → Prop} (hK : ∀ z : Int32 × gM, K z → Q (some (.int z.1)) z.2) (M : gM) (x1 : Int32)  (hs : s_X12_text M x1) (hQ : K (f_X12_text M x1)) : gG E RX12 cX12_text 2 (some .int) (rm 9) 0 [(0, .ref (gla E 0)), (1, .int x1)] [] M Q := by
  rw [s_X12_text] at hs
  rw [f_X12_text] at hQ
  refine g_iload_n 1 dX12_text_0 rfl ?_
  refine g_if_lt 12 dX12_text_1 (by decide) (fun c1 => ?_) (fun c1 => ?_)
  · have hs := ifSt hs c1; have hQ := ifQt hQ c1
    refine g_bipush (v := (-2)) dX12_text_12 (by decide) ?_
    exact g_iret rfl dX12_text_14 (hK _ hQ)
  · have hs := ifSf hs c1; have hQ := ifQf hQ c1
    refine g_iload_n 1 dX12_text_4 rfl ?_
    refine g_aload_n 0 dX12_text_5 rfl ?_
    refine g_getI 0 fd_X12_13 dF_Wd rfl dX12_text_6 ?_
    refine g_icmp_le 15 dX12_text_9 (by decide) (fun c2 => ?_) (fun c2 => ?_)
    · have hs := ifSt hs c2; have hQ := ifQt hQ c2
      refine g_aload_n 0 dX12_text_15 rfl ?_
      refine g_iconst (v := 0) dX12_text_16 (by decide) ?_
      refine g_putI 0 fd_X12_13 dF_Wd rfl dX12_text_17 (fun M3 hM3 => ?_)
      have hQ := bndQ hQ M3 hM3; have hs := bndS hs M3 hM3
      refine g_aload_n 0 dX12_text_20 rfl ?_
      refine g_getR 0 204 fd_X12_38 dF_Wd rfl rfl dX12_text_21 ?_
      refine g_iload_n 1 dX12_text_24 rfl ?_
      have h4 := hs.1; have hs := hs.2
      refine g_callV (As := [.int x1]) (st := []) 204 (c_X11_cutTape E M3 x1 h4) mt_X11_cutTape ml_X12_83 dF_Tk rfl rfl sg_X11_cutTape rfl (by decide) (Nat.le_of_ble_eq_true rfl) dX12_text_25 ?_
      rintro _ M5 ⟨rfl, hM5⟩
      have hQ := bndQ hQ M5 hM5; have hs := bndS hs M5 hM5
      refine g_aload_n 0 dX12_text_28 rfl ?_
      refine g_getR 0 (trC 1) fd_X12_47 dF_Wd rfl rfl dX12_text_29 ?_
      have h6 := hs.1; have hs := hs.2
      refine g_callV (As := []) (st := []) (trC 1) (c_X8_readAll E M5 1 lt12 h6) mt_X8_readAll ml_X12_86 (dF_Tr lt12) rfl rfl sg_X8_readAll rfl (by decide) (Nat.le_of_ble_eq_true rfl) dX12_text_32 ?_
      rintro _ M7 ⟨rfl, hM7⟩
      have hQ := bndQ hQ M7 hM7; have hs := bndS hs M7 hM7
      refine g_aload_n 0 dX12_text_35 rfl ?_
      refine g_aload_n 0 dX12_text_36 rfl ?_
      refine g_getR 0 (trC 1) fd_X12_47 dF_Wd rfl rfl dX12_text_37 ?_
      refine g_getI (trC 1) fd_X12_89 (dF_Tr lt12) rfl dX12_text_40 ?_
      refine g_putI 0 fd_X12_17 dF_Wd rfl dX12_text_43 (fun M8 hM8 => ?_)
      have hQ := bndQ hQ M8 hM8; have hs := bndS hs M8 hM8
      refine g_aload_n 0 dX12_text_46 rfl ?_
      refine g_aload_n 0 dX12_text_47 rfl ?_
      refine g_getR 0 (trC 1) fd_X12_47 dF_Wd rfl rfl dX12_text_48 ?_
      refine g_getI (trC 1) fd_X12_92 (dF_Tr lt12) rfl dX12_text_51 ?_
      refine g_putI 0 fd_X12_20 dF_Wd rfl dX12_text_54 (fun M9 hM9 => ?_)
      have hQ := bndQ hQ M9 hM9; have hs := bndS hs M9 hM9
      refine g_aload_n 0 dX12_text_57 rfl ?_
      refine g_getI 0 fd_X12_17 dF_Wd rfl dX12_text_58 ?_
      refine g_if_eq 66 dX12_text_61 (by decide) (fun c10 => ?_) (fun c10 => ?_)
      · have hs := ifSt hs c10; have hQ := ifQt hQ c10
        refine g_aload_n 0 dX12_text_66 rfl ?_
        refine g_getR 0 (trC 0) fd_X12_51 dF_Wd rfl rfl dX12_text_67 ?_
        have h11 := hs.1; have hs := hs.2
        refine g_callV (As := []) (st := []) (trC 0) (c_X8_readAll E M9 0 lt02 h11) mt_X8_readAll ml_X12_86 (dF_Tr lt02) rfl rfl sg_X8_readAll rfl (by decide) (Nat.le_of_ble_eq_true rfl) dX12_text_70 ?_
        rintro _ M12 ⟨rfl, hM12⟩
        have hQ := bndQ hQ M12 hM12; have hs := bndS hs M12 hM12
        refine g_aload_n 0 dX12_text_73 rfl ?_
        refine g_getR 0 222 fd_X12_75 dF_Wd rfl rfl dX12_text_74 ?_
        have h13 := hs.1; have hs := hs.2
        refine g_callV (As := []) (st := []) 222 (c_X2_forgetAll E M12 h13) mt_X2_forgetAll ml_X12_95 dF_Hi rfl rfl sg_X2_forgetAll rfl (by decide) (Nat.le_of_ble_eq_true rfl) dX12_text_77 ?_
        rintro _ M14 ⟨rfl, hM14⟩
        have hQ := bndQ hQ M14 hM14; have hs := bndS hs M14 hM14
        refine g_aload_n 0 dX12_text_80 rfl ?_
        refine g_getR 0 (rgC 0) fd_X12_26 dF_Wd rfl rfl dX12_text_81 ?_
        refine g_getI (rgC 0) fd_X12_98 (dF_Rg lt02) rfl dX12_text_84 ?_
        exact g_iret rfl dX12_text_87 (hK _ hQ)
      · have hs := ifSf hs c10; have hQ := ifQf hQ c10
        refine g_iconst (v := (-1)) dX12_text_64 (by decide) ?_
        exact g_iret rfl dX12_text_65 (hK _ hQ)
    · have hs := ifSf hs c2; have hQ := ifQf hQ c2
      refine g_bipush (v := (-2)) dX12_text_12 (by decide) ?_
      exact g_iret rfl dX12_text_14 (hK _ hQ)
theorem c_X12_text (E : gE) (M : gM) (x1 : Int32) (hs : s_X12_text M x1) : gC E yX12_text cX12_text 2 (some .int) (rm 9) [.ref (gla E 0), .int x1] M (fun o N => o = some (.int (f_X12_text M x1).1) ∧ N = (f_X12_text M x1).2) :=
  gC.of (by decide +kernel) (Nat.le_of_ble_eq_true rfl) rfl (t_X12_text (K := fun z => z = f_X12_text M x1) (fun z hz => by rw [hz]; exact ⟨rfl, rfl⟩) M x1 hs rfl)
end
