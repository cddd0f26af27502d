set_option linter.all false
noncomputable section
def f_X8_indexOfName_2 (M : gM) (r : Nat) (kd : Nat) (x2 : Int32)  : Nat → Int32 → Int32
  | 0, _ => 0
  | n + 1, x3 =>
    if x2 ≤ x3 then
      ((-1))
    else
      (if (Int32.ofNat (nmL kd)) ≤ x3 then
        ((-1))
      else
        (if nn (rdI M 44 0 0 (nn (rdI M 47 r 0 0))) = 21 then
          (if (rdI M 50 r kd (nn x3)) = (rdI M 46 0 0 (nn (rdI M 47 r 0 0))) then
            (x3)
          else
            (f_X8_indexOfName_2 M r kd x2 n (x3 + 1)))
        else
          (f_X8_indexOfName_2 M r kd x2 n (x3 + 1))))
def s_X8_indexOfName_2 (M : gM) (r : Nat) (kd : Nat) (x2 : Int32)  : Nat → Int32 → Prop
  | 0, _ => False
  | n + 1, x3 =>
    if x2 ≤ x3 then
      (True)
    else
      (if (Int32.ofNat (nmL kd)) ≤ x3 then
        (True)
      else
        ((vp_in (rdI M 47 r 0 0) 1201) ∧
        ((nn (rdI M 44 0 0 (nn (rdI M 47 r 0 0))) < 26) ∧
        (if nn (rdI M 44 0 0 (nn (rdI M 47 r 0 0))) = 21 then
          ((vp_in x3 (nmL kd)) ∧
          ((vp_in (rdI M 47 r 0 0) 1201) ∧
          (if (rdI M 50 r kd (nn x3)) = (rdI M 46 0 0 (nn (rdI M 47 r 0 0))) then
            (True)
          else
            (s_X8_indexOfName_2 M r kd x2 n (x3 + 1)))))
        else
          (s_X8_indexOfName_2 M r kd x2 n (x3 + 1))))))
set_option maxRecDepth 100000 in
set_option maxHeartbeats 4000000 in
theorem t_X8_indexOfName_2 {E : gE} {K : Int32 → Prop} {Q : Option Value → gM → Prop} {M : gM} (hK : ∀ z : Int32, K z → Q (some (.int z)) M) (r : Nat) (kd : Nat) (x2 : Int32) (hr : r < 2) (hkd : kd < 3)  : ∀ (n : Nat) (x3 : Int32) , s_X8_indexOfName_2 M r kd x2  n x3 → K (f_X8_indexOfName_2 M r kd x2  n x3) → gG E RX8 cX8_indexOfName 4 (some .int) (rm 0) 2 [(0, .ref (gla E (trC r))), (1, .ref (gla E (trC r + 1 + kd))), (2, .int x2), (3, .int x3)] [] M Q := by
  intro n
  induction n with
  | zero => intro x3 hs hQ; exact (hs : False).elim
  | succ n ih =>
    intro x3 hs hQ
    rw [s_X8_indexOfName_2] at hs
    rw [f_X8_indexOfName_2] at hQ
    refine g_iload_n 3 dX8_indexOfName_2 rfl ?_
    refine g_iload_n 2 dX8_indexOfName_3 rfl ?_
    refine g_icmp_ge 57 dX8_indexOfName_4 (by decide) (fun c1 => ?_) (fun c1 => ?_)
    · have hs := ifSt hs c1; have hQ := ifQt hQ c1
      refine g_iconst (v := (-1)) dX8_indexOfName_57 (by decide) ?_
      exact g_iret rfl dX8_indexOfName_58 (hK _ hQ)
    · have hs := ifSf hs c1; have hQ := ifQf hQ c1
      refine g_iload_n 3 dX8_indexOfName_7 rfl ?_
      refine g_aload_n 1 dX8_indexOfName_8 rfl ?_
      refine g_alen (v := Int32.ofNat (nmL kd)) (trC r + 1 + kd) rfl (dF_Tr_names hr hkd) rfl dX8_indexOfName_9 ?_
      refine g_icmp_ge 57 dX8_indexOfName_10 (by decide) (fun c2 => ?_) (fun c2 => ?_)
      · have hs := ifSt hs c2; have hQ := ifQt hQ c2
        refine g_iconst (v := (-1)) dX8_indexOfName_57 (by decide) ?_
        exact g_iret rfl dX8_indexOfName_58 (hK _ hQ)
      · have hs := ifSf hs c2; have hQ := ifQf hQ c2
        refine g_aload_n 0 dX8_indexOfName_13 rfl ?_
        refine g_getR (trC r) 204 fd_X8_21 (dF_Tr hr) rfl rfl dX8_indexOfName_14 ?_
        refine g_getR 204 205 fd_X8_303 dF_Tk rfl rfl dX8_indexOfName_17 ?_
        refine g_aload_n 0 dX8_indexOfName_20 rfl ?_
        refine g_getI (trC r) fd_X8_34 (dF_Tr hr) rfl dX8_indexOfName_21 ?_
        have h3 := hs.1; have hs := hs.2
        refine g_eald 205 dF_Tk_kinds h3 dX8_indexOfName_24 ?_
        refine g_tok 21 (by decide) tl_X8_295 dX8_indexOfName_25 ?_
        have h4 := hs.1; have hs := hs.2
        refine g_acmp_ne 51 h4 (by decide) dX8_indexOfName_28 (by decide) (fun c5 => ?_) (fun c5 => ?_)
        · have hs := ifSf hs c5; have hQ := ifQf hQ c5
          refine g_iinc 3 (v := x3 + 1) _ dX8_indexOfName_51 rfl rfl (by decide) rfl ?_
          refine g_goto 2 dX8_indexOfName_54 (by decide) ?_
          refine g_sub [1, 2, 3, 0] _ rfl ?_
          exact ih (x3 + 1) hs hQ
        · have hs := ifSt hs c5; have hQ := ifQt hQ c5
          refine g_aload_n 1 dX8_indexOfName_31 rfl ?_
          refine g_iload_n 3 dX8_indexOfName_32 rfl ?_
          have h6 := hs.1; have hs := hs.2
          refine g_iald (trC r + 1 + kd) (dF_Tr_names hr hkd) h6 dX8_indexOfName_33 ?_
          refine g_aload_n 0 dX8_indexOfName_34 rfl ?_
          refine g_getR (trC r) 204 fd_X8_21 (dF_Tr hr) rfl rfl dX8_indexOfName_35 ?_
          refine g_getR 204 207 fd_X8_298 dF_Tk rfl rfl dX8_indexOfName_38 ?_
          refine g_aload_n 0 dX8_indexOfName_41 rfl ?_
          refine g_getI (trC r) fd_X8_34 (dF_Tr hr) rfl dX8_indexOfName_42 ?_
          have h7 := hs.1; have hs := hs.2
          refine g_iald 207 dF_Tk_values h7 dX8_indexOfName_45 ?_
          refine g_icmp_ne 51 dX8_indexOfName_46 (by decide) (fun c8 => ?_) (fun c8 => ?_)
          · have hs := ifSf hs c8; have hQ := ifQf hQ c8
            refine g_iinc 3 (v := x3 + 1) _ dX8_indexOfName_51 rfl rfl (by decide) rfl ?_
            refine g_goto 2 dX8_indexOfName_54 (by decide) ?_
            refine g_sub [1, 2, 3, 0] _ rfl ?_
            exact ih (x3 + 1) hs hQ
          · have hs := ifSt hs c8; have hQ := ifQt hQ c8
            refine g_iload_n 3 dX8_indexOfName_49 rfl ?_
            exact g_iret rfl dX8_indexOfName_50 (hK _ hQ)
def f_X8_indexOfName (M : gM) (r : Nat) (kd : Nat) (x2 : Int32) : Int32 :=
  f_X8_indexOfName_2 M r kd x2 FU 0
def s_X8_indexOfName (M : gM) (r : Nat) (kd : Nat) (x2 : Int32) : Prop :=
  s_X8_indexOfName_2 M r kd x2 FU 0
set_option maxRecDepth 100000 in
set_option maxHeartbeats 4000000 in
theorem t_X8_indexOfName {E : gE} {K : Int32 → Prop} {Q : Option Value → gM → Prop} {M : gM} (hK : ∀ z : Int32, K z → Q (some (.int z)) M)  (r : Nat) (kd : Nat) (x2 : Int32) (hr : r < 2) (hkd : kd < 3) (hs : s_X8_indexOfName M r kd x2) (hQ : K (f_X8_indexOfName M r kd x2)) : gG E RX8 cX8_indexOfName 4 (some .int) (rm 0) 0 [(0, .ref (gla E (trC r))), (1, .ref (gla E (trC r + 1 + kd))), (2, .int x2)] [] M Q := by
  rw [s_X8_indexOfName] at hs
  rw [f_X8_indexOfName] at hQ
  refine g_iconst (v := 0) dX8_indexOfName_0 (by decide) ?_
  refine g_istore_n _ dX8_indexOfName_1 (by decide) rfl ?_
  refine g_sub [1, 2, 3, 0] _ rfl ?_
  exact t_X8_indexOfName_2 hK r kd x2 hr hkd FU 0 hs hQ
theorem c_X8_indexOfName (E : gE) (M : gM) (r : Nat) (kd : Nat) (hr : r < 2) (hkd : kd < 3) (x2 : Int32) (hs : s_X8_indexOfName M r kd x2) : gC E yX8_indexOfName cX8_indexOfName 4 (some .int) (rm 0) [.ref (gla E (trC r)), .ref (gla E (trC r + 1 + kd)), .int x2] M (fun o N => o = some (.int (f_X8_indexOfName M r kd x2)) ∧ N = M) :=
  gC.of (by decide +kernel) (Nat.le_of_ble_eq_true rfl) rfl (t_X8_indexOfName (K := fun z => z = f_X8_indexOfName M r kd x2) (fun z hz => by rw [hz]; exact ⟨rfl, rfl⟩) r kd x2 hr hkd hs rfl)
def f_X8_comes (M : gM) (r : Nat) : Nat :=
  nn (rdI M 44 0 0 (nn (rdI M 47 r 0 0)))
def s_X8_comes (M : gM) (r : Nat) : Prop :=
  (vp_in (rdI M 47 r 0 0) 1201) ∧
  (True)
set_option maxRecDepth 100000 in
set_option maxHeartbeats 4000000 in
theorem t_X8_comes {E : gE} {K : Nat → Prop} {Q : Option Value → gM → Prop} {M : gM} (hK : ∀ z : Nat, K z → Q (some (.ref (gad E z))) M)  (r : Nat) (hr : r < 2) (hs : s_X8_comes M r) (hQ : K (f_X8_comes M r)) : gG E RX8 cX8_comes 1 (some (.object "WillDeposit$Token")) (rm 0) 0 [(0, .ref (gla E (trC r)))] [] M Q := by
  rw [s_X8_comes] at hs
  rw [f_X8_comes] at hQ
  refine g_aload_n 0 dX8_comes_0 rfl ?_
  refine g_getR (trC r) 204 fd_X8_21 (dF_Tr hr) rfl rfl dX8_comes_1 ?_
  refine g_getR 204 205 fd_X8_303 dF_Tk rfl rfl dX8_comes_4 ?_
  refine g_aload_n 0 dX8_comes_7 rfl ?_
  refine g_getI (trC r) fd_X8_34 (dF_Tr hr) rfl dX8_comes_8 ?_
  have h1 := hs.1; have hs := hs.2
  refine g_eald 205 dF_Tk_kinds h1 dX8_comes_11 ?_
  exact g_aret rfl dX8_comes_12 (hK _ hQ)
theorem c_X8_comes (E : gE) (M : gM) (r : Nat) (hr : r < 2) (hs : s_X8_comes M r) : gC E yX8_comes cX8_comes 1 (some (.object "WillDeposit$Token")) (rm 0) [.ref (gla E (trC r))] M (fun o N => o = some (.ref (gad E (f_X8_comes M r))) ∧ N = M) :=
  gC.of (by decide +kernel) (Nat.le_of_ble_eq_true rfl) rfl (t_X8_comes (K := fun z => z = f_X8_comes M r) (fun z hz => by rw [hz]; exact ⟨rfl, rfl⟩) r hr hs rfl)
def f_X8_takeToken (M : gM) (r : Nat) : gM :=
  if (rdI M 48 r 0 0) = 0 then
    (if (rdI M 41 0 0 0) ≤ (rdI M 47 r 0 0) then
      (M)
    else
      (bnd (wrI M 47 r 0 0 ((rdI M 47 r 0 0) + 1)) fun M3 =>
      (M3)))
  else
    (M)
def s_X8_takeToken (M : gM) (r : Nat) : Prop :=
  if (rdI M 48 r 0 0) = 0 then
    (if (rdI M 41 0 0 0) ≤ (rdI M 47 r 0 0) then
      (True)
    else
      (bndP (wrI M 47 r 0 0 ((rdI M 47 r 0 0) + 1)) fun M3 =>
      (True)))
  else
    (True)
theorem o_X8_takeToken (M : gM) (r : Nat) : offW [47] M (f_X8_takeToken M r) := by
  rw [f_X8_takeToken]
  refine offI ?_ ?_
  · refine offI ?_ ?_
    · exact offR
    · refine offB (offR.wI (by decide)) (fun M3 oM3 => ?_)
      exact oM3
  · exact offR
set_option maxRecDepth 100000 in
set_option maxHeartbeats 4000000 in
theorem t_X8_takeToken {E : gE} {K : gM → Prop} {Q : Option Value → gM → Prop} (hK : ∀ z : gM, K z → Q none z) (M : gM) (r : Nat) (hr : r < 2) (hs : s_X8_takeToken M r) (hQ : K (f_X8_takeToken M r)) : gG E RX8 cX8_takeToken 1 none (rm 0) 0 [(0, .ref (gla E (trC r)))] [] M Q := by
  rw [s_X8_takeToken] at hs
  rw [f_X8_takeToken] at hQ
  refine g_aload_n 0 dX8_takeToken_0 rfl ?_
  refine g_getI (trC r) fd_X8_38 (dF_Tr hr) rfl dX8_takeToken_1 ?_
  refine g_if_ne 31 dX8_takeToken_4 (by decide) (fun c1 => ?_) (fun c1 => ?_)
  · have hs := ifSf hs c1; have hQ := ifQf hQ c1
    exact g_vret rfl dX8_takeToken_31 (hK _ hQ)
  · have hs := ifSt hs c1; have hQ := ifQt hQ c1
    refine g_aload_n 0 dX8_takeToken_7 rfl ?_
    refine g_getI (trC r) fd_X8_34 (dF_Tr hr) rfl dX8_takeToken_8 ?_
    refine g_aload_n 0 dX8_takeToken_11 rfl ?_
    refine g_getR (trC r) 204 fd_X8_21 (dF_Tr hr) rfl rfl dX8_takeToken_12 ?_
    refine g_getI 204 fd_X8_313 dF_Tk rfl dX8_takeToken_15 ?_
    refine g_icmp_ge 31 dX8_takeToken_18 (by decide) (fun c2 => ?_) (fun c2 => ?_)
    · have hs := ifSt hs c2; have hQ := ifQt hQ c2
      exact g_vret rfl dX8_takeToken_31 (hK _ hQ)
    · have hs := ifSf hs c2; have hQ := ifQf hQ c2
      refine g_aload_n 0 dX8_takeToken_21 rfl ?_
      refine g_dup dX8_takeToken_22 rfl ?_
      refine g_getI (trC r) fd_X8_34 (dF_Tr hr) rfl dX8_takeToken_23 ?_
      refine g_iconst (v := 1) dX8_takeToken_26 (by decide) ?_
      refine g_iadd dX8_takeToken_27 ?_
      refine g_putI (trC r) fd_X8_34 (dF_Tr hr) rfl dX8_takeToken_28 (fun M3 hM3 => ?_)
      have hQ := bndQ hQ M3 hM3; have hs := bndS hs M3 hM3
      exact g_vret rfl dX8_takeToken_31 (hK _ hQ)
theorem c_X8_takeToken (E : gE) (M : gM) (r : Nat) (hr : r < 2) (hs : s_X8_takeToken M r) : gC E yX8_takeToken cX8_takeToken 1 none (rm 0) [.ref (gla E (trC r))] M (fun o N => o = none ∧ N = f_X8_takeToken M r) :=
  gC.of (by decide +kernel) (Nat.le_of_ble_eq_true rfl) rfl (t_X8_takeToken (K := fun z => z = f_X8_takeToken M r) (fun z hz => ⟨rfl, hz⟩) M r hr hs rfl)
def f_X8_fail (M : gM) (r : Nat) (x1 : Int32) : gM :=
  if (rdI M 48 r 0 0) = 0 then
    (bnd (wrI M 48 r 0 0 x1) fun M2 =>
    (bnd (wrI M2 49 r 0 0 (rdI M2 45 0 0 (nn (rdI M2 47 r 0 0)))) fun M4 =>
    (M4)))
  else
    (M)
def s_X8_fail (M : gM) (r : Nat) (x1 : Int32) : Prop :=
  if (rdI M 48 r 0 0) = 0 then
    (bndP (wrI M 48 r 0 0 x1) fun M2 =>
    ((vp_in (rdI M2 47 r 0 0) 1201) ∧
    (bndP (wrI M2 49 r 0 0 (rdI M2 45 0 0 (nn (rdI M2 47 r 0 0)))) fun M4 =>
    (True))))
  else
    (True)
theorem o_X8_fail (M : gM) (r : Nat) (x1 : Int32) : offW [48, 49] M (f_X8_fail M r x1) := by
  rw [f_X8_fail]
  refine offI ?_ ?_
  · refine offB (offR.wI (by decide)) (fun M2 oM2 => ?_)
    refine offB (oM2.wI (by decide)) (fun M4 oM4 => ?_)
    exact oM4
  · exact offR
set_option maxRecDepth 100000 in
set_option maxHeartbeats 4000000 in
theorem t_X8_fail {E : gE} {K : gM → Prop} {Q : Option Value → gM → Prop} (hK : ∀ z : gM, K z → Q none z) (M : gM) (r : Nat) (x1 : Int32) (hr : r < 2) (hs : s_X8_fail M r x1) (hQ : K (f_X8_fail M r x1)) : gG E RX8 cX8_fail 2 none (rm 0) 0 [(0, .ref (gla E (trC r))), (1, .int x1)] [] M Q := by
  rw [s_X8_fail] at hs
  rw [f_X8_fail] at hQ
  refine g_aload_n 0 dX8_fail_0 rfl ?_
  refine g_getI (trC r) fd_X8_38 (dF_Tr hr) rfl dX8_fail_1 ?_
  refine g_if_ne 28 dX8_fail_4 (by decide) (fun c1 => ?_) (fun c1 => ?_)
  · have hs := ifSf hs c1; have hQ := ifQf hQ c1
    exact g_vret rfl dX8_fail_28 (hK _ hQ)
  · have hs := ifSt hs c1; have hQ := ifQt hQ c1
    refine g_aload_n 0 dX8_fail_7 rfl ?_
    refine g_iload_n 1 dX8_fail_8 rfl ?_
    refine g_putI (trC r) fd_X8_38 (dF_Tr hr) rfl dX8_fail_9 (fun M2 hM2 => ?_)
    have hQ := bndQ hQ M2 hM2; have hs := bndS hs M2 hM2
    refine g_aload_n 0 dX8_fail_12 rfl ?_
    refine g_aload_n 0 dX8_fail_13 rfl ?_
    refine g_getR (trC r) 204 fd_X8_21 (dF_Tr hr) rfl rfl dX8_fail_14 ?_
    refine g_getR 204 206 fd_X8_316 dF_Tk rfl rfl dX8_fail_17 ?_
    refine g_aload_n 0 dX8_fail_20 rfl ?_
    refine g_getI (trC r) fd_X8_34 (dF_Tr hr) rfl dX8_fail_21 ?_
    have h3 := hs.1; have hs := hs.2
    refine g_iald 206 dF_Tk_places h3 dX8_fail_24 ?_
    refine g_putI (trC r) fd_X8_41 (dF_Tr hr) rfl dX8_fail_25 (fun M4 hM4 => ?_)
    have hQ := bndQ hQ M4 hM4; have hs := bndS hs M4 hM4
    exact g_vret rfl dX8_fail_28 (hK _ hQ)
theorem c_X8_fail (E : gE) (M : gM) (r : Nat) (hr : r < 2) (x1 : Int32) (hs : s_X8_fail M r x1) : gC E yX8_fail cX8_fail 2 none (rm 0) [.ref (gla E (trC r)), .int x1] M (fun o N => o = none ∧ N = f_X8_fail M r x1) :=
  gC.of (by decide +kernel) (Nat.le_of_ble_eq_true rfl) rfl (t_X8_fail (K := fun z => z = f_X8_fail M r x1) (fun z hz => ⟨rfl, hz⟩) M r x1 hr hs rfl)
def f_X8_failAtTaken (M : gM) (r : Nat) : gM :=
  if (rdI M 48 r 0 0) = 0 then
    (if (rdI M 47 r 0 0) ≤ 0 then
      (M)
    else
      (bnd (wrI M 48 r 0 0 3) fun M3 =>
      (bnd (wrI M3 49 r 0 0 (rdI M3 45 0 0 (nn ((rdI M3 47 r 0 0) - 1)))) fun M5 =>
      (M5))))
  else
    (M)
def s_X8_failAtTaken (M : gM) (r : Nat) : Prop :=
  if (rdI M 48 r 0 0) = 0 then
    (if (rdI M 47 r 0 0) ≤ 0 then
      (True)
    else
      (bndP (wrI M 48 r 0 0 3) fun M3 =>
      ((vp_in ((rdI M3 47 r 0 0) - 1) 1201) ∧
      (bndP (wrI M3 49 r 0 0 (rdI M3 45 0 0 (nn ((rdI M3 47 r 0 0) - 1)))) fun M5 =>
      (True)))))
  else
    (True)
theorem o_X8_failAtTaken (M : gM) (r : Nat) : offW [48, 49] M (f_X8_failAtTaken M r) := by
  rw [f_X8_failAtTaken]
  refine offI ?_ ?_
  · refine offI ?_ ?_
    · exact offR
    · refine offB (offR.wI (by decide)) (fun M3 oM3 => ?_)
      refine offB (oM3.wI (by decide)) (fun M5 oM5 => ?_)
      exact oM5
  · exact offR
set_option maxRecDepth 100000 in
set_option maxHeartbeats 4000000 in
theorem t_X8_failAtTaken {E : gE} {K : gM → Prop} {Q : Option Value → gM → Prop} (hK : ∀ z : gM, K z → Q none z) (M : gM) (r : Nat) (hr : r < 2) (hs : s_X8_failAtTaken M r) (hQ : K (f_X8_failAtTaken M r)) : gG E RX8 cX8_failAtTaken 1 none (rm 0) 0 [(0, .ref (gla E (trC r)))] [] M Q := by
  rw [s_X8_failAtTaken] at hs
  rw [f_X8_failAtTaken] at hQ
  refine g_aload_n 0 dX8_failAtTaken_0 rfl ?_
  refine g_getI (trC r) fd_X8_38 (dF_Tr hr) rfl dX8_failAtTaken_1 ?_
  refine g_if_ne 37 dX8_failAtTaken_4 (by decide) (fun c1 => ?_) (fun c1 => ?_)
  · have hs := ifSf hs c1; have hQ := ifQf hQ c1
    exact g_vret rfl dX8_failAtTaken_37 (hK _ hQ)
  · have hs := ifSt hs c1; have hQ := ifQt hQ c1
    refine g_aload_n 0 dX8_failAtTaken_7 rfl ?_
    refine g_getI (trC r) fd_X8_34 (dF_Tr hr) rfl dX8_failAtTaken_8 ?_
    refine g_if_le 37 dX8_failAtTaken_11 (by decide) (fun c2 => ?_) (fun c2 => ?_)
    · have hs := ifSt hs c2; have hQ := ifQt hQ c2
      exact g_vret rfl dX8_failAtTaken_37 (hK _ hQ)
    · have hs := ifSf hs c2; have hQ := ifQf hQ c2
      refine g_aload_n 0 dX8_failAtTaken_14 rfl ?_
      refine g_iconst (v := 3) dX8_failAtTaken_15 (by decide) ?_
      refine g_putI (trC r) fd_X8_38 (dF_Tr hr) rfl dX8_failAtTaken_16 (fun M3 hM3 => ?_)
      have hQ := bndQ hQ M3 hM3; have hs := bndS hs M3 hM3
      refine g_aload_n 0 dX8_failAtTaken_19 rfl ?_
      refine g_aload_n 0 dX8_failAtTaken_20 rfl ?_
      refine g_getR (trC r) 204 fd_X8_21 (dF_Tr hr) rfl rfl dX8_failAtTaken_21 ?_
      refine g_getR 204 206 fd_X8_316 dF_Tk rfl rfl dX8_failAtTaken_24 ?_
      refine g_aload_n 0 dX8_failAtTaken_27 rfl ?_
      refine g_getI (trC r) fd_X8_34 (dF_Tr hr) rfl dX8_failAtTaken_28 ?_
      refine g_iconst (v := 1) dX8_failAtTaken_31 (by decide) ?_
      refine g_isub dX8_failAtTaken_32 ?_
      have h4 := hs.1; have hs := hs.2
      refine g_iald 206 dF_Tk_places h4 dX8_failAtTaken_33 ?_
      refine g_putI (trC r) fd_X8_41 (dF_Tr hr) rfl dX8_failAtTaken_34 (fun M5 hM5 => ?_)
      have hQ := bndQ hQ M5 hM5; have hs := bndS hs M5 hM5
      exact g_vret rfl dX8_failAtTaken_37 (hK _ hQ)
theorem c_X8_failAtTaken (E : gE) (M : gM) (r : Nat) (hr : r < 2) (hs : s_X8_failAtTaken M r) : gC E yX8_failAtTaken cX8_failAtTaken 1 none (rm 0) [.ref (gla E (trC r))] M (fun o N => o = none ∧ N = f_X8_failAtTaken M r) :=
  gC.of (by decide +kernel) (Nat.le_of_ble_eq_true rfl) rfl (t_X8_failAtTaken (K := fun z => z = f_X8_failAtTaken M r) (fun z hz => ⟨rfl, hz⟩) M r hr hs rfl)
def f_X11_skipBlanks_39 (M : gM) (k0 : gM → gM) : gM :=
  bnd (wrI M 43 0 0 0 ((rdI M 43 0 0 0) + 1)) fun M6 =>
  (k0 M6)
def s_X11_skipBlanks_39 (M : gM) (q0 : gM → Prop) : Prop :=
  bndP (wrI M 43 0 0 0 ((rdI M 43 0 0 0) + 1)) fun M6 =>
  (q0 M6)
theorem o_X11_skipBlanks_39 (M : gM) (k0 : gM → gM) (ho0 : ∀ (M : gM), offW [43] M (k0 M)) : offW [43] M (f_X11_skipBlanks_39 M k0) := by
  rw [f_X11_skipBlanks_39]
  refine offB (offR.wI (by decide)) (fun M6 oM6 => ?_)
  exact oM6.tr (ho0 M6)
set_option maxRecDepth 100000 in
set_option maxHeartbeats 4000000 in
theorem t_X11_skipBlanks_39 {E : gE} {K : gM → Prop} {Q : Option Value → gM → Prop} (hK : ∀ z : gM, K z → Q none z) (M : gM)  (k0 : gM → gM) (q0 : gM → Prop) (hk0 : ∀ (M : gM) , q0 M → K (k0 M) → gG E RX11 cX11_skipBlanks 1 none (rm 0) 0 [(0, .ref (gla E 204))] [] M Q) (hs : s_X11_skipBlanks_39 M q0) (hQ : K (f_X11_skipBlanks_39 M k0)) : gG E RX11 cX11_skipBlanks 1 none (rm 0) 39 [(0, .ref (gla E 204))] [] M Q := by
  rw [s_X11_skipBlanks_39] at hs
  rw [f_X11_skipBlanks_39] at hQ
  refine g_aload_n 0 dX11_skipBlanks_39 rfl ?_
  refine g_dup dX11_skipBlanks_40 rfl ?_
  refine g_getI 204 fd_X11_42 dF_Tk rfl dX11_skipBlanks_41 ?_
  refine g_iconst (v := 1) dX11_skipBlanks_44 (by decide) ?_
  refine g_iadd dX11_skipBlanks_45 ?_
  refine g_putI 204 fd_X11_42 dF_Tk rfl dX11_skipBlanks_46 (fun M6 hM6 => ?_)
  have hQ := bndQ hQ M6 hM6; have hs := bndS hs M6 hM6
  refine g_goto 0 dX11_skipBlanks_49 (by decide) ?_
  exact hk0 M6 hs hQ
def f_X11_skipBlanks_0   : Nat → gM → gM
  | 0, M => M
  | n + 1, M =>
    if (rdI M 42 0 0 0) ≤ (rdI M 43 0 0 0) then
      (M)
    else
      (if (rdI M 3 0 0 (nn (rdI M 43 0 0 0))) = 10 then
        (f_X11_skipBlanks_39 M (f_X11_skipBlanks_0  n))
      else
        (if (rdI M 3 0 0 (nn (rdI M 43 0 0 0))) = 32 then
          (f_X11_skipBlanks_39 M (f_X11_skipBlanks_0  n))
        else
          (M)))
def s_X11_skipBlanks_0   : Nat → gM → Prop
  | 0, _ => False
  | n + 1, M =>
    if (rdI M 42 0 0 0) ≤ (rdI M 43 0 0 0) then
      (True)
    else
      ((vp_in (rdI M 43 0 0 0) 1200) ∧
      (if (rdI M 3 0 0 (nn (rdI M 43 0 0 0))) = 10 then
        (s_X11_skipBlanks_39 M (s_X11_skipBlanks_0  n))
      else
        ((vp_in (rdI M 43 0 0 0) 1200) ∧
        (if (rdI M 3 0 0 (nn (rdI M 43 0 0 0))) = 32 then
          (s_X11_skipBlanks_39 M (s_X11_skipBlanks_0  n))
        else
          (True)))))
theorem o_X11_skipBlanks_0   : ∀ (n : Nat) (M : gM), offW [43] M (f_X11_skipBlanks_0   n M) := by
  intro n
  induction n with
  | zero => intro M; exact offR
  | succ n ih =>
    intro M
    rw [f_X11_skipBlanks_0]
    refine offI ?_ ?_
    · exact offR
    · refine offI ?_ ?_
      · exact (o_X11_skipBlanks_39 M (f_X11_skipBlanks_0  n) ih)
      · refine offI ?_ ?_
        · exact (o_X11_skipBlanks_39 M (f_X11_skipBlanks_0  n) ih)
        · exact offR
set_option maxRecDepth 100000 in
set_option maxHeartbeats 4000000 in
theorem t_X11_skipBlanks_0 {E : gE} {K : gM → Prop} {Q : Option Value → gM → Prop} (hK : ∀ z : gM, K z → Q none z)    : ∀ (n : Nat) (M : gM) , s_X11_skipBlanks_0   n M → K (f_X11_skipBlanks_0   n M) → gG E RX11 cX11_skipBlanks 1 none (rm 0) 0 [(0, .ref (gla E 204))] [] M Q := by
  intro n
  induction n with
  | zero => intro M hs hQ; exact (hs : False).elim
  | succ n ih =>
    intro M hs hQ
    rw [s_X11_skipBlanks_0] at hs
    rw [f_X11_skipBlanks_0] at hQ
    refine g_aload_n 0 dX11_skipBlanks_0 rfl ?_
    refine g_getI 204 fd_X11_42 dF_Tk rfl dX11_skipBlanks_1 ?_
    refine g_aload_n 0 dX11_skipBlanks_4 rfl ?_
    refine g_getI 204 fd_X11_38 dF_Tk rfl dX11_skipBlanks_5 ?_
    refine g_icmp_ge 52 dX11_skipBlanks_8 (by decide) (fun c1 => ?_) (fun c1 => ?_)
    · have hs := ifSt hs c1; have hQ := ifQt hQ c1
      exact g_vret rfl dX11_skipBlanks_52 (hK _ hQ)
    · have hs := ifSf hs c1; have hQ := ifQf hQ c1
      refine g_aload_n 0 dX11_skipBlanks_11 rfl ?_
      refine g_getR 204 1 fd_X11_24 dF_Tk rfl rfl dX11_skipBlanks_12 ?_
      refine g_aload_n 0 dX11_skipBlanks_15 rfl ?_
      refine g_getI 204 fd_X11_42 dF_Tk rfl dX11_skipBlanks_16 ?_
      have h2 := hs.1; have hs := hs.2
      refine g_bald 1 dF_tape h2 dX11_skipBlanks_19 ?_
      refine g_bipush (v := 10) dX11_skipBlanks_20 (by decide) ?_
      refine g_icmp_eq 39 dX11_skipBlanks_22 (by decide) (fun c3 => ?_) (fun c3 => ?_)
      · have hs := ifSt hs c3; have hQ := ifQt hQ c3
        exact t_X11_skipBlanks_39 hK M (f_X11_skipBlanks_0  n) (s_X11_skipBlanks_0  n) ih hs hQ
      · have hs := ifSf hs c3; have hQ := ifQf hQ c3
        refine g_aload_n 0 dX11_skipBlanks_25 rfl ?_
        refine g_getR 204 1 fd_X11_24 dF_Tk rfl rfl dX11_skipBlanks_26 ?_
        refine g_aload_n 0 dX11_skipBlanks_29 rfl ?_
        refine g_getI 204 fd_X11_42 dF_Tk rfl dX11_skipBlanks_30 ?_
        have h4 := hs.1; have hs := hs.2
        refine g_bald 1 dF_tape h4 dX11_skipBlanks_33 ?_
        refine g_bipush (v := 32) dX11_skipBlanks_34 (by decide) ?_
        refine g_icmp_ne 52 dX11_skipBlanks_36 (by decide) (fun c5 => ?_) (fun c5 => ?_)
        · have hs := ifSf hs c5; have hQ := ifQf hQ c5
          exact g_vret rfl dX11_skipBlanks_52 (hK _ hQ)
        · have hs := ifSt hs c5; have hQ := ifQt hQ c5
          exact t_X11_skipBlanks_39 hK M (f_X11_skipBlanks_0  n) (s_X11_skipBlanks_0  n) ih hs hQ
def f_X11_skipBlanks (M : gM) : gM :=
  f_X11_skipBlanks_0 FU M
def s_X11_skipBlanks (M : gM) : Prop :=
  s_X11_skipBlanks_0 FU M
theorem o_X11_skipBlanks (M : gM) : offW [43] M (f_X11_skipBlanks M) := by
  rw [f_X11_skipBlanks]
  exact (o_X11_skipBlanks_0  FU M)
set_option maxRecDepth 100000 in
set_option maxHeartbeats 4000000 in
theorem t_X11_skipBlanks {E : gE} {K : gM → Prop} {Q : Option Value → gM → Prop} (hK : ∀ z : gM, K z → Q none z) (M : gM)  (hs : s_X11_skipBlanks M) (hQ : K (f_X11_skipBlanks M)) : gG E RX11 cX11_skipBlanks 1 none (rm 0) 0 [(0, .ref (gla E 204))] [] M Q := by
  rw [s_X11_skipBlanks] at hs
  rw [f_X11_skipBlanks] at hQ
  exact t_X11_skipBlanks_0 hK FU M hs hQ
theorem c_X11_skipBlanks (E : gE) (M : gM)  (hs : s_X11_skipBlanks M) : gC E yX11_skipBlanks cX11_skipBlanks 1 none (rm 0) [.ref (gla E 204)] M (fun o N => o = none ∧ N = f_X11_skipBlanks M) :=
  gC.of (by decide +kernel) (Nat.le_of_ble_eq_true rfl) rfl (t_X11_skipBlanks (K := fun z => z = f_X11_skipBlanks M) (fun z hz => ⟨rfl, hz⟩) M hs rfl)
def f_X11_isDigit_16 (M : gM)  : Int32 :=
  0
def s_X11_isDigit_16 (M : gM)  : Prop :=
  True
set_option maxRecDepth 100000 in
set_option maxHeartbeats 4000000 in
theorem t_X11_isDigit_16 {E : gE} {K : Int32 → Prop} {Q : Option Value → gM → Prop} {M : gM} (hK : ∀ z : Int32, K z → Q (some (.int z)) M)    (hs : s_X11_isDigit_16 M ) (hQ : K (f_X11_isDigit_16 M )) : gG E RX11 cX11_isDigit 1 (some .boolean) (rm 0) 16 [] [] M Q := by
  rw [s_X11_isDigit_16] at hs
  rw [f_X11_isDigit_16] at hQ
  refine g_iconst (v := 0) dX11_isDigit_16 (by decide) ?_
  exact g_zret rfl (Or.inl rfl) dX11_isDigit_17 (hK _ hQ)
def f_X11_isDigit (M : gM) (x0 : Int32) : Int32 :=
  if x0 < 48 then
    (f_X11_isDigit_16 M)
  else
    (if 57 < x0 then
      (f_X11_isDigit_16 M)
    else
      (1))
def s_X11_isDigit (M : gM) (x0 : Int32) : Prop :=
  if x0 < 48 then
    (s_X11_isDigit_16 M)
  else
    (if 57 < x0 then
      (s_X11_isDigit_16 M)
    else
      (True))
set_option maxRecDepth 100000 in
set_option maxHeartbeats 4000000 in
theorem t_X11_isDigit {E : gE} {K : Int32 → Prop} {Q : Option Value → gM → Prop} {M : gM} (hK : ∀ z : Int32, K z → Q (some (.int z)) M)  (x0 : Int32)  (hs : s_X11_isDigit M x0) (hQ : K (f_X11_isDigit M x0)) : gG E RX11 cX11_isDigit 1 (some .boolean) (rm 0) 0 [(0, .int x0)] [] M Q := by
  rw [s_X11_isDigit] at hs
  rw [f_X11_isDigit] at hQ
  refine g_iload_n 0 dX11_isDigit_0 rfl ?_
  refine g_bipush (v := 48) dX11_isDigit_1 (by decide) ?_
  refine g_icmp_lt 16 dX11_isDigit_3 (by decide) (fun c1 => ?_) (fun c1 => ?_)
  · have hs := ifSt hs c1; have hQ := ifQt hQ c1
    refine g_sub [] _ rfl ?_
    exact t_X11_isDigit_16 hK hs hQ
  · have hs := ifSf hs c1; have hQ := ifQf hQ c1
    refine g_iload_n 0 dX11_isDigit_6 rfl ?_
    refine g_bipush (v := 57) dX11_isDigit_7 (by decide) ?_
    refine g_icmp_gt 16 dX11_isDigit_9 (by decide) (fun c2 => ?_) (fun c2 => ?_)
    · have hs := ifSt hs c2; have hQ := ifQt hQ c2
      refine g_sub [] _ rfl ?_
      exact t_X11_isDigit_16 hK hs hQ
    · have hs := ifSf hs c2; have hQ := ifQf hQ c2
      refine g_iconst (v := 1) dX11_isDigit_12 (by decide) ?_
      refine g_goto 17 dX11_isDigit_13 (by decide) ?_
      exact g_zret rfl (Or.inr rfl) dX11_isDigit_17 (hK _ hQ)
theorem c_X11_isDigit (E : gE) (M : gM) (x0 : Int32) (hs : s_X11_isDigit M x0) : gC E yX11_isDigit cX11_isDigit 1 (some .boolean) (rm 0) [.int x0] M (fun o N => o = some (.int (f_X11_isDigit M x0)) ∧ N = M) :=
  gC.of (by decide +kernel) (Nat.le_of_ble_eq_true rfl) rfl (t_X11_isDigit (K := fun z => z = f_X11_isDigit M x0) (fun z hz => by rw [hz]; exact ⟨rfl, rfl⟩) x0 hs rfl)
def f_X11_isLetter_16 (M : gM)  : Int32 :=
  0
def s_X11_isLetter_16 (M : gM)  : Prop :=
  True
set_option maxRecDepth 100000 in
set_option maxHeartbeats 4000000 in
theorem t_X11_isLetter_16 {E : gE} {K : Int32 → Prop} {Q : Option Value → gM → Prop} {M : gM} (hK : ∀ z : Int32, K z → Q (some (.int z)) M)    (hs : s_X11_isLetter_16 M ) (hQ : K (f_X11_isLetter_16 M )) : gG E RX11 cX11_isLetter 1 (some .boolean) (rm 0) 16 [] [] M Q := by
  rw [s_X11_isLetter_16] at hs
  rw [f_X11_isLetter_16] at hQ
  refine g_iconst (v := 0) dX11_isLetter_16 (by decide) ?_
  exact g_zret rfl (Or.inl rfl) dX11_isLetter_17 (hK _ hQ)
def f_X11_isLetter (M : gM) (x0 : Int32) : Int32 :=
  if x0 < 97 then
    (f_X11_isLetter_16 M)
  else
    (if 122 < x0 then
      (f_X11_isLetter_16 M)
    else
      (1))
def s_X11_isLetter (M : gM) (x0 : Int32) : Prop :=
  if x0 < 97 then
    (s_X11_isLetter_16 M)
  else
    (if 122 < x0 then
      (s_X11_isLetter_16 M)
    else
      (True))
set_option maxRecDepth 100000 in
set_option maxHeartbeats 4000000 in
theorem t_X11_isLetter {E : gE} {K : Int32 → Prop} {Q : Option Value → gM → Prop} {M : gM} (hK : ∀ z : Int32, K z → Q (some (.int z)) M)  (x0 : Int32)  (hs : s_X11_isLetter M x0) (hQ : K (f_X11_isLetter M x0)) : gG E RX11 cX11_isLetter 1 (some .boolean) (rm 0) 0 [(0, .int x0)] [] M Q := by
  rw [s_X11_isLetter] at hs
  rw [f_X11_isLetter] at hQ
  refine g_iload_n 0 dX11_isLetter_0 rfl ?_
  refine g_bipush (v := 97) dX11_isLetter_1 (by decide) ?_
  refine g_icmp_lt 16 dX11_isLetter_3 (by decide) (fun c1 => ?_) (fun c1 => ?_)
  · have hs := ifSt hs c1; have hQ := ifQt hQ c1
    refine g_sub [] _ rfl ?_
    exact t_X11_isLetter_16 hK hs hQ
  · have hs := ifSf hs c1; have hQ := ifQf hQ c1
    refine g_iload_n 0 dX11_isLetter_6 rfl ?_
    refine g_bipush (v := 122) dX11_isLetter_7 (by decide) ?_
    refine g_icmp_gt 16 dX11_isLetter_9 (by decide) (fun c2 => ?_) (fun c2 => ?_)
    · have hs := ifSt hs c2; have hQ := ifQt hQ c2
      refine g_sub [] _ rfl ?_
      exact t_X11_isLetter_16 hK hs hQ
    · have hs := ifSf hs c2; have hQ := ifQf hQ c2
      refine g_iconst (v := 1) dX11_isLetter_12 (by decide) ?_
      refine g_goto 17 dX11_isLetter_13 (by decide) ?_
      exact g_zret rfl (Or.inr rfl) dX11_isLetter_17 (hK _ hQ)
theorem c_X11_isLetter (E : gE) (M : gM) (x0 : Int32) (hs : s_X11_isLetter M x0) : gC E yX11_isLetter cX11_isLetter 1 (some .boolean) (rm 0) [.int x0] M (fun o N => o = some (.int (f_X11_isLetter M x0)) ∧ N = M) :=
  gC.of (by decide +kernel) (Nat.le_of_ble_eq_true rfl) rfl (t_X11_isLetter (K := fun z => z = f_X11_isLetter M x0) (fun z hz => by rw [hz]; exact ⟨rfl, rfl⟩) x0 hs rfl)
def f_X8_takePaperKind (M : gM) (r : Nat) : Int32 × gM :=
  if (swm (nn (f_Jx29ce0_ordinal_8abf5 M (f_X8_comes M r)))) = 12 then
    (bnd (f_X8_takeToken M r) fun M6 =>
    ((0, M6)))
  else
    (if (swm (nn (f_Jx29ce0_ordinal_8abf5 M (f_X8_comes M r)))) = 13 then
      (bnd (f_X8_takeToken M r) fun M8 =>
      ((1, M8)))
    else
      (if (swm (nn (f_Jx29ce0_ordinal_8abf5 M (f_X8_comes M r)))) = 14 then
        (bnd (f_X8_takeToken M r) fun M10 =>
        ((2, M10)))
      else
        (bnd (f_X8_fail M r 1) fun M12 =>
        (bnd (f_X8_takeToken M12 r) fun M14 =>
        ((0, M14))))))
def s_X8_takePaperKind (M : gM) (r : Nat) : Prop :=
  (s_X8_comes M r) ∧
  ((f_X8_comes M r < 26) ∧
  ((s_Jx29ce0_ordinal_8abf5 M (f_X8_comes M r)) ∧
  ((vp_in (f_Jx29ce0_ordinal_8abf5 M (f_X8_comes M r)) 26) ∧
  (if (swm (nn (f_Jx29ce0_ordinal_8abf5 M (f_X8_comes M r)))) = 12 then
    ((s_X8_takeToken M r) ∧
    (bndP (f_X8_takeToken M r) fun M6 =>
    (True)))
  else
    (if (swm (nn (f_Jx29ce0_ordinal_8abf5 M (f_X8_comes M r)))) = 13 then
      ((s_X8_takeToken M r) ∧
      (bndP (f_X8_takeToken M r) fun M8 =>
      (True)))
    else
      (if (swm (nn (f_Jx29ce0_ordinal_8abf5 M (f_X8_comes M r)))) = 14 then
        ((s_X8_takeToken M r) ∧
        (bndP (f_X8_takeToken M r) fun M10 =>
        (True)))
      else
        ((s_X8_fail M r 1) ∧
        (bndP (f_X8_fail M r 1) fun M12 =>
        ((s_X8_takeToken M12 r) ∧
        (bndP (f_X8_takeToken M12 r) fun M14 =>
        (True)))))))))))
theorem o_X8_takePaperKind (M : gM) (r : Nat) : offW [47, 48, 49] M (f_X8_takePaperKind M r).2 := by
  rw [f_X8_takePaperKind]
  refine offI2 ?_ ?_
  · refine offB2 (offR.tr ((o_X8_takeToken M r).mono (by decide))) (fun M6 oM6 => ?_)
    exact oM6
  refine offI2 ?_ ?_
  · refine offB2 (offR.tr ((o_X8_takeToken M r).mono (by decide))) (fun M8 oM8 => ?_)
    exact oM8
  refine offI2 ?_ ?_
  · refine offB2 (offR.tr ((o_X8_takeToken M r).mono (by decide))) (fun M10 oM10 => ?_)
    exact oM10
  refine offB2 (offR.tr ((o_X8_fail M r 1).mono (by decide))) (fun M12 oM12 => ?_)
  refine offB2 (oM12.tr ((o_X8_takeToken M12 r).mono (by decide))) (fun M14 oM14 => ?_)
  exact oM14
set_option maxRecDepth 100000 in
set_option maxHeartbeats 4000000 in
theorem t_X8_takePaperKind {E : gE} {K : Int32 × gM → Prop} {Q : Option Value → gM → Prop} (hK : ∀ z : Int32 × gM, K z → Q (some (.int z.1)) z.2) (M : gM) (r : Nat) (hr : r < 2) (hs : s_X8_takePaperKind M r) (hQ : K (f_X8_takePaperKind M r)) : gG E RX8 cX8_takePaperKind 2 (some .int) (rm 1) 0 [(0, .ref (gla E (trC r)))] [] M Q := by
  rw [s_X8_takePaperKind] at hs
  rw [f_X8_takePaperKind] at hQ
  refine g_iconst (v := 0) dX8_takePaperKind_0 (by decide) ?_
  refine g_istore_n _ dX8_takePaperKind_1 (by decide) rfl ?_
  refine g_sw sl_X8_54 dX8_takePaperKind_2 ?_
  refine g_aload_n 1 dX8_takePaperKind_5 rfl ?_
  have h1 := hs.1; have hs := hs.2
  refine g_callV (As := []) (st := [.ref (gstSW E)]) (trC r) (c_X8_comes E M r hr h1) mt_X8_comes ml_X8_44 (dF_Tr hr) rfl rfl sg_X8_comes rfl (by decide) (Nat.le_of_ble_eq_true rfl) dX8_takePaperKind_6 ?_
  rintro _ _ ⟨q1, q2⟩; rw [q1, q2]; clear q1 q2
  have h2 := hs.1; have hs := hs.2
  have h3 := hs.1; have hs := hs.2
  refine g_callO (st := [.ref (gstSW E)]) (f_X8_comes M r) h2 (c_Jx29ce0_ordinal_8abf5 E M (f_X8_comes M r) h2 h3) rfl rfl mo_X8_59 ow_sm ow_sel ow_in ow_ini ow_code ow_sg (by decide) (Nat.le_of_ble_eq_true rfl) dX8_takePaperKind_9 ?_
  rintro _ _ ⟨q1, q2⟩; rw [q1, q2]; clear q1 q2
  have h4 := hs.1; have hs := hs.2
  refine g_swald h4 dX8_takePaperKind_12 ?_
  by_cases c15 : (swm (nn (f_Jx29ce0_ordinal_8abf5 M (f_X8_comes M r)))) = 12
  · have hs := ifSt hs c15; have hQ := ifQt hQ c15
    refine g_tin 40 (k := 12) (z := 12) (off := 27) c15 dX8_takePaperKind_13 (by decide) (by decide) (by decide) rfl (by decide) ?_
    refine g_goto 58 dX8_takePaperKind_40 (by decide) ?_
    refine g_aload_n 1 dX8_takePaperKind_58 rfl ?_
    have h5 := hs.1; have hs := hs.2
    refine g_callV (As := []) (st := []) (trC r) (c_X8_takeToken E M r hr h5) mt_X8_takeToken ml_X8_94 (dF_Tr hr) rfl rfl sg_X8_takeToken rfl (by decide) (Nat.le_of_ble_eq_true rfl) dX8_takePaperKind_59 ?_
    rintro _ M6 ⟨rfl, hM6⟩
    have hQ := bndQ hQ M6 hM6; have hs := bndS hs M6 hM6
    refine g_iload_n 0 dX8_takePaperKind_62 rfl ?_
    exact g_iret rfl dX8_takePaperKind_63 (hK _ hQ)
  have hs := ifSf hs c15; have hQ := ifQf hQ c15
  by_cases c16 : (swm (nn (f_Jx29ce0_ordinal_8abf5 M (f_X8_comes M r)))) = 13
  · have hs := ifSt hs c16; have hQ := ifQt hQ c16
    refine g_tin 43 (k := 13) (z := 13) (off := 30) c16 dX8_takePaperKind_13 (by decide) (by decide) (by decide) rfl (by decide) ?_
    refine g_iconst (v := 1) dX8_takePaperKind_43 (by decide) ?_
    refine g_istore_n _ dX8_takePaperKind_44 (by decide) rfl ?_
    refine g_goto 58 dX8_takePaperKind_45 (by decide) ?_
    refine g_aload_n 1 dX8_takePaperKind_58 rfl ?_
    have h7 := hs.1; have hs := hs.2
    refine g_callV (As := []) (st := []) (trC r) (c_X8_takeToken E M r hr h7) mt_X8_takeToken ml_X8_94 (dF_Tr hr) rfl rfl sg_X8_takeToken rfl (by decide) (Nat.le_of_ble_eq_true rfl) dX8_takePaperKind_59 ?_
    rintro _ M8 ⟨rfl, hM8⟩
    have hQ := bndQ hQ M8 hM8; have hs := bndS hs M8 hM8
    refine g_iload_n 0 dX8_takePaperKind_62 rfl ?_
    exact g_iret rfl dX8_takePaperKind_63 (hK _ hQ)
  have hs := ifSf hs c16; have hQ := ifQf hQ c16
  by_cases c17 : (swm (nn (f_Jx29ce0_ordinal_8abf5 M (f_X8_comes M r)))) = 14
  · have hs := ifSt hs c17; have hQ := ifQt hQ c17
    refine g_tin 48 (k := 14) (z := 14) (off := 35) c17 dX8_takePaperKind_13 (by decide) (by decide) (by decide) rfl (by decide) ?_
    refine g_iconst (v := 2) dX8_takePaperKind_48 (by decide) ?_
    refine g_istore_n _ dX8_takePaperKind_49 (by decide) rfl ?_
    refine g_goto 58 dX8_takePaperKind_50 (by decide) ?_
    refine g_aload_n 1 dX8_takePaperKind_58 rfl ?_
    have h9 := hs.1; have hs := hs.2
    refine g_callV (As := []) (st := []) (trC r) (c_X8_takeToken E M r hr h9) mt_X8_takeToken ml_X8_94 (dF_Tr hr) rfl rfl sg_X8_takeToken rfl (by decide) (Nat.le_of_ble_eq_true rfl) dX8_takePaperKind_59 ?_
    rintro _ M10 ⟨rfl, hM10⟩
    have hQ := bndQ hQ M10 hM10; have hs := bndS hs M10 hM10
    refine g_iload_n 0 dX8_takePaperKind_62 rfl ?_
    exact g_iret rfl dX8_takePaperKind_63 (hK _ hQ)
  have hs := ifSf hs c17; have hQ := ifQf hQ c17
  refine g_tdf 53 dX8_takePaperKind_13 (fun h1 h2 => by have ec15 : ¬ Int32.toInt (swm (nn (f_Jx29ce0_ordinal_8abf5 M (f_X8_comes M r)))) = 12 := ne_ti c15 (by decide); have ec16 : ¬ Int32.toInt (swm (nn (f_Jx29ce0_ordinal_8abf5 M (f_X8_comes M r)))) = 13 := ne_ti c16 (by decide); have ec17 : ¬ Int32.toInt (swm (nn (f_Jx29ce0_ordinal_8abf5 M (f_X8_comes M r)))) = 14 := ne_ti c17 (by decide); exfalso; omega) (by decide) ?_
  refine g_aload_n 1 dX8_takePaperKind_53 rfl ?_
  refine g_iconst (v := 1) dX8_takePaperKind_54 (by decide) ?_
  have h11 := hs.1; have hs := hs.2
  refine g_callV (As := [.int 1]) (st := []) (trC r) (c_X8_fail E M r hr 1 h11) mt_X8_fail ml_X8_87 (dF_Tr hr) rfl rfl sg_X8_fail rfl (by decide) (Nat.le_of_ble_eq_true rfl) dX8_takePaperKind_55 ?_
  rintro _ M12 ⟨rfl, hM12⟩
  have hQ := bndQ hQ M12 hM12; have hs := bndS hs M12 hM12
  refine g_aload_n 1 dX8_takePaperKind_58 rfl ?_
  have h13 := hs.1; have hs := hs.2
  refine g_callV (As := []) (st := []) (trC r) (c_X8_takeToken E M12 r hr h13) mt_X8_takeToken ml_X8_94 (dF_Tr hr) rfl rfl sg_X8_takeToken rfl (by decide) (Nat.le_of_ble_eq_true rfl) dX8_takePaperKind_59 ?_
  rintro _ M14 ⟨rfl, hM14⟩
  have hQ := bndQ hQ M14 hM14; have hs := bndS hs M14 hM14
  refine g_iload_n 0 dX8_takePaperKind_62 rfl ?_
  exact g_iret rfl dX8_takePaperKind_63 (hK _ hQ)
theorem c_X8_takePaperKind (E : gE) (M : gM) (r : Nat) (hr : r < 2) (hs : s_X8_takePaperKind M r) : gC E yX8_takePaperKind cX8_takePaperKind 2 (some .int) (rm 1) [.ref (gla E (trC r))] M (fun o N => o = some (.int (f_X8_takePaperKind M r).1) ∧ N = (f_X8_takePaperKind M r).2) :=
  gC.of (by decide +kernel) (Nat.le_of_ble_eq_true rfl) rfl (t_X8_takePaperKind (K := fun z => z = f_X8_takePaperKind M r) (fun z hz => by rw [hz]; exact ⟨rfl, rfl⟩) M r hr hs rfl)
def f_X8_takeKnownName_17 (M : gM) (r : Nat) (kd : Nat) (x3 : Int32)  : Int32 × gM :=
  bnd (f_X8_takeToken M r) fun M7 =>
  (if (rdI M7 48 r 0 0) = 0 then
    ((x3, M7))
  else
    ((0, M7)))
def s_X8_takeKnownName_17 (M : gM) (r : Nat) (kd : Nat) (x3 : Int32)  : Prop :=
  (s_X8_takeToken M r) ∧
  (bndP (f_X8_takeToken M r) fun M7 =>
  (if (rdI M7 48 r 0 0) = 0 then
    (True)
  else
    (True)))
theorem o_X8_takeKnownName_17 (M : gM) (r : Nat) (kd : Nat) (x3 : Int32)  : offW [47, 48, 49] M (f_X8_takeKnownName_17 M r kd x3 ).2 := by
  rw [f_X8_takeKnownName_17]
  refine offB2 (offR.tr ((o_X8_takeToken M r).mono (by decide))) (fun M7 oM7 => ?_)
  refine offI2 ?_ ?_
  · exact oM7
  · exact oM7
set_option maxRecDepth 100000 in
set_option maxHeartbeats 4000000 in
theorem t_X8_takeKnownName_17 {E : gE} {K : Int32 × gM → Prop} {Q : Option Value → gM → Prop} (hK : ∀ z : Int32 × gM, K z → Q (some (.int z.1)) z.2) (M : gM) (r : Nat) (kd : Nat) (x3 : Int32) (hr : r < 2) (hkd : kd < 3)  (hs : s_X8_takeKnownName_17 M r kd x3 ) (hQ : K (f_X8_takeKnownName_17 M r kd x3 )) : gG E RX8 cX8_takeKnownName 4 (some .int) (rm 1) 17 [(0, .ref (gla E (trC r))), (3, .int x3)] [] M Q := by
  rw [s_X8_takeKnownName_17] at hs
  rw [f_X8_takeKnownName_17] at hQ
  refine g_aload_n 0 dX8_takeKnownName_17 rfl ?_
  have h6 := hs.1; have hs := hs.2
  refine g_callV (As := []) (st := []) (trC r) (c_X8_takeToken E M r hr h6) mt_X8_takeToken ml_X8_94 (dF_Tr hr) rfl rfl sg_X8_takeToken rfl (by decide) (Nat.le_of_ble_eq_true rfl) dX8_takeKnownName_18 ?_
  rintro _ M7 ⟨rfl, hM7⟩
  have hQ := bndQ hQ M7 hM7; have hs := bndS hs M7 hM7
  refine g_aload_n 0 dX8_takeKnownName_21 rfl ?_
  refine g_getI (trC r) fd_X8_38 (dF_Tr hr) rfl dX8_takeKnownName_22 ?_
  refine g_if_ne 32 dX8_takeKnownName_25 (by decide) (fun c8 => ?_) (fun c8 => ?_)
  · have hs := ifSf hs c8; have hQ := ifQf hQ c8
    refine g_iconst (v := 0) dX8_takeKnownName_32 (by decide) ?_
    exact g_iret rfl dX8_takeKnownName_33 (hK _ hQ)
  · have hs := ifSt hs c8; have hQ := ifQt hQ c8
    refine g_iload_n 1 dX8_takeKnownName_28 rfl ?_
    refine g_goto 33 dX8_takeKnownName_29 (by decide) ?_
    exact g_iret rfl dX8_takeKnownName_33 (hK _ hQ)
def f_X8_takeKnownName (M : gM) (r : Nat) (kd : Nat) (x2 : Int32) : Int32 × gM :=
  bnd (f_X8_indexOfName M r kd x2) fun v2 =>
  (if v2 = (-1) then
    (bnd (f_X8_fail M r 1) fun M5 =>
    (f_X8_takeKnownName_17 M5 r kd v2))
  else
    (f_X8_takeKnownName_17 M r kd v2))
def s_X8_takeKnownName (M : gM) (r : Nat) (kd : Nat) (x2 : Int32) : Prop :=
  (s_X8_indexOfName M r kd x2) ∧
  (bndP (f_X8_indexOfName M r kd x2) fun v2 =>
  (if v2 = (-1) then
    ((s_X8_fail M r 1) ∧
    (bndP (f_X8_fail M r 1) fun M5 =>
    (s_X8_takeKnownName_17 M5 r kd v2)))
  else
    (s_X8_takeKnownName_17 M r kd v2)))
theorem o_X8_takeKnownName (M : gM) (r : Nat) (kd : Nat) (x2 : Int32) : offW [47, 48, 49] M (f_X8_takeKnownName M r kd x2).2 := by
  rw [f_X8_takeKnownName]
  refine offV2 (fun v2 => ?_)
  refine offI2 ?_ ?_
  · refine offB2 (offR.tr ((o_X8_fail M r 1).mono (by decide))) (fun M5 oM5 => ?_)
    exact oM5.tr (o_X8_takeKnownName_17 M5 r kd v2)
  · exact (o_X8_takeKnownName_17 M r kd v2)
set_option maxRecDepth 100000 in
set_option maxHeartbeats 4000000 in
theorem t_X8_takeKnownName {E : gE} {K : Int32 × gM → Prop} {Q : Option Value → gM → Prop} (hK : ∀ z : Int32 × gM, K z → Q (some (.int z.1)) z.2) (M : gM) (r : Nat) (kd : Nat) (x2 : Int32) (hr : r < 2) (hkd : kd < 3) (hs : s_X8_takeKnownName M r kd x2) (hQ : K (f_X8_takeKnownName M r kd x2)) : gG E RX8 cX8_takeKnownName 4 (some .int) (rm 1) 0 [(0, .ref (gla E (trC r))), (1, .ref (gla E (trC r + 1 + kd))), (2, .int x2)] [] M Q := by
  rw [s_X8_takeKnownName] at hs
  rw [f_X8_takeKnownName] at hQ
  refine g_aload_n 0 dX8_takeKnownName_0 rfl ?_
  refine g_aload_n 1 dX8_takeKnownName_1 rfl ?_
  refine g_iload_n 2 dX8_takeKnownName_2 rfl ?_
  have h1 := hs.1; have hs := hs.2
  refine g_callV (As := [.ref (gla E (trC r + 1 + kd)), .int x2]) (st := []) (trC r) (c_X8_indexOfName E M r kd hr hkd x2 h1) mt_X8_indexOfName ml_X8_292 (dF_Tr hr) rfl rfl sg_X8_indexOfName rfl (by decide) (Nat.le_of_ble_eq_true rfl) dX8_takeKnownName_3 ?_
  rintro _ _ ⟨q1, q2⟩; rw [q1, q2]; clear q1 q2
  refine g_topI (fun v2 hv2 => ?_)
  have hQ := bndQ hQ v2 hv2; have hs := bndS hs v2 hv2
  refine g_istore_n _ dX8_takeKnownName_6 (by decide) rfl ?_
  refine g_iload_n 0 dX8_takeKnownName_7 rfl ?_
  refine g_iconst (v := (-1)) dX8_takeKnownName_8 (by decide) ?_
  refine g_icmp_ne 17 dX8_takeKnownName_9 (by decide) (fun c3 => ?_) (fun c3 => ?_)
  · have hs := ifSf hs c3; have hQ := ifQf hQ c3
    refine g_sub [1, 0] _ rfl ?_
    exact t_X8_takeKnownName_17 hK M r kd v2 hr hkd hs hQ
  · have hs := ifSt hs c3; have hQ := ifQt hQ c3
    refine g_aload_n 1 dX8_takeKnownName_12 rfl ?_
    refine g_iconst (v := 1) dX8_takeKnownName_13 (by decide) ?_
    have h4 := hs.1; have hs := hs.2
    refine g_callV (As := [.int 1]) (st := []) (trC r) (c_X8_fail E M r hr 1 h4) mt_X8_fail ml_X8_87 (dF_Tr hr) rfl rfl sg_X8_fail rfl (by decide) (Nat.le_of_ble_eq_true rfl) dX8_takeKnownName_14 ?_
    rintro _ M5 ⟨rfl, hM5⟩
    have hQ := bndQ hQ M5 hM5; have hs := bndS hs M5 hM5
    refine g_sub [1, 0] _ rfl ?_
    exact t_X8_takeKnownName_17 hK M5 r kd v2 hr hkd hs hQ
theorem c_X8_takeKnownName (E : gE) (M : gM) (r : Nat) (kd : Nat) (hr : r < 2) (hkd : kd < 3) (x2 : Int32) (hs : s_X8_takeKnownName M r kd x2) : gC E yX8_takeKnownName cX8_takeKnownName 4 (some .int) (rm 1) [.ref (gla E (trC r)), .ref (gla E (trC r + 1 + kd)), .int x2] M (fun o N => o = some (.int (f_X8_takeKnownName M r kd x2).1) ∧ N = (f_X8_takeKnownName M r kd x2).2) :=
  gC.of (by decide +kernel) (Nat.le_of_ble_eq_true rfl) rfl (t_X8_takeKnownName (K := fun z => z = f_X8_takeKnownName M r kd x2) (fun z hz => by rw [hz]; exact ⟨rfl, rfl⟩) M r kd x2 hr hkd hs rfl)
def f_X8_takeNewName_33 (M : gM) (r : Nat) (kd : Nat) (x2 : Int32)  : gM :=
  if (rdI M 48 r 0 0) = 0 then
    (if (Int32.ofNat (nmL kd)) ≤ x2 then
      (bnd (f_X8_takeToken M r) fun M15 =>
      (M15))
    else
      (bnd (wrI M 50 r kd (nn x2) (rdI M 46 0 0 (nn (rdI M 47 r 0 0)))) fun M18 =>
      (bnd (f_X8_takeToken M18 r) fun M20 =>
      (M20))))
  else
    (bnd (f_X8_takeToken M r) fun M12 =>
    (M12))
def s_X8_takeNewName_33 (M : gM) (r : Nat) (kd : Nat) (x2 : Int32)  : Prop :=
  if (rdI M 48 r 0 0) = 0 then
    (if (Int32.ofNat (nmL kd)) ≤ x2 then
      ((s_X8_takeToken M r) ∧
      (bndP (f_X8_takeToken M r) fun M15 =>
      (True)))
    else
      ((vp_in (rdI M 47 r 0 0) 1201) ∧
      ((vp_in x2 (nmL kd)) ∧
      (bndP (wrI M 50 r kd (nn x2) (rdI M 46 0 0 (nn (rdI M 47 r 0 0)))) fun M18 =>
      ((s_X8_takeToken M18 r) ∧
      (bndP (f_X8_takeToken M18 r) fun M20 =>
      (True)))))))
  else
    ((s_X8_takeToken M r) ∧
    (bndP (f_X8_takeToken M r) fun M12 =>
    (True)))
theorem o_X8_takeNewName_33 (M : gM) (r : Nat) (kd : Nat) (x2 : Int32)  : offW [47, 48, 49, 50] M (f_X8_takeNewName_33 M r kd x2 ) := by
  rw [f_X8_takeNewName_33]
  refine offI ?_ ?_
  · refine offI ?_ ?_
    · refine offB (offR.tr ((o_X8_takeToken M r).mono (by decide))) (fun M15 oM15 => ?_)
      exact oM15
    · refine offB (offR.wI (by decide)) (fun M18 oM18 => ?_)
      refine offB (oM18.tr ((o_X8_takeToken M18 r).mono (by decide))) (fun M20 oM20 => ?_)
      exact oM20
  · refine offB (offR.tr ((o_X8_takeToken M r).mono (by decide))) (fun M12 oM12 => ?_)
    exact oM12
set_option maxRecDepth 100000 in
set_option maxHeartbeats 4000000 in
theorem t_X8_takeNewName_33 {E : gE} {K : gM → Prop} {Q : Option Value → gM → Prop} (hK : ∀ z : gM, K z → Q none z) (M : gM) (r : Nat) (kd : Nat) (x2 : Int32) (hr : r < 2) (hkd : kd < 3)  (hs : s_X8_takeNewName_33 M r kd x2 ) (hQ : K (f_X8_takeNewName_33 M r kd x2 )) : gG E RX8 cX8_takeNewName 3 none (rm 1) 33 [(0, .ref (gla E (trC r))), (1, .ref (gla E (trC r + 1 + kd))), (2, .int x2)] [] M Q := by
  rw [s_X8_takeNewName_33] at hs
  rw [f_X8_takeNewName_33] at hQ
  refine g_aload_n 0 dX8_takeNewName_33 rfl ?_
  refine g_getI (trC r) fd_X8_38 (dF_Tr hr) rfl dX8_takeNewName_34 ?_
  refine g_if_ne 61 dX8_takeNewName_37 (by decide) (fun c10 => ?_) (fun c10 => ?_)
  · have hs := ifSf hs c10; have hQ := ifQf hQ c10
    refine g_aload_n 0 dX8_takeNewName_61 rfl ?_
    have h11 := hs.1; have hs := hs.2
    refine g_callV (As := []) (st := []) (trC r) (c_X8_takeToken E M r hr h11) mt_X8_takeToken ml_X8_94 (dF_Tr hr) rfl rfl sg_X8_takeToken rfl (by decide) (Nat.le_of_ble_eq_true rfl) dX8_takeNewName_62 ?_
    rintro _ M12 ⟨rfl, hM12⟩
    have hQ := bndQ hQ M12 hM12; have hs := bndS hs M12 hM12
    exact g_vret rfl dX8_takeNewName_65 (hK _ hQ)
  · have hs := ifSt hs c10; have hQ := ifQt hQ c10
    refine g_iload_n 2 dX8_takeNewName_40 rfl ?_
    refine g_aload_n 1 dX8_takeNewName_41 rfl ?_
    refine g_alen (v := Int32.ofNat (nmL kd)) (trC r + 1 + kd) rfl (dF_Tr_names hr hkd) rfl dX8_takeNewName_42 ?_
    refine g_icmp_ge 61 dX8_takeNewName_43 (by decide) (fun c13 => ?_) (fun c13 => ?_)
    · have hs := ifSt hs c13; have hQ := ifQt hQ c13
      refine g_aload_n 0 dX8_takeNewName_61 rfl ?_
      have h14 := hs.1; have hs := hs.2
      refine g_callV (As := []) (st := []) (trC r) (c_X8_takeToken E M r hr h14) mt_X8_takeToken ml_X8_94 (dF_Tr hr) rfl rfl sg_X8_takeToken rfl (by decide) (Nat.le_of_ble_eq_true rfl) dX8_takeNewName_62 ?_
      rintro _ M15 ⟨rfl, hM15⟩
      have hQ := bndQ hQ M15 hM15; have hs := bndS hs M15 hM15
      exact g_vret rfl dX8_takeNewName_65 (hK _ hQ)
    · have hs := ifSf hs c13; have hQ := ifQf hQ c13
      refine g_aload_n 1 dX8_takeNewName_46 rfl ?_
      refine g_iload_n 2 dX8_takeNewName_47 rfl ?_
      refine g_aload_n 0 dX8_takeNewName_48 rfl ?_
      refine g_getR (trC r) 204 fd_X8_21 (dF_Tr hr) rfl rfl dX8_takeNewName_49 ?_
      refine g_getR 204 207 fd_X8_298 dF_Tk rfl rfl dX8_takeNewName_52 ?_
      refine g_aload_n 0 dX8_takeNewName_55 rfl ?_
      refine g_getI (trC r) fd_X8_34 (dF_Tr hr) rfl dX8_takeNewName_56 ?_
      have h16 := hs.1; have hs := hs.2
      refine g_iald 207 dF_Tk_values h16 dX8_takeNewName_59 ?_
      have h17 := hs.1; have hs := hs.2
      refine g_iast (trC r + 1 + kd) (dF_Tr_names hr hkd) h17 dX8_takeNewName_60 (fun M18 hM18 => ?_)
      have hQ := bndQ hQ M18 hM18; have hs := bndS hs M18 hM18
      refine g_aload_n 0 dX8_takeNewName_61 rfl ?_
      have h19 := hs.1; have hs := hs.2
      refine g_callV (As := []) (st := []) (trC r) (c_X8_takeToken E M18 r hr h19) mt_X8_takeToken ml_X8_94 (dF_Tr hr) rfl rfl sg_X8_takeToken rfl (by decide) (Nat.le_of_ble_eq_true rfl) dX8_takeNewName_62 ?_
      rintro _ M20 ⟨rfl, hM20⟩
      have hQ := bndQ hQ M20 hM20; have hs := bndS hs M20 hM20
      exact g_vret rfl dX8_takeNewName_65 (hK _ hQ)
def f_X8_takeNewName (M : gM) (r : Nat) (kd : Nat) (x2 : Int32) : gM :=
  if f_X8_comes M r = 21 then
    (if (f_X8_indexOfName M r kd x2) = (-1) then
      (f_X8_takeNewName_33 M r kd x2)
    else
      (bnd (f_X8_fail M r 3) fun M7 =>
      (f_X8_takeNewName_33 M7 r kd x2)))
  else
    (bnd (f_X8_fail M r 1) fun M9 =>
    (f_X8_takeNewName_33 M9 r kd x2))
def s_X8_takeNewName (M : gM) (r : Nat) (kd : Nat) (x2 : Int32) : Prop :=
  (s_X8_comes M r) ∧
  ((f_X8_comes M r < 26) ∧
  (if f_X8_comes M r = 21 then
    ((s_X8_indexOfName M r kd x2) ∧
    (if (f_X8_indexOfName M r kd x2) = (-1) then
      (s_X8_takeNewName_33 M r kd x2)
    else
      ((s_X8_fail M r 3) ∧
      (bndP (f_X8_fail M r 3) fun M7 =>
      (s_X8_takeNewName_33 M7 r kd x2)))))
  else
    ((s_X8_fail M r 1) ∧
    (bndP (f_X8_fail M r 1) fun M9 =>
    (s_X8_takeNewName_33 M9 r kd x2)))))
theorem o_X8_takeNewName (M : gM) (r : Nat) (kd : Nat) (x2 : Int32) : offW [47, 48, 49, 50] M (f_X8_takeNewName M r kd x2) := by
  rw [f_X8_takeNewName]
  refine offI ?_ ?_
  · refine offI ?_ ?_
    · exact (o_X8_takeNewName_33 M r kd x2)
    · refine offB (offR.tr ((o_X8_fail M r 3).mono (by decide))) (fun M7 oM7 => ?_)
      exact oM7.tr (o_X8_takeNewName_33 M7 r kd x2)
  · refine offB (offR.tr ((o_X8_fail M r 1).mono (by decide))) (fun M9 oM9 => ?_)
    exact oM9.tr (o_X8_takeNewName_33 M9 r kd x2)
set_option maxRecDepth 100000 in
set_option maxHeartbeats 4000000 in
theorem t_X8_takeNewName {E : gE} {K : gM → Prop} {Q : Option Value → gM → Prop} (hK : ∀ z : gM, K z → Q none z) (M : gM) (r : Nat) (kd : Nat) (x2 : Int32) (hr : r < 2) (hkd : kd < 3) (hs : s_X8_takeNewName M r kd x2) (hQ : K (f_X8_takeNewName M r kd x2)) : gG E RX8 cX8_takeNewName 3 none (rm 1) 0 [(0, .ref (gla E (trC r))), (1, .ref (gla E (trC r + 1 + kd))), (2, .int x2)] [] M Q := by
  rw [s_X8_takeNewName] at hs
  rw [f_X8_takeNewName] at hQ
  refine g_aload_n 0 dX8_takeNewName_0 rfl ?_
  have h1 := hs.1; have hs := hs.2
  refine g_callV (As := []) (st := []) (trC r) (c_X8_comes E M r hr h1) mt_X8_comes ml_X8_44 (dF_Tr hr) rfl rfl sg_X8_comes rfl (by decide) (Nat.le_of_ble_eq_true rfl) dX8_takeNewName_1 ?_
  rintro _ _ ⟨q1, q2⟩; rw [q1, q2]; clear q1 q2
  refine g_tok 21 (by decide) tl_X8_295 dX8_takeNewName_4 ?_
  have h2 := hs.1; have hs := hs.2
  refine g_acmp_eq 18 h2 (by decide) dX8_takeNewName_7 (by decide) (fun c3 => ?_) (fun c3 => ?_)
  · have hs := ifSt hs c3; have hQ := ifQt hQ c3
    refine g_aload_n 0 dX8_takeNewName_18 rfl ?_
    refine g_aload_n 1 dX8_takeNewName_19 rfl ?_
    refine g_iload_n 2 dX8_takeNewName_20 rfl ?_
    have h4 := hs.1; have hs := hs.2
    refine g_callV (As := [.ref (gla E (trC r + 1 + kd)), .int x2]) (st := []) (trC r) (c_X8_indexOfName E M r kd hr hkd x2 h4) mt_X8_indexOfName ml_X8_292 (dF_Tr hr) rfl rfl sg_X8_indexOfName rfl (by decide) (Nat.le_of_ble_eq_true rfl) dX8_takeNewName_21 ?_
    rintro _ _ ⟨q1, q2⟩; rw [q1, q2]; clear q1 q2
    refine g_iconst (v := (-1)) dX8_takeNewName_24 (by decide) ?_
    refine g_icmp_eq 33 dX8_takeNewName_25 (by decide) (fun c5 => ?_) (fun c5 => ?_)
    · have hs := ifSt hs c5; have hQ := ifQt hQ c5
      exact t_X8_takeNewName_33 hK M r kd x2 hr hkd hs hQ
    · have hs := ifSf hs c5; have hQ := ifQf hQ c5
      refine g_aload_n 0 dX8_takeNewName_28 rfl ?_
      refine g_iconst (v := 3) dX8_takeNewName_29 (by decide) ?_
      have h6 := hs.1; have hs := hs.2
      refine g_callV (As := [.int 3]) (st := []) (trC r) (c_X8_fail E M r hr 3 h6) mt_X8_fail ml_X8_87 (dF_Tr hr) rfl rfl sg_X8_fail rfl (by decide) (Nat.le_of_ble_eq_true rfl) dX8_takeNewName_30 ?_
      rintro _ M7 ⟨rfl, hM7⟩
      have hQ := bndQ hQ M7 hM7; have hs := bndS hs M7 hM7
      exact t_X8_takeNewName_33 hK M7 r kd x2 hr hkd hs hQ
  · have hs := ifSf hs c3; have hQ := ifQf hQ c3
    refine g_aload_n 0 dX8_takeNewName_10 rfl ?_
    refine g_iconst (v := 1) dX8_takeNewName_11 (by decide) ?_
    have h8 := hs.1; have hs := hs.2
    refine g_callV (As := [.int 1]) (st := []) (trC r) (c_X8_fail E M r hr 1 h8) mt_X8_fail ml_X8_87 (dF_Tr hr) rfl rfl sg_X8_fail rfl (by decide) (Nat.le_of_ble_eq_true rfl) dX8_takeNewName_12 ?_
    rintro _ M9 ⟨rfl, hM9⟩
    have hQ := bndQ hQ M9 hM9; have hs := bndS hs M9 hM9
    refine g_goto 33 dX8_takeNewName_15 (by decide) ?_
    exact t_X8_takeNewName_33 hK M9 r kd x2 hr hkd hs hQ
theorem c_X8_takeNewName (E : gE) (M : gM) (r : Nat) (kd : Nat) (hr : r < 2) (hkd : kd < 3) (x2 : Int32) (hs : s_X8_takeNewName M r kd x2) : gC E yX8_takeNewName cX8_takeNewName 3 none (rm 1) [.ref (gla E (trC r)), .ref (gla E (trC r + 1 + kd)), .int x2] M (fun o N => o = none ∧ N = f_X8_takeNewName M r kd x2) :=
  gC.of (by decide +kernel) (Nat.le_of_ble_eq_true rfl) rfl (t_X8_takeNewName (K := fun z => z = f_X8_takeNewName M r kd x2) (fun z hz => ⟨rfl, hz⟩) M r kd x2 hr hkd hs rfl)
def f_X8_takeNumber_46 (M : gM) (r : Nat) (x3 : Int32)  : Int32 × gM :=
  bnd (f_X8_takeToken M r) fun M13 =>
  (if (rdI M13 48 r 0 0) = 0 then
    ((x3, M13))
  else
    ((0, M13)))
def s_X8_takeNumber_46 (M : gM) (r : Nat) (x3 : Int32)  : Prop :=
  (s_X8_takeToken M r) ∧
  (bndP (f_X8_takeToken M r) fun M13 =>
  (if (rdI M13 48 r 0 0) = 0 then
    (True)
  else
    (True)))
theorem o_X8_takeNumber_46 (M : gM) (r : Nat) (x3 : Int32)  : offW [47, 48, 49] M (f_X8_takeNumber_46 M r x3 ).2 := by
  rw [f_X8_takeNumber_46]
  refine offB2 (offR.tr ((o_X8_takeToken M r).mono (by decide))) (fun M13 oM13 => ?_)
  refine offI2 ?_ ?_
  · exact oM13
  · exact oM13
set_option maxRecDepth 100000 in
set_option maxHeartbeats 4000000 in
theorem t_X8_takeNumber_46 {E : gE} {K : Int32 × gM → Prop} {Q : Option Value → gM → Prop} (hK : ∀ z : Int32 × gM, K z → Q (some (.int z.1)) z.2) (M : gM) (r : Nat) (x3 : Int32) (hr : r < 2)  (hs : s_X8_takeNumber_46 M r x3 ) (hQ : K (f_X8_takeNumber_46 M r x3 )) : gG E RX8 cX8_takeNumber 4 (some .int) (rm 1) 46 [(0, .ref (gla E (trC r))), (3, .int x3)] [] M Q := by
  rw [s_X8_takeNumber_46] at hs
  rw [f_X8_takeNumber_46] at hQ
  refine g_aload_n 0 dX8_takeNumber_46 rfl ?_
  have h12 := hs.1; have hs := hs.2
  refine g_callV (As := []) (st := []) (trC r) (c_X8_takeToken E M r hr h12) mt_X8_takeToken ml_X8_94 (dF_Tr hr) rfl rfl sg_X8_takeToken rfl (by decide) (Nat.le_of_ble_eq_true rfl) dX8_takeNumber_47 ?_
  rintro _ M13 ⟨rfl, hM13⟩
  have hQ := bndQ hQ M13 hM13; have hs := bndS hs M13 hM13
  refine g_aload_n 0 dX8_takeNumber_50 rfl ?_
  refine g_getI (trC r) fd_X8_38 (dF_Tr hr) rfl dX8_takeNumber_51 ?_
  refine g_if_ne 61 dX8_takeNumber_54 (by decide) (fun c14 => ?_) (fun c14 => ?_)
  · have hs := ifSf hs c14; have hQ := ifQf hQ c14
    refine g_iconst (v := 0) dX8_takeNumber_61 (by decide) ?_
    exact g_iret rfl dX8_takeNumber_62 (hK _ hQ)
  · have hs := ifSt hs c14; have hQ := ifQt hQ c14
    refine g_iload_n 1 dX8_takeNumber_57 rfl ?_
    refine g_goto 62 dX8_takeNumber_58 (by decide) ?_
    exact g_iret rfl dX8_takeNumber_62 (hK _ hQ)
def f_X8_takeNumber_41 (M : gM) (r : Nat) (x3 : Int32)  : Int32 × gM :=
  bnd (f_X8_fail M r 2) fun M11 =>
  (f_X8_takeNumber_46 M11 r x3)
def s_X8_takeNumber_41 (M : gM) (r : Nat) (x3 : Int32)  : Prop :=
  (s_X8_fail M r 2) ∧
  (bndP (f_X8_fail M r 2) fun M11 =>
  (s_X8_takeNumber_46 M11 r x3))
theorem o_X8_takeNumber_41 (M : gM) (r : Nat) (x3 : Int32)  : offW [47, 48, 49] M (f_X8_takeNumber_41 M r x3 ).2 := by
  rw [f_X8_takeNumber_41]
  refine offB2 (offR.tr ((o_X8_fail M r 2).mono (by decide))) (fun M11 oM11 => ?_)
  exact oM11.tr (o_X8_takeNumber_46 M11 r x3)
set_option maxRecDepth 100000 in
set_option maxHeartbeats 4000000 in
theorem t_X8_takeNumber_41 {E : gE} {K : Int32 × gM → Prop} {Q : Option Value → gM → Prop} (hK : ∀ z : Int32 × gM, K z → Q (some (.int z.1)) z.2) (M : gM) (r : Nat) (x3 : Int32) (hr : r < 2)  (hs : s_X8_takeNumber_41 M r x3 ) (hQ : K (f_X8_takeNumber_41 M r x3 )) : gG E RX8 cX8_takeNumber 4 (some .int) (rm 1) 41 [(0, .ref (gla E (trC r))), (3, .int x3)] [] M Q := by
  rw [s_X8_takeNumber_41] at hs
  rw [f_X8_takeNumber_41] at hQ
  refine g_aload_n 0 dX8_takeNumber_41 rfl ?_
  refine g_iconst (v := 2) dX8_takeNumber_42 (by decide) ?_
  have h10 := hs.1; have hs := hs.2
  refine g_callV (As := [.int 2]) (st := []) (trC r) (c_X8_fail E M r hr 2 h10) mt_X8_fail ml_X8_87 (dF_Tr hr) rfl rfl sg_X8_fail rfl (by decide) (Nat.le_of_ble_eq_true rfl) dX8_takeNumber_43 ?_
  rintro _ M11 ⟨rfl, hM11⟩
  have hQ := bndQ hQ M11 hM11; have hs := bndS hs M11 hM11
  exact t_X8_takeNumber_46 hK M11 r x3 hr hs hQ
def f_X8_takeNumber (M : gM) (r : Nat) (x1 : Int32) (x2 : Int32) : Int32 × gM :=
  bnd (rdI M 46 0 0 (nn (rdI M 47 r 0 0))) fun v2 =>
  (if f_X8_comes M r = 22 then
    (if v2 < x1 then
      (f_X8_takeNumber_41 M r v2)
    else
      (if v2 ≤ x2 then
        (f_X8_takeNumber_46 M r v2)
      else
        (f_X8_takeNumber_41 M r v2)))
  else
    (bnd (f_X8_fail M r 1) fun M9 =>
    (f_X8_takeNumber_46 M9 r v2)))
def s_X8_takeNumber (M : gM) (r : Nat) (x1 : Int32) (x2 : Int32) : Prop :=
  (vp_in (rdI M 47 r 0 0) 1201) ∧
  (bndP (rdI M 46 0 0 (nn (rdI M 47 r 0 0))) fun v2 =>
  ((s_X8_comes M r) ∧
  ((f_X8_comes M r < 26) ∧
  (if f_X8_comes M r = 22 then
    (if v2 < x1 then
      (s_X8_takeNumber_41 M r v2)
    else
      (if v2 ≤ x2 then
        (s_X8_takeNumber_46 M r v2)
      else
        (s_X8_takeNumber_41 M r v2)))
  else
    ((s_X8_fail M r 1) ∧
    (bndP (f_X8_fail M r 1) fun M9 =>
    (s_X8_takeNumber_46 M9 r v2)))))))
theorem o_X8_takeNumber (M : gM) (r : Nat) (x1 : Int32) (x2 : Int32) : offW [47, 48, 49] M (f_X8_takeNumber M r x1 x2).2 := by
  rw [f_X8_takeNumber]
  refine offV2 (fun v2 => ?_)
  refine offI2 ?_ ?_
  · refine offI2 ?_ ?_
    · exact (o_X8_takeNumber_41 M r v2)
    · refine offI2 ?_ ?_
      · exact (o_X8_takeNumber_46 M r v2)
      · exact (o_X8_takeNumber_41 M r v2)
  · refine offB2 (offR.tr ((o_X8_fail M r 1).mono (by decide))) (fun M9 oM9 => ?_)
    exact oM9.tr (o_X8_takeNumber_46 M9 r v2)
set_option maxRecDepth 100000 in
set_option maxHeartbeats 4000000 in
theorem t_X8_takeNumber {E : gE} {K : Int32 × gM → Prop} {Q : Option Value → gM → Prop} (hK : ∀ z : Int32 × gM, K z → Q (some (.int z.1)) z.2) (M : gM) (r : Nat) (x1 : Int32) (x2 : Int32) (hr : r < 2) (hs : s_X8_takeNumber M r x1 x2) (hQ : K (f_X8_takeNumber M r x1 x2)) : gG E RX8 cX8_takeNumber 4 (some .int) (rm 1) 0 [(0, .ref (gla E (trC r))), (1, .int x1), (2, .int x2)] [] M Q := by
  rw [s_X8_takeNumber] at hs
  rw [f_X8_takeNumber] at hQ
  refine g_aload_n 0 dX8_takeNumber_0 rfl ?_
  refine g_getR (trC r) 204 fd_X8_21 (dF_Tr hr) rfl rfl dX8_takeNumber_1 ?_
  refine g_getR 204 207 fd_X8_298 dF_Tk rfl rfl dX8_takeNumber_4 ?_
  refine g_aload_n 0 dX8_takeNumber_7 rfl ?_
  refine g_getI (trC r) fd_X8_34 (dF_Tr hr) rfl dX8_takeNumber_8 ?_
  have h1 := hs.1; have hs := hs.2
  refine g_iald 207 dF_Tk_values h1 dX8_takeNumber_11 ?_
  refine g_topI (fun v2 hv2 => ?_)
  have hQ := bndQ hQ v2 hv2; have hs := bndS hs v2 hv2
  refine g_istore_n _ dX8_takeNumber_12 (by decide) rfl ?_
  refine g_aload_n 1 dX8_takeNumber_13 rfl ?_
  have h3 := hs.1; have hs := hs.2
  refine g_callV (As := []) (st := []) (trC r) (c_X8_comes E M r hr h3) mt_X8_comes ml_X8_44 (dF_Tr hr) rfl rfl sg_X8_comes rfl (by decide) (Nat.le_of_ble_eq_true rfl) dX8_takeNumber_14 ?_
  rintro _ _ ⟨q1, q2⟩; rw [q1, q2]; clear q1 q2
  refine g_tok 22 (by decide) tl_X8_307 dX8_takeNumber_17 ?_
  have h4 := hs.1; have hs := hs.2
  refine g_acmp_eq 31 h4 (by decide) dX8_takeNumber_20 (by decide) (fun c5 => ?_) (fun c5 => ?_)
  · have hs := ifSt hs c5; have hQ := ifQt hQ c5
    refine g_iload_n 0 dX8_takeNumber_31 rfl ?_
    refine g_iload_n 2 dX8_takeNumber_32 rfl ?_
    refine g_icmp_lt 41 dX8_takeNumber_33 (by decide) (fun c6 => ?_) (fun c6 => ?_)
    · have hs := ifSt hs c6; have hQ := ifQt hQ c6
      refine g_sub [1, 0] _ rfl ?_
      exact t_X8_takeNumber_41 hK M r v2 hr hs hQ
    · have hs := ifSf hs c6; have hQ := ifQf hQ c6
      refine g_iload_n 0 dX8_takeNumber_36 rfl ?_
      refine g_iload_n 3 dX8_takeNumber_37 rfl ?_
      refine g_icmp_le 46 dX8_takeNumber_38 (by decide) (fun c7 => ?_) (fun c7 => ?_)
      · have hs := ifSt hs c7; have hQ := ifQt hQ c7
        refine g_sub [1, 0] _ rfl ?_
        exact t_X8_takeNumber_46 hK M r v2 hr hs hQ
      · have hs := ifSf hs c7; have hQ := ifQf hQ c7
        refine g_sub [1, 0] _ rfl ?_
        exact t_X8_takeNumber_41 hK M r v2 hr hs hQ
  · have hs := ifSf hs c5; have hQ := ifQf hQ c5
    refine g_aload_n 1 dX8_takeNumber_23 rfl ?_
    refine g_iconst (v := 1) dX8_takeNumber_24 (by decide) ?_
    have h8 := hs.1; have hs := hs.2
    refine g_callV (As := [.int 1]) (st := []) (trC r) (c_X8_fail E M r hr 1 h8) mt_X8_fail ml_X8_87 (dF_Tr hr) rfl rfl sg_X8_fail rfl (by decide) (Nat.le_of_ble_eq_true rfl) dX8_takeNumber_25 ?_
    rintro _ M9 ⟨rfl, hM9⟩
    have hQ := bndQ hQ M9 hM9; have hs := bndS hs M9 hM9
    refine g_goto 46 dX8_takeNumber_28 (by decide) ?_
    refine g_sub [1, 0] _ rfl ?_
    exact t_X8_takeNumber_46 hK M9 r v2 hr hs hQ
theorem c_X8_takeNumber (E : gE) (M : gM) (r : Nat) (hr : r < 2) (x1 : Int32) (x2 : Int32) (hs : s_X8_takeNumber M r x1 x2) : gC E yX8_takeNumber cX8_takeNumber 4 (some .int) (rm 1) [.ref (gla E (trC r)), .int x1, .int x2] M (fun o N => o = some (.int (f_X8_takeNumber M r x1 x2).1) ∧ N = (f_X8_takeNumber M r x1 x2).2) :=
  gC.of (by decide +kernel) (Nat.le_of_ble_eq_true rfl) rfl (t_X8_takeNumber (K := fun z => z = f_X8_takeNumber M r x1 x2) (fun z hz => by rw [hz]; exact ⟨rfl, rfl⟩) M r x1 x2 hr hs rfl)
def f_X8_takeOneMore (M : gM) (r : Nat) (x1 : Int32) (x2 : Int32) : gM :=
  if x1 < x2 then
    (bnd (f_X8_takeToken M r) fun M3 =>
    (M3))
  else
    (bnd (f_X8_fail M r 2) fun M5 =>
    (bnd (f_X8_takeToken M5 r) fun M7 =>
    (M7)))
def s_X8_takeOneMore (M : gM) (r : Nat) (x1 : Int32) (x2 : Int32) : Prop :=
  if x1 < x2 then
    ((s_X8_takeToken M r) ∧
    (bndP (f_X8_takeToken M r) fun M3 =>
    (True)))
  else
    ((s_X8_fail M r 2) ∧
    (bndP (f_X8_fail M r 2) fun M5 =>
    ((s_X8_takeToken M5 r) ∧
    (bndP (f_X8_takeToken M5 r) fun M7 =>
    (True)))))
theorem o_X8_takeOneMore (M : gM) (r : Nat) (x1 : Int32) (x2 : Int32) : offW [47, 48, 49] M (f_X8_takeOneMore M r x1 x2) := by
  rw [f_X8_takeOneMore]
  refine offI ?_ ?_
  · refine offB (offR.tr ((o_X8_takeToken M r).mono (by decide))) (fun M3 oM3 => ?_)
    exact oM3
  · refine offB (offR.tr ((o_X8_fail M r 2).mono (by decide))) (fun M5 oM5 => ?_)
    refine offB (oM5.tr ((o_X8_takeToken M5 r).mono (by decide))) (fun M7 oM7 => ?_)
    exact oM7
set_option maxRecDepth 100000 in
set_option maxHeartbeats 4000000 in
theorem t_X8_takeOneMore {E : gE} {K : gM → Prop} {Q : Option Value → gM → Prop} (hK : ∀ z : gM, K z → Q none z) (M : gM) (r : Nat) (x1 : Int32) (x2 : Int32) (hr : r < 2) (hs : s_X8_takeOneMore M r x1 x2) (hQ : K (f_X8_takeOneMore M r x1 x2)) : gG E RX8 cX8_takeOneMore 3 none (rm 1) 0 [(0, .ref (gla E (trC r))), (1, .int x1), (2, .int x2)] [] M Q := by
  rw [s_X8_takeOneMore] at hs
  rw [f_X8_takeOneMore] at hQ
  refine g_iload_n 1 dX8_takeOneMore_0 rfl ?_
  refine g_iload_n 2 dX8_takeOneMore_1 rfl ?_
  refine g_icmp_lt 10 dX8_takeOneMore_2 (by decide) (fun c1 => ?_) (fun c1 => ?_)
  · have hs := ifSt hs c1; have hQ := ifQt hQ c1
    refine g_aload_n 0 dX8_takeOneMore_10 rfl ?_
    have h2 := hs.1; have hs := hs.2
    refine g_callV (As := []) (st := []) (trC r) (c_X8_takeToken E M r hr h2) mt_X8_takeToken ml_X8_94 (dF_Tr hr) rfl rfl sg_X8_takeToken rfl (by decide) (Nat.le_of_ble_eq_true rfl) dX8_takeOneMore_11 ?_
    rintro _ M3 ⟨rfl, hM3⟩
    have hQ := bndQ hQ M3 hM3; have hs := bndS hs M3 hM3
    exact g_vret rfl dX8_takeOneMore_14 (hK _ hQ)
  · have hs := ifSf hs c1; have hQ := ifQf hQ c1
    refine g_aload_n 0 dX8_takeOneMore_5 rfl ?_
    refine g_iconst (v := 2) dX8_takeOneMore_6 (by decide) ?_
    have h4 := hs.1; have hs := hs.2
    refine g_callV (As := [.int 2]) (st := []) (trC r) (c_X8_fail E M r hr 2 h4) mt_X8_fail ml_X8_87 (dF_Tr hr) rfl rfl sg_X8_fail rfl (by decide) (Nat.le_of_ble_eq_true rfl) dX8_takeOneMore_7 ?_
    rintro _ M5 ⟨rfl, hM5⟩
    have hQ := bndQ hQ M5 hM5; have hs := bndS hs M5 hM5
    refine g_aload_n 0 dX8_takeOneMore_10 rfl ?_
    have h6 := hs.1; have hs := hs.2
    refine g_callV (As := []) (st := []) (trC r) (c_X8_takeToken E M5 r hr h6) mt_X8_takeToken ml_X8_94 (dF_Tr hr) rfl rfl sg_X8_takeToken rfl (by decide) (Nat.le_of_ble_eq_true rfl) dX8_takeOneMore_11 ?_
    rintro _ M7 ⟨rfl, hM7⟩
    have hQ := bndQ hQ M7 hM7; have hs := bndS hs M7 hM7
    exact g_vret rfl dX8_takeOneMore_14 (hK _ hQ)
theorem c_X8_takeOneMore (E : gE) (M : gM) (r : Nat) (hr : r < 2) (x1 : Int32) (x2 : Int32) (hs : s_X8_takeOneMore M r x1 x2) : gC E yX8_takeOneMore cX8_takeOneMore 3 none (rm 1) [.ref (gla E (trC r)), .int x1, .int x2] M (fun o N => o = none ∧ N = f_X8_takeOneMore M r x1 x2) :=
  gC.of (by decide +kernel) (Nat.le_of_ble_eq_true rfl) rfl (t_X8_takeOneMore (K := fun z => z = f_X8_takeOneMore M r x1 x2) (fun z hz => ⟨rfl, hz⟩) M r x1 x2 hr hs rfl)
def f_X8_takeOnce (M : gM) (r : Nat) (x1 : Int32) : gM :=
  if x1 = 0 then
    (bnd (f_X8_takeToken M r) fun M3 =>
    (M3))
  else
    (bnd (f_X8_fail M r 3) fun M5 =>
    (bnd (f_X8_takeToken M5 r) fun M7 =>
    (M7)))
def s_X8_takeOnce (M : gM) (r : Nat) (x1 : Int32) : Prop :=
  if x1 = 0 then
    ((s_X8_takeToken M r) ∧
    (bndP (f_X8_takeToken M r) fun M3 =>
    (True)))
  else
    ((s_X8_fail M r 3) ∧
    (bndP (f_X8_fail M r 3) fun M5 =>
    ((s_X8_takeToken M5 r) ∧
    (bndP (f_X8_takeToken M5 r) fun M7 =>
    (True)))))
theorem o_X8_takeOnce (M : gM) (r : Nat) (x1 : Int32) : offW [47, 48, 49] M (f_X8_takeOnce M r x1) := by
  rw [f_X8_takeOnce]
  refine offI ?_ ?_
  · refine offB (offR.tr ((o_X8_takeToken M r).mono (by decide))) (fun M3 oM3 => ?_)
    exact oM3
  · refine offB (offR.tr ((o_X8_fail M r 3).mono (by decide))) (fun M5 oM5 => ?_)
    refine offB (oM5.tr ((o_X8_takeToken M5 r).mono (by decide))) (fun M7 oM7 => ?_)
    exact oM7
set_option maxRecDepth 100000 in
set_option maxHeartbeats 4000000 in
theorem t_X8_takeOnce {E : gE} {K : gM → Prop} {Q : Option Value → gM → Prop} (hK : ∀ z : gM, K z → Q none z) (M : gM) (r : Nat) (x1 : Int32) (hr : r < 2) (hs : s_X8_takeOnce M r x1) (hQ : K (f_X8_takeOnce M r x1)) : gG E RX8 cX8_takeOnce 2 none (rm 1) 0 [(0, .ref (gla E (trC r))), (1, .int x1)] [] M Q := by
  rw [s_X8_takeOnce] at hs
  rw [f_X8_takeOnce] at hQ
  refine g_iload_n 1 dX8_takeOnce_0 rfl ?_
  refine g_if_eq 9 dX8_takeOnce_1 (by decide) (fun c1 => ?_) (fun c1 => ?_)
  · have hs := ifSt hs c1; have hQ := ifQt hQ c1
    refine g_aload_n 0 dX8_takeOnce_9 rfl ?_
    have h2 := hs.1; have hs := hs.2
    refine g_callV (As := []) (st := []) (trC r) (c_X8_takeToken E M r hr h2) mt_X8_takeToken ml_X8_94 (dF_Tr hr) rfl rfl sg_X8_takeToken rfl (by decide) (Nat.le_of_ble_eq_true rfl) dX8_takeOnce_10 ?_
    rintro _ M3 ⟨rfl, hM3⟩
    have hQ := bndQ hQ M3 hM3; have hs := bndS hs M3 hM3
    exact g_vret rfl dX8_takeOnce_13 (hK _ hQ)
  · have hs := ifSf hs c1; have hQ := ifQf hQ c1
    refine g_aload_n 0 dX8_takeOnce_4 rfl ?_
    refine g_iconst (v := 3) dX8_takeOnce_5 (by decide) ?_
    have h4 := hs.1; have hs := hs.2
    refine g_callV (As := [.int 3]) (st := []) (trC r) (c_X8_fail E M r hr 3 h4) mt_X8_fail ml_X8_87 (dF_Tr hr) rfl rfl sg_X8_fail rfl (by decide) (Nat.le_of_ble_eq_true rfl) dX8_takeOnce_6 ?_
    rintro _ M5 ⟨rfl, hM5⟩
    have hQ := bndQ hQ M5 hM5; have hs := bndS hs M5 hM5
    refine g_aload_n 0 dX8_takeOnce_9 rfl ?_
    have h6 := hs.1; have hs := hs.2
    refine g_callV (As := []) (st := []) (trC r) (c_X8_takeToken E M5 r hr h6) mt_X8_takeToken ml_X8_94 (dF_Tr hr) rfl rfl sg_X8_takeToken rfl (by decide) (Nat.le_of_ble_eq_true rfl) dX8_takeOnce_10 ?_
    rintro _ M7 ⟨rfl, hM7⟩
    have hQ := bndQ hQ M7 hM7; have hs := bndS hs M7 hM7
    exact g_vret rfl dX8_takeOnce_13 (hK _ hQ)
theorem c_X8_takeOnce (E : gE) (M : gM) (r : Nat) (hr : r < 2) (x1 : Int32) (hs : s_X8_takeOnce M r x1) : gC E yX8_takeOnce cX8_takeOnce 2 none (rm 1) [.ref (gla E (trC r)), .int x1] M (fun o N => o = none ∧ N = f_X8_takeOnce M r x1) :=
  gC.of (by decide +kernel) (Nat.le_of_ble_eq_true rfl) rfl (t_X8_takeOnce (K := fun z => z = f_X8_takeOnce M r x1) (fun z hz => ⟨rfl, hz⟩) M r x1 hr hs rfl)
def f_X8_takeSemicolon_15 (M : gM) (r : Nat)  : gM :=
  bnd (f_X8_takeToken M r) fun M7 =>
  (if (rdI M7 48 r 0 0) = 0 then
    (bnd (wrI M7 4 r 0 0 ((rdI M7 4 r 0 0) + 1)) fun M9 =>
    (M9))
  else
    (M7))
def s_X8_takeSemicolon_15 (M : gM) (r : Nat)  : Prop :=
  (s_X8_takeToken M r) ∧
  (bndP (f_X8_takeToken M r) fun M7 =>
  (if (rdI M7 48 r 0 0) = 0 then
    (bndP (wrI M7 4 r 0 0 ((rdI M7 4 r 0 0) + 1)) fun M9 =>
    (True))
  else
    (True)))
theorem o_X8_takeSemicolon_15 (M : gM) (r : Nat)  : offW [4, 47, 48, 49] M (f_X8_takeSemicolon_15 M r ) := by
  rw [f_X8_takeSemicolon_15]
  refine offB (offR.tr ((o_X8_takeToken M r).mono (by decide))) (fun M7 oM7 => ?_)
  refine offI ?_ ?_
  · refine offB (oM7.wI (by decide)) (fun M9 oM9 => ?_)
    exact oM9
  · exact oM7
set_option maxRecDepth 100000 in
set_option maxHeartbeats 4000000 in
theorem t_X8_takeSemicolon_15 {E : gE} {K : gM → Prop} {Q : Option Value → gM → Prop} (hK : ∀ z : gM, K z → Q none z) (M : gM) (r : Nat) (hr : r < 2)  (hs : s_X8_takeSemicolon_15 M r ) (hQ : K (f_X8_takeSemicolon_15 M r )) : gG E RX8 cX8_takeSemicolon 1 none (rm 1) 15 [(0, .ref (gla E (trC r)))] [] M Q := by
  rw [s_X8_takeSemicolon_15] at hs
  rw [f_X8_takeSemicolon_15] at hQ
  refine g_aload_n 0 dX8_takeSemicolon_15 rfl ?_
  have h6 := hs.1; have hs := hs.2
  refine g_callV (As := []) (st := []) (trC r) (c_X8_takeToken E M r hr h6) mt_X8_takeToken ml_X8_94 (dF_Tr hr) rfl rfl sg_X8_takeToken rfl (by decide) (Nat.le_of_ble_eq_true rfl) dX8_takeSemicolon_16 ?_
  rintro _ M7 ⟨rfl, hM7⟩
  have hQ := bndQ hQ M7 hM7; have hs := bndS hs M7 hM7
  refine g_aload_n 0 dX8_takeSemicolon_19 rfl ?_
  refine g_getI (trC r) fd_X8_38 (dF_Tr hr) rfl dX8_takeSemicolon_20 ?_
  refine g_if_ne 39 dX8_takeSemicolon_23 (by decide) (fun c8 => ?_) (fun c8 => ?_)
  · have hs := ifSf hs c8; have hQ := ifQf hQ c8
    exact g_vret rfl dX8_takeSemicolon_39 (hK _ hQ)
  · have hs := ifSt hs c8; have hQ := ifQt hQ c8
    refine g_aload_n 0 dX8_takeSemicolon_26 rfl ?_
    refine g_getR (trC r) (rgC r) fd_X8_25 (dF_Tr hr) rfl rfl dX8_takeSemicolon_27 ?_
    refine g_dup dX8_takeSemicolon_30 rfl ?_
    refine g_getI (rgC r) fd_X8_310 (dF_Rg hr) rfl dX8_takeSemicolon_31 ?_
    refine g_iconst (v := 1) dX8_takeSemicolon_34 (by decide) ?_
    refine g_iadd dX8_takeSemicolon_35 ?_
    refine g_putI (rgC r) fd_X8_310 (dF_Rg hr) rfl dX8_takeSemicolon_36 (fun M9 hM9 => ?_)
    have hQ := bndQ hQ M9 hM9; have hs := bndS hs M9 hM9
    exact g_vret rfl dX8_takeSemicolon_39 (hK _ hQ)
def f_X8_takeSemicolon (M : gM) (r : Nat) : gM :=
  if f_X8_comes M r = 23 then
    (f_X8_takeSemicolon_15 M r)
  else
    (bnd (f_X8_fail M r 1) fun M5 =>
    (f_X8_takeSemicolon_15 M5 r))
def s_X8_takeSemicolon (M : gM) (r : Nat) : Prop :=
  (s_X8_comes M r) ∧
  ((f_X8_comes M r < 26) ∧
  (if f_X8_comes M r = 23 then
    (s_X8_takeSemicolon_15 M r)
  else
    ((s_X8_fail M r 1) ∧
    (bndP (f_X8_fail M r 1) fun M5 =>
    (s_X8_takeSemicolon_15 M5 r)))))
theorem o_X8_takeSemicolon (M : gM) (r : Nat) : offW [4, 47, 48, 49] M (f_X8_takeSemicolon M r) := by
  rw [f_X8_takeSemicolon]
  refine offI ?_ ?_
  · exact (o_X8_takeSemicolon_15 M r)
  · refine offB (offR.tr ((o_X8_fail M r 1).mono (by decide))) (fun M5 oM5 => ?_)
    exact oM5.tr (o_X8_takeSemicolon_15 M5 r)
set_option maxRecDepth 100000 in
set_option maxHeartbeats 4000000 in
theorem t_X8_takeSemicolon {E : gE} {K : gM → Prop} {Q : Option Value → gM → Prop} (hK : ∀ z : gM, K z → Q none z) (M : gM) (r : Nat) (hr : r < 2) (hs : s_X8_takeSemicolon M r) (hQ : K (f_X8_takeSemicolon M r)) : gG E RX8 cX8_takeSemicolon 1 none (rm 1) 0 [(0, .ref (gla E (trC r)))] [] M Q := by
  rw [s_X8_takeSemicolon] at hs
  rw [f_X8_takeSemicolon] at hQ
  refine g_aload_n 0 dX8_takeSemicolon_0 rfl ?_
  have h1 := hs.1; have hs := hs.2
  refine g_callV (As := []) (st := []) (trC r) (c_X8_comes E M r hr h1) mt_X8_comes ml_X8_44 (dF_Tr hr) rfl rfl sg_X8_comes rfl (by decide) (Nat.le_of_ble_eq_true rfl) dX8_takeSemicolon_1 ?_
  rintro _ _ ⟨q1, q2⟩; rw [q1, q2]; clear q1 q2
  refine g_tok 23 (by decide) tl_X8_117 dX8_takeSemicolon_4 ?_
  have h2 := hs.1; have hs := hs.2
  refine g_acmp_eq 15 h2 (by decide) dX8_takeSemicolon_7 (by decide) (fun c3 => ?_) (fun c3 => ?_)
  · have hs := ifSt hs c3; have hQ := ifQt hQ c3
    exact t_X8_takeSemicolon_15 hK M r hr hs hQ
  · have hs := ifSf hs c3; have hQ := ifQf hQ c3
    refine g_aload_n 0 dX8_takeSemicolon_10 rfl ?_
    refine g_iconst (v := 1) dX8_takeSemicolon_11 (by decide) ?_
    have h4 := hs.1; have hs := hs.2
    refine g_callV (As := [.int 1]) (st := []) (trC r) (c_X8_fail E M r hr 1 h4) mt_X8_fail ml_X8_87 (dF_Tr hr) rfl rfl sg_X8_fail rfl (by decide) (Nat.le_of_ble_eq_true rfl) dX8_takeSemicolon_12 ?_
    rintro _ M5 ⟨rfl, hM5⟩
    have hQ := bndQ hQ M5 hM5; have hs := bndS hs M5 hM5
    exact t_X8_takeSemicolon_15 hK M5 r hr hs hQ
theorem c_X8_takeSemicolon (E : gE) (M : gM) (r : Nat) (hr : r < 2) (hs : s_X8_takeSemicolon M r) : gC E yX8_takeSemicolon cX8_takeSemicolon 1 none (rm 1) [.ref (gla E (trC r))] M (fun o N => o = none ∧ N = f_X8_takeSemicolon M r) :=
  gC.of (by decide +kernel) (Nat.le_of_ble_eq_true rfl) rfl (t_X8_takeSemicolon (K := fun z => z = f_X8_takeSemicolon M r) (fun z hz => ⟨rfl, hz⟩) M r hr hs rfl)
def f_X11_cutNumber_64 (M : gM) (x1 : Int32)  : gM :=
  bnd (wrI M 44 0 0 (nn (rdI M 41 0 0 0)) (nI 22)) fun M9 =>
  (bnd (wrI M9 46 0 0 (nn (rdI M9 41 0 0 0)) x1) fun M11 =>
  (M11))
def s_X11_cutNumber_64 (M : gM) (x1 : Int32)  : Prop :=
  (vp_in (rdI M 41 0 0 0) 1201) ∧
  (bndP (wrI M 44 0 0 (nn (rdI M 41 0 0 0)) (nI 22)) fun M9 =>
  ((vp_in (rdI M9 41 0 0 0) 1201) ∧
  (bndP (wrI M9 46 0 0 (nn (rdI M9 41 0 0 0)) x1) fun M11 =>
  (True))))
theorem o_X11_cutNumber_64 (M : gM) (x1 : Int32)  : offW [43, 44, 46] M (f_X11_cutNumber_64 M x1 ) := by
  rw [f_X11_cutNumber_64]
  refine offB (offR.wI (by decide)) (fun M9 oM9 => ?_)
  refine offB (oM9.wI (by decide)) (fun M11 oM11 => ?_)
  exact oM11
set_option maxRecDepth 100000 in
set_option maxHeartbeats 4000000 in
theorem t_X11_cutNumber_64 {E : gE} {K : gM → Prop} {Q : Option Value → gM → Prop} (hK : ∀ z : gM, K z → Q none z) (M : gM) (x1 : Int32)   (hs : s_X11_cutNumber_64 M x1 ) (hQ : K (f_X11_cutNumber_64 M x1 )) : gG E RX11 cX11_cutNumber 2 none (rm 1) 64 [(0, .ref (gla E 204)), (1, .int x1)] [] M Q := by
  rw [s_X11_cutNumber_64] at hs
  rw [f_X11_cutNumber_64] at hQ
  refine g_aload_n 0 dX11_cutNumber_64 rfl ?_
  refine g_getR 204 205 fd_X11_11 dF_Tk rfl rfl dX11_cutNumber_65 ?_
  refine g_aload_n 0 dX11_cutNumber_68 rfl ?_
  refine g_getI 204 fd_X11_45 dF_Tk rfl dX11_cutNumber_69 ?_
  refine g_tok 22 (by decide) tl_X11_71 dX11_cutNumber_72 ?_
  have h8 := hs.1; have hs := hs.2
  refine g_east 205 (by decide) dF_Tk_kinds h8 dX11_cutNumber_75 (fun M9 hM9 => ?_)
  have hQ := bndQ hQ M9 hM9; have hs := bndS hs M9 hM9
  refine g_aload_n 0 dX11_cutNumber_76 rfl ?_
  refine g_getR 204 207 fd_X11_21 dF_Tk rfl rfl dX11_cutNumber_77 ?_
  refine g_aload_n 0 dX11_cutNumber_80 rfl ?_
  refine g_getI 204 fd_X11_45 dF_Tk rfl dX11_cutNumber_81 ?_
  refine g_iload_n 1 dX11_cutNumber_84 rfl ?_
  have h10 := hs.1; have hs := hs.2
  refine g_iast 207 dF_Tk_values h10 dX11_cutNumber_85 (fun M11 hM11 => ?_)
  have hQ := bndQ hQ M11 hM11; have hs := bndS hs M11 hM11
  exact g_vret rfl dX11_cutNumber_86 (hK _ hQ)
def f_X11_cutNumber_2   : Nat → gM → Int32 → gM
  | 0, M, _ => M
  | n + 1, M, x1 =>
    if (rdI M 42 0 0 0) ≤ (rdI M 43 0 0 0) then
      (f_X11_cutNumber_64 M x1)
    else
      (if (f_X11_isDigit M (rdI M 3 0 0 (nn (rdI M 43 0 0 0)))) = 0 then
        (f_X11_cutNumber_64 M x1)
      else
        (bnd (mn (((x1 * 10) + (rdI M 3 0 0 (nn (rdI M 43 0 0 0)))) - 48) 100000) fun v6 =>
        (bnd (wrI M 43 0 0 0 ((rdI M 43 0 0 0) + 1)) fun M7 =>
        (f_X11_cutNumber_2 n M7 v6))))
def s_X11_cutNumber_2   : Nat → gM → Int32 → Prop
  | 0, _, _ => False
  | n + 1, M, x1 =>
    if (rdI M 42 0 0 0) ≤ (rdI M 43 0 0 0) then
      (s_X11_cutNumber_64 M x1)
    else
      ((vp_in (rdI M 43 0 0 0) 1200) ∧
      ((s_X11_isDigit M (rdI M 3 0 0 (nn (rdI M 43 0 0 0)))) ∧
      (if (f_X11_isDigit M (rdI M 3 0 0 (nn (rdI M 43 0 0 0)))) = 0 then
        (s_X11_cutNumber_64 M x1)
      else
        ((vp_in (rdI M 43 0 0 0) 1200) ∧
        (bndP (mn (((x1 * 10) + (rdI M 3 0 0 (nn (rdI M 43 0 0 0)))) - 48) 100000) fun v6 =>
        (bndP (wrI M 43 0 0 0 ((rdI M 43 0 0 0) + 1)) fun M7 =>
        (s_X11_cutNumber_2 n M7 v6)))))))
theorem o_X11_cutNumber_2   : ∀ (n : Nat) (M : gM) (x1 : Int32), offW [43, 44, 46] M (f_X11_cutNumber_2   n M x1) := by
  intro n
  induction n with
  | zero => intro M x1; exact offR
  | succ n ih =>
    intro M x1
    rw [f_X11_cutNumber_2]
    refine offI ?_ ?_
    · exact (o_X11_cutNumber_64 M x1)
    · refine offI ?_ ?_
      · exact (o_X11_cutNumber_64 M x1)
      · refine offV (fun v6 => ?_)
        refine offB (offR.wI (by decide)) (fun M7 oM7 => ?_)
        exact oM7.tr (ih M7 v6)
set_option maxRecDepth 100000 in
set_option maxHeartbeats 4000000 in
theorem t_X11_cutNumber_2 {E : gE} {K : gM → Prop} {Q : Option Value → gM → Prop} (hK : ∀ z : gM, K z → Q none z)    : ∀ (n : Nat) (M : gM) (x1 : Int32) , s_X11_cutNumber_2   n M x1 → K (f_X11_cutNumber_2   n M x1) → gG E RX11 cX11_cutNumber 2 none (rm 1) 2 [(0, .ref (gla E 204)), (1, .int x1)] [] M Q := by
  intro n
  induction n with
  | zero => intro M x1 hs hQ; exact (hs : False).elim
  | succ n ih =>
    intro M x1 hs hQ
    rw [s_X11_cutNumber_2] at hs
    rw [f_X11_cutNumber_2] at hQ
    refine g_aload_n 0 dX11_cutNumber_2 rfl ?_
    refine g_getI 204 fd_X11_42 dF_Tk rfl dX11_cutNumber_3 ?_
    refine g_aload_n 0 dX11_cutNumber_6 rfl ?_
    refine g_getI 204 fd_X11_38 dF_Tk rfl dX11_cutNumber_7 ?_
    refine g_icmp_ge 64 dX11_cutNumber_10 (by decide) (fun c1 => ?_) (fun c1 => ?_)
    · have hs := ifSt hs c1; have hQ := ifQt hQ c1
      exact t_X11_cutNumber_64 hK M x1 hs hQ
    · have hs := ifSf hs c1; have hQ := ifQf hQ c1
      refine g_aload_n 0 dX11_cutNumber_13 rfl ?_
      refine g_getR 204 1 fd_X11_24 dF_Tk rfl rfl dX11_cutNumber_14 ?_
      refine g_aload_n 0 dX11_cutNumber_17 rfl ?_
      refine g_getI 204 fd_X11_42 dF_Tk rfl dX11_cutNumber_18 ?_
      have h2 := hs.1; have hs := hs.2
      refine g_bald 1 dF_tape h2 dX11_cutNumber_21 ?_
      have h3 := hs.1; have hs := hs.2
      refine g_callS (As := [.int (rdI M 3 0 0 (nn (rdI M 43 0 0 0)))]) (st := []) (c_X11_isDigit E M (rdI M 3 0 0 (nn (rdI M 43 0 0 0))) h3) mt_X11_isDigit ml_X11_51 sg_X11_isDigit rfl (by decide) (Nat.le_of_ble_eq_true rfl) dX11_cutNumber_22 ?_
      rintro _ _ ⟨q1, q2⟩; rw [q1, q2]; clear q1 q2
      refine g_if_eq 64 dX11_cutNumber_25 (by decide) (fun c4 => ?_) (fun c4 => ?_)
      · have hs := ifSt hs c4; have hQ := ifQt hQ c4
        exact t_X11_cutNumber_64 hK M x1 hs hQ
      · have hs := ifSf hs c4; have hQ := ifQf hQ c4
        refine g_iload_n 1 dX11_cutNumber_28 rfl ?_
        refine g_bipush (v := 10) dX11_cutNumber_29 (by decide) ?_
        refine g_imul dX11_cutNumber_31 ?_
        refine g_aload_n 0 dX11_cutNumber_32 rfl ?_
        refine g_getR 204 1 fd_X11_24 dF_Tk rfl rfl dX11_cutNumber_33 ?_
        refine g_aload_n 0 dX11_cutNumber_36 rfl ?_
        refine g_getI 204 fd_X11_42 dF_Tk rfl dX11_cutNumber_37 ?_
        have h5 := hs.1; have hs := hs.2
        refine g_bald 1 dF_tape h5 dX11_cutNumber_40 ?_
        refine g_iadd dX11_cutNumber_41 ?_
        refine g_bipush (v := 48) dX11_cutNumber_42 (by decide) ?_
        refine g_isub dX11_cutNumber_44 ?_
        refine g_ldc kc_X11_70 dX11_cutNumber_45 ?_
        refine g_mmin ml_X11_32 ms_min ms_ini mc_min ⟨by decide, Nat.le_of_ble_eq_true rfl, Nat.zero_le _, Nat.zero_le _⟩ dX11_cutNumber_47 ?_
        refine g_topI (fun v6 hv6 => ?_)
        have hQ := bndQ hQ v6 hv6; have hs := bndS hs v6 hv6
        refine g_istore_n _ dX11_cutNumber_50 (by decide) rfl ?_
        refine g_aload_n 1 dX11_cutNumber_51 rfl ?_
        refine g_dup dX11_cutNumber_52 rfl ?_
        refine g_getI 204 fd_X11_42 dF_Tk rfl dX11_cutNumber_53 ?_
        refine g_iconst (v := 1) dX11_cutNumber_56 (by decide) ?_
        refine g_iadd dX11_cutNumber_57 ?_
        refine g_putI 204 fd_X11_42 dF_Tk rfl dX11_cutNumber_58 (fun M7 hM7 => ?_)
        have hQ := bndQ hQ M7 hM7; have hs := bndS hs M7 hM7
        refine g_goto 2 dX11_cutNumber_61 (by decide) ?_
        refine g_sub [1, 0] _ rfl ?_
        exact ih M7 v6 hs hQ
def f_X11_cutNumber (M : gM) : gM :=
  f_X11_cutNumber_2 FU M 0
def s_X11_cutNumber (M : gM) : Prop :=
  s_X11_cutNumber_2 FU M 0
theorem o_X11_cutNumber (M : gM) : offW [43, 44, 46] M (f_X11_cutNumber M) := by
  rw [f_X11_cutNumber]
  exact (o_X11_cutNumber_2  FU M 0)
set_option maxRecDepth 100000 in
set_option maxHeartbeats 4000000 in
theorem t_X11_cutNumber {E : gE} {K : gM → Prop} {Q : Option Value → gM → Prop} (hK : ∀ z : gM, K z → Q none z) (M : gM)  (hs : s_X11_cutNumber M) (hQ : K (f_X11_cutNumber M)) : gG E RX11 cX11_cutNumber 2 none (rm 1) 0 [(0, .ref (gla E 204))] [] M Q := by
  rw [s_X11_cutNumber] at hs
  rw [f_X11_cutNumber] at hQ
  refine g_iconst (v := 0) dX11_cutNumber_0 (by decide) ?_
  refine g_istore_n _ dX11_cutNumber_1 (by decide) rfl ?_
  refine g_sub [1, 0] _ rfl ?_
  exact t_X11_cutNumber_2 hK FU M 0 hs hQ
theorem c_X11_cutNumber (E : gE) (M : gM)  (hs : s_X11_cutNumber M) : gC E yX11_cutNumber cX11_cutNumber 2 none (rm 1) [.ref (gla E 204)] M (fun o N => o = none ∧ N = f_X11_cutNumber M) :=
  gC.of (by decide +kernel) (Nat.le_of_ble_eq_true rfl) rfl (t_X11_cutNumber (K := fun z => z = f_X11_cutNumber M) (fun z hz => ⟨rfl, hz⟩) M hs rfl)
def f_X8_readRight_120 (M : gM) (r : Nat) (l : Nat)  : gM :=
  bnd (f_X8_fail M r 1) fun M22 =>
  (M22)
def s_X8_readRight_120 (M : gM) (r : Nat) (l : Nat)  : Prop :=
  (s_X8_fail M r 1) ∧
  (bndP (f_X8_fail M r 1) fun M22 =>
  (True))
theorem o_X8_readRight_120 (M : gM) (r : Nat) (l : Nat)  : offW [15, 16, 17, 18, 47, 48, 49] M (f_X8_readRight_120 M r l ) := by
  rw [f_X8_readRight_120]
  refine offB (offR.tr ((o_X8_fail M r 1).mono (by decide))) (fun M22 oM22 => ?_)
  exact oM22
set_option maxRecDepth 100000 in
set_option maxHeartbeats 4000000 in
theorem t_X8_readRight_120 {E : gE} {K : gM → Prop} {Q : Option Value → gM → Prop} (hK : ∀ z : gM, K z → Q none z) (M : gM) (r : Nat) (l : Nat) (hr : r < 2) (hl : l < 2)  (hs : s_X8_readRight_120 M r l ) (hQ : K (f_X8_readRight_120 M r l )) : gG E RX8 cX8_readRight 2 none (rm 2) 120 [(0, .ref (gla E (trC r)))] [] M Q := by
  rw [s_X8_readRight_120] at hs
  rw [f_X8_readRight_120] at hQ
  refine g_aload_n 0 dX8_readRight_120 rfl ?_
  refine g_iconst (v := 1) dX8_readRight_121 (by decide) ?_
  have h21 := hs.1; have hs := hs.2
  refine g_callV (As := [.int 1]) (st := []) (trC r) (c_X8_fail E M r hr 1 h21) mt_X8_fail ml_X8_87 (dF_Tr hr) rfl rfl sg_X8_fail rfl (by decide) (Nat.le_of_ble_eq_true rfl) dX8_readRight_122 ?_
  rintro _ M22 ⟨rfl, hM22⟩
  have hQ := bndQ hQ M22 hM22; have hs := bndS hs M22 hM22
  exact g_vret rfl dX8_readRight_125 (hK _ hQ)
def f_X8_readRight (M : gM) (r : Nat) (l : Nat) : gM :=
  if (swm (nn (f_Jx29ce0_ordinal_8abf5 M (f_X8_comes M r)))) = 4 then
    (bnd (f_X8_takeOnce M r (rdI M 16 r l 0)) fun M6 =>
    (bnd (wrI M6 16 r l 0 1) fun M7 =>
    (M7)))
  else
    (if (swm (nn (f_Jx29ce0_ordinal_8abf5 M (f_X8_comes M r)))) = 9 then
      (bnd (f_X8_takeOnce M r (rdI M 15 r l 0)) fun M9 =>
      (bnd (wrI M9 15 r l 0 1) fun M10 =>
      (M10)))
    else
      (if (swm (nn (f_Jx29ce0_ordinal_8abf5 M (f_X8_comes M r)))) = 10 then
        (bnd (f_X8_takeOnce M r (rdI M 17 r l 0)) fun M12 =>
        (bnd (wrI M12 17 r l 0 1) fun M13 =>
        (M13)))
      else
        (if (swm (nn (f_Jx29ce0_ordinal_8abf5 M (f_X8_comes M r)))) = 11 then
          (bnd (f_X8_takeOnce M r (rdI M 18 r l 0)) fun M15 =>
          (bnd (wrI M15 18 r l 0 1) fun M16 =>
          (M16)))
        else
          (f_X8_readRight_120 M r l))))
def s_X8_readRight (M : gM) (r : Nat) (l : Nat) : Prop :=
  (s_X8_comes M r) ∧
  ((f_X8_comes M r < 26) ∧
  ((s_Jx29ce0_ordinal_8abf5 M (f_X8_comes M r)) ∧
  ((vp_in (f_Jx29ce0_ordinal_8abf5 M (f_X8_comes M r)) 26) ∧
  (if (swm (nn (f_Jx29ce0_ordinal_8abf5 M (f_X8_comes M r)))) = 4 then
    ((s_X8_takeOnce M r (rdI M 16 r l 0)) ∧
    (bndP (f_X8_takeOnce M r (rdI M 16 r l 0)) fun M6 =>
    (bndP (wrI M6 16 r l 0 1) fun M7 =>
    (True))))
  else
    (if (swm (nn (f_Jx29ce0_ordinal_8abf5 M (f_X8_comes M r)))) = 9 then
      ((s_X8_takeOnce M r (rdI M 15 r l 0)) ∧
      (bndP (f_X8_takeOnce M r (rdI M 15 r l 0)) fun M9 =>
      (bndP (wrI M9 15 r l 0 1) fun M10 =>
      (True))))
    else
      (if (swm (nn (f_Jx29ce0_ordinal_8abf5 M (f_X8_comes M r)))) = 10 then
        ((s_X8_takeOnce M r (rdI M 17 r l 0)) ∧
        (bndP (f_X8_takeOnce M r (rdI M 17 r l 0)) fun M12 =>
        (bndP (wrI M12 17 r l 0 1) fun M13 =>
        (True))))
      else
        (if (swm (nn (f_Jx29ce0_ordinal_8abf5 M (f_X8_comes M r)))) = 11 then
          ((s_X8_takeOnce M r (rdI M 18 r l 0)) ∧
          (bndP (f_X8_takeOnce M r (rdI M 18 r l 0)) fun M15 =>
          (bndP (wrI M15 18 r l 0 1) fun M16 =>
          (True))))
        else
          (s_X8_readRight_120 M r l))))))))
theorem o_X8_readRight (M : gM) (r : Nat) (l : Nat) : offW [15, 16, 17, 18, 47, 48, 49] M (f_X8_readRight M r l) := by
  rw [f_X8_readRight]
  refine offI ?_ ?_
  · refine offB (offR.tr ((o_X8_takeOnce M r (rdI M 16 r l 0)).mono (by decide))) (fun M6 oM6 => ?_)
    refine offB (oM6.wI (by decide)) (fun M7 oM7 => ?_)
    exact oM7
  refine offI ?_ ?_
  · refine offB (offR.tr ((o_X8_takeOnce M r (rdI M 15 r l 0)).mono (by decide))) (fun M9 oM9 => ?_)
    refine offB (oM9.wI (by decide)) (fun M10 oM10 => ?_)
    exact oM10
  refine offI ?_ ?_
  · refine offB (offR.tr ((o_X8_takeOnce M r (rdI M 17 r l 0)).mono (by decide))) (fun M12 oM12 => ?_)
    refine offB (oM12.wI (by decide)) (fun M13 oM13 => ?_)
    exact oM13
  refine offI ?_ ?_
  · refine offB (offR.tr ((o_X8_takeOnce M r (rdI M 18 r l 0)).mono (by decide))) (fun M15 oM15 => ?_)
    refine offB (oM15.wI (by decide)) (fun M16 oM16 => ?_)
    exact oM16
  exact (o_X8_readRight_120 M r l)
set_option maxRecDepth 100000 in
set_option maxHeartbeats 4000000 in
theorem t_X8_readRight {E : gE} {K : gM → Prop} {Q : Option Value → gM → Prop} (hK : ∀ z : gM, K z → Q none z) (M : gM) (r : Nat) (l : Nat) (hr : r < 2) (hl : l < 2) (hs : s_X8_readRight M r l) (hQ : K (f_X8_readRight M r l)) : gG E RX8 cX8_readRight 2 none (rm 2) 0 [(0, .ref (gla E (trC r))), (1, .ref (gla E (laC r l)))] [] M Q := by
  rw [s_X8_readRight] at hs
  rw [f_X8_readRight] at hQ
  refine g_sw sl_X8_54 dX8_readRight_0 ?_
  refine g_aload_n 0 dX8_readRight_3 rfl ?_
  have h1 := hs.1; have hs := hs.2
  refine g_callV (As := []) (st := [.ref (gstSW E)]) (trC r) (c_X8_comes E M r hr h1) mt_X8_comes ml_X8_44 (dF_Tr hr) rfl rfl sg_X8_comes rfl (by decide) (Nat.le_of_ble_eq_true rfl) dX8_readRight_4 ?_
  rintro _ _ ⟨q1, q2⟩; rw [q1, q2]; clear q1 q2
  have h2 := hs.1; have hs := hs.2
  have h3 := hs.1; have hs := hs.2
  refine g_callO (st := [.ref (gstSW E)]) (f_X8_comes M r) h2 (c_Jx29ce0_ordinal_8abf5 E M (f_X8_comes M r) h2 h3) rfl rfl mo_X8_59 ow_sm ow_sel ow_in ow_ini ow_code ow_sg (by decide) (Nat.le_of_ble_eq_true rfl) dX8_readRight_7 ?_
  rintro _ _ ⟨q1, q2⟩; rw [q1, q2]; clear q1 q2
  have h4 := hs.1; have hs := hs.2
  refine g_swald h4 dX8_readRight_10 ?_
  by_cases c17 : (swm (nn (f_Jx29ce0_ordinal_8abf5 M (f_X8_comes M r)))) = 4
  · have hs := ifSt hs c17; have hQ := ifQt hQ c17
    refine g_tin 72 (k := 4) (z := 4) (off := 61) c17 dX8_readRight_11 (by decide) (by decide) (by decide) rfl (by decide) ?_
    refine g_aload_n 0 dX8_readRight_72 rfl ?_
    refine g_aload_n 1 dX8_readRight_73 rfl ?_
    refine g_getI (laC r l) fd_X8_131 (dF_La hr hl) rfl dX8_readRight_74 ?_
    have h5 := hs.1; have hs := hs.2
    refine g_callV (As := [.int (rdI M 16 r l 0)]) (st := []) (trC r) (c_X8_takeOnce E M r hr (rdI M 16 r l 0) h5) mt_X8_takeOnce ml_X8_127 (dF_Tr hr) rfl rfl sg_X8_takeOnce rfl (by decide) (Nat.le_of_ble_eq_true rfl) dX8_readRight_77 ?_
    rintro _ M6 ⟨rfl, hM6⟩
    have hQ := bndQ hQ M6 hM6; have hs := bndS hs M6 hM6
    refine g_aload_n 1 dX8_readRight_80 rfl ?_
    refine g_iconst (v := 1) dX8_readRight_81 (by decide) ?_
    refine g_putZ (laC r l) fd_X8_131 (Or.inr rfl) (dF_La hr hl) rfl dX8_readRight_82 (fun M7 hM7 => ?_)
    have hQ := bndQ hQ M7 hM7; have hs := bndS hs M7 hM7
    refine g_goto 125 dX8_readRight_85 (by decide) ?_
    exact g_vret rfl dX8_readRight_125 (hK _ hQ)
  have hs := ifSf hs c17; have hQ := ifQf hQ c17
  by_cases c18 : (swm (nn (f_Jx29ce0_ordinal_8abf5 M (f_X8_comes M r)))) = 9
  · have hs := ifSt hs c18; have hQ := ifQt hQ c18
    refine g_tin 56 (k := 9) (z := 9) (off := 45) c18 dX8_readRight_11 (by decide) (by decide) (by decide) rfl (by decide) ?_
    refine g_aload_n 0 dX8_readRight_56 rfl ?_
    refine g_aload_n 1 dX8_readRight_57 rfl ?_
    refine g_getI (laC r l) fd_X8_124 (dF_La hr hl) rfl dX8_readRight_58 ?_
    have h8 := hs.1; have hs := hs.2
    refine g_callV (As := [.int (rdI M 15 r l 0)]) (st := []) (trC r) (c_X8_takeOnce E M r hr (rdI M 15 r l 0) h8) mt_X8_takeOnce ml_X8_127 (dF_Tr hr) rfl rfl sg_X8_takeOnce rfl (by decide) (Nat.le_of_ble_eq_true rfl) dX8_readRight_61 ?_
    rintro _ M9 ⟨rfl, hM9⟩
    have hQ := bndQ hQ M9 hM9; have hs := bndS hs M9 hM9
    refine g_aload_n 1 dX8_readRight_64 rfl ?_
    refine g_iconst (v := 1) dX8_readRight_65 (by decide) ?_
    refine g_putZ (laC r l) fd_X8_124 (Or.inr rfl) (dF_La hr hl) rfl dX8_readRight_66 (fun M10 hM10 => ?_)
    have hQ := bndQ hQ M10 hM10; have hs := bndS hs M10 hM10
    refine g_goto 125 dX8_readRight_69 (by decide) ?_
    exact g_vret rfl dX8_readRight_125 (hK _ hQ)
  have hs := ifSf hs c18; have hQ := ifQf hQ c18
  by_cases c19 : (swm (nn (f_Jx29ce0_ordinal_8abf5 M (f_X8_comes M r)))) = 10
  · have hs := ifSt hs c19; have hQ := ifQt hQ c19
    refine g_tin 88 (k := 10) (z := 10) (off := 77) c19 dX8_readRight_11 (by decide) (by decide) (by decide) rfl (by decide) ?_
    refine g_aload_n 0 dX8_readRight_88 rfl ?_
    refine g_aload_n 1 dX8_readRight_89 rfl ?_
    refine g_getI (laC r l) fd_X8_134 (dF_La hr hl) rfl dX8_readRight_90 ?_
    have h11 := hs.1; have hs := hs.2
    refine g_callV (As := [.int (rdI M 17 r l 0)]) (st := []) (trC r) (c_X8_takeOnce E M r hr (rdI M 17 r l 0) h11) mt_X8_takeOnce ml_X8_127 (dF_Tr hr) rfl rfl sg_X8_takeOnce rfl (by decide) (Nat.le_of_ble_eq_true rfl) dX8_readRight_93 ?_
    rintro _ M12 ⟨rfl, hM12⟩
    have hQ := bndQ hQ M12 hM12; have hs := bndS hs M12 hM12
    refine g_aload_n 1 dX8_readRight_96 rfl ?_
    refine g_iconst (v := 1) dX8_readRight_97 (by decide) ?_
    refine g_putZ (laC r l) fd_X8_134 (Or.inr rfl) (dF_La hr hl) rfl dX8_readRight_98 (fun M13 hM13 => ?_)
    have hQ := bndQ hQ M13 hM13; have hs := bndS hs M13 hM13
    refine g_goto 125 dX8_readRight_101 (by decide) ?_
    exact g_vret rfl dX8_readRight_125 (hK _ hQ)
  have hs := ifSf hs c19; have hQ := ifQf hQ c19
  by_cases c20 : (swm (nn (f_Jx29ce0_ordinal_8abf5 M (f_X8_comes M r)))) = 11
  · have hs := ifSt hs c20; have hQ := ifQt hQ c20
    refine g_tin 104 (k := 11) (z := 11) (off := 93) c20 dX8_readRight_11 (by decide) (by decide) (by decide) rfl (by decide) ?_
    refine g_aload_n 0 dX8_readRight_104 rfl ?_
    refine g_aload_n 1 dX8_readRight_105 rfl ?_
    refine g_getI (laC r l) fd_X8_137 (dF_La hr hl) rfl dX8_readRight_106 ?_
    have h14 := hs.1; have hs := hs.2
    refine g_callV (As := [.int (rdI M 18 r l 0)]) (st := []) (trC r) (c_X8_takeOnce E M r hr (rdI M 18 r l 0) h14) mt_X8_takeOnce ml_X8_127 (dF_Tr hr) rfl rfl sg_X8_takeOnce rfl (by decide) (Nat.le_of_ble_eq_true rfl) dX8_readRight_109 ?_
    rintro _ M15 ⟨rfl, hM15⟩
    have hQ := bndQ hQ M15 hM15; have hs := bndS hs M15 hM15
    refine g_aload_n 1 dX8_readRight_112 rfl ?_
    refine g_iconst (v := 1) dX8_readRight_113 (by decide) ?_
    refine g_putZ (laC r l) fd_X8_137 (Or.inr rfl) (dF_La hr hl) rfl dX8_readRight_114 (fun M16 hM16 => ?_)
    have hQ := bndQ hQ M16 hM16; have hs := bndS hs M16 hM16
    refine g_goto 125 dX8_readRight_117 (by decide) ?_
    exact g_vret rfl dX8_readRight_125 (hK _ hQ)
  have hs := ifSf hs c20; have hQ := ifQf hQ c20
  refine g_tdf 120 dX8_readRight_11 (fun h1 h2 => by have ec17 : ¬ Int32.toInt (swm (nn (f_Jx29ce0_ordinal_8abf5 M (f_X8_comes M r)))) = 4 := ne_ti c17 (by decide); have ec18 : ¬ Int32.toInt (swm (nn (f_Jx29ce0_ordinal_8abf5 M (f_X8_comes M r)))) = 9 := ne_ti c18 (by decide); have ec19 : ¬ Int32.toInt (swm (nn (f_Jx29ce0_ordinal_8abf5 M (f_X8_comes M r)))) = 10 := ne_ti c19 (by decide); have ec20 : ¬ Int32.toInt (swm (nn (f_Jx29ce0_ordinal_8abf5 M (f_X8_comes M r)))) = 11 := ne_ti c20 (by decide); have e : Int32.toInt (swm (nn (f_Jx29ce0_ordinal_8abf5 M (f_X8_comes M r)))) = 5 ∨ Int32.toInt (swm (nn (f_Jx29ce0_ordinal_8abf5 M (f_X8_comes M r)))) = 6 ∨ Int32.toInt (swm (nn (f_Jx29ce0_ordinal_8abf5 M (f_X8_comes M r)))) = 7 ∨ Int32.toInt (swm (nn (f_Jx29ce0_ordinal_8abf5 M (f_X8_comes M r)))) = 8 := (by omega); rcases e with e | e | e | e <;> rw [e] <;> rfl) (by decide) ?_
  refine g_sub [0] _ rfl ?_
  exact t_X8_readRight_120 hK M r l hr hl hs hQ
theorem c_X8_readRight (E : gE) (M : gM) (r : Nat) (l : Nat) (hr : r < 2) (hl : l < 2) (hs : s_X8_readRight M r l) : gC E yX8_readRight cX8_readRight 2 none (rm 2) [.ref (gla E (trC r)), .ref (gla E (laC r l))] M (fun o N => o = none ∧ N = f_X8_readRight M r l) :=
  gC.of (by decide +kernel) (Nat.le_of_ble_eq_true rfl) rfl (t_X8_readRight (K := fun z => z = f_X8_readRight M r l) (fun z hz => ⟨rfl, hz⟩) M r l hr hl hs rfl)
def f_X8_readPerson (M : gM) (r : Nat) : gM :=
  bnd (f_X8_takeOneMore M r (rdI M 5 r 0 0) 10) fun M2 =>
  (bnd (f_X8_takeNewName M2 r 0 (rdI M2 5 r 0 0)) fun M4 =>
  (bnd (f_X8_takeNumber M4 r 0 1) fun z6 =>
  (if (rdI z6.2 48 r 0 0) = 0 then
    (bnd (f_X7_addPerson z6.2 r z6.1) fun M9 =>
    (M9))
  else
    (z6.2))))
def s_X8_readPerson (M : gM) (r : Nat) : Prop :=
  (s_X8_takeOneMore M r (rdI M 5 r 0 0) 10) ∧
  (bndP (f_X8_takeOneMore M r (rdI M 5 r 0 0) 10) fun M2 =>
  ((s_X8_takeNewName M2 r 0 (rdI M2 5 r 0 0)) ∧
  (bndP (f_X8_takeNewName M2 r 0 (rdI M2 5 r 0 0)) fun M4 =>
  ((s_X8_takeNumber M4 r 0 1) ∧
  (bndP (f_X8_takeNumber M4 r 0 1) fun z6 =>
  (if (rdI z6.2 48 r 0 0) = 0 then
    ((s_X7_addPerson z6.2 r z6.1) ∧
    (bndP (f_X7_addPerson z6.2 r z6.1) fun M9 =>
    (True)))
  else
    (True)))))))
theorem o_X8_readPerson (M : gM) (r : Nat) : offW [5, 19, 20, 21, 47, 48, 49, 50] M (f_X8_readPerson M r) := by
  rw [f_X8_readPerson]
  refine offB (offR.tr ((o_X8_takeOneMore M r (rdI M 5 r 0 0) 10).mono (by decide))) (fun M2 oM2 => ?_)
  refine offB (oM2.tr ((o_X8_takeNewName M2 r 0 (rdI M2 5 r 0 0)).mono (by decide))) (fun M4 oM4 => ?_)
  refine offZ (oM4.tr ((o_X8_takeNumber M4 r 0 1).mono (by decide))) (fun z6 oz6 => ?_)
  refine offI ?_ ?_
  · refine offB (oz6.tr ((o_X7_addPerson z6.2 r z6.1).mono (by decide))) (fun M9 oM9 => ?_)
    exact oM9
  · exact oz6
set_option maxRecDepth 100000 in
set_option maxHeartbeats 4000000 in
theorem t_X8_readPerson {E : gE} {K : gM → Prop} {Q : Option Value → gM → Prop} (hK : ∀ z : gM, K z → Q none z) (M : gM) (r : Nat) (hr : r < 2) (hs : s_X8_readPerson M r) (hQ : K (f_X8_readPerson M r)) : gG E RX8 cX8_readPerson 2 none (rm 2) 0 [(0, .ref (gla E (trC r)))] [] M Q := by
  rw [s_X8_readPerson] at hs
  rw [f_X8_readPerson] at hQ
  refine g_aload_n 0 dX8_readPerson_0 rfl ?_
  refine g_aload_n 0 dX8_readPerson_1 rfl ?_
  refine g_getR (trC r) (rgC r) fd_X8_25 (dF_Tr hr) rfl rfl dX8_readPerson_2 ?_
  refine g_getI (rgC r) fd_X8_140 (dF_Rg hr) rfl dX8_readPerson_5 ?_
  refine g_bipush (v := 10) dX8_readPerson_8 (by decide) ?_
  have h1 := hs.1; have hs := hs.2
  refine g_callV (As := [.int (rdI M 5 r 0 0), .int 10]) (st := []) (trC r) (c_X8_takeOneMore E M r hr (rdI M 5 r 0 0) 10 h1) mt_X8_takeOneMore ml_X8_143 (dF_Tr hr) rfl rfl sg_X8_takeOneMore rfl (by decide) (Nat.le_of_ble_eq_true rfl) dX8_readPerson_10 ?_
  rintro _ M2 ⟨rfl, hM2⟩
  have hQ := bndQ hQ M2 hM2; have hs := bndS hs M2 hM2
  refine g_aload_n 0 dX8_readPerson_13 rfl ?_
  refine g_aload_n 0 dX8_readPerson_14 rfl ?_
  refine g_getR (trC r) (trC r + 1 + 0) fd_X8_9 (dF_Tr hr) rfl rfl dX8_readPerson_15 ?_
  refine g_aload_n 0 dX8_readPerson_18 rfl ?_
  refine g_getR (trC r) (rgC r) fd_X8_25 (dF_Tr hr) rfl rfl dX8_readPerson_19 ?_
  refine g_getI (rgC r) fd_X8_140 (dF_Rg hr) rfl dX8_readPerson_22 ?_
  have h3 := hs.1; have hs := hs.2
  refine g_callV (As := [.ref (gla E (trC r + 1 + 0)), .int (rdI M2 5 r 0 0)]) (st := []) (trC r) (c_X8_takeNewName E M2 r 0 hr lt03 (rdI M2 5 r 0 0) h3) mt_X8_takeNewName ml_X8_147 (dF_Tr hr) rfl rfl sg_X8_takeNewName rfl (by decide) (Nat.le_of_ble_eq_true rfl) dX8_readPerson_25 ?_
  rintro _ M4 ⟨rfl, hM4⟩
  have hQ := bndQ hQ M4 hM4; have hs := bndS hs M4 hM4
  refine g_aload_n 0 dX8_readPerson_28 rfl ?_
  refine g_iconst (v := 0) dX8_readPerson_29 (by decide) ?_
  refine g_iconst (v := 1) dX8_readPerson_30 (by decide) ?_
  have h5 := hs.1; have hs := hs.2
  refine g_callV (As := [.int 0, .int 1]) (st := []) (trC r) (c_X8_takeNumber E M4 r hr 0 1 h5) mt_X8_takeNumber ml_X8_101 (dF_Tr hr) rfl rfl sg_X8_takeNumber rfl (by decide) (Nat.le_of_ble_eq_true rfl) dX8_readPerson_31 ?_
  rintro _ _ ⟨rfl, rfl⟩
  obtain ⟨z6, hz6⟩ : ∃ z, z = f_X8_takeNumber M4 r 0 1 := ⟨_, rfl⟩
  rw [← hz6]
  have hQ := bndQ hQ z6 hz6; have hs := bndS hs z6 hz6
  refine g_istore_n _ dX8_readPerson_34 (by decide) rfl ?_
  refine g_aload_n 1 dX8_readPerson_35 rfl ?_
  refine g_getI (trC r) fd_X8_38 (dF_Tr hr) rfl dX8_readPerson_36 ?_
  refine g_if_ne 50 dX8_readPerson_39 (by decide) (fun c7 => ?_) (fun c7 => ?_)
  · have hs := ifSf hs c7; have hQ := ifQf hQ c7
    exact g_vret rfl dX8_readPerson_50 (hK _ hQ)
  · have hs := ifSt hs c7; have hQ := ifQt hQ c7
    refine g_aload_n 1 dX8_readPerson_42 rfl ?_
    refine g_getR (trC r) (rgC r) fd_X8_25 (dF_Tr hr) rfl rfl dX8_readPerson_43 ?_
    refine g_iload_n 0 dX8_readPerson_46 rfl ?_
    have h8 := hs.1; have hs := hs.2
    refine g_callV (As := [.int z6.1]) (st := []) (rgC r) (c_X7_addPerson E z6.2 r hr z6.1 h8) mt_X7_addPerson ml_X8_151 (dF_Rg hr) rfl rfl sg_X7_addPerson rfl (by decide) (Nat.le_of_ble_eq_true rfl) dX8_readPerson_47 ?_
    rintro _ M9 ⟨rfl, hM9⟩
    have hQ := bndQ hQ M9 hM9; have hs := bndS hs M9 hM9
    exact g_vret rfl dX8_readPerson_50 (hK _ hQ)
theorem c_X8_readPerson (E : gE) (M : gM) (r : Nat) (hr : r < 2) (hs : s_X8_readPerson M r) : gC E yX8_readPerson cX8_readPerson 2 none (rm 2) [.ref (gla E (trC r))] M (fun o N => o = none ∧ N = f_X8_readPerson M r) :=
  gC.of (by decide +kernel) (Nat.le_of_ble_eq_true rfl) rfl (t_X8_readPerson (K := fun z => z = f_X8_readPerson M r) (fun z hz => ⟨rfl, hz⟩) M r hr hs rfl)
def f_X8_takePerson (M : gM) (r : Nat) : Int32 × gM :=
  bnd (f_X8_takeKnownName M r 0 (rdI M 5 r 0 0)) fun z2 =>
  ((z2.1, z2.2))
def s_X8_takePerson (M : gM) (r : Nat) : Prop :=
  (s_X8_takeKnownName M r 0 (rdI M 5 r 0 0)) ∧
  (bndP (f_X8_takeKnownName M r 0 (rdI M 5 r 0 0)) fun z2 =>
  (True))
theorem o_X8_takePerson (M : gM) (r : Nat) : offW [47, 48, 49] M (f_X8_takePerson M r).2 := by
  rw [f_X8_takePerson]
  refine offZ2 (offR.tr ((o_X8_takeKnownName M r 0 (rdI M 5 r 0 0)).mono (by decide))) (fun z2 oz2 => ?_)
  exact oz2
set_option maxRecDepth 100000 in
set_option maxHeartbeats 4000000 in
theorem t_X8_takePerson {E : gE} {K : Int32 × gM → Prop} {Q : Option Value → gM → Prop} (hK : ∀ z : Int32 × gM, K z → Q (some (.int z.1)) z.2) (M : gM) (r : Nat) (hr : r < 2) (hs : s_X8_takePerson M r) (hQ : K (f_X8_takePerson M r)) : gG E RX8 cX8_takePerson 1 (some .int) (rm 2) 0 [(0, .ref (gla E (trC r)))] [] M Q := by
  rw [s_X8_takePerson] at hs
  rw [f_X8_takePerson] at hQ
  refine g_aload_n 0 dX8_takePerson_0 rfl ?_
  refine g_aload_n 0 dX8_takePerson_1 rfl ?_
  refine g_getR (trC r) (trC r + 1 + 0) fd_X8_9 (dF_Tr hr) rfl rfl dX8_takePerson_2 ?_
  refine g_aload_n 0 dX8_takePerson_5 rfl ?_
  refine g_getR (trC r) (rgC r) fd_X8_25 (dF_Tr hr) rfl rfl dX8_takePerson_6 ?_
  refine g_getI (rgC r) fd_X8_140 (dF_Rg hr) rfl dX8_takePerson_9 ?_
  have h1 := hs.1; have hs := hs.2
  refine g_callV (As := [.ref (gla E (trC r + 1 + 0)), .int (rdI M 5 r 0 0)]) (st := []) (trC r) (c_X8_takeKnownName E M r 0 hr lt03 (rdI M 5 r 0 0) h1) mt_X8_takeKnownName ml_X8_288 (dF_Tr hr) rfl rfl sg_X8_takeKnownName rfl (by decide) (Nat.le_of_ble_eq_true rfl) dX8_takePerson_12 ?_
  rintro _ _ ⟨rfl, rfl⟩
  obtain ⟨z2, hz2⟩ : ∃ z, z = f_X8_takeKnownName M r 0 (rdI M 5 r 0 0) := ⟨_, rfl⟩
  rw [← hz2]
  have hQ := bndQ hQ z2 hz2; have hs := bndS hs z2 hz2
  exact g_iret rfl dX8_takePerson_15 (hK _ hQ)
theorem c_X8_takePerson (E : gE) (M : gM) (r : Nat) (hr : r < 2) (hs : s_X8_takePerson M r) : gC E yX8_takePerson cX8_takePerson 1 (some .int) (rm 2) [.ref (gla E (trC r))] M (fun o N => o = some (.int (f_X8_takePerson M r).1) ∧ N = (f_X8_takePerson M r).2) :=
  gC.of (by decide +kernel) (Nat.le_of_ble_eq_true rfl) rfl (t_X8_takePerson (K := fun z => z = f_X8_takePerson M r) (fun z hz => by rw [hz]; exact ⟨rfl, rfl⟩) M r hr hs rfl)
def f_X8_takeThing (M : gM) (r : Nat) : Int32 × gM :=
  bnd (f_X8_takeKnownName M r 1 (rdI M 6 r 0 0)) fun z2 =>
  ((z2.1, z2.2))
def s_X8_takeThing (M : gM) (r : Nat) : Prop :=
  (s_X8_takeKnownName M r 1 (rdI M 6 r 0 0)) ∧
  (bndP (f_X8_takeKnownName M r 1 (rdI M 6 r 0 0)) fun z2 =>
  (True))
theorem o_X8_takeThing (M : gM) (r : Nat) : offW [47, 48, 49] M (f_X8_takeThing M r).2 := by
  rw [f_X8_takeThing]
  refine offZ2 (offR.tr ((o_X8_takeKnownName M r 1 (rdI M 6 r 0 0)).mono (by decide))) (fun z2 oz2 => ?_)
  exact oz2
set_option maxRecDepth 100000 in
set_option maxHeartbeats 4000000 in
theorem t_X8_takeThing {E : gE} {K : Int32 × gM → Prop} {Q : Option Value → gM → Prop} (hK : ∀ z : Int32 × gM, K z → Q (some (.int z.1)) z.2) (M : gM) (r : Nat) (hr : r < 2) (hs : s_X8_takeThing M r) (hQ : K (f_X8_takeThing M r)) : gG E RX8 cX8_takeThing 1 (some .int) (rm 2) 0 [(0, .ref (gla E (trC r)))] [] M Q := by
  rw [s_X8_takeThing] at hs
  rw [f_X8_takeThing] at hQ
  refine g_aload_n 0 dX8_takeThing_0 rfl ?_
  refine g_aload_n 0 dX8_takeThing_1 rfl ?_
  refine g_getR (trC r) (trC r + 1 + 1) fd_X8_15 (dF_Tr hr) rfl rfl dX8_takeThing_2 ?_
  refine g_aload_n 0 dX8_takeThing_5 rfl ?_
  refine g_getR (trC r) (rgC r) fd_X8_25 (dF_Tr hr) rfl rfl dX8_takeThing_6 ?_
  refine g_getI (rgC r) fd_X8_179 (dF_Rg hr) rfl dX8_takeThing_9 ?_
  have h1 := hs.1; have hs := hs.2
  refine g_callV (As := [.ref (gla E (trC r + 1 + 1)), .int (rdI M 6 r 0 0)]) (st := []) (trC r) (c_X8_takeKnownName E M r 1 hr lt13 (rdI M 6 r 0 0) h1) mt_X8_takeKnownName ml_X8_288 (dF_Tr hr) rfl rfl sg_X8_takeKnownName rfl (by decide) (Nat.le_of_ble_eq_true rfl) dX8_takeThing_12 ?_
  rintro _ _ ⟨rfl, rfl⟩
  obtain ⟨z2, hz2⟩ : ∃ z, z = f_X8_takeKnownName M r 1 (rdI M 6 r 0 0) := ⟨_, rfl⟩
  rw [← hz2]
  have hQ := bndQ hQ z2 hz2; have hs := bndS hs z2 hz2
  exact g_iret rfl dX8_takeThing_15 (hK _ hQ)
theorem c_X8_takeThing (E : gE) (M : gM) (r : Nat) (hr : r < 2) (hs : s_X8_takeThing M r) : gC E yX8_takeThing cX8_takeThing 1 (some .int) (rm 2) [.ref (gla E (trC r))] M (fun o N => o = some (.int (f_X8_takeThing M r).1) ∧ N = (f_X8_takeThing M r).2) :=
  gC.of (by decide +kernel) (Nat.le_of_ble_eq_true rfl) rfl (t_X8_takeThing (K := fun z => z = f_X8_takeThing M r) (fun z hz => by rw [hz]; exact ⟨rfl, rfl⟩) M r hr hs rfl)
def f_X8_takePaper (M : gM) (r : Nat) : Int32 × gM :=
  bnd (f_X8_takeKnownName M r 2 (rdI M 7 r 0 0)) fun z2 =>
  ((z2.1, z2.2))
def s_X8_takePaper (M : gM) (r : Nat) : Prop :=
  (s_X8_takeKnownName M r 2 (rdI M 7 r 0 0)) ∧
  (bndP (f_X8_takeKnownName M r 2 (rdI M 7 r 0 0)) fun z2 =>
  (True))
theorem o_X8_takePaper (M : gM) (r : Nat) : offW [47, 48, 49] M (f_X8_takePaper M r).2 := by
  rw [f_X8_takePaper]
  refine offZ2 (offR.tr ((o_X8_takeKnownName M r 2 (rdI M 7 r 0 0)).mono (by decide))) (fun z2 oz2 => ?_)
  exact oz2
set_option maxRecDepth 100000 in
set_option maxHeartbeats 4000000 in
theorem t_X8_takePaper {E : gE} {K : Int32 × gM → Prop} {Q : Option Value → gM → Prop} (hK : ∀ z : Int32 × gM, K z → Q (some (.int z.1)) z.2) (M : gM) (r : Nat) (hr : r < 2) (hs : s_X8_takePaper M r) (hQ : K (f_X8_takePaper M r)) : gG E RX8 cX8_takePaper 1 (some .int) (rm 2) 0 [(0, .ref (gla E (trC r)))] [] M Q := by
  rw [s_X8_takePaper] at hs
  rw [f_X8_takePaper] at hQ
  refine g_aload_n 0 dX8_takePaper_0 rfl ?_
  refine g_aload_n 0 dX8_takePaper_1 rfl ?_
  refine g_getR (trC r) (trC r + 1 + 2) fd_X8_18 (dF_Tr hr) rfl rfl dX8_takePaper_2 ?_
  refine g_aload_n 0 dX8_takePaper_5 rfl ?_
  refine g_getR (trC r) (rgC r) fd_X8_25 (dF_Tr hr) rfl rfl dX8_takePaper_6 ?_
  refine g_getI (rgC r) fd_X8_185 (dF_Rg hr) rfl dX8_takePaper_9 ?_
  have h1 := hs.1; have hs := hs.2
  refine g_callV (As := [.ref (gla E (trC r + 1 + 2)), .int (rdI M 7 r 0 0)]) (st := []) (trC r) (c_X8_takeKnownName E M r 2 hr lt23 (rdI M 7 r 0 0) h1) mt_X8_takeKnownName ml_X8_288 (dF_Tr hr) rfl rfl sg_X8_takeKnownName rfl (by decide) (Nat.le_of_ble_eq_true rfl) dX8_takePaper_12 ?_
  rintro _ _ ⟨rfl, rfl⟩
  obtain ⟨z2, hz2⟩ : ∃ z, z = f_X8_takeKnownName M r 2 (rdI M 7 r 0 0) := ⟨_, rfl⟩
  rw [← hz2]
  have hQ := bndQ hQ z2 hz2; have hs := bndS hs z2 hz2
  exact g_iret rfl dX8_takePaper_15 (hK _ hQ)
theorem c_X8_takePaper (E : gE) (M : gM) (r : Nat) (hr : r < 2) (hs : s_X8_takePaper M r) : gC E yX8_takePaper cX8_takePaper 1 (some .int) (rm 2) [.ref (gla E (trC r))] M (fun o N => o = some (.int (f_X8_takePaper M r).1) ∧ N = (f_X8_takePaper M r).2) :=
  gC.of (by decide +kernel) (Nat.le_of_ble_eq_true rfl) rfl (t_X8_takePaper (K := fun z => z = f_X8_takePaper M r) (fun z hz => by rw [hz]; exact ⟨rfl, rfl⟩) M r hr hs rfl)
def f_X8_readLand_47 (r : Nat) (x1c1 : Nat)  : Nat → gM → Int32 → gM
  | 0, M, _ => M
  | n + 1, M, x2 =>
    if 1200 < x2 then
      (M)
    else
      (if (rdI M 48 r 0 0) = 0 then
        (if f_X8_comes M r = 23 then
          (M)
        else
          (bnd (f_X8_readRight M r x1c1) fun M19 =>
          (f_X8_readLand_47 r x1c1 n M19 (x2 + 1))))
      else
        (M))
def s_X8_readLand_47 (r : Nat) (x1c1 : Nat)  : Nat → gM → Int32 → Prop
  | 0, _, _ => False
  | n + 1, M, x2 =>
    if 1200 < x2 then
      (True)
    else
      (if (rdI M 48 r 0 0) = 0 then
        ((s_X8_comes M r) ∧
        ((f_X8_comes M r < 26) ∧
        (if f_X8_comes M r = 23 then
          (True)
        else
          ((s_X8_readRight M r x1c1) ∧
          (bndP (f_X8_readRight M r x1c1) fun M19 =>
          (s_X8_readLand_47 r x1c1 n M19 (x2 + 1)))))))
      else
        (True))
theorem o_X8_readLand_47 (r : Nat) (x1c1 : Nat)  : ∀ (n : Nat) (M : gM) (x2 : Int32), offW [13, 14, 15, 16, 17, 18, 47, 48, 49] M (f_X8_readLand_47 r x1c1  n M x2) := by
  intro n
  induction n with
  | zero => intro M x2; exact offR
  | succ n ih =>
    intro M x2
    rw [f_X8_readLand_47]
    refine offI ?_ ?_
    · exact offR
    · refine offI ?_ ?_
      · refine offI ?_ ?_
        · exact offR
        · refine offB (offR.tr ((o_X8_readRight M r x1c1).mono (by decide))) (fun M19 oM19 => ?_)
          exact oM19.tr (ih M19 (x2 + 1))
      · exact offR
set_option maxRecDepth 100000 in
set_option maxHeartbeats 4000000 in
theorem t_X8_readLand_47 {E : gE} {K : gM → Prop} {Q : Option Value → gM → Prop} (hK : ∀ z : gM, K z → Q none z) (r : Nat) (x1c1 : Nat) (hr : r < 2) (hx1c1 : x1c1 < 2)  : ∀ (n : Nat) (M : gM) (x2 : Int32) , s_X8_readLand_47 r x1c1  n M x2 → K (f_X8_readLand_47 r x1c1  n M x2) → gG E RX8 cX8_readLand 3 none (rm 3) 47 [(0, .ref (gla E (trC r))), (1, .ref (gla E (laC r x1c1))), (2, .int x2)] [] M Q := by
  intro n
  induction n with
  | zero => intro M x2 hs hQ; exact (hs : False).elim
  | succ n ih =>
    intro M x2 hs hQ
    rw [s_X8_readLand_47] at hs
    rw [f_X8_readLand_47] at hQ
    refine g_iload_n 2 dX8_readLand_47 rfl ?_
    refine g_sipush (v := 1200) dX8_readLand_48 (by decide) ?_
    refine g_icmp_gt 82 dX8_readLand_51 (by decide) (fun c13 => ?_) (fun c13 => ?_)
    · have hs := ifSt hs c13; have hQ := ifQt hQ c13
      exact g_vret rfl dX8_readLand_82 (hK _ hQ)
    · have hs := ifSf hs c13; have hQ := ifQf hQ c13
      refine g_aload_n 0 dX8_readLand_54 rfl ?_
      refine g_getI (trC r) fd_X8_38 (dF_Tr hr) rfl dX8_readLand_55 ?_
      refine g_if_ne 82 dX8_readLand_58 (by decide) (fun c14 => ?_) (fun c14 => ?_)
      · have hs := ifSf hs c14; have hQ := ifQf hQ c14
        exact g_vret rfl dX8_readLand_82 (hK _ hQ)
      · have hs := ifSt hs c14; have hQ := ifQt hQ c14
        refine g_aload_n 0 dX8_readLand_61 rfl ?_
        have h15 := hs.1; have hs := hs.2
        refine g_callV (As := []) (st := []) (trC r) (c_X8_comes E M r hr h15) mt_X8_comes ml_X8_44 (dF_Tr hr) rfl rfl sg_X8_comes rfl (by decide) (Nat.le_of_ble_eq_true rfl) dX8_readLand_62 ?_
        rintro _ _ ⟨q1, q2⟩; rw [q1, q2]; clear q1 q2
        refine g_tok 23 (by decide) tl_X8_117 dX8_readLand_65 ?_
        have h16 := hs.1; have hs := hs.2
        refine g_acmp_eq 82 h16 (by decide) dX8_readLand_68 (by decide) (fun c17 => ?_) (fun c17 => ?_)
        · have hs := ifSt hs c17; have hQ := ifQt hQ c17
          exact g_vret rfl dX8_readLand_82 (hK _ hQ)
        · have hs := ifSf hs c17; have hQ := ifQf hQ c17
          refine g_aload_n 0 dX8_readLand_71 rfl ?_
          refine g_aload_n 1 dX8_readLand_72 rfl ?_
          have h18 := hs.1; have hs := hs.2
          refine g_callV (As := [.ref (gla E (laC r x1c1))]) (st := []) (trC r) (c_X8_readRight E M r x1c1 hr hx1c1 h18) mt_X8_readRight ml_X8_120 (dF_Tr hr) rfl rfl sg_X8_readRight rfl (by decide) (Nat.le_of_ble_eq_true rfl) dX8_readLand_73 ?_
          rintro _ M19 ⟨rfl, hM19⟩
          have hQ := bndQ hQ M19 hM19; have hs := bndS hs M19 hM19
          refine g_iinc 2 (v := x2 + 1) _ dX8_readLand_76 rfl rfl (by decide) rfl ?_
          refine g_goto 47 dX8_readLand_79 (by decide) ?_
          refine g_sub [1, 2, 0] _ rfl ?_
          exact ih M19 (x2 + 1) hs hQ
def f_X8_readLand_30 (M : gM) (r : Nat) (x1c1 : Nat)  : gM :=
  bnd (wrI M 13 r x1c1 0 1) fun M9 =>
  (bnd (f_X8_takeNumber M9 r 0 4) fun z11 =>
  (bnd (wrI z11.2 14 r x1c1 0 z11.1) fun M12 =>
  (f_X8_readLand_47 r x1c1 FU M12 0)))
def s_X8_readLand_30 (M : gM) (r : Nat) (x1c1 : Nat)  : Prop :=
  bndP (wrI M 13 r x1c1 0 1) fun M9 =>
  ((s_X8_takeNumber M9 r 0 4) ∧
  (bndP (f_X8_takeNumber M9 r 0 4) fun z11 =>
  (bndP (wrI z11.2 14 r x1c1 0 z11.1) fun M12 =>
  (s_X8_readLand_47 r x1c1 FU M12 0))))
theorem o_X8_readLand_30 (M : gM) (r : Nat) (x1c1 : Nat)  : offW [13, 14, 15, 16, 17, 18, 47, 48, 49] M (f_X8_readLand_30 M r x1c1 ) := by
  rw [f_X8_readLand_30]
  refine offB (offR.wI (by decide)) (fun M9 oM9 => ?_)
  refine offZ (oM9.tr ((o_X8_takeNumber M9 r 0 4).mono (by decide))) (fun z11 oz11 => ?_)
  refine offB (oz11.wI (by decide)) (fun M12 oM12 => ?_)
  exact oM12.tr (o_X8_readLand_47 r x1c1 FU M12 0)
set_option maxRecDepth 100000 in
set_option maxHeartbeats 4000000 in
theorem t_X8_readLand_30 {E : gE} {K : gM → Prop} {Q : Option Value → gM → Prop} (hK : ∀ z : gM, K z → Q none z) (M : gM) (r : Nat) (x1c1 : Nat) (hr : r < 2) (hx1c1 : x1c1 < 2)  (hs : s_X8_readLand_30 M r x1c1 ) (hQ : K (f_X8_readLand_30 M r x1c1 )) : gG E RX8 cX8_readLand 3 none (rm 3) 30 [(0, .ref (gla E (trC r))), (1, .ref (gla E (laC r x1c1)))] [] M Q := by
  rw [s_X8_readLand_30] at hs
  rw [f_X8_readLand_30] at hQ
  refine g_aload_n 1 dX8_readLand_30 rfl ?_
  refine g_iconst (v := 1) dX8_readLand_31 (by decide) ?_
  refine g_putZ (laC r x1c1) fd_X8_105 (Or.inr rfl) (dF_La hr hx1c1) rfl dX8_readLand_32 (fun M9 hM9 => ?_)
  have hQ := bndQ hQ M9 hM9; have hs := bndS hs M9 hM9
  refine g_aload_n 1 dX8_readLand_35 rfl ?_
  refine g_aload_n 0 dX8_readLand_36 rfl ?_
  refine g_iconst (v := 0) dX8_readLand_37 (by decide) ?_
  refine g_iconst (v := 4) dX8_readLand_38 (by decide) ?_
  have h10 := hs.1; have hs := hs.2
  refine g_callV (As := [.int 0, .int 4]) (st := [.ref (gla E (laC r x1c1))]) (trC r) (c_X8_takeNumber E M9 r hr 0 4 h10) mt_X8_takeNumber ml_X8_101 (dF_Tr hr) rfl rfl sg_X8_takeNumber rfl (by decide) (Nat.le_of_ble_eq_true rfl) dX8_readLand_39 ?_
  rintro _ _ ⟨rfl, rfl⟩
  obtain ⟨z11, hz11⟩ : ∃ z, z = f_X8_takeNumber M9 r 0 4 := ⟨_, rfl⟩
  rw [← hz11]
  have hQ := bndQ hQ z11 hz11; have hs := bndS hs z11 hz11
  refine g_putI (laC r x1c1) fd_X8_114 (dF_La hr hx1c1) rfl dX8_readLand_42 (fun M12 hM12 => ?_)
  have hQ := bndQ hQ M12 hM12; have hs := bndS hs M12 hM12
  refine g_iconst (v := 0) dX8_readLand_45 (by decide) ?_
  refine g_istore_n _ dX8_readLand_46 (by decide) rfl ?_
  refine g_sub [1, 2, 0] _ rfl ?_
  exact t_X8_readLand_47 hK r x1c1 hr hx1c1 FU M12 0 hs hQ
def f_X8_readLand (M : gM) (r : Nat) : gM :=
  bnd (f_X8_takeToken M r) fun M2 =>
  (bnd (f_X8_takeNumber M2 r 0 1) fun z4 =>
  (if (rdI z4.2 13 r (nn z4.1) 0) = 0 then
    (f_X8_readLand_30 z4.2 r (nn z4.1))
  else
    (bnd (f_X8_failAtTaken z4.2 r) fun M8 =>
    (f_X8_readLand_30 M8 r (nn z4.1)))))
def s_X8_readLand (M : gM) (r : Nat) : Prop :=
  (s_X8_takeToken M r) ∧
  (bndP (f_X8_takeToken M r) fun M2 =>
  ((s_X8_takeNumber M2 r 0 1) ∧
  (bndP (f_X8_takeNumber M2 r 0 1) fun z4 =>
  ((vp_in z4.1 2) ∧
  (if (rdI z4.2 13 r (nn z4.1) 0) = 0 then
    (s_X8_readLand_30 z4.2 r (nn z4.1))
  else
    ((s_X8_failAtTaken z4.2 r) ∧
    (bndP (f_X8_failAtTaken z4.2 r) fun M8 =>
    (s_X8_readLand_30 M8 r (nn z4.1)))))))))
theorem o_X8_readLand (M : gM) (r : Nat) : offW [13, 14, 15, 16, 17, 18, 47, 48, 49] M (f_X8_readLand M r) := by
  rw [f_X8_readLand]
  refine offB (offR.tr ((o_X8_takeToken M r).mono (by decide))) (fun M2 oM2 => ?_)
  refine offZ (oM2.tr ((o_X8_takeNumber M2 r 0 1).mono (by decide))) (fun z4 oz4 => ?_)
  refine offI ?_ ?_
  · exact oz4.tr (o_X8_readLand_30 z4.2 r (nn z4.1))
  · refine offB (oz4.tr ((o_X8_failAtTaken z4.2 r).mono (by decide))) (fun M8 oM8 => ?_)
    exact oM8.tr (o_X8_readLand_30 M8 r (nn z4.1))
set_option maxRecDepth 100000 in
set_option maxHeartbeats 4000000 in
theorem t_X8_readLand {E : gE} {K : gM → Prop} {Q : Option Value → gM → Prop} (hK : ∀ z : gM, K z → Q none z) (M : gM) (r : Nat) (hr : r < 2) (hs : s_X8_readLand M r) (hQ : K (f_X8_readLand M r)) : gG E RX8 cX8_readLand 3 none (rm 3) 0 [(0, .ref (gla E (trC r)))] [] M Q := by
  rw [s_X8_readLand] at hs
  rw [f_X8_readLand] at hQ
  refine g_aload_n 0 dX8_readLand_0 rfl ?_
  have h1 := hs.1; have hs := hs.2
  refine g_callV (As := []) (st := []) (trC r) (c_X8_takeToken E M r hr h1) mt_X8_takeToken ml_X8_94 (dF_Tr hr) rfl rfl sg_X8_takeToken rfl (by decide) (Nat.le_of_ble_eq_true rfl) dX8_readLand_1 ?_
  rintro _ M2 ⟨rfl, hM2⟩
  have hQ := bndQ hQ M2 hM2; have hs := bndS hs M2 hM2
  refine g_aload_n 0 dX8_readLand_4 rfl ?_
  refine g_getR (trC r) (rgC r) fd_X8_25 (dF_Tr hr) rfl rfl dX8_readLand_5 ?_
  refine g_getR (rgC r) (rgC r + 1) fd_X8_97 (dF_Rg hr) rfl rfl dX8_readLand_8 ?_
  refine g_aload_n 0 dX8_readLand_11 rfl ?_
  refine g_iconst (v := 0) dX8_readLand_12 (by decide) ?_
  refine g_iconst (v := 1) dX8_readLand_13 (by decide) ?_
  have h3 := hs.1; have hs := hs.2
  refine g_callV (As := [.int 0, .int 1]) (st := [.ref (gla E (rgC r + 1))]) (trC r) (c_X8_takeNumber E M2 r hr 0 1 h3) mt_X8_takeNumber ml_X8_101 (dF_Tr hr) rfl rfl sg_X8_takeNumber rfl (by decide) (Nat.le_of_ble_eq_true rfl) dX8_readLand_14 ?_
  rintro _ _ ⟨rfl, rfl⟩
  obtain ⟨z4, hz4⟩ : ∃ z, z = f_X8_takeNumber M2 r 0 1 := ⟨_, rfl⟩
  rw [← hz4]
  have hQ := bndQ hQ z4 hz4; have hs := bndS hs z4 hz4
  have h5 := hs.1; have hs := hs.2
  refine g_aald (rgC r + 1) (laC r (nn z4.1)) rfl (dF_Rg_lands hr) h5 (aj_La _ _) dX8_readLand_17 ?_
  refine g_astore_n _ dX8_readLand_18 (by decide) rfl ?_
  refine g_aload_n 0 dX8_readLand_19 rfl ?_
  refine g_getI (laC r (nn z4.1)) fd_X8_105 (dF_La hr (vpL h5)) rfl dX8_readLand_20 ?_
  refine g_if_eq 30 dX8_readLand_23 (by decide) (fun c6 => ?_) (fun c6 => ?_)
  · have hs := ifSt hs c6; have hQ := ifQt hQ c6
    refine g_sub [1, 0] _ rfl ?_
    exact t_X8_readLand_30 hK z4.2 r (nn z4.1) hr (vpL h5) hs hQ
  · have hs := ifSf hs c6; have hQ := ifQf hQ c6
    refine g_aload_n 1 dX8_readLand_26 rfl ?_
    have h7 := hs.1; have hs := hs.2
    refine g_callV (As := []) (st := []) (trC r) (c_X8_failAtTaken E z4.2 r hr h7) mt_X8_failAtTaken ml_X8_111 (dF_Tr hr) rfl rfl sg_X8_failAtTaken rfl (by decide) (Nat.le_of_ble_eq_true rfl) dX8_readLand_27 ?_
    rintro _ M8 ⟨rfl, hM8⟩
    have hQ := bndQ hQ M8 hM8; have hs := bndS hs M8 hM8
    refine g_sub [1, 0] _ rfl ?_
    exact t_X8_readLand_30 hK M8 r (nn z4.1) hr (vpL h5) hs hQ
theorem c_X8_readLand (E : gE) (M : gM) (r : Nat) (hr : r < 2) (hs : s_X8_readLand M r) : gC E yX8_readLand cX8_readLand 3 none (rm 3) [.ref (gla E (trC r))] M (fun o N => o = none ∧ N = f_X8_readLand M r) :=
  gC.of (by decide +kernel) (Nat.le_of_ble_eq_true rfl) rfl (t_X8_readLand (K := fun z => z = f_X8_readLand M r) (fun z hz => ⟨rfl, hz⟩) M r hr hs rfl)
def f_X8_readChild_67 (M : gM) (r : Nat) (x2 : Int32) (x3c1 : Nat)  : gM :=
  if (rdI M 48 r 0 0) = 0 then
    (bnd (wrI M 21 r x3c1 0 ((rdI M 21 r x3c1 0) ||| (1 <<< (x2 &&& 31)))) fun M16 =>
    (M16))
  else
    (M)
def s_X8_readChild_67 (M : gM) (r : Nat) (x2 : Int32) (x3c1 : Nat)  : Prop :=
  if (rdI M 48 r 0 0) = 0 then
    (bndP (wrI M 21 r x3c1 0 ((rdI M 21 r x3c1 0) ||| (1 <<< (x2 &&& 31)))) fun M16 =>
    (True))
  else
    (True)
theorem o_X8_readChild_67 (M : gM) (r : Nat) (x2 : Int32) (x3c1 : Nat)  : offW [21, 47, 48, 49] M (f_X8_readChild_67 M r x2 x3c1 ) := by
  rw [f_X8_readChild_67]
  refine offI ?_ ?_
  · refine offB (offR.wI (by decide)) (fun M16 oM16 => ?_)
    exact oM16
  · exact offR
set_option maxRecDepth 100000 in
set_option maxHeartbeats 4000000 in
theorem t_X8_readChild_67 {E : gE} {K : gM → Prop} {Q : Option Value → gM → Prop} (hK : ∀ z : gM, K z → Q none z) (M : gM) (r : Nat) (x2 : Int32) (x3c1 : Nat) (hr : r < 2) (hx3c1 : x3c1 < 10)  (hs : s_X8_readChild_67 M r x2 x3c1 ) (hQ : K (f_X8_readChild_67 M r x2 x3c1 )) : gG E RX8 cX8_readChild 5 none (rm 3) 67 [(0, .ref (gla E (trC r))), (2, .int x2), (3, .ref (gla E (peC r x3c1)))] [] M Q := by
  rw [s_X8_readChild_67] at hs
  rw [f_X8_readChild_67] at hQ
  refine g_aload_n 0 dX8_readChild_67 rfl ?_
  refine g_getI (trC r) fd_X8_38 (dF_Tr hr) rfl dX8_readChild_68 ?_
  refine g_if_ne 86 dX8_readChild_71 (by decide) (fun c15 => ?_) (fun c15 => ?_)
  · have hs := ifSf hs c15; have hQ := ifQf hQ c15
    exact g_vret rfl dX8_readChild_86 (hK _ hQ)
  · have hs := ifSt hs c15; have hQ := ifQt hQ c15
    refine g_aload_n 2 dX8_readChild_74 rfl ?_
    refine g_dup dX8_readChild_75 rfl ?_
    refine g_getI (peC r x3c1) fd_X8_161 (dF_Pe hr hx3c1) rfl dX8_readChild_76 ?_
    refine g_iconst (v := 1) dX8_readChild_79 (by decide) ?_
    refine g_iload_n 1 dX8_readChild_80 rfl ?_
    refine g_ishl dX8_readChild_81 ?_
    refine g_ior dX8_readChild_82 ?_
    refine g_putI (peC r x3c1) fd_X8_161 (dF_Pe hr hx3c1) rfl dX8_readChild_83 (fun M16 hM16 => ?_)
    have hQ := bndQ hQ M16 hM16; have hs := bndS hs M16 hM16
    exact g_vret rfl dX8_readChild_86 (hK _ hQ)
def f_X8_readChild_63 (M : gM) (r : Nat) (x2 : Int32) (x3c1 : Nat)  : gM :=
  bnd (f_X8_failAtTaken M r) fun M14 =>
  (f_X8_readChild_67 M14 r x2 x3c1)
def s_X8_readChild_63 (M : gM) (r : Nat) (x2 : Int32) (x3c1 : Nat)  : Prop :=
  (s_X8_failAtTaken M r) ∧
  (bndP (f_X8_failAtTaken M r) fun M14 =>
  (s_X8_readChild_67 M14 r x2 x3c1))
theorem o_X8_readChild_63 (M : gM) (r : Nat) (x2 : Int32) (x3c1 : Nat)  : offW [21, 47, 48, 49] M (f_X8_readChild_63 M r x2 x3c1 ) := by
  rw [f_X8_readChild_63]
  refine offB (offR.tr ((o_X8_failAtTaken M r).mono (by decide))) (fun M14 oM14 => ?_)
  exact oM14.tr (o_X8_readChild_67 M14 r x2 x3c1)
set_option maxRecDepth 100000 in
set_option maxHeartbeats 4000000 in
theorem t_X8_readChild_63 {E : gE} {K : gM → Prop} {Q : Option Value → gM → Prop} (hK : ∀ z : gM, K z → Q none z) (M : gM) (r : Nat) (x2 : Int32) (x3c1 : Nat) (hr : r < 2) (hx3c1 : x3c1 < 10)  (hs : s_X8_readChild_63 M r x2 x3c1 ) (hQ : K (f_X8_readChild_63 M r x2 x3c1 )) : gG E RX8 cX8_readChild 5 none (rm 3) 63 [(0, .ref (gla E (trC r))), (2, .int x2), (3, .ref (gla E (peC r x3c1)))] [] M Q := by
  rw [s_X8_readChild_63] at hs
  rw [f_X8_readChild_63] at hQ
  refine g_aload_n 0 dX8_readChild_63 rfl ?_
  have h13 := hs.1; have hs := hs.2
  refine g_callV (As := []) (st := []) (trC r) (c_X8_failAtTaken E M r hr h13) mt_X8_failAtTaken ml_X8_111 (dF_Tr hr) rfl rfl sg_X8_failAtTaken rfl (by decide) (Nat.le_of_ble_eq_true rfl) dX8_readChild_64 ?_
  rintro _ M14 ⟨rfl, hM14⟩
  have hQ := bndQ hQ M14 hM14; have hs := bndS hs M14 hM14
  exact t_X8_readChild_67 hK M14 r x2 x3c1 hr hx3c1 hs hQ
def f_X8_readChild_40 (M : gM) (r : Nat) (x1 : Int32) (x2 : Int32) (x3c1 : Nat) (y0 : Int32)  : gM :=
  if x1 ≤ x2 then
    (f_X8_readChild_63 M r x2 x3c1)
  else
    (if y0 = 0 then
      (if (f_J6_bitCount_0f7a4 M (rdI M 21 r x3c1 0)) < 2 then
        (f_X8_readChild_67 M r x2 x3c1)
      else
        (f_X8_readChild_63 M r x2 x3c1))
    else
      (f_X8_readChild_63 M r x2 x3c1))
def s_X8_readChild_40 (M : gM) (r : Nat) (x1 : Int32) (x2 : Int32) (x3c1 : Nat) (y0 : Int32)  : Prop :=
  if x1 ≤ x2 then
    (s_X8_readChild_63 M r x2 x3c1)
  else
    (if y0 = 0 then
      ((s_J6_bitCount_0f7a4 M (rdI M 21 r x3c1 0)) ∧
      (if (f_J6_bitCount_0f7a4 M (rdI M 21 r x3c1 0)) < 2 then
        (s_X8_readChild_67 M r x2 x3c1)
      else
        (s_X8_readChild_63 M r x2 x3c1)))
    else
      (s_X8_readChild_63 M r x2 x3c1))
theorem o_X8_readChild_40 (M : gM) (r : Nat) (x1 : Int32) (x2 : Int32) (x3c1 : Nat) (y0 : Int32)  : offW [21, 47, 48, 49] M (f_X8_readChild_40 M r x1 x2 x3c1 y0 ) := by
  rw [f_X8_readChild_40]
  refine offI ?_ ?_
  · exact (o_X8_readChild_63 M r x2 x3c1)
  · refine offI ?_ ?_
    · refine offI ?_ ?_
      · exact (o_X8_readChild_67 M r x2 x3c1)
      · exact (o_X8_readChild_63 M r x2 x3c1)
    · exact (o_X8_readChild_63 M r x2 x3c1)
set_option maxRecDepth 100000 in
set_option maxHeartbeats 4000000 in
theorem t_X8_readChild_40 {E : gE} {K : gM → Prop} {Q : Option Value → gM → Prop} (hK : ∀ z : gM, K z → Q none z) (M : gM) (r : Nat) (x1 : Int32) (x2 : Int32) (x3c1 : Nat) (y0 : Int32) (hr : r < 2) (hx3c1 : x3c1 < 10)  (hs : s_X8_readChild_40 M r x1 x2 x3c1 y0 ) (hQ : K (f_X8_readChild_40 M r x1 x2 x3c1 y0 )) : gG E RX8 cX8_readChild 5 none (rm 3) 40 [(0, .ref (gla E (trC r))), (1, .int x1), (2, .int x2), (3, .ref (gla E (peC r x3c1)))] [.int y0] M Q := by
  rw [s_X8_readChild_40] at hs
  rw [f_X8_readChild_40] at hQ
  refine g_istore _ dX8_readChild_40 (by decide) rfl ?_
  refine g_iload_n 2 dX8_readChild_42 rfl ?_
  refine g_iload_n 3 dX8_readChild_43 rfl ?_
  refine g_icmp_le 63 dX8_readChild_44 (by decide) (fun c9 => ?_) (fun c9 => ?_)
  · have hs := ifSt hs c9; have hQ := ifQt hQ c9
    refine g_sub [1, 3, 4] _ rfl ?_
    exact t_X8_readChild_63 hK M r x2 x3c1 hr hx3c1 hs hQ
  · have hs := ifSf hs c9; have hQ := ifQf hQ c9
    refine g_iload 0 dX8_readChild_47 rfl ?_
    refine g_if_ne 63 dX8_readChild_49 (by decide) (fun c10 => ?_) (fun c10 => ?_)
    · have hs := ifSf hs c10; have hQ := ifQf hQ c10
      refine g_sub [1, 3, 4] _ rfl ?_
      exact t_X8_readChild_63 hK M r x2 x3c1 hr hx3c1 hs hQ
    · have hs := ifSt hs c10; have hQ := ifQt hQ c10
      refine g_aload_n 4 dX8_readChild_52 rfl ?_
      refine g_getI (peC r x3c1) fd_X8_161 (dF_Pe hr hx3c1) rfl dX8_readChild_53 ?_
      have h11 := hs.1; have hs := hs.2
      refine g_callS (As := [.int (rdI M 21 r x3c1 0)]) (st := []) (c_J6_bitCount_0f7a4 E M (rdI M 21 r x3c1 0) h11) mt_J6_bitCount_0f7a4 ml_X8_166 sg_J6_bitCount_0f7a4 rfl (by decide) (Nat.le_of_ble_eq_true rfl) dX8_readChild_56 ?_
      rintro _ _ ⟨q1, q2⟩; rw [q1, q2]; clear q1 q2
      refine g_iconst (v := 2) dX8_readChild_59 (by decide) ?_
      refine g_icmp_lt 67 dX8_readChild_60 (by decide) (fun c12 => ?_) (fun c12 => ?_)
      · have hs := ifSt hs c12; have hQ := ifQt hQ c12
        refine g_sub [1, 3, 4] _ rfl ?_
        exact t_X8_readChild_67 hK M r x2 x3c1 hr hx3c1 hs hQ
      · have hs := ifSf hs c12; have hQ := ifQf hQ c12
        refine g_sub [1, 3, 4] _ rfl ?_
        exact t_X8_readChild_63 hK M r x2 x3c1 hr hx3c1 hs hQ
def f_X8_readChild (M : gM) (r : Nat) : gM :=
  bnd (f_X8_takeToken M r) fun M2 =>
  (bnd (f_X8_takePerson M2 r) fun z4 =>
  (bnd (f_X8_takePerson z4.2 r) fun z6 =>
  (if (((rdI z6.2 21 r (nn z4.1) 0) >>> (z6.1 &&& 31)) &&& 1) = 0 then
    (f_X8_readChild_40 z6.2 r z4.1 z6.1 (nn z4.1) 0)
  else
    (f_X8_readChild_40 z6.2 r z4.1 z6.1 (nn z4.1) 1))))
def s_X8_readChild (M : gM) (r : Nat) : Prop :=
  (s_X8_takeToken M r) ∧
  (bndP (f_X8_takeToken M r) fun M2 =>
  ((s_X8_takePerson M2 r) ∧
  (bndP (f_X8_takePerson M2 r) fun z4 =>
  ((s_X8_takePerson z4.2 r) ∧
  (bndP (f_X8_takePerson z4.2 r) fun z6 =>
  ((vp_in z4.1 10) ∧
  (if (((rdI z6.2 21 r (nn z4.1) 0) >>> (z6.1 &&& 31)) &&& 1) = 0 then
    (s_X8_readChild_40 z6.2 r z4.1 z6.1 (nn z4.1) 0)
  else
    (s_X8_readChild_40 z6.2 r z4.1 z6.1 (nn z4.1) 1))))))))
theorem o_X8_readChild (M : gM) (r : Nat) : offW [21, 47, 48, 49] M (f_X8_readChild M r) := by
  rw [f_X8_readChild]
  refine offB (offR.tr ((o_X8_takeToken M r).mono (by decide))) (fun M2 oM2 => ?_)
  refine offZ (oM2.tr ((o_X8_takePerson M2 r).mono (by decide))) (fun z4 oz4 => ?_)
  refine offZ (oz4.tr ((o_X8_takePerson z4.2 r).mono (by decide))) (fun z6 oz6 => ?_)
  refine offI ?_ ?_
  · exact oz6.tr (o_X8_readChild_40 z6.2 r z4.1 z6.1 (nn z4.1) 0)
  · exact oz6.tr (o_X8_readChild_40 z6.2 r z4.1 z6.1 (nn z4.1) 1)
set_option maxRecDepth 100000 in
set_option maxHeartbeats 4000000 in
theorem t_X8_readChild {E : gE} {K : gM → Prop} {Q : Option Value → gM → Prop} (hK : ∀ z : gM, K z → Q none z) (M : gM) (r : Nat) (hr : r < 2) (hs : s_X8_readChild M r) (hQ : K (f_X8_readChild M r)) : gG E RX8 cX8_readChild 5 none (rm 3) 0 [(0, .ref (gla E (trC r)))] [] M Q := by
  rw [s_X8_readChild] at hs
  rw [f_X8_readChild] at hQ
  refine g_aload_n 0 dX8_readChild_0 rfl ?_
  have h1 := hs.1; have hs := hs.2
  refine g_callV (As := []) (st := []) (trC r) (c_X8_takeToken E M r hr h1) mt_X8_takeToken ml_X8_94 (dF_Tr hr) rfl rfl sg_X8_takeToken rfl (by decide) (Nat.le_of_ble_eq_true rfl) dX8_readChild_1 ?_
  rintro _ M2 ⟨rfl, hM2⟩
  have hQ := bndQ hQ M2 hM2; have hs := bndS hs M2 hM2
  refine g_aload_n 0 dX8_readChild_4 rfl ?_
  have h3 := hs.1; have hs := hs.2
  refine g_callV (As := []) (st := []) (trC r) (c_X8_takePerson E M2 r hr h3) mt_X8_takePerson ml_X8_154 (dF_Tr hr) rfl rfl sg_X8_takePerson rfl (by decide) (Nat.le_of_ble_eq_true rfl) dX8_readChild_5 ?_
  rintro _ _ ⟨rfl, rfl⟩
  obtain ⟨z4, hz4⟩ : ∃ z, z = f_X8_takePerson M2 r := ⟨_, rfl⟩
  rw [← hz4]
  have hQ := bndQ hQ z4 hz4; have hs := bndS hs z4 hz4
  refine g_istore_n _ dX8_readChild_8 (by decide) rfl ?_
  refine g_aload_n 1 dX8_readChild_9 rfl ?_
  have h5 := hs.1; have hs := hs.2
  refine g_callV (As := []) (st := []) (trC r) (c_X8_takePerson E z4.2 r hr h5) mt_X8_takePerson ml_X8_154 (dF_Tr hr) rfl rfl sg_X8_takePerson rfl (by decide) (Nat.le_of_ble_eq_true rfl) dX8_readChild_10 ?_
  rintro _ _ ⟨rfl, rfl⟩
  obtain ⟨z6, hz6⟩ : ∃ z, z = f_X8_takePerson z4.2 r := ⟨_, rfl⟩
  rw [← hz6]
  have hQ := bndQ hQ z6 hz6; have hs := bndS hs z6 hz6
  refine g_istore_n _ dX8_readChild_13 (by decide) rfl ?_
  refine g_aload_n 2 dX8_readChild_14 rfl ?_
  refine g_getR (trC r) (rgC r) fd_X8_25 (dF_Tr hr) rfl rfl dX8_readChild_15 ?_
  refine g_getR (rgC r) (rgC r + 2) fd_X8_157 (dF_Rg hr) rfl rfl dX8_readChild_18 ?_
  refine g_iload_n 1 dX8_readChild_21 rfl ?_
  have h7 := hs.1; have hs := hs.2
  refine g_aald (rgC r + 2) (peC r (nn z4.1)) rfl (dF_Rg_persons hr) h7 (aj_Pe _ _) dX8_readChild_22 ?_
  refine g_astore_n _ dX8_readChild_23 (by decide) rfl ?_
  refine g_aload_n 0 dX8_readChild_24 rfl ?_
  refine g_getI (peC r (nn z4.1)) fd_X8_161 (dF_Pe hr (vpL h7)) rfl dX8_readChild_25 ?_
  refine g_iload_n 1 dX8_readChild_28 rfl ?_
  refine g_ishr dX8_readChild_29 ?_
  refine g_iconst (v := 1) dX8_readChild_30 (by decide) ?_
  refine g_iand dX8_readChild_31 ?_
  refine g_if_eq 39 dX8_readChild_32 (by decide) (fun c8 => ?_) (fun c8 => ?_)
  · have hs := ifSt hs c8; have hQ := ifQt hQ c8
    refine g_iconst (v := 0) dX8_readChild_39 (by decide) ?_
    refine g_sub [3, 2, 1, 0] _ rfl ?_
    exact t_X8_readChild_40 hK z6.2 r z4.1 z6.1 (nn z4.1) 0 hr (vpL h7) hs hQ
  · have hs := ifSf hs c8; have hQ := ifQf hQ c8
    refine g_iconst (v := 1) dX8_readChild_35 (by decide) ?_
    refine g_goto 40 dX8_readChild_36 (by decide) ?_
    refine g_sub [3, 2, 1, 0] _ rfl ?_
    exact t_X8_readChild_40 hK z6.2 r z4.1 z6.1 (nn z4.1) 1 hr (vpL h7) hs hQ
theorem c_X8_readChild (E : gE) (M : gM) (r : Nat) (hr : r < 2) (hs : s_X8_readChild M r) : gC E yX8_readChild cX8_readChild 5 none (rm 3) [.ref (gla E (trC r))] M (fun o N => o = none ∧ N = f_X8_readChild M r) :=
  gC.of (by decide +kernel) (Nat.le_of_ble_eq_true rfl) rfl (t_X8_readChild (K := fun z => z = f_X8_readChild M r) (fun z hz => ⟨rfl, hz⟩) M r hr hs rfl)
def f_X8_readWedding_32 (M : gM) (r : Nat) (x1 : Int32) (x2 : Int32)  : gM :=
  bnd (f_X8_takeNumber M r 0 9999) fun z11 =>
  (if (rdI z11.2 48 r 0 0) = 0 then
    (bnd (f_X7_addWedding z11.2 r x1 x2 z11.1) fun M14 =>
    (M14))
  else
    (z11.2))
def s_X8_readWedding_32 (M : gM) (r : Nat) (x1 : Int32) (x2 : Int32)  : Prop :=
  (s_X8_takeNumber M r 0 9999) ∧
  (bndP (f_X8_takeNumber M r 0 9999) fun z11 =>
  (if (rdI z11.2 48 r 0 0) = 0 then
    ((s_X7_addWedding z11.2 r x1 x2 z11.1) ∧
    (bndP (f_X7_addWedding z11.2 r x1 x2 z11.1) fun M14 =>
    (True)))
  else
    (True)))
theorem o_X8_readWedding_32 (M : gM) (r : Nat) (x1 : Int32) (x2 : Int32)  : offW [8, 10, 11, 12, 47, 48, 49] M (f_X8_readWedding_32 M r x1 x2 ) := by
  rw [f_X8_readWedding_32]
  refine offZ (offR.tr ((o_X8_takeNumber M r 0 9999).mono (by decide))) (fun z11 oz11 => ?_)
  refine offI ?_ ?_
  · refine offB (oz11.tr ((o_X7_addWedding z11.2 r x1 x2 z11.1).mono (by decide))) (fun M14 oM14 => ?_)
    exact oM14
  · exact oz11
set_option maxRecDepth 100000 in
set_option maxHeartbeats 4000000 in
theorem t_X8_readWedding_32 {E : gE} {K : gM → Prop} {Q : Option Value → gM → Prop} (hK : ∀ z : gM, K z → Q none z) (M : gM) (r : Nat) (x1 : Int32) (x2 : Int32) (hr : r < 2)  (hs : s_X8_readWedding_32 M r x1 x2 ) (hQ : K (f_X8_readWedding_32 M r x1 x2 )) : gG E RX8 cX8_readWedding 4 none (rm 3) 32 [(0, .ref (gla E (trC r))), (1, .int x1), (2, .int x2)] [] M Q := by
  rw [s_X8_readWedding_32] at hs
  rw [f_X8_readWedding_32] at hQ
  refine g_aload_n 0 dX8_readWedding_32 rfl ?_
  refine g_iconst (v := 0) dX8_readWedding_33 (by decide) ?_
  refine g_sipush (v := 9999) dX8_readWedding_34 (by decide) ?_
  have h10 := hs.1; have hs := hs.2
  refine g_callV (As := [.int 0, .int 9999]) (st := []) (trC r) (c_X8_takeNumber E M r hr 0 9999 h10) mt_X8_takeNumber ml_X8_101 (dF_Tr hr) rfl rfl sg_X8_takeNumber rfl (by decide) (Nat.le_of_ble_eq_true rfl) dX8_readWedding_37 ?_
  rintro _ _ ⟨rfl, rfl⟩
  obtain ⟨z11, hz11⟩ : ∃ z, z = f_X8_takeNumber M r 0 9999 := ⟨_, rfl⟩
  rw [← hz11]
  have hQ := bndQ hQ z11 hz11; have hs := bndS hs z11 hz11
  refine g_istore_n _ dX8_readWedding_40 (by decide) rfl ?_
  refine g_aload_n 1 dX8_readWedding_41 rfl ?_
  refine g_getI (trC r) fd_X8_38 (dF_Tr hr) rfl dX8_readWedding_42 ?_
  refine g_if_ne 58 dX8_readWedding_45 (by decide) (fun c12 => ?_) (fun c12 => ?_)
  · have hs := ifSf hs c12; have hQ := ifQf hQ c12
    exact g_vret rfl dX8_readWedding_58 (hK _ hQ)
  · have hs := ifSt hs c12; have hQ := ifQt hQ c12
    refine g_aload_n 1 dX8_readWedding_48 rfl ?_
    refine g_getR (trC r) (rgC r) fd_X8_25 (dF_Tr hr) rfl rfl dX8_readWedding_49 ?_
    refine g_iload_n 2 dX8_readWedding_52 rfl ?_
    refine g_iload_n 3 dX8_readWedding_53 rfl ?_
    refine g_iload_n 0 dX8_readWedding_54 rfl ?_
    have h13 := hs.1; have hs := hs.2
    refine g_callV (As := [.int x1, .int x2, .int z11.1]) (st := []) (rgC r) (c_X7_addWedding E z11.2 r hr x1 x2 z11.1 h13) mt_X7_addWedding ml_X8_175 (dF_Rg hr) rfl rfl sg_X7_addWedding rfl (by decide) (Nat.le_of_ble_eq_true rfl) dX8_readWedding_55 ?_
    rintro _ M14 ⟨rfl, hM14⟩
    have hQ := bndQ hQ M14 hM14; have hs := bndS hs M14 hM14
    exact g_vret rfl dX8_readWedding_58 (hK _ hQ)
def f_X8_readWedding (M : gM) (r : Nat) : gM :=
  bnd (f_X8_takeOneMore M r (rdI M 8 r 0 0) 6) fun M2 =>
  (bnd (f_X8_takePerson M2 r) fun z4 =>
  (bnd (f_X8_takePerson z4.2 r) fun z6 =>
  (if z4.1 = z6.1 then
    (bnd (f_X8_failAtTaken z6.2 r) fun M9 =>
    (f_X8_readWedding_32 M9 r z4.1 z6.1))
  else
    (f_X8_readWedding_32 z6.2 r z4.1 z6.1))))
def s_X8_readWedding (M : gM) (r : Nat) : Prop :=
  (s_X8_takeOneMore M r (rdI M 8 r 0 0) 6) ∧
  (bndP (f_X8_takeOneMore M r (rdI M 8 r 0 0) 6) fun M2 =>
  ((s_X8_takePerson M2 r) ∧
  (bndP (f_X8_takePerson M2 r) fun z4 =>
  ((s_X8_takePerson z4.2 r) ∧
  (bndP (f_X8_takePerson z4.2 r) fun z6 =>
  (if z4.1 = z6.1 then
    ((s_X8_failAtTaken z6.2 r) ∧
    (bndP (f_X8_failAtTaken z6.2 r) fun M9 =>
    (s_X8_readWedding_32 M9 r z4.1 z6.1)))
  else
    (s_X8_readWedding_32 z6.2 r z4.1 z6.1)))))))
theorem o_X8_readWedding (M : gM) (r : Nat) : offW [8, 10, 11, 12, 47, 48, 49] M (f_X8_readWedding M r) := by
  rw [f_X8_readWedding]
  refine offB (offR.tr ((o_X8_takeOneMore M r (rdI M 8 r 0 0) 6).mono (by decide))) (fun M2 oM2 => ?_)
  refine offZ (oM2.tr ((o_X8_takePerson M2 r).mono (by decide))) (fun z4 oz4 => ?_)
  refine offZ (oz4.tr ((o_X8_takePerson z4.2 r).mono (by decide))) (fun z6 oz6 => ?_)
  refine offI ?_ ?_
  · refine offB (oz6.tr ((o_X8_failAtTaken z6.2 r).mono (by decide))) (fun M9 oM9 => ?_)
    exact oM9.tr (o_X8_readWedding_32 M9 r z4.1 z6.1)
  · exact oz6.tr (o_X8_readWedding_32 z6.2 r z4.1 z6.1)
set_option maxRecDepth 100000 in
set_option maxHeartbeats 4000000 in
theorem t_X8_readWedding {E : gE} {K : gM → Prop} {Q : Option Value → gM → Prop} (hK : ∀ z : gM, K z → Q none z) (M : gM) (r : Nat) (hr : r < 2) (hs : s_X8_readWedding M r) (hQ : K (f_X8_readWedding M r)) : gG E RX8 cX8_readWedding 4 none (rm 3) 0 [(0, .ref (gla E (trC r)))] [] M Q := by
  rw [s_X8_readWedding] at hs
  rw [f_X8_readWedding] at hQ
  refine g_aload_n 0 dX8_readWedding_0 rfl ?_
  refine g_aload_n 0 dX8_readWedding_1 rfl ?_
  refine g_getR (trC r) (rgC r) fd_X8_25 (dF_Tr hr) rfl rfl dX8_readWedding_2 ?_
  refine g_getI (rgC r) fd_X8_172 (dF_Rg hr) rfl dX8_readWedding_5 ?_
  refine g_bipush (v := 6) dX8_readWedding_8 (by decide) ?_
  have h1 := hs.1; have hs := hs.2
  refine g_callV (As := [.int (rdI M 8 r 0 0), .int 6]) (st := []) (trC r) (c_X8_takeOneMore E M r hr (rdI M 8 r 0 0) 6 h1) mt_X8_takeOneMore ml_X8_143 (dF_Tr hr) rfl rfl sg_X8_takeOneMore rfl (by decide) (Nat.le_of_ble_eq_true rfl) dX8_readWedding_10 ?_
  rintro _ M2 ⟨rfl, hM2⟩
  have hQ := bndQ hQ M2 hM2; have hs := bndS hs M2 hM2
  refine g_aload_n 0 dX8_readWedding_13 rfl ?_
  have h3 := hs.1; have hs := hs.2
  refine g_callV (As := []) (st := []) (trC r) (c_X8_takePerson E M2 r hr h3) mt_X8_takePerson ml_X8_154 (dF_Tr hr) rfl rfl sg_X8_takePerson rfl (by decide) (Nat.le_of_ble_eq_true rfl) dX8_readWedding_14 ?_
  rintro _ _ ⟨rfl, rfl⟩
  obtain ⟨z4, hz4⟩ : ∃ z, z = f_X8_takePerson M2 r := ⟨_, rfl⟩
  rw [← hz4]
  have hQ := bndQ hQ z4 hz4; have hs := bndS hs z4 hz4
  refine g_istore_n _ dX8_readWedding_17 (by decide) rfl ?_
  refine g_aload_n 1 dX8_readWedding_18 rfl ?_
  have h5 := hs.1; have hs := hs.2
  refine g_callV (As := []) (st := []) (trC r) (c_X8_takePerson E z4.2 r hr h5) mt_X8_takePerson ml_X8_154 (dF_Tr hr) rfl rfl sg_X8_takePerson rfl (by decide) (Nat.le_of_ble_eq_true rfl) dX8_readWedding_19 ?_
  rintro _ _ ⟨rfl, rfl⟩
  obtain ⟨z6, hz6⟩ : ∃ z, z = f_X8_takePerson z4.2 r := ⟨_, rfl⟩
  rw [← hz6]
  have hQ := bndQ hQ z6 hz6; have hs := bndS hs z6 hz6
  refine g_istore_n _ dX8_readWedding_22 (by decide) rfl ?_
  refine g_iload_n 1 dX8_readWedding_23 rfl ?_
  refine g_iload_n 0 dX8_readWedding_24 rfl ?_
  refine g_icmp_ne 32 dX8_readWedding_25 (by decide) (fun c7 => ?_) (fun c7 => ?_)
  · have hs := ifSf hs c7; have hQ := ifQf hQ c7
    refine g_sub [2, 1, 0] _ rfl ?_
    exact t_X8_readWedding_32 hK z6.2 r z4.1 z6.1 hr hs hQ
  · have hs := ifSt hs c7; have hQ := ifQt hQ c7
    refine g_aload_n 2 dX8_readWedding_28 rfl ?_
    have h8 := hs.1; have hs := hs.2
    refine g_callV (As := []) (st := []) (trC r) (c_X8_failAtTaken E z6.2 r hr h8) mt_X8_failAtTaken ml_X8_111 (dF_Tr hr) rfl rfl sg_X8_failAtTaken rfl (by decide) (Nat.le_of_ble_eq_true rfl) dX8_readWedding_29 ?_
    rintro _ M9 ⟨rfl, hM9⟩
    have hQ := bndQ hQ M9 hM9; have hs := bndS hs M9 hM9
    refine g_sub [2, 1, 0] _ rfl ?_
    exact t_X8_readWedding_32 hK M9 r z4.1 z6.1 hr hs hQ
theorem c_X8_readWedding (E : gE) (M : gM) (r : Nat) (hr : r < 2) (hs : s_X8_readWedding M r) : gC E yX8_readWedding cX8_readWedding 4 none (rm 3) [.ref (gla E (trC r))] M (fun o N => o = none ∧ N = f_X8_readWedding M r) :=
  gC.of (by decide +kernel) (Nat.le_of_ble_eq_true rfl) rfl (t_X8_readWedding (K := fun z => z = f_X8_readWedding M r) (fun z hz => ⟨rfl, hz⟩) M r hr hs rfl)
def f_X8_readThing (M : gM) (r : Nat) : gM :=
  bnd (f_X8_takeOneMore M r (rdI M 6 r 0 0) 8) fun M2 =>
  (bnd (f_X8_takeNewName M2 r 1 (rdI M2 6 r 0 0)) fun M4 =>
  (bnd (f_X8_takePerson M4 r) fun z6 =>
  (bnd (f_X8_takeNumber z6.2 r 0 1) fun z8 =>
  (bnd (f_X8_takeNumber z8.2 r 1 9999) fun z10 =>
  (if (rdI z10.2 48 r 0 0) = 0 then
    (bnd (f_X7_addThing z10.2 r z6.1 z8.1 z10.1) fun M13 =>
    (M13))
  else
    (z10.2))))))
def s_X8_readThing (M : gM) (r : Nat) : Prop :=
  (s_X8_takeOneMore M r (rdI M 6 r 0 0) 8) ∧
  (bndP (f_X8_takeOneMore M r (rdI M 6 r 0 0) 8) fun M2 =>
  ((s_X8_takeNewName M2 r 1 (rdI M2 6 r 0 0)) ∧
  (bndP (f_X8_takeNewName M2 r 1 (rdI M2 6 r 0 0)) fun M4 =>
  ((s_X8_takePerson M4 r) ∧
  (bndP (f_X8_takePerson M4 r) fun z6 =>
  ((s_X8_takeNumber z6.2 r 0 1) ∧
  (bndP (f_X8_takeNumber z6.2 r 0 1) fun z8 =>
  ((s_X8_takeNumber z8.2 r 1 9999) ∧
  (bndP (f_X8_takeNumber z8.2 r 1 9999) fun z10 =>
  (if (rdI z10.2 48 r 0 0) = 0 then
    ((s_X7_addThing z10.2 r z6.1 z8.1 z10.1) ∧
    (bndP (f_X7_addThing z10.2 r z6.1 z8.1 z10.1) fun M13 =>
    (True)))
  else
    (True)))))))))))
theorem o_X8_readThing (M : gM) (r : Nat) : offW [6, 22, 23, 24, 47, 48, 49, 50] M (f_X8_readThing M r) := by
  rw [f_X8_readThing]
  refine offB (offR.tr ((o_X8_takeOneMore M r (rdI M 6 r 0 0) 8).mono (by decide))) (fun M2 oM2 => ?_)
  refine offB (oM2.tr ((o_X8_takeNewName M2 r 1 (rdI M2 6 r 0 0)).mono (by decide))) (fun M4 oM4 => ?_)
  refine offZ (oM4.tr ((o_X8_takePerson M4 r).mono (by decide))) (fun z6 oz6 => ?_)
  refine offZ (oz6.tr ((o_X8_takeNumber z6.2 r 0 1).mono (by decide))) (fun z8 oz8 => ?_)
  refine offZ (oz8.tr ((o_X8_takeNumber z8.2 r 1 9999).mono (by decide))) (fun z10 oz10 => ?_)
  refine offI ?_ ?_
  · refine offB (oz10.tr ((o_X7_addThing z10.2 r z6.1 z8.1 z10.1).mono (by decide))) (fun M13 oM13 => ?_)
    exact oM13
  · exact oz10
set_option maxRecDepth 100000 in
set_option maxHeartbeats 4000000 in
theorem t_X8_readThing {E : gE} {K : gM → Prop} {Q : Option Value → gM → Prop} (hK : ∀ z : gM, K z → Q none z) (M : gM) (r : Nat) (hr : r < 2) (hs : s_X8_readThing M r) (hQ : K (f_X8_readThing M r)) : gG E RX8 cX8_readThing 4 none (rm 3) 0 [(0, .ref (gla E (trC r)))] [] M Q := by
  rw [s_X8_readThing] at hs
  rw [f_X8_readThing] at hQ
  refine g_aload_n 0 dX8_readThing_0 rfl ?_
  refine g_aload_n 0 dX8_readThing_1 rfl ?_
  refine g_getR (trC r) (rgC r) fd_X8_25 (dF_Tr hr) rfl rfl dX8_readThing_2 ?_
  refine g_getI (rgC r) fd_X8_179 (dF_Rg hr) rfl dX8_readThing_5 ?_
  refine g_bipush (v := 8) dX8_readThing_8 (by decide) ?_
  have h1 := hs.1; have hs := hs.2
  refine g_callV (As := [.int (rdI M 6 r 0 0), .int 8]) (st := []) (trC r) (c_X8_takeOneMore E M r hr (rdI M 6 r 0 0) 8 h1) mt_X8_takeOneMore ml_X8_143 (dF_Tr hr) rfl rfl sg_X8_takeOneMore rfl (by decide) (Nat.le_of_ble_eq_true rfl) dX8_readThing_10 ?_
  rintro _ M2 ⟨rfl, hM2⟩
  have hQ := bndQ hQ M2 hM2; have hs := bndS hs M2 hM2
  refine g_aload_n 0 dX8_readThing_13 rfl ?_
  refine g_aload_n 0 dX8_readThing_14 rfl ?_
  refine g_getR (trC r) (trC r + 1 + 1) fd_X8_15 (dF_Tr hr) rfl rfl dX8_readThing_15 ?_
  refine g_aload_n 0 dX8_readThing_18 rfl ?_
  refine g_getR (trC r) (rgC r) fd_X8_25 (dF_Tr hr) rfl rfl dX8_readThing_19 ?_
  refine g_getI (rgC r) fd_X8_179 (dF_Rg hr) rfl dX8_readThing_22 ?_
  have h3 := hs.1; have hs := hs.2
  refine g_callV (As := [.ref (gla E (trC r + 1 + 1)), .int (rdI M2 6 r 0 0)]) (st := []) (trC r) (c_X8_takeNewName E M2 r 1 hr lt13 (rdI M2 6 r 0 0) h3) mt_X8_takeNewName ml_X8_147 (dF_Tr hr) rfl rfl sg_X8_takeNewName rfl (by decide) (Nat.le_of_ble_eq_true rfl) dX8_readThing_25 ?_
  rintro _ M4 ⟨rfl, hM4⟩
  have hQ := bndQ hQ M4 hM4; have hs := bndS hs M4 hM4
  refine g_aload_n 0 dX8_readThing_28 rfl ?_
  have h5 := hs.1; have hs := hs.2
  refine g_callV (As := []) (st := []) (trC r) (c_X8_takePerson E M4 r hr h5) mt_X8_takePerson ml_X8_154 (dF_Tr hr) rfl rfl sg_X8_takePerson rfl (by decide) (Nat.le_of_ble_eq_true rfl) dX8_readThing_29 ?_
  rintro _ _ ⟨rfl, rfl⟩
  obtain ⟨z6, hz6⟩ : ∃ z, z = f_X8_takePerson M4 r := ⟨_, rfl⟩
  rw [← hz6]
  have hQ := bndQ hQ z6 hz6; have hs := bndS hs z6 hz6
  refine g_istore_n _ dX8_readThing_32 (by decide) rfl ?_
  refine g_aload_n 1 dX8_readThing_33 rfl ?_
  refine g_iconst (v := 0) dX8_readThing_34 (by decide) ?_
  refine g_iconst (v := 1) dX8_readThing_35 (by decide) ?_
  have h7 := hs.1; have hs := hs.2
  refine g_callV (As := [.int 0, .int 1]) (st := []) (trC r) (c_X8_takeNumber E z6.2 r hr 0 1 h7) mt_X8_takeNumber ml_X8_101 (dF_Tr hr) rfl rfl sg_X8_takeNumber rfl (by decide) (Nat.le_of_ble_eq_true rfl) dX8_readThing_36 ?_
  rintro _ _ ⟨rfl, rfl⟩
  obtain ⟨z8, hz8⟩ : ∃ z, z = f_X8_takeNumber z6.2 r 0 1 := ⟨_, rfl⟩
  rw [← hz8]
  have hQ := bndQ hQ z8 hz8; have hs := bndS hs z8 hz8
  refine g_istore_n _ dX8_readThing_39 (by decide) rfl ?_
  refine g_aload_n 2 dX8_readThing_40 rfl ?_
  refine g_iconst (v := 1) dX8_readThing_41 (by decide) ?_
  refine g_sipush (v := 9999) dX8_readThing_42 (by decide) ?_
  have h9 := hs.1; have hs := hs.2
  refine g_callV (As := [.int 1, .int 9999]) (st := []) (trC r) (c_X8_takeNumber E z8.2 r hr 1 9999 h9) mt_X8_takeNumber ml_X8_101 (dF_Tr hr) rfl rfl sg_X8_takeNumber rfl (by decide) (Nat.le_of_ble_eq_true rfl) dX8_readThing_45 ?_
  rintro _ _ ⟨rfl, rfl⟩
  obtain ⟨z10, hz10⟩ : ∃ z, z = f_X8_takeNumber z8.2 r 1 9999 := ⟨_, rfl⟩
  rw [← hz10]
  have hQ := bndQ hQ z10 hz10; have hs := bndS hs z10 hz10
  refine g_istore_n _ dX8_readThing_48 (by decide) rfl ?_
  refine g_aload_n 3 dX8_readThing_49 rfl ?_
  refine g_getI (trC r) fd_X8_38 (dF_Tr hr) rfl dX8_readThing_50 ?_
  refine g_if_ne 66 dX8_readThing_53 (by decide) (fun c11 => ?_) (fun c11 => ?_)
  · have hs := ifSf hs c11; have hQ := ifQf hQ c11
    exact g_vret rfl dX8_readThing_66 (hK _ hQ)
  · have hs := ifSt hs c11; have hQ := ifQt hQ c11
    refine g_aload_n 3 dX8_readThing_56 rfl ?_
    refine g_getR (trC r) (rgC r) fd_X8_25 (dF_Tr hr) rfl rfl dX8_readThing_57 ?_
    refine g_iload_n 2 dX8_readThing_60 rfl ?_
    refine g_iload_n 1 dX8_readThing_61 rfl ?_
    refine g_iload_n 0 dX8_readThing_62 rfl ?_
    have h12 := hs.1; have hs := hs.2
    refine g_callV (As := [.int z6.1, .int z8.1, .int z10.1]) (st := []) (rgC r) (c_X7_addThing E z10.2 r hr z6.1 z8.1 z10.1 h12) mt_X7_addThing ml_X8_182 (dF_Rg hr) rfl rfl sg_X7_addThing rfl (by decide) (Nat.le_of_ble_eq_true rfl) dX8_readThing_63 ?_
    rintro _ M13 ⟨rfl, hM13⟩
    have hQ := bndQ hQ M13 hM13; have hs := bndS hs M13 hM13
    exact g_vret rfl dX8_readThing_66 (hK _ hQ)
theorem c_X8_readThing (E : gE) (M : gM) (r : Nat) (hr : r < 2) (hs : s_X8_readThing M r) : gC E yX8_readThing cX8_readThing 4 none (rm 3) [.ref (gla E (trC r))] M (fun o N => o = none ∧ N = f_X8_readThing M r) :=
  gC.of (by decide +kernel) (Nat.le_of_ble_eq_true rfl) rfl (t_X8_readThing (K := fun z => z = f_X8_readThing M r) (fun z hz => ⟨rfl, hz⟩) M r hr hs rfl)
def f_X8_readWitness_37 (M : gM) (r : Nat) (q : Nat) (x2 : Int32)  : gM :=
  bnd (wrI M 30 r q 0 ((rdI M 30 r q 0) ||| (1 <<< (x2 &&& 31)))) fun M11 =>
  (M11)
def s_X8_readWitness_37 (M : gM) (r : Nat) (q : Nat) (x2 : Int32)  : Prop :=
  bndP (wrI M 30 r q 0 ((rdI M 30 r q 0) ||| (1 <<< (x2 &&& 31)))) fun M11 =>
  (True)
theorem o_X8_readWitness_37 (M : gM) (r : Nat) (q : Nat) (x2 : Int32)  : offW [30, 47, 48, 49] M (f_X8_readWitness_37 M r q x2 ) := by
  rw [f_X8_readWitness_37]
  refine offB (offR.wI (by decide)) (fun M11 oM11 => ?_)
  exact oM11
set_option maxRecDepth 100000 in
set_option maxHeartbeats 4000000 in
theorem t_X8_readWitness_37 {E : gE} {K : gM → Prop} {Q : Option Value → gM → Prop} (hK : ∀ z : gM, K z → Q none z) (M : gM) (r : Nat) (q : Nat) (x2 : Int32) (hr : r < 2) (hq : q < 12)  (hs : s_X8_readWitness_37 M r q x2 ) (hQ : K (f_X8_readWitness_37 M r q x2 )) : gG E RX8 cX8_readWitness 3 none (rm 3) 37 [(1, .ref (gla E (paC r q))), (2, .int x2)] [] M Q := by
  rw [s_X8_readWitness_37] at hs
  rw [f_X8_readWitness_37] at hQ
  refine g_aload_n 0 dX8_readWitness_37 rfl ?_
  refine g_dup dX8_readWitness_38 rfl ?_
  refine g_getI (paC r q) fd_X8_232 (dF_Pa hr hq) rfl dX8_readWitness_39 ?_
  refine g_iconst (v := 1) dX8_readWitness_42 (by decide) ?_
  refine g_iload_n 1 dX8_readWitness_43 rfl ?_
  refine g_ishl dX8_readWitness_44 ?_
  refine g_ior dX8_readWitness_45 ?_
  refine g_putI (paC r q) fd_X8_232 (dF_Pa hr hq) rfl dX8_readWitness_46 (fun M11 hM11 => ?_)
  have hQ := bndQ hQ M11 hM11; have hs := bndS hs M11 hM11
  exact g_vret rfl dX8_readWitness_49 (hK _ hQ)
def f_X8_readWitness_33 (M : gM) (r : Nat) (q : Nat) (x2 : Int32)  : gM :=
  bnd (f_X8_failAtTaken M r) fun M10 =>
  (f_X8_readWitness_37 M10 r q x2)
def s_X8_readWitness_33 (M : gM) (r : Nat) (q : Nat) (x2 : Int32)  : Prop :=
  (s_X8_failAtTaken M r) ∧
  (bndP (f_X8_failAtTaken M r) fun M10 =>
  (s_X8_readWitness_37 M10 r q x2))
theorem o_X8_readWitness_33 (M : gM) (r : Nat) (q : Nat) (x2 : Int32)  : offW [30, 47, 48, 49] M (f_X8_readWitness_33 M r q x2 ) := by
  rw [f_X8_readWitness_33]
  refine offB (offR.tr ((o_X8_failAtTaken M r).mono (by decide))) (fun M10 oM10 => ?_)
  exact oM10.tr (o_X8_readWitness_37 M10 r q x2)
set_option maxRecDepth 100000 in
set_option maxHeartbeats 4000000 in
theorem t_X8_readWitness_33 {E : gE} {K : gM → Prop} {Q : Option Value → gM → Prop} (hK : ∀ z : gM, K z → Q none z) (M : gM) (r : Nat) (q : Nat) (x2 : Int32) (hr : r < 2) (hq : q < 12)  (hs : s_X8_readWitness_33 M r q x2 ) (hQ : K (f_X8_readWitness_33 M r q x2 )) : gG E RX8 cX8_readWitness 3 none (rm 3) 33 [(0, .ref (gla E (trC r))), (1, .ref (gla E (paC r q))), (2, .int x2)] [] M Q := by
  rw [s_X8_readWitness_33] at hs
  rw [f_X8_readWitness_33] at hQ
  refine g_aload_n 0 dX8_readWitness_33 rfl ?_
  have h9 := hs.1; have hs := hs.2
  refine g_callV (As := []) (st := []) (trC r) (c_X8_failAtTaken E M r hr h9) mt_X8_failAtTaken ml_X8_111 (dF_Tr hr) rfl rfl sg_X8_failAtTaken rfl (by decide) (Nat.le_of_ble_eq_true rfl) dX8_readWitness_34 ?_
  rintro _ M10 ⟨rfl, hM10⟩
  have hQ := bndQ hQ M10 hM10; have hs := bndS hs M10 hM10
  refine g_sub [1, 2] _ rfl ?_
  exact t_X8_readWitness_37 hK M10 r q x2 hr hq hs hQ
def f_X8_readWitness (M : gM) (r : Nat) (q : Nat) : gM :=
  bnd (f_X8_takeOneMore M r (f_J6_bitCount_0f7a4 M (rdI M 30 r q 0)) 4) fun M3 =>
  (bnd (f_X8_takePerson M3 r) fun z5 =>
  (if (f_X5_isWitness z5.2 r q z5.1) = 0 then
    (if (rdI z5.2 25 r q 0) = z5.1 then
      (f_X8_readWitness_33 z5.2 r q z5.1)
    else
      (f_X8_readWitness_37 z5.2 r q z5.1))
  else
    (f_X8_readWitness_33 z5.2 r q z5.1)))
def s_X8_readWitness (M : gM) (r : Nat) (q : Nat) : Prop :=
  (s_J6_bitCount_0f7a4 M (rdI M 30 r q 0)) ∧
  ((s_X8_takeOneMore M r (f_J6_bitCount_0f7a4 M (rdI M 30 r q 0)) 4) ∧
  (bndP (f_X8_takeOneMore M r (f_J6_bitCount_0f7a4 M (rdI M 30 r q 0)) 4) fun M3 =>
  ((s_X8_takePerson M3 r) ∧
  (bndP (f_X8_takePerson M3 r) fun z5 =>
  ((s_X5_isWitness z5.2 r q z5.1) ∧
  (if (f_X5_isWitness z5.2 r q z5.1) = 0 then
    (if (rdI z5.2 25 r q 0) = z5.1 then
      (s_X8_readWitness_33 z5.2 r q z5.1)
    else
      (s_X8_readWitness_37 z5.2 r q z5.1))
  else
    (s_X8_readWitness_33 z5.2 r q z5.1)))))))
theorem o_X8_readWitness (M : gM) (r : Nat) (q : Nat) : offW [30, 47, 48, 49] M (f_X8_readWitness M r q) := by
  rw [f_X8_readWitness]
  refine offB (offR.tr ((o_X8_takeOneMore M r (f_J6_bitCount_0f7a4 M (rdI M 30 r q 0)) 4).mono (by decide))) (fun M3 oM3 => ?_)
  refine offZ (oM3.tr ((o_X8_takePerson M3 r).mono (by decide))) (fun z5 oz5 => ?_)
  refine offI ?_ ?_
  · refine offI ?_ ?_
    · exact oz5.tr (o_X8_readWitness_33 z5.2 r q z5.1)
    · exact oz5.tr (o_X8_readWitness_37 z5.2 r q z5.1)
  · exact oz5.tr (o_X8_readWitness_33 z5.2 r q z5.1)
set_option maxRecDepth 100000 in
set_option maxHeartbeats 4000000 in
theorem t_X8_readWitness {E : gE} {K : gM → Prop} {Q : Option Value → gM → Prop} (hK : ∀ z : gM, K z → Q none z) (M : gM) (r : Nat) (q : Nat) (hr : r < 2) (hq : q < 12) (hs : s_X8_readWitness M r q) (hQ : K (f_X8_readWitness M r q)) : gG E RX8 cX8_readWitness 3 none (rm 3) 0 [(0, .ref (gla E (trC r))), (1, .ref (gla E (paC r q)))] [] M Q := by
  rw [s_X8_readWitness] at hs
  rw [f_X8_readWitness] at hQ
  refine g_aload_n 0 dX8_readWitness_0 rfl ?_
  refine g_aload_n 1 dX8_readWitness_1 rfl ?_
  refine g_getI (paC r q) fd_X8_232 (dF_Pa hr hq) rfl dX8_readWitness_2 ?_
  have h1 := hs.1; have hs := hs.2
  refine g_callS (As := [.int (rdI M 30 r q 0)]) (st := [.ref (gla E (trC r))]) (c_J6_bitCount_0f7a4 E M (rdI M 30 r q 0) h1) mt_J6_bitCount_0f7a4 ml_X8_166 sg_J6_bitCount_0f7a4 rfl (by decide) (Nat.le_of_ble_eq_true rfl) dX8_readWitness_5 ?_
  rintro _ _ ⟨q1, q2⟩; rw [q1, q2]; clear q1 q2
  refine g_iconst (v := 4) dX8_readWitness_8 (by decide) ?_
  have h2 := hs.1; have hs := hs.2
  refine g_callV (As := [.int (f_J6_bitCount_0f7a4 M (rdI M 30 r q 0)), .int 4]) (st := []) (trC r) (c_X8_takeOneMore E M r hr (f_J6_bitCount_0f7a4 M (rdI M 30 r q 0)) 4 h2) mt_X8_takeOneMore ml_X8_143 (dF_Tr hr) rfl rfl sg_X8_takeOneMore rfl (by decide) (Nat.le_of_ble_eq_true rfl) dX8_readWitness_9 ?_
  rintro _ M3 ⟨rfl, hM3⟩
  have hQ := bndQ hQ M3 hM3; have hs := bndS hs M3 hM3
  refine g_aload_n 0 dX8_readWitness_12 rfl ?_
  have h4 := hs.1; have hs := hs.2
  refine g_callV (As := []) (st := []) (trC r) (c_X8_takePerson E M3 r hr h4) mt_X8_takePerson ml_X8_154 (dF_Tr hr) rfl rfl sg_X8_takePerson rfl (by decide) (Nat.le_of_ble_eq_true rfl) dX8_readWitness_13 ?_
  rintro _ _ ⟨rfl, rfl⟩
  obtain ⟨z5, hz5⟩ : ∃ z, z = f_X8_takePerson M3 r := ⟨_, rfl⟩
  rw [← hz5]
  have hQ := bndQ hQ z5 hz5; have hs := bndS hs z5 hz5
  refine g_istore_n _ dX8_readWitness_16 (by decide) rfl ?_
  refine g_aload_n 2 dX8_readWitness_17 rfl ?_
  refine g_iload_n 0 dX8_readWitness_18 rfl ?_
  have h6 := hs.1; have hs := hs.2
  refine g_callV (As := [.int z5.1]) (st := []) (paC r q) (c_X5_isWitness E z5.2 r q hr hq z5.1 h6) mt_X5_isWitness ml_X8_233 (dF_Pa hr hq) rfl rfl sg_X5_isWitness rfl (by decide) (Nat.le_of_ble_eq_true rfl) dX8_readWitness_19 ?_
  rintro _ _ ⟨q1, q2⟩; rw [q1, q2]; clear q1 q2
  refine g_if_ne 33 dX8_readWitness_22 (by decide) (fun c7 => ?_) (fun c7 => ?_)
  · have hs := ifSf hs c7; have hQ := ifQf hQ c7
    refine g_sub [1, 2, 0] _ rfl ?_
    exact t_X8_readWitness_33 hK z5.2 r q z5.1 hr hq hs hQ
  · have hs := ifSt hs c7; have hQ := ifQt hQ c7
    refine g_aload_n 2 dX8_readWitness_25 rfl ?_
    refine g_getI (paC r q) fd_X8_195 (dF_Pa hr hq) rfl dX8_readWitness_26 ?_
    refine g_iload_n 0 dX8_readWitness_29 rfl ?_
    refine g_icmp_ne 37 dX8_readWitness_30 (by decide) (fun c8 => ?_) (fun c8 => ?_)
    · have hs := ifSf hs c8; have hQ := ifQf hQ c8
      refine g_sub [2, 0] _ rfl ?_
      exact t_X8_readWitness_37 hK z5.2 r q z5.1 hr hq hs hQ
    · have hs := ifSt hs c8; have hQ := ifQt hQ c8
      refine g_sub [1, 2, 0] _ rfl ?_
      exact t_X8_readWitness_33 hK z5.2 r q z5.1 hr hq hs hQ
theorem c_X8_readWitness (E : gE) (M : gM) (r : Nat) (q : Nat) (hr : r < 2) (hq : q < 12) (hs : s_X8_readWitness M r q) : gC E yX8_readWitness cX8_readWitness 3 none (rm 3) [.ref (gla E (trC r)), .ref (gla E (paC r q))] M (fun o N => o = none ∧ N = f_X8_readWitness M r q) :=
  gC.of (by decide +kernel) (Nat.le_of_ble_eq_true rfl) rfl (t_X8_readWitness (K := fun z => z = f_X8_readWitness M r q) (fun z hz => ⟨rfl, hz⟩) M r q hr hq hs rfl)
def f_X8_readGive_165 (M : gM) (r : Nat) (q : Nat)  : gM :=
  bnd (wrI M 35 r q 0 ((rdI M 35 r q 0) + 1)) fun M50 =>
  (M50)
def s_X8_readGive_165 (M : gM) (r : Nat) (q : Nat)  : Prop :=
  bndP (wrI M 35 r q 0 ((rdI M 35 r q 0) + 1)) fun M50 =>
  (True)
theorem o_X8_readGive_165 (M : gM) (r : Nat) (q : Nat)  : offW [35, 36, 37, 38, 39, 40, 47, 48, 49] M (f_X8_readGive_165 M r q ) := by
  rw [f_X8_readGive_165]
  refine offB (offR.wI (by decide)) (fun M50 oM50 => ?_)
  exact oM50
set_option maxRecDepth 100000 in
set_option maxHeartbeats 4000000 in
theorem t_X8_readGive_165 {E : gE} {K : gM → Prop} {Q : Option Value → gM → Prop} (hK : ∀ z : gM, K z → Q none z) (M : gM) (r : Nat) (q : Nat) (hr : r < 2) (hq : q < 12)  (hs : s_X8_readGive_165 M r q ) (hQ : K (f_X8_readGive_165 M r q )) : gG E RX8 cX8_readGive 3 none (rm 3) 165 [(1, .ref (gla E (paC r q)))] [] M Q := by
  rw [s_X8_readGive_165] at hs
  rw [f_X8_readGive_165] at hQ
  refine g_aload_n 0 dX8_readGive_165 rfl ?_
  refine g_dup dX8_readGive_166 rfl ?_
  refine g_getI (paC r q) fd_X8_237 (dF_Pa hr hq) rfl dX8_readGive_167 ?_
  refine g_iconst (v := 1) dX8_readGive_170 (by decide) ?_
  refine g_iadd dX8_readGive_171 ?_
  refine g_putI (paC r q) fd_X8_237 (dF_Pa hr hq) rfl dX8_readGive_172 (fun M50 hM50 => ?_)
  have hQ := bndQ hQ M50 hM50; have hs := bndS hs M50 hM50
  exact g_vret rfl dX8_readGive_175 (hK _ hQ)
def f_X8_readGive_122 (M : gM) (r : Nat) (q : Nat) (x2 : Int32)  : gM :=
  if f_X8_comes M r = 18 then
    (bnd (f_X8_takeToken M r) fun M32 =>
    (bnd (f_X8_takePerson M32 r) fun z34 =>
    (bnd (wrI z34.2 40 r q (nn x2) z34.1) fun M36 =>
    (if (rdI M36 40 r q (nn x2)) = (rdI M36 37 r q (nn x2)) then
      (bnd (f_X8_failAtTaken M36 r) fun M41 =>
      (f_X8_readGive_165 M41 r q))
    else
      (f_X8_readGive_165 M36 r q)))))
  else
    (f_X8_readGive_165 M r q)
def s_X8_readGive_122 (M : gM) (r : Nat) (q : Nat) (x2 : Int32)  : Prop :=
  (s_X8_comes M r) ∧
  ((f_X8_comes M r < 26) ∧
  (if f_X8_comes M r = 18 then
    ((s_X8_takeToken M r) ∧
    (bndP (f_X8_takeToken M r) fun M32 =>
    ((s_X8_takePerson M32 r) ∧
    (bndP (f_X8_takePerson M32 r) fun z34 =>
    ((vp_in x2 6) ∧
    (bndP (wrI z34.2 40 r q (nn x2) z34.1) fun M36 =>
    ((vp_in x2 6) ∧
    ((vp_in x2 6) ∧
    (if (rdI M36 40 r q (nn x2)) = (rdI M36 37 r q (nn x2)) then
      ((s_X8_failAtTaken M36 r) ∧
      (bndP (f_X8_failAtTaken M36 r) fun M41 =>
      (s_X8_readGive_165 M41 r q)))
    else
      (s_X8_readGive_165 M36 r q))))))))))
  else
    (s_X8_readGive_165 M r q)))
theorem o_X8_readGive_122 (M : gM) (r : Nat) (q : Nat) (x2 : Int32)  : offW [35, 36, 37, 38, 39, 40, 47, 48, 49] M (f_X8_readGive_122 M r q x2 ) := by
  rw [f_X8_readGive_122]
  refine offI ?_ ?_
  · refine offB (offR.tr ((o_X8_takeToken M r).mono (by decide))) (fun M32 oM32 => ?_)
    refine offZ (oM32.tr ((o_X8_takePerson M32 r).mono (by decide))) (fun z34 oz34 => ?_)
    refine offB (oz34.wI (by decide)) (fun M36 oM36 => ?_)
    refine offI ?_ ?_
    · refine offB (oM36.tr ((o_X8_failAtTaken M36 r).mono (by decide))) (fun M41 oM41 => ?_)
      exact oM41.tr (o_X8_readGive_165 M41 r q)
    · exact oM36.tr (o_X8_readGive_165 M36 r q)
  · exact (o_X8_readGive_165 M r q)
set_option maxRecDepth 100000 in
set_option maxHeartbeats 4000000 in
theorem t_X8_readGive_122 {E : gE} {K : gM → Prop} {Q : Option Value → gM → Prop} (hK : ∀ z : gM, K z → Q none z) (M : gM) (r : Nat) (q : Nat) (x2 : Int32) (hr : r < 2) (hq : q < 12)  (hs : s_X8_readGive_122 M r q x2 ) (hQ : K (f_X8_readGive_122 M r q x2 )) : gG E RX8 cX8_readGive 3 none (rm 3) 122 [(0, .ref (gla E (trC r))), (1, .ref (gla E (paC r q))), (2, .int x2)] [] M Q := by
  rw [s_X8_readGive_122] at hs
  rw [f_X8_readGive_122] at hQ
  refine g_aload_n 0 dX8_readGive_122 rfl ?_
  have h28 := hs.1; have hs := hs.2
  refine g_callV (As := []) (st := []) (trC r) (c_X8_comes E M r hr h28) mt_X8_comes ml_X8_44 (dF_Tr hr) rfl rfl sg_X8_comes rfl (by decide) (Nat.le_of_ble_eq_true rfl) dX8_readGive_123 ?_
  rintro _ _ ⟨q1, q2⟩; rw [q1, q2]; clear q1 q2
  refine g_tok 18 (by decide) tl_X8_264 dX8_readGive_126 ?_
  have h29 := hs.1; have hs := hs.2
  refine g_acmp_ne 165 h29 (by decide) dX8_readGive_129 (by decide) (fun c30 => ?_) (fun c30 => ?_)
  · have hs := ifSf hs c30; have hQ := ifQf hQ c30
    refine g_sub [1] _ rfl ?_
    exact t_X8_readGive_165 hK M r q hr hq hs hQ
  · have hs := ifSt hs c30; have hQ := ifQt hQ c30
    refine g_aload_n 0 dX8_readGive_132 rfl ?_
    have h31 := hs.1; have hs := hs.2
    refine g_callV (As := []) (st := []) (trC r) (c_X8_takeToken E M r hr h31) mt_X8_takeToken ml_X8_94 (dF_Tr hr) rfl rfl sg_X8_takeToken rfl (by decide) (Nat.le_of_ble_eq_true rfl) dX8_readGive_133 ?_
    rintro _ M32 ⟨rfl, hM32⟩
    have hQ := bndQ hQ M32 hM32; have hs := bndS hs M32 hM32
    refine g_aload_n 1 dX8_readGive_136 rfl ?_
    refine g_getR (paC r q) (paC r q + 5) fd_X8_255 (dF_Pa hr hq) rfl rfl dX8_readGive_137 ?_
    refine g_iload_n 2 dX8_readGive_140 rfl ?_
    refine g_aload_n 0 dX8_readGive_141 rfl ?_
    have h33 := hs.1; have hs := hs.2
    refine g_callV (As := []) (st := [.int x2, .ref (gla E (paC r q + 5))]) (trC r) (c_X8_takePerson E M32 r hr h33) mt_X8_takePerson ml_X8_154 (dF_Tr hr) rfl rfl sg_X8_takePerson rfl (by decide) (Nat.le_of_ble_eq_true rfl) dX8_readGive_142 ?_
    rintro _ _ ⟨rfl, rfl⟩
    obtain ⟨z34, hz34⟩ : ∃ z, z = f_X8_takePerson M32 r := ⟨_, rfl⟩
    rw [← hz34]
    have hQ := bndQ hQ z34 hz34; have hs := bndS hs z34 hz34
    have h35 := hs.1; have hs := hs.2
    refine g_iast (paC r q + 5) (dF_Pa_giveElse hr hq) h35 dX8_readGive_145 (fun M36 hM36 => ?_)
    have hQ := bndQ hQ M36 hM36; have hs := bndS hs M36 hM36
    refine g_aload_n 1 dX8_readGive_146 rfl ?_
    refine g_getR (paC r q) (paC r q + 5) fd_X8_255 (dF_Pa hr hq) rfl rfl dX8_readGive_147 ?_
    refine g_iload_n 2 dX8_readGive_150 rfl ?_
    have h37 := hs.1; have hs := hs.2
    refine g_iald (paC r q + 5) (dF_Pa_giveElse hr hq) h37 dX8_readGive_151 ?_
    refine g_aload_n 1 dX8_readGive_152 rfl ?_
    refine g_getR (paC r q) (paC r q + 2) fd_X8_246 (dF_Pa hr hq) rfl rfl dX8_readGive_153 ?_
    refine g_iload_n 2 dX8_readGive_156 rfl ?_
    have h38 := hs.1; have hs := hs.2
    refine g_iald (paC r q + 2) (dF_Pa_giveTo hr hq) h38 dX8_readGive_157 ?_
    refine g_icmp_ne 165 dX8_readGive_158 (by decide) (fun c39 => ?_) (fun c39 => ?_)
    · have hs := ifSf hs c39; have hQ := ifQf hQ c39
      refine g_sub [1] _ rfl ?_
      exact t_X8_readGive_165 hK M36 r q hr hq hs hQ
    · have hs := ifSt hs c39; have hQ := ifQt hQ c39
      refine g_aload_n 0 dX8_readGive_161 rfl ?_
      have h40 := hs.1; have hs := hs.2
      refine g_callV (As := []) (st := []) (trC r) (c_X8_failAtTaken E M36 r hr h40) mt_X8_failAtTaken ml_X8_111 (dF_Tr hr) rfl rfl sg_X8_failAtTaken rfl (by decide) (Nat.le_of_ble_eq_true rfl) dX8_readGive_162 ?_
      rintro _ M41 ⟨rfl, hM41⟩
      have hQ := bndQ hQ M41 hM41; have hs := bndS hs M41 hM41
      refine g_sub [1] _ rfl ?_
      exact t_X8_readGive_165 hK M41 r q hr hq hs hQ
def f_X8_readGive_107 (M : gM) (r : Nat) (q : Nat) (x2 : Int32) (y1 : Int32) (y2 : Int32)  : gM :=
  bnd (wrI M 38 r q (nn y1) y2) fun M43 =>
  (bnd (f_X8_takeToken M43 r) fun M45 =>
  (bnd (f_X8_takePerson M45 r) fun z47 =>
  (bnd (wrI z47.2 39 r q (nn x2) z47.1) fun M49 =>
  (f_X8_readGive_122 M49 r q x2))))
def s_X8_readGive_107 (M : gM) (r : Nat) (q : Nat) (x2 : Int32) (y1 : Int32) (y2 : Int32)  : Prop :=
  (vp_in y1 6) ∧
  (bndP (wrI M 38 r q (nn y1) y2) fun M43 =>
  ((s_X8_takeToken M43 r) ∧
  (bndP (f_X8_takeToken M43 r) fun M45 =>
  ((s_X8_takePerson M45 r) ∧
  (bndP (f_X8_takePerson M45 r) fun z47 =>
  ((vp_in x2 6) ∧
  (bndP (wrI z47.2 39 r q (nn x2) z47.1) fun M49 =>
  (s_X8_readGive_122 M49 r q x2))))))))
theorem o_X8_readGive_107 (M : gM) (r : Nat) (q : Nat) (x2 : Int32) (y1 : Int32) (y2 : Int32)  : offW [35, 36, 37, 38, 39, 40, 47, 48, 49] M (f_X8_readGive_107 M r q x2 y1 y2 ) := by
  rw [f_X8_readGive_107]
  refine offB (offR.wI (by decide)) (fun M43 oM43 => ?_)
  refine offB (oM43.tr ((o_X8_takeToken M43 r).mono (by decide))) (fun M45 oM45 => ?_)
  refine offZ (oM45.tr ((o_X8_takePerson M45 r).mono (by decide))) (fun z47 oz47 => ?_)
  refine offB (oz47.wI (by decide)) (fun M49 oM49 => ?_)
  exact oM49.tr (o_X8_readGive_122 M49 r q x2)
set_option maxRecDepth 100000 in
set_option maxHeartbeats 4000000 in
theorem t_X8_readGive_107 {E : gE} {K : gM → Prop} {Q : Option Value → gM → Prop} (hK : ∀ z : gM, K z → Q none z) (M : gM) (r : Nat) (q : Nat) (x2 : Int32) (y1 : Int32) (y2 : Int32) (hr : r < 2) (hq : q < 12)  (hs : s_X8_readGive_107 M r q x2 y1 y2 ) (hQ : K (f_X8_readGive_107 M r q x2 y1 y2 )) : gG E RX8 cX8_readGive 3 none (rm 3) 107 [(0, .ref (gla E (trC r))), (1, .ref (gla E (paC r q))), (2, .int x2)] [.int y2, .int y1, .ref (gla E (paC r q + 3))] M Q := by
  rw [s_X8_readGive_107] at hs
  rw [f_X8_readGive_107] at hQ
  have h42 := hs.1; have hs := hs.2
  refine g_iast (paC r q + 3) (dF_Pa_giveCondition hr hq) h42 dX8_readGive_107 (fun M43 hM43 => ?_)
  have hQ := bndQ hQ M43 hM43; have hs := bndS hs M43 hM43
  refine g_aload_n 0 dX8_readGive_108 rfl ?_
  have h44 := hs.1; have hs := hs.2
  refine g_callV (As := []) (st := []) (trC r) (c_X8_takeToken E M43 r hr h44) mt_X8_takeToken ml_X8_94 (dF_Tr hr) rfl rfl sg_X8_takeToken rfl (by decide) (Nat.le_of_ble_eq_true rfl) dX8_readGive_109 ?_
  rintro _ M45 ⟨rfl, hM45⟩
  have hQ := bndQ hQ M45 hM45; have hs := bndS hs M45 hM45
  refine g_aload_n 1 dX8_readGive_112 rfl ?_
  refine g_getR (paC r q) (paC r q + 4) fd_X8_252 (dF_Pa hr hq) rfl rfl dX8_readGive_113 ?_
  refine g_iload_n 2 dX8_readGive_116 rfl ?_
  refine g_aload_n 0 dX8_readGive_117 rfl ?_
  have h46 := hs.1; have hs := hs.2
  refine g_callV (As := []) (st := [.int x2, .ref (gla E (paC r q + 4))]) (trC r) (c_X8_takePerson E M45 r hr h46) mt_X8_takePerson ml_X8_154 (dF_Tr hr) rfl rfl sg_X8_takePerson rfl (by decide) (Nat.le_of_ble_eq_true rfl) dX8_readGive_118 ?_
  rintro _ _ ⟨rfl, rfl⟩
  obtain ⟨z47, hz47⟩ : ∃ z, z = f_X8_takePerson M45 r := ⟨_, rfl⟩
  rw [← hz47]
  have hQ := bndQ hQ z47 hz47; have hs := bndS hs z47 hz47
  have h48 := hs.1; have hs := hs.2
  refine g_iast (paC r q + 4) (dF_Pa_givePerson hr hq) h48 dX8_readGive_121 (fun M49 hM49 => ?_)
  have hQ := bndQ hQ M49 hM49; have hs := bndS hs M49 hM49
  exact t_X8_readGive_122 hK M49 r q x2 hr hq hs hQ
def f_X8_readGive_87 (M : gM) (r : Nat) (q : Nat) (x2 : Int32)  : gM :=
  if f_X8_comes M r = 16 then
    (f_X8_readGive_107 M r q x2 x2 1)
  else
    (f_X8_readGive_107 M r q x2 x2 2)
def s_X8_readGive_87 (M : gM) (r : Nat) (q : Nat) (x2 : Int32)  : Prop :=
  (s_X8_comes M r) ∧
  ((f_X8_comes M r < 26) ∧
  (if f_X8_comes M r = 16 then
    (s_X8_readGive_107 M r q x2 x2 1)
  else
    (s_X8_readGive_107 M r q x2 x2 2)))
theorem o_X8_readGive_87 (M : gM) (r : Nat) (q : Nat) (x2 : Int32)  : offW [35, 36, 37, 38, 39, 40, 47, 48, 49] M (f_X8_readGive_87 M r q x2 ) := by
  rw [f_X8_readGive_87]
  refine offI ?_ ?_
  · exact (o_X8_readGive_107 M r q x2 x2 1)
  · exact (o_X8_readGive_107 M r q x2 x2 2)
set_option maxRecDepth 100000 in
set_option maxHeartbeats 4000000 in
theorem t_X8_readGive_87 {E : gE} {K : gM → Prop} {Q : Option Value → gM → Prop} (hK : ∀ z : gM, K z → Q none z) (M : gM) (r : Nat) (q : Nat) (x2 : Int32) (hr : r < 2) (hq : q < 12)  (hs : s_X8_readGive_87 M r q x2 ) (hQ : K (f_X8_readGive_87 M r q x2 )) : gG E RX8 cX8_readGive 3 none (rm 3) 87 [(0, .ref (gla E (trC r))), (1, .ref (gla E (paC r q))), (2, .int x2)] [] M Q := by
  rw [s_X8_readGive_87] at hs
  rw [f_X8_readGive_87] at hQ
  refine g_aload_n 1 dX8_readGive_87 rfl ?_
  refine g_getR (paC r q) (paC r q + 3) fd_X8_249 (dF_Pa hr hq) rfl rfl dX8_readGive_88 ?_
  refine g_iload_n 2 dX8_readGive_91 rfl ?_
  refine g_aload_n 0 dX8_readGive_92 rfl ?_
  have h25 := hs.1; have hs := hs.2
  refine g_callV (As := []) (st := [.int x2, .ref (gla E (paC r q + 3))]) (trC r) (c_X8_comes E M r hr h25) mt_X8_comes ml_X8_44 (dF_Tr hr) rfl rfl sg_X8_comes rfl (by decide) (Nat.le_of_ble_eq_true rfl) dX8_readGive_93 ?_
  rintro _ _ ⟨q1, q2⟩; rw [q1, q2]; clear q1 q2
  refine g_tok 16 (by decide) tl_X8_258 dX8_readGive_96 ?_
  have h26 := hs.1; have hs := hs.2
  refine g_acmp_ne 106 h26 (by decide) dX8_readGive_99 (by decide) (fun c27 => ?_) (fun c27 => ?_)
  · have hs := ifSf hs c27; have hQ := ifQf hQ c27
    refine g_iconst (v := 2) dX8_readGive_106 (by decide) ?_
    exact t_X8_readGive_107 hK M r q x2 x2 2 hr hq hs hQ
  · have hs := ifSt hs c27; have hQ := ifQt hQ c27
    refine g_iconst (v := 1) dX8_readGive_102 (by decide) ?_
    refine g_goto 107 dX8_readGive_103 (by decide) ?_
    exact t_X8_readGive_107 hK M r q x2 x2 1 hr hq hs hQ
def f_X8_readGive (M : gM) (r : Nat) (q : Nat) : gM :=
  bnd (f_X8_takeOneMore M r (rdI M 35 r q 0) 6) fun M2 =>
  (if (rdI M2 48 r 0 0) = 0 then
    (if (rdI M 35 r q 0) < 6 then
      (bnd (f_X8_takeThing M2 r) fun z6 =>
      (bnd (wrI z6.2 36 r q (nn (rdI M 35 r q 0)) z6.1) fun M8 =>
      (bnd (f_X8_takePerson M8 r) fun z10 =>
      (bnd (wrI z10.2 37 r q (nn (rdI M 35 r q 0)) z10.1) fun M12 =>
      (bnd (wrI M12 38 r q (nn (rdI M 35 r q 0)) 0) fun M14 =>
      (bnd (wrI M14 39 r q (nn (rdI M 35 r q 0)) (-1)) fun M16 =>
      (bnd (wrI M16 40 r q (nn (rdI M 35 r q 0)) (-1)) fun M18 =>
      (if f_X8_comes M18 r = 16 then
        (f_X8_readGive_87 M18 r q (rdI M 35 r q 0))
      else
        (if f_X8_comes M18 r = 17 then
          (f_X8_readGive_87 M18 r q (rdI M 35 r q 0))
        else
          (f_X8_readGive_122 M18 r q (rdI M 35 r q 0)))))))))))
    else
      (M2))
  else
    (M2))
def s_X8_readGive (M : gM) (r : Nat) (q : Nat) : Prop :=
  (s_X8_takeOneMore M r (rdI M 35 r q 0) 6) ∧
  (bndP (f_X8_takeOneMore M r (rdI M 35 r q 0) 6) fun M2 =>
  (if (rdI M2 48 r 0 0) = 0 then
    (if (rdI M 35 r q 0) < 6 then
      ((s_X8_takeThing M2 r) ∧
      (bndP (f_X8_takeThing M2 r) fun z6 =>
      ((vp_in (rdI M 35 r q 0) 6) ∧
      (bndP (wrI z6.2 36 r q (nn (rdI M 35 r q 0)) z6.1) fun M8 =>
      ((s_X8_takePerson M8 r) ∧
      (bndP (f_X8_takePerson M8 r) fun z10 =>
      ((vp_in (rdI M 35 r q 0) 6) ∧
      (bndP (wrI z10.2 37 r q (nn (rdI M 35 r q 0)) z10.1) fun M12 =>
      ((vp_in (rdI M 35 r q 0) 6) ∧
      (bndP (wrI M12 38 r q (nn (rdI M 35 r q 0)) 0) fun M14 =>
      ((vp_in (rdI M 35 r q 0) 6) ∧
      (bndP (wrI M14 39 r q (nn (rdI M 35 r q 0)) (-1)) fun M16 =>
      ((vp_in (rdI M 35 r q 0) 6) ∧
      (bndP (wrI M16 40 r q (nn (rdI M 35 r q 0)) (-1)) fun M18 =>
      ((s_X8_comes M18 r) ∧
      ((f_X8_comes M18 r < 26) ∧
      (if f_X8_comes M18 r = 16 then
        (s_X8_readGive_87 M18 r q (rdI M 35 r q 0))
      else
        ((s_X8_comes M18 r) ∧
        ((f_X8_comes M18 r < 26) ∧
        (if f_X8_comes M18 r = 17 then
          (s_X8_readGive_87 M18 r q (rdI M 35 r q 0))
        else
          (s_X8_readGive_122 M18 r q (rdI M 35 r q 0))))))))))))))))))))))
    else
      (True))
  else
    (True)))
theorem o_X8_readGive (M : gM) (r : Nat) (q : Nat) : offW [35, 36, 37, 38, 39, 40, 47, 48, 49] M (f_X8_readGive M r q) := by
  rw [f_X8_readGive]
  refine offB (offR.tr ((o_X8_takeOneMore M r (rdI M 35 r q 0) 6).mono (by decide))) (fun M2 oM2 => ?_)
  refine offI ?_ ?_
  · refine offI ?_ ?_
    · refine offZ (oM2.tr ((o_X8_takeThing M2 r).mono (by decide))) (fun z6 oz6 => ?_)
      refine offB (oz6.wI (by decide)) (fun M8 oM8 => ?_)
      refine offZ (oM8.tr ((o_X8_takePerson M8 r).mono (by decide))) (fun z10 oz10 => ?_)
      refine offB (oz10.wI (by decide)) (fun M12 oM12 => ?_)
      refine offB (oM12.wI (by decide)) (fun M14 oM14 => ?_)
      refine offB (oM14.wI (by decide)) (fun M16 oM16 => ?_)
      refine offB (oM16.wI (by decide)) (fun M18 oM18 => ?_)
      refine offI ?_ ?_
      · exact oM18.tr (o_X8_readGive_87 M18 r q (rdI M 35 r q 0))
      · refine offI ?_ ?_
        · exact oM18.tr (o_X8_readGive_87 M18 r q (rdI M 35 r q 0))
        · exact oM18.tr (o_X8_readGive_122 M18 r q (rdI M 35 r q 0))
    · exact oM2
  · exact oM2
set_option maxRecDepth 100000 in
set_option maxHeartbeats 4000000 in
theorem t_X8_readGive {E : gE} {K : gM → Prop} {Q : Option Value → gM → Prop} (hK : ∀ z : gM, K z → Q none z) (M : gM) (r : Nat) (q : Nat) (hr : r < 2) (hq : q < 12) (hs : s_X8_readGive M r q) (hQ : K (f_X8_readGive M r q)) : gG E RX8 cX8_readGive 3 none (rm 3) 0 [(0, .ref (gla E (trC r))), (1, .ref (gla E (paC r q)))] [] M Q := by
  rw [s_X8_readGive] at hs
  rw [f_X8_readGive] at hQ
  refine g_aload_n 1 dX8_readGive_0 rfl ?_
  refine g_getI (paC r q) fd_X8_237 (dF_Pa hr hq) rfl dX8_readGive_1 ?_
  refine g_istore_n _ dX8_readGive_4 (by decide) rfl ?_
  refine g_aload_n 1 dX8_readGive_5 rfl ?_
  refine g_iload_n 0 dX8_readGive_6 rfl ?_
  refine g_bipush (v := 6) dX8_readGive_7 (by decide) ?_
  have h1 := hs.1; have hs := hs.2
  refine g_callV (As := [.int (rdI M 35 r q 0), .int 6]) (st := []) (trC r) (c_X8_takeOneMore E M r hr (rdI M 35 r q 0) 6 h1) mt_X8_takeOneMore ml_X8_143 (dF_Tr hr) rfl rfl sg_X8_takeOneMore rfl (by decide) (Nat.le_of_ble_eq_true rfl) dX8_readGive_9 ?_
  rintro _ M2 ⟨rfl, hM2⟩
  have hQ := bndQ hQ M2 hM2; have hs := bndS hs M2 hM2
  refine g_aload_n 1 dX8_readGive_12 rfl ?_
  refine g_getI (trC r) fd_X8_38 (dF_Tr hr) rfl dX8_readGive_13 ?_
  refine g_if_ne 25 dX8_readGive_16 (by decide) (fun c3 => ?_) (fun c3 => ?_)
  · have hs := ifSf hs c3; have hQ := ifQf hQ c3
    exact g_vret rfl dX8_readGive_25 (hK _ hQ)
  · have hs := ifSt hs c3; have hQ := ifQt hQ c3
    refine g_iload_n 0 dX8_readGive_19 rfl ?_
    refine g_bipush (v := 6) dX8_readGive_20 (by decide) ?_
    refine g_icmp_lt 26 dX8_readGive_22 (by decide) (fun c4 => ?_) (fun c4 => ?_)
    · have hs := ifSt hs c4; have hQ := ifQt hQ c4
      refine g_aload_n 2 dX8_readGive_26 rfl ?_
      refine g_getR (paC r q) (paC r q + 1) fd_X8_240 (dF_Pa hr hq) rfl rfl dX8_readGive_27 ?_
      refine g_iload_n 0 dX8_readGive_30 rfl ?_
      refine g_aload_n 1 dX8_readGive_31 rfl ?_
      have h5 := hs.1; have hs := hs.2
      refine g_callV (As := []) (st := [.int (rdI M 35 r q 0), .ref (gla E (paC r q + 1))]) (trC r) (c_X8_takeThing E M2 r hr h5) mt_X8_takeThing ml_X8_243 (dF_Tr hr) rfl rfl sg_X8_takeThing rfl (by decide) (Nat.le_of_ble_eq_true rfl) dX8_readGive_32 ?_
      rintro _ _ ⟨rfl, rfl⟩
      obtain ⟨z6, hz6⟩ : ∃ z, z = f_X8_takeThing M2 r := ⟨_, rfl⟩
      rw [← hz6]
      have hQ := bndQ hQ z6 hz6; have hs := bndS hs z6 hz6
      have h7 := hs.1; have hs := hs.2
      refine g_iast (paC r q + 1) (dF_Pa_giveThing hr hq) h7 dX8_readGive_35 (fun M8 hM8 => ?_)
      have hQ := bndQ hQ M8 hM8; have hs := bndS hs M8 hM8
      refine g_aload_n 2 dX8_readGive_36 rfl ?_
      refine g_getR (paC r q) (paC r q + 2) fd_X8_246 (dF_Pa hr hq) rfl rfl dX8_readGive_37 ?_
      refine g_iload_n 0 dX8_readGive_40 rfl ?_
      refine g_aload_n 1 dX8_readGive_41 rfl ?_
      have h9 := hs.1; have hs := hs.2
      refine g_callV (As := []) (st := [.int (rdI M 35 r q 0), .ref (gla E (paC r q + 2))]) (trC r) (c_X8_takePerson E M8 r hr h9) mt_X8_takePerson ml_X8_154 (dF_Tr hr) rfl rfl sg_X8_takePerson rfl (by decide) (Nat.le_of_ble_eq_true rfl) dX8_readGive_42 ?_
      rintro _ _ ⟨rfl, rfl⟩
      obtain ⟨z10, hz10⟩ : ∃ z, z = f_X8_takePerson M8 r := ⟨_, rfl⟩
      rw [← hz10]
      have hQ := bndQ hQ z10 hz10; have hs := bndS hs z10 hz10
      have h11 := hs.1; have hs := hs.2
      refine g_iast (paC r q + 2) (dF_Pa_giveTo hr hq) h11 dX8_readGive_45 (fun M12 hM12 => ?_)
      have hQ := bndQ hQ M12 hM12; have hs := bndS hs M12 hM12
      refine g_aload_n 2 dX8_readGive_46 rfl ?_
      refine g_getR (paC r q) (paC r q + 3) fd_X8_249 (dF_Pa hr hq) rfl rfl dX8_readGive_47 ?_
      refine g_iload_n 0 dX8_readGive_50 rfl ?_
      refine g_iconst (v := 0) dX8_readGive_51 (by decide) ?_
      have h13 := hs.1; have hs := hs.2
      refine g_iast (paC r q + 3) (dF_Pa_giveCondition hr hq) h13 dX8_readGive_52 (fun M14 hM14 => ?_)
      have hQ := bndQ hQ M14 hM14; have hs := bndS hs M14 hM14
      refine g_aload_n 2 dX8_readGive_53 rfl ?_
      refine g_getR (paC r q) (paC r q + 4) fd_X8_252 (dF_Pa hr hq) rfl rfl dX8_readGive_54 ?_
      refine g_iload_n 0 dX8_readGive_57 rfl ?_
      refine g_iconst (v := (-1)) dX8_readGive_58 (by decide) ?_
      have h15 := hs.1; have hs := hs.2
      refine g_iast (paC r q + 4) (dF_Pa_givePerson hr hq) h15 dX8_readGive_59 (fun M16 hM16 => ?_)
      have hQ := bndQ hQ M16 hM16; have hs := bndS hs M16 hM16
      refine g_aload_n 2 dX8_readGive_60 rfl ?_
      refine g_getR (paC r q) (paC r q + 5) fd_X8_255 (dF_Pa hr hq) rfl rfl dX8_readGive_61 ?_
      refine g_iload_n 0 dX8_readGive_64 rfl ?_
      refine g_iconst (v := (-1)) dX8_readGive_65 (by decide) ?_
      have h17 := hs.1; have hs := hs.2
      refine g_iast (paC r q + 5) (dF_Pa_giveElse hr hq) h17 dX8_readGive_66 (fun M18 hM18 => ?_)
      have hQ := bndQ hQ M18 hM18; have hs := bndS hs M18 hM18
      refine g_aload_n 1 dX8_readGive_67 rfl ?_
      have h19 := hs.1; have hs := hs.2
      refine g_callV (As := []) (st := []) (trC r) (c_X8_comes E M18 r hr h19) mt_X8_comes ml_X8_44 (dF_Tr hr) rfl rfl sg_X8_comes rfl (by decide) (Nat.le_of_ble_eq_true rfl) dX8_readGive_68 ?_
      rintro _ _ ⟨q1, q2⟩; rw [q1, q2]; clear q1 q2
      refine g_tok 16 (by decide) tl_X8_258 dX8_readGive_71 ?_
      have h20 := hs.1; have hs := hs.2
      refine g_acmp_eq 87 h20 (by decide) dX8_readGive_74 (by decide) (fun c21 => ?_) (fun c21 => ?_)
      · have hs := ifSt hs c21; have hQ := ifQt hQ c21
        refine g_sub [1, 2, 0] _ rfl ?_
        exact t_X8_readGive_87 hK M18 r q (rdI M 35 r q 0) hr hq hs hQ
      · have hs := ifSf hs c21; have hQ := ifQf hQ c21
        refine g_aload_n 1 dX8_readGive_77 rfl ?_
        have h22 := hs.1; have hs := hs.2
        refine g_callV (As := []) (st := []) (trC r) (c_X8_comes E M18 r hr h22) mt_X8_comes ml_X8_44 (dF_Tr hr) rfl rfl sg_X8_comes rfl (by decide) (Nat.le_of_ble_eq_true rfl) dX8_readGive_78 ?_
        rintro _ _ ⟨q1, q2⟩; rw [q1, q2]; clear q1 q2
        refine g_tok 17 (by decide) tl_X8_261 dX8_readGive_81 ?_
        have h23 := hs.1; have hs := hs.2
        refine g_acmp_ne 122 h23 (by decide) dX8_readGive_84 (by decide) (fun c24 => ?_) (fun c24 => ?_)
        · have hs := ifSf hs c24; have hQ := ifQf hQ c24
          refine g_sub [1, 2, 0] _ rfl ?_
          exact t_X8_readGive_122 hK M18 r q (rdI M 35 r q 0) hr hq hs hQ
        · have hs := ifSt hs c24; have hQ := ifQt hQ c24
          refine g_sub [1, 2, 0] _ rfl ?_
          exact t_X8_readGive_87 hK M18 r q (rdI M 35 r q 0) hr hq hs hQ
    · have hs := ifSf hs c4; have hQ := ifQf hQ c4
      exact g_vret rfl dX8_readGive_25 (hK _ hQ)
theorem c_X8_readGive (E : gE) (M : gM) (r : Nat) (q : Nat) (hr : r < 2) (hq : q < 12) (hs : s_X8_readGive M r q) : gC E yX8_readGive cX8_readGive 3 none (rm 3) [.ref (gla E (trC r)), .ref (gla E (paC r q))] M (fun o N => o = none ∧ N = f_X8_readGive M r q) :=
  gC.of (by decide +kernel) (Nat.le_of_ble_eq_true rfl) rfl (t_X8_readGive (K := fun z => z = f_X8_readGive M r q) (fun z hz => ⟨rfl, hz⟩) M r q hr hq hs rfl)
def f_X8_readStrike_48 (M : gM) (r : Nat) (q : Nat) (x2 : Int32)  : gM :=
  bnd (wrI M 31 r q 0 ((rdI M 31 r q 0) ||| (1 <<< (x2 &&& 31)))) fun M12 =>
  (M12)
def s_X8_readStrike_48 (M : gM) (r : Nat) (q : Nat) (x2 : Int32)  : Prop :=
  bndP (wrI M 31 r q 0 ((rdI M 31 r q 0) ||| (1 <<< (x2 &&& 31)))) fun M12 =>
  (True)
theorem o_X8_readStrike_48 (M : gM) (r : Nat) (q : Nat) (x2 : Int32)  : offW [31, 47, 48, 49] M (f_X8_readStrike_48 M r q x2 ) := by
  rw [f_X8_readStrike_48]
  refine offB (offR.wI (by decide)) (fun M12 oM12 => ?_)
  exact oM12
set_option maxRecDepth 100000 in
set_option maxHeartbeats 4000000 in
theorem t_X8_readStrike_48 {E : gE} {K : gM → Prop} {Q : Option Value → gM → Prop} (hK : ∀ z : gM, K z → Q none z) (M : gM) (r : Nat) (q : Nat) (x2 : Int32) (hr : r < 2) (hq : q < 12)  (hs : s_X8_readStrike_48 M r q x2 ) (hQ : K (f_X8_readStrike_48 M r q x2 )) : gG E RX8 cX8_readStrike 3 none (rm 3) 48 [(1, .ref (gla E (paC r q))), (2, .int x2)] [] M Q := by
  rw [s_X8_readStrike_48] at hs
  rw [f_X8_readStrike_48] at hQ
  refine g_aload_n 0 dX8_readStrike_48 rfl ?_
  refine g_dup dX8_readStrike_49 rfl ?_
  refine g_getI (paC r q) fd_X8_267 (dF_Pa hr hq) rfl dX8_readStrike_50 ?_
  refine g_iconst (v := 1) dX8_readStrike_53 (by decide) ?_
  refine g_iload_n 1 dX8_readStrike_54 rfl ?_
  refine g_ishl dX8_readStrike_55 ?_
  refine g_ior dX8_readStrike_56 ?_
  refine g_putI (paC r q) fd_X8_267 (dF_Pa hr hq) rfl dX8_readStrike_57 (fun M12 hM12 => ?_)
  have hQ := bndQ hQ M12 hM12; have hs := bndS hs M12 hM12
  exact g_vret rfl dX8_readStrike_60 (hK _ hQ)
def f_X8_readStrike_44 (M : gM) (r : Nat) (q : Nat) (x2 : Int32)  : gM :=
  bnd (f_X8_failAtTaken M r) fun M11 =>
  (f_X8_readStrike_48 M11 r q x2)
def s_X8_readStrike_44 (M : gM) (r : Nat) (q : Nat) (x2 : Int32)  : Prop :=
  (s_X8_failAtTaken M r) ∧
  (bndP (f_X8_failAtTaken M r) fun M11 =>
  (s_X8_readStrike_48 M11 r q x2))
theorem o_X8_readStrike_44 (M : gM) (r : Nat) (q : Nat) (x2 : Int32)  : offW [31, 47, 48, 49] M (f_X8_readStrike_44 M r q x2 ) := by
  rw [f_X8_readStrike_44]
  refine offB (offR.tr ((o_X8_failAtTaken M r).mono (by decide))) (fun M11 oM11 => ?_)
  exact oM11.tr (o_X8_readStrike_48 M11 r q x2)
set_option maxRecDepth 100000 in
set_option maxHeartbeats 4000000 in
theorem t_X8_readStrike_44 {E : gE} {K : gM → Prop} {Q : Option Value → gM → Prop} (hK : ∀ z : gM, K z → Q none z) (M : gM) (r : Nat) (q : Nat) (x2 : Int32) (hr : r < 2) (hq : q < 12)  (hs : s_X8_readStrike_44 M r q x2 ) (hQ : K (f_X8_readStrike_44 M r q x2 )) : gG E RX8 cX8_readStrike 3 none (rm 3) 44 [(0, .ref (gla E (trC r))), (1, .ref (gla E (paC r q))), (2, .int x2)] [] M Q := by
  rw [s_X8_readStrike_44] at hs
  rw [f_X8_readStrike_44] at hQ
  refine g_aload_n 0 dX8_readStrike_44 rfl ?_
  have h10 := hs.1; have hs := hs.2
  refine g_callV (As := []) (st := []) (trC r) (c_X8_failAtTaken E M r hr h10) mt_X8_failAtTaken ml_X8_111 (dF_Tr hr) rfl rfl sg_X8_failAtTaken rfl (by decide) (Nat.le_of_ble_eq_true rfl) dX8_readStrike_45 ?_
  rintro _ M11 ⟨rfl, hM11⟩
  have hQ := bndQ hQ M11 hM11; have hs := bndS hs M11 hM11
  refine g_sub [1, 2] _ rfl ?_
  exact t_X8_readStrike_48 hK M11 r q x2 hr hq hs hQ
def f_X8_readStrike (M : gM) (r : Nat) (q : Nat) : gM :=
  bnd (f_X8_takeOneMore M r (f_J6_bitCount_0f7a4 M (rdI M 31 r q 0)) 3) fun M3 =>
  (bnd (f_X8_takePaper M3 r) fun z5 =>
  (if (f_X5_strikes z5.2 r q z5.1) = 0 then
    (if (rdI z5.2 25 r (nn z5.1) 0) = (rdI z5.2 25 r q 0) then
      (f_X8_readStrike_48 z5.2 r q z5.1)
    else
      (f_X8_readStrike_44 z5.2 r q z5.1))
  else
    (f_X8_readStrike_44 z5.2 r q z5.1)))
def s_X8_readStrike (M : gM) (r : Nat) (q : Nat) : Prop :=
  (s_J6_bitCount_0f7a4 M (rdI M 31 r q 0)) ∧
  ((s_X8_takeOneMore M r (f_J6_bitCount_0f7a4 M (rdI M 31 r q 0)) 3) ∧
  (bndP (f_X8_takeOneMore M r (f_J6_bitCount_0f7a4 M (rdI M 31 r q 0)) 3) fun M3 =>
  ((s_X8_takePaper M3 r) ∧
  (bndP (f_X8_takePaper M3 r) fun z5 =>
  ((s_X5_strikes z5.2 r q z5.1) ∧
  (if (f_X5_strikes z5.2 r q z5.1) = 0 then
    ((vp_in z5.1 12) ∧
    (if (rdI z5.2 25 r (nn z5.1) 0) = (rdI z5.2 25 r q 0) then
      (s_X8_readStrike_48 z5.2 r q z5.1)
    else
      (s_X8_readStrike_44 z5.2 r q z5.1)))
  else
    (s_X8_readStrike_44 z5.2 r q z5.1)))))))
theorem o_X8_readStrike (M : gM) (r : Nat) (q : Nat) : offW [31, 47, 48, 49] M (f_X8_readStrike M r q) := by
  rw [f_X8_readStrike]
  refine offB (offR.tr ((o_X8_takeOneMore M r (f_J6_bitCount_0f7a4 M (rdI M 31 r q 0)) 3).mono (by decide))) (fun M3 oM3 => ?_)
  refine offZ (oM3.tr ((o_X8_takePaper M3 r).mono (by decide))) (fun z5 oz5 => ?_)
  refine offI ?_ ?_
  · refine offI ?_ ?_
    · exact oz5.tr (o_X8_readStrike_48 z5.2 r q z5.1)
    · exact oz5.tr (o_X8_readStrike_44 z5.2 r q z5.1)
  · exact oz5.tr (o_X8_readStrike_44 z5.2 r q z5.1)
set_option maxRecDepth 100000 in
set_option maxHeartbeats 4000000 in
theorem t_X8_readStrike {E : gE} {K : gM → Prop} {Q : Option Value → gM → Prop} (hK : ∀ z : gM, K z → Q none z) (M : gM) (r : Nat) (q : Nat) (hr : r < 2) (hq : q < 12) (hs : s_X8_readStrike M r q) (hQ : K (f_X8_readStrike M r q)) : gG E RX8 cX8_readStrike 3 none (rm 3) 0 [(0, .ref (gla E (trC r))), (1, .ref (gla E (paC r q)))] [] M Q := by
  rw [s_X8_readStrike] at hs
  rw [f_X8_readStrike] at hQ
  refine g_aload_n 0 dX8_readStrike_0 rfl ?_
  refine g_aload_n 1 dX8_readStrike_1 rfl ?_
  refine g_getI (paC r q) fd_X8_267 (dF_Pa hr hq) rfl dX8_readStrike_2 ?_
  have h1 := hs.1; have hs := hs.2
  refine g_callS (As := [.int (rdI M 31 r q 0)]) (st := [.ref (gla E (trC r))]) (c_J6_bitCount_0f7a4 E M (rdI M 31 r q 0) h1) mt_J6_bitCount_0f7a4 ml_X8_166 sg_J6_bitCount_0f7a4 rfl (by decide) (Nat.le_of_ble_eq_true rfl) dX8_readStrike_5 ?_
  rintro _ _ ⟨q1, q2⟩; rw [q1, q2]; clear q1 q2
  refine g_iconst (v := 3) dX8_readStrike_8 (by decide) ?_
  have h2 := hs.1; have hs := hs.2
  refine g_callV (As := [.int (f_J6_bitCount_0f7a4 M (rdI M 31 r q 0)), .int 3]) (st := []) (trC r) (c_X8_takeOneMore E M r hr (f_J6_bitCount_0f7a4 M (rdI M 31 r q 0)) 3 h2) mt_X8_takeOneMore ml_X8_143 (dF_Tr hr) rfl rfl sg_X8_takeOneMore rfl (by decide) (Nat.le_of_ble_eq_true rfl) dX8_readStrike_9 ?_
  rintro _ M3 ⟨rfl, hM3⟩
  have hQ := bndQ hQ M3 hM3; have hs := bndS hs M3 hM3
  refine g_aload_n 0 dX8_readStrike_12 rfl ?_
  have h4 := hs.1; have hs := hs.2
  refine g_callV (As := []) (st := []) (trC r) (c_X8_takePaper E M3 r hr h4) mt_X8_takePaper ml_X8_270 (dF_Tr hr) rfl rfl sg_X8_takePaper rfl (by decide) (Nat.le_of_ble_eq_true rfl) dX8_readStrike_13 ?_
  rintro _ _ ⟨rfl, rfl⟩
  obtain ⟨z5, hz5⟩ : ∃ z, z = f_X8_takePaper M3 r := ⟨_, rfl⟩
  rw [← hz5]
  have hQ := bndQ hQ z5 hz5; have hs := bndS hs z5 hz5
  refine g_istore_n _ dX8_readStrike_16 (by decide) rfl ?_
  refine g_aload_n 2 dX8_readStrike_17 rfl ?_
  refine g_iload_n 0 dX8_readStrike_18 rfl ?_
  have h6 := hs.1; have hs := hs.2
  refine g_callV (As := [.int z5.1]) (st := []) (paC r q) (c_X5_strikes E z5.2 r q hr hq z5.1 h6) mt_X5_strikes ml_X8_273 (dF_Pa hr hq) rfl rfl sg_X5_strikes rfl (by decide) (Nat.le_of_ble_eq_true rfl) dX8_readStrike_19 ?_
  rintro _ _ ⟨q1, q2⟩; rw [q1, q2]; clear q1 q2
  refine g_if_ne 44 dX8_readStrike_22 (by decide) (fun c7 => ?_) (fun c7 => ?_)
  · have hs := ifSf hs c7; have hQ := ifQf hQ c7
    refine g_sub [1, 2, 0] _ rfl ?_
    exact t_X8_readStrike_44 hK z5.2 r q z5.1 hr hq hs hQ
  · have hs := ifSt hs c7; have hQ := ifQt hQ c7
    refine g_aload_n 1 dX8_readStrike_25 rfl ?_
    refine g_getR (trC r) (rgC r) fd_X8_25 (dF_Tr hr) rfl rfl dX8_readStrike_26 ?_
    refine g_getR (rgC r) (rgC r + 4) fd_X8_188 (dF_Rg hr) rfl rfl dX8_readStrike_29 ?_
    refine g_iload_n 0 dX8_readStrike_32 rfl ?_
    have h8 := hs.1; have hs := hs.2
    refine g_aald (rgC r + 4) (paC r (nn z5.1)) rfl (dF_Rg_papers hr) h8 (aj_Pa _ _) dX8_readStrike_33 ?_
    refine g_getI (paC r (nn z5.1)) fd_X8_195 (dF_Pa hr (vpL h8)) rfl dX8_readStrike_34 ?_
    refine g_aload_n 2 dX8_readStrike_37 rfl ?_
    refine g_getI (paC r q) fd_X8_195 (dF_Pa hr hq) rfl dX8_readStrike_38 ?_
    refine g_icmp_eq 48 dX8_readStrike_41 (by decide) (fun c9 => ?_) (fun c9 => ?_)
    · have hs := ifSt hs c9; have hQ := ifQt hQ c9
      refine g_sub [2, 0] _ rfl ?_
      exact t_X8_readStrike_48 hK z5.2 r q z5.1 hr hq hs hQ
    · have hs := ifSf hs c9; have hQ := ifQf hQ c9
      refine g_sub [1, 2, 0] _ rfl ?_
      exact t_X8_readStrike_44 hK z5.2 r q z5.1 hr hq hs hQ
theorem c_X8_readStrike (E : gE) (M : gM) (r : Nat) (q : Nat) (hr : r < 2) (hq : q < 12) (hs : s_X8_readStrike M r q) : gC E yX8_readStrike cX8_readStrike 3 none (rm 3) [.ref (gla E (trC r)), .ref (gla E (paC r q))] M (fun o N => o = none ∧ N = f_X8_readStrike M r q) :=
  gC.of (by decide +kernel) (Nat.le_of_ble_eq_true rfl) rfl (t_X8_readStrike (K := fun z => z = f_X8_readStrike M r q) (fun z hz => ⟨rfl, hz⟩) M r q hr hq hs rfl)
def f_X8_readLost_28 (M : gM) (r : Nat) (x1c1 : Nat)  : gM :=
  bnd (f_X8_takeNumber M r 0 3) fun z11 =>
  (if (rdI z11.2 48 r 0 0) = 0 then
    (bnd (wrI z11.2 33 r x1c1 0 z11.1) fun M13 =>
    (M13))
  else
    (z11.2))
def s_X8_readLost_28 (M : gM) (r : Nat) (x1c1 : Nat)  : Prop :=
  (s_X8_takeNumber M r 0 3) ∧
  (bndP (f_X8_takeNumber M r 0 3) fun z11 =>
  (if (rdI z11.2 48 r 0 0) = 0 then
    (bndP (wrI z11.2 33 r x1c1 0 z11.1) fun M13 =>
    (True))
  else
    (True)))
theorem o_X8_readLost_28 (M : gM) (r : Nat) (x1c1 : Nat)  : offW [33, 47, 48, 49] M (f_X8_readLost_28 M r x1c1 ) := by
  rw [f_X8_readLost_28]
  refine offZ (offR.tr ((o_X8_takeNumber M r 0 3).mono (by decide))) (fun z11 oz11 => ?_)
  refine offI ?_ ?_
  · refine offB (oz11.wI (by decide)) (fun M13 oM13 => ?_)
    exact oM13
  · exact oz11
set_option maxRecDepth 100000 in
set_option maxHeartbeats 4000000 in
theorem t_X8_readLost_28 {E : gE} {K : gM → Prop} {Q : Option Value → gM → Prop} (hK : ∀ z : gM, K z → Q none z) (M : gM) (r : Nat) (x1c1 : Nat) (hr : r < 2) (hx1c1 : x1c1 < 12)  (hs : s_X8_readLost_28 M r x1c1 ) (hQ : K (f_X8_readLost_28 M r x1c1 )) : gG E RX8 cX8_readLost 3 none (rm 3) 28 [(0, .ref (gla E (trC r))), (1, .ref (gla E (paC r x1c1)))] [] M Q := by
  rw [s_X8_readLost_28] at hs
  rw [f_X8_readLost_28] at hQ
  refine g_aload_n 0 dX8_readLost_28 rfl ?_
  refine g_iconst (v := 0) dX8_readLost_29 (by decide) ?_
  refine g_iconst (v := 3) dX8_readLost_30 (by decide) ?_
  have h10 := hs.1; have hs := hs.2
  refine g_callV (As := [.int 0, .int 3]) (st := []) (trC r) (c_X8_takeNumber E M r hr 0 3 h10) mt_X8_takeNumber ml_X8_101 (dF_Tr hr) rfl rfl sg_X8_takeNumber rfl (by decide) (Nat.le_of_ble_eq_true rfl) dX8_readLost_31 ?_
  rintro _ _ ⟨rfl, rfl⟩
  obtain ⟨z11, hz11⟩ : ∃ z, z = f_X8_takeNumber M r 0 3 := ⟨_, rfl⟩
  rw [← hz11]
  have hQ := bndQ hQ z11 hz11; have hs := bndS hs z11 hz11
  refine g_istore_n _ dX8_readLost_34 (by decide) rfl ?_
  refine g_aload_n 1 dX8_readLost_35 rfl ?_
  refine g_getI (trC r) fd_X8_38 (dF_Tr hr) rfl dX8_readLost_36 ?_
  refine g_if_ne 47 dX8_readLost_39 (by decide) (fun c12 => ?_) (fun c12 => ?_)
  · have hs := ifSf hs c12; have hQ := ifQf hQ c12
    exact g_vret rfl dX8_readLost_47 (hK _ hQ)
  · have hs := ifSt hs c12; have hQ := ifQt hQ c12
    refine g_aload_n 2 dX8_readLost_42 rfl ?_
    refine g_iload_n 0 dX8_readLost_43 rfl ?_
    refine g_putI (paC r x1c1) fd_X8_280 (dF_Pa hr hx1c1) rfl dX8_readLost_44 (fun M13 hM13 => ?_)
    have hQ := bndQ hQ M13 hM13; have hs := bndS hs M13 hM13
    exact g_vret rfl dX8_readLost_47 (hK _ hQ)
def f_X8_readLost (M : gM) (r : Nat) : gM :=
  bnd (f_X8_takeToken M r) fun M2 =>
  (bnd (f_X8_takePaper M2 r) fun z4 =>
  (if (f_X5_isLost z4.2 r (nn z4.1)) = 0 then
    (f_X8_readLost_28 z4.2 r (nn z4.1))
  else
    (bnd (f_X8_failAtTaken z4.2 r) fun M9 =>
    (f_X8_readLost_28 M9 r (nn z4.1)))))
def s_X8_readLost (M : gM) (r : Nat) : Prop :=
  (s_X8_takeToken M r) ∧
  (bndP (f_X8_takeToken M r) fun M2 =>
  ((s_X8_takePaper M2 r) ∧
  (bndP (f_X8_takePaper M2 r) fun z4 =>
  ((vp_in z4.1 12) ∧
  ((s_X5_isLost z4.2 r (nn z4.1)) ∧
  (if (f_X5_isLost z4.2 r (nn z4.1)) = 0 then
    (s_X8_readLost_28 z4.2 r (nn z4.1))
  else
    ((s_X8_failAtTaken z4.2 r) ∧
    (bndP (f_X8_failAtTaken z4.2 r) fun M9 =>
    (s_X8_readLost_28 M9 r (nn z4.1))))))))))
theorem o_X8_readLost (M : gM) (r : Nat) : offW [33, 47, 48, 49] M (f_X8_readLost M r) := by
  rw [f_X8_readLost]
  refine offB (offR.tr ((o_X8_takeToken M r).mono (by decide))) (fun M2 oM2 => ?_)
  refine offZ (oM2.tr ((o_X8_takePaper M2 r).mono (by decide))) (fun z4 oz4 => ?_)
  refine offI ?_ ?_
  · exact oz4.tr (o_X8_readLost_28 z4.2 r (nn z4.1))
  · refine offB (oz4.tr ((o_X8_failAtTaken z4.2 r).mono (by decide))) (fun M9 oM9 => ?_)
    exact oM9.tr (o_X8_readLost_28 M9 r (nn z4.1))
set_option maxRecDepth 100000 in
set_option maxHeartbeats 4000000 in
theorem t_X8_readLost {E : gE} {K : gM → Prop} {Q : Option Value → gM → Prop} (hK : ∀ z : gM, K z → Q none z) (M : gM) (r : Nat) (hr : r < 2) (hs : s_X8_readLost M r) (hQ : K (f_X8_readLost M r)) : gG E RX8 cX8_readLost 3 none (rm 3) 0 [(0, .ref (gla E (trC r)))] [] M Q := by
  rw [s_X8_readLost] at hs
  rw [f_X8_readLost] at hQ
  refine g_aload_n 0 dX8_readLost_0 rfl ?_
  have h1 := hs.1; have hs := hs.2
  refine g_callV (As := []) (st := []) (trC r) (c_X8_takeToken E M r hr h1) mt_X8_takeToken ml_X8_94 (dF_Tr hr) rfl rfl sg_X8_takeToken rfl (by decide) (Nat.le_of_ble_eq_true rfl) dX8_readLost_1 ?_
  rintro _ M2 ⟨rfl, hM2⟩
  have hQ := bndQ hQ M2 hM2; have hs := bndS hs M2 hM2
  refine g_aload_n 0 dX8_readLost_4 rfl ?_
  refine g_getR (trC r) (rgC r) fd_X8_25 (dF_Tr hr) rfl rfl dX8_readLost_5 ?_
  refine g_getR (rgC r) (rgC r + 4) fd_X8_188 (dF_Rg hr) rfl rfl dX8_readLost_8 ?_
  refine g_aload_n 0 dX8_readLost_11 rfl ?_
  have h3 := hs.1; have hs := hs.2
  refine g_callV (As := []) (st := [.ref (gla E (rgC r + 4))]) (trC r) (c_X8_takePaper E M2 r hr h3) mt_X8_takePaper ml_X8_270 (dF_Tr hr) rfl rfl sg_X8_takePaper rfl (by decide) (Nat.le_of_ble_eq_true rfl) dX8_readLost_12 ?_
  rintro _ _ ⟨rfl, rfl⟩
  obtain ⟨z4, hz4⟩ : ∃ z, z = f_X8_takePaper M2 r := ⟨_, rfl⟩
  rw [← hz4]
  have hQ := bndQ hQ z4 hz4; have hs := bndS hs z4 hz4
  have h5 := hs.1; have hs := hs.2
  refine g_aald (rgC r + 4) (paC r (nn z4.1)) rfl (dF_Rg_papers hr) h5 (aj_Pa _ _) dX8_readLost_15 ?_
  refine g_astore_n _ dX8_readLost_16 (by decide) rfl ?_
  refine g_aload_n 0 dX8_readLost_17 rfl ?_
  have h6 := hs.1; have hs := hs.2
  refine g_callV (As := []) (st := []) (paC r (nn z4.1)) (c_X5_isLost E z4.2 r (nn z4.1) hr (vpL h5) h6) mt_X5_isLost ml_X8_276 (dF_Pa hr (vpL h5)) rfl rfl sg_X5_isLost rfl (by decide) (Nat.le_of_ble_eq_true rfl) dX8_readLost_18 ?_
  rintro _ _ ⟨q1, q2⟩; rw [q1, q2]; clear q1 q2
  refine g_if_eq 28 dX8_readLost_21 (by decide) (fun c7 => ?_) (fun c7 => ?_)
  · have hs := ifSt hs c7; have hQ := ifQt hQ c7
    refine g_sub [1, 0] _ rfl ?_
    exact t_X8_readLost_28 hK z4.2 r (nn z4.1) hr (vpL h5) hs hQ
  · have hs := ifSf hs c7; have hQ := ifQf hQ c7
    refine g_aload_n 1 dX8_readLost_24 rfl ?_
    have h8 := hs.1; have hs := hs.2
    refine g_callV (As := []) (st := []) (trC r) (c_X8_failAtTaken E z4.2 r hr h8) mt_X8_failAtTaken ml_X8_111 (dF_Tr hr) rfl rfl sg_X8_failAtTaken rfl (by decide) (Nat.le_of_ble_eq_true rfl) dX8_readLost_25 ?_
    rintro _ M9 ⟨rfl, hM9⟩
    have hQ := bndQ hQ M9 hM9; have hs := bndS hs M9 hM9
    refine g_sub [1, 0] _ rfl ?_
    exact t_X8_readLost_28 hK M9 r (nn z4.1) hr (vpL h5) hs hQ
theorem c_X8_readLost (E : gE) (M : gM) (r : Nat) (hr : r < 2) (hs : s_X8_readLost M r) : gC E yX8_readLost cX8_readLost 3 none (rm 3) [.ref (gla E (trC r))] M (fun o N => o = none ∧ N = f_X8_readLost M r) :=
  gC.of (by decide +kernel) (Nat.le_of_ble_eq_true rfl) rfl (t_X8_readLost (K := fun z => z = f_X8_readLost M r) (fun z hz => ⟨rfl, hz⟩) M r hr hs rfl)
def f_X8_readDeath_28 (M : gM) (r : Nat) (x1c1 : Nat)  : gM :=
  bnd (f_X8_takeNumber M r 0 9999) fun z11 =>
  (if (rdI z11.2 48 r 0 0) = 0 then
    (bnd (wrI z11.2 20 r x1c1 0 z11.1) fun M13 =>
    (M13))
  else
    (z11.2))
def s_X8_readDeath_28 (M : gM) (r : Nat) (x1c1 : Nat)  : Prop :=
  (s_X8_takeNumber M r 0 9999) ∧
  (bndP (f_X8_takeNumber M r 0 9999) fun z11 =>
  (if (rdI z11.2 48 r 0 0) = 0 then
    (bndP (wrI z11.2 20 r x1c1 0 z11.1) fun M13 =>
    (True))
  else
    (True)))
theorem o_X8_readDeath_28 (M : gM) (r : Nat) (x1c1 : Nat)  : offW [20, 47, 48, 49] M (f_X8_readDeath_28 M r x1c1 ) := by
  rw [f_X8_readDeath_28]
  refine offZ (offR.tr ((o_X8_takeNumber M r 0 9999).mono (by decide))) (fun z11 oz11 => ?_)
  refine offI ?_ ?_
  · refine offB (oz11.wI (by decide)) (fun M13 oM13 => ?_)
    exact oM13
  · exact oz11
set_option maxRecDepth 100000 in
set_option maxHeartbeats 4000000 in
theorem t_X8_readDeath_28 {E : gE} {K : gM → Prop} {Q : Option Value → gM → Prop} (hK : ∀ z : gM, K z → Q none z) (M : gM) (r : Nat) (x1c1 : Nat) (hr : r < 2) (hx1c1 : x1c1 < 10)  (hs : s_X8_readDeath_28 M r x1c1 ) (hQ : K (f_X8_readDeath_28 M r x1c1 )) : gG E RX8 cX8_readDeath 3 none (rm 3) 28 [(0, .ref (gla E (trC r))), (1, .ref (gla E (peC r x1c1)))] [] M Q := by
  rw [s_X8_readDeath_28] at hs
  rw [f_X8_readDeath_28] at hQ
  refine g_aload_n 0 dX8_readDeath_28 rfl ?_
  refine g_iconst (v := 0) dX8_readDeath_29 (by decide) ?_
  refine g_sipush (v := 9999) dX8_readDeath_30 (by decide) ?_
  have h10 := hs.1; have hs := hs.2
  refine g_callV (As := [.int 0, .int 9999]) (st := []) (trC r) (c_X8_takeNumber E M r hr 0 9999 h10) mt_X8_takeNumber ml_X8_101 (dF_Tr hr) rfl rfl sg_X8_takeNumber rfl (by decide) (Nat.le_of_ble_eq_true rfl) dX8_readDeath_33 ?_
  rintro _ _ ⟨rfl, rfl⟩
  obtain ⟨z11, hz11⟩ : ∃ z, z = f_X8_takeNumber M r 0 9999 := ⟨_, rfl⟩
  rw [← hz11]
  have hQ := bndQ hQ z11 hz11; have hs := bndS hs z11 hz11
  refine g_istore_n _ dX8_readDeath_36 (by decide) rfl ?_
  refine g_aload_n 1 dX8_readDeath_37 rfl ?_
  refine g_getI (trC r) fd_X8_38 (dF_Tr hr) rfl dX8_readDeath_38 ?_
  refine g_if_ne 49 dX8_readDeath_41 (by decide) (fun c12 => ?_) (fun c12 => ?_)
  · have hs := ifSf hs c12; have hQ := ifQf hQ c12
    exact g_vret rfl dX8_readDeath_49 (hK _ hQ)
  · have hs := ifSt hs c12; have hQ := ifQt hQ c12
    refine g_aload_n 2 dX8_readDeath_44 rfl ?_
    refine g_iload_n 0 dX8_readDeath_45 rfl ?_
    refine g_putI (peC r x1c1) fd_X8_285 (dF_Pe hr hx1c1) rfl dX8_readDeath_46 (fun M13 hM13 => ?_)
    have hQ := bndQ hQ M13 hM13; have hs := bndS hs M13 hM13
    exact g_vret rfl dX8_readDeath_49 (hK _ hQ)
def f_X8_readDeath (M : gM) (r : Nat) : gM :=
  bnd (f_X8_takeToken M r) fun M2 =>
  (bnd (f_X8_takePerson M2 r) fun z4 =>
  (if (f_X6_isMortal z4.2 r (nn z4.1)) = 0 then
    (f_X8_readDeath_28 z4.2 r (nn z4.1))
  else
    (bnd (f_X8_failAtTaken z4.2 r) fun M9 =>
    (f_X8_readDeath_28 M9 r (nn z4.1)))))
def s_X8_readDeath (M : gM) (r : Nat) : Prop :=
  (s_X8_takeToken M r) ∧
  (bndP (f_X8_takeToken M r) fun M2 =>
  ((s_X8_takePerson M2 r) ∧
  (bndP (f_X8_takePerson M2 r) fun z4 =>
  ((vp_in z4.1 10) ∧
  ((s_X6_isMortal z4.2 r (nn z4.1)) ∧
  (if (f_X6_isMortal z4.2 r (nn z4.1)) = 0 then
    (s_X8_readDeath_28 z4.2 r (nn z4.1))
  else
    ((s_X8_failAtTaken z4.2 r) ∧
    (bndP (f_X8_failAtTaken z4.2 r) fun M9 =>
    (s_X8_readDeath_28 M9 r (nn z4.1))))))))))
theorem o_X8_readDeath (M : gM) (r : Nat) : offW [20, 47, 48, 49] M (f_X8_readDeath M r) := by
  rw [f_X8_readDeath]
  refine offB (offR.tr ((o_X8_takeToken M r).mono (by decide))) (fun M2 oM2 => ?_)
  refine offZ (oM2.tr ((o_X8_takePerson M2 r).mono (by decide))) (fun z4 oz4 => ?_)
  refine offI ?_ ?_
  · exact oz4.tr (o_X8_readDeath_28 z4.2 r (nn z4.1))
  · refine offB (oz4.tr ((o_X8_failAtTaken z4.2 r).mono (by decide))) (fun M9 oM9 => ?_)
    exact oM9.tr (o_X8_readDeath_28 M9 r (nn z4.1))
set_option maxRecDepth 100000 in
set_option maxHeartbeats 4000000 in
theorem t_X8_readDeath {E : gE} {K : gM → Prop} {Q : Option Value → gM → Prop} (hK : ∀ z : gM, K z → Q none z) (M : gM) (r : Nat) (hr : r < 2) (hs : s_X8_readDeath M r) (hQ : K (f_X8_readDeath M r)) : gG E RX8 cX8_readDeath 3 none (rm 3) 0 [(0, .ref (gla E (trC r)))] [] M Q := by
  rw [s_X8_readDeath] at hs
  rw [f_X8_readDeath] at hQ
  refine g_aload_n 0 dX8_readDeath_0 rfl ?_
  have h1 := hs.1; have hs := hs.2
  refine g_callV (As := []) (st := []) (trC r) (c_X8_takeToken E M r hr h1) mt_X8_takeToken ml_X8_94 (dF_Tr hr) rfl rfl sg_X8_takeToken rfl (by decide) (Nat.le_of_ble_eq_true rfl) dX8_readDeath_1 ?_
  rintro _ M2 ⟨rfl, hM2⟩
  have hQ := bndQ hQ M2 hM2; have hs := bndS hs M2 hM2
  refine g_aload_n 0 dX8_readDeath_4 rfl ?_
  refine g_getR (trC r) (rgC r) fd_X8_25 (dF_Tr hr) rfl rfl dX8_readDeath_5 ?_
  refine g_getR (rgC r) (rgC r + 2) fd_X8_157 (dF_Rg hr) rfl rfl dX8_readDeath_8 ?_
  refine g_aload_n 0 dX8_readDeath_11 rfl ?_
  have h3 := hs.1; have hs := hs.2
  refine g_callV (As := []) (st := [.ref (gla E (rgC r + 2))]) (trC r) (c_X8_takePerson E M2 r hr h3) mt_X8_takePerson ml_X8_154 (dF_Tr hr) rfl rfl sg_X8_takePerson rfl (by decide) (Nat.le_of_ble_eq_true rfl) dX8_readDeath_12 ?_
  rintro _ _ ⟨rfl, rfl⟩
  obtain ⟨z4, hz4⟩ : ∃ z, z = f_X8_takePerson M2 r := ⟨_, rfl⟩
  rw [← hz4]
  have hQ := bndQ hQ z4 hz4; have hs := bndS hs z4 hz4
  have h5 := hs.1; have hs := hs.2
  refine g_aald (rgC r + 2) (peC r (nn z4.1)) rfl (dF_Rg_persons hr) h5 (aj_Pe _ _) dX8_readDeath_15 ?_
  refine g_astore_n _ dX8_readDeath_16 (by decide) rfl ?_
  refine g_aload_n 0 dX8_readDeath_17 rfl ?_
  have h6 := hs.1; have hs := hs.2
  refine g_callV (As := []) (st := []) (peC r (nn z4.1)) (c_X6_isMortal E z4.2 r (nn z4.1) hr (vpL h5) h6) mt_X6_isMortal ml_X8_282 (dF_Pe hr (vpL h5)) rfl rfl sg_X6_isMortal rfl (by decide) (Nat.le_of_ble_eq_true rfl) dX8_readDeath_18 ?_
  rintro _ _ ⟨q1, q2⟩; rw [q1, q2]; clear q1 q2
  refine g_if_eq 28 dX8_readDeath_21 (by decide) (fun c7 => ?_) (fun c7 => ?_)
  · have hs := ifSt hs c7; have hQ := ifQt hQ c7
    refine g_sub [1, 0] _ rfl ?_
    exact t_X8_readDeath_28 hK z4.2 r (nn z4.1) hr (vpL h5) hs hQ
  · have hs := ifSf hs c7; have hQ := ifQf hQ c7
    refine g_aload_n 1 dX8_readDeath_24 rfl ?_
    have h8 := hs.1; have hs := hs.2
    refine g_callV (As := []) (st := []) (trC r) (c_X8_failAtTaken E z4.2 r hr h8) mt_X8_failAtTaken ml_X8_111 (dF_Tr hr) rfl rfl sg_X8_failAtTaken rfl (by decide) (Nat.le_of_ble_eq_true rfl) dX8_readDeath_25 ?_
    rintro _ M9 ⟨rfl, hM9⟩
    have hQ := bndQ hQ M9 hM9; have hs := bndS hs M9 hM9
    refine g_sub [1, 0] _ rfl ?_
    exact t_X8_readDeath_28 hK M9 r (nn z4.1) hr (vpL h5) hs hQ
theorem c_X8_readDeath (E : gE) (M : gM) (r : Nat) (hr : r < 2) (hs : s_X8_readDeath M r) : gC E yX8_readDeath cX8_readDeath 3 none (rm 3) [.ref (gla E (trC r))] M (fun o N => o = none ∧ N = f_X8_readDeath M r) :=
  gC.of (by decide +kernel) (Nat.le_of_ble_eq_true rfl) rfl (t_X8_readDeath (K := fun z => z = f_X8_readDeath M r) (fun z hz => ⟨rfl, hz⟩) M r hr hs rfl)
def f_X8_readPart_110 (M : gM) (r : Nat) (q : Nat) (y1 : Int32)  : gM :=
  bnd (f_X8_takeOnce M r y1) fun M21 =>
  (bnd (f_X8_takePerson M21 r) fun z23 =>
  (bnd (wrI z23.2 32 r q 0 z23.1) fun M24 =>
  (M24)))
def s_X8_readPart_110 (M : gM) (r : Nat) (q : Nat) (y1 : Int32)  : Prop :=
  (s_X8_takeOnce M r y1) ∧
  (bndP (f_X8_takeOnce M r y1) fun M21 =>
  ((s_X8_takePerson M21 r) ∧
  (bndP (f_X8_takePerson M21 r) fun z23 =>
  (bndP (wrI z23.2 32 r q 0 z23.1) fun M24 =>
  (True)))))
theorem o_X8_readPart_110 (M : gM) (r : Nat) (q : Nat) (y1 : Int32)  : offW [29, 30, 31, 32, 35, 36, 37, 38, 39, 40, 47, 48, 49] M (f_X8_readPart_110 M r q y1 ) := by
  rw [f_X8_readPart_110]
  refine offB (offR.tr ((o_X8_takeOnce M r y1).mono (by decide))) (fun M21 oM21 => ?_)
  refine offZ (oM21.tr ((o_X8_takePerson M21 r).mono (by decide))) (fun z23 oz23 => ?_)
  refine offB (oz23.wI (by decide)) (fun M24 oM24 => ?_)
  exact oM24
set_option maxRecDepth 100000 in
set_option maxHeartbeats 4000000 in
theorem t_X8_readPart_110 {E : gE} {K : gM → Prop} {Q : Option Value → gM → Prop} (hK : ∀ z : gM, K z → Q none z) (M : gM) (r : Nat) (q : Nat) (y1 : Int32) (hr : r < 2) (hq : q < 12)  (hs : s_X8_readPart_110 M r q y1 ) (hQ : K (f_X8_readPart_110 M r q y1 )) : gG E RX8 cX8_readPart 2 none (rm 4) 110 [(0, .ref (gla E (trC r))), (1, .ref (gla E (paC r q)))] [.int y1, .ref (gla E (trC r))] M Q := by
  rw [s_X8_readPart_110] at hs
  rw [f_X8_readPart_110] at hQ
  have h20 := hs.1; have hs := hs.2
  refine g_callV (As := [.int y1]) (st := []) (trC r) (c_X8_takeOnce E M r hr y1 h20) mt_X8_takeOnce ml_X8_127 (dF_Tr hr) rfl rfl sg_X8_takeOnce rfl (by decide) (Nat.le_of_ble_eq_true rfl) dX8_readPart_110 ?_
  rintro _ M21 ⟨rfl, hM21⟩
  have hQ := bndQ hQ M21 hM21; have hs := bndS hs M21 hM21
  refine g_aload_n 1 dX8_readPart_113 rfl ?_
  refine g_aload_n 0 dX8_readPart_114 rfl ?_
  have h22 := hs.1; have hs := hs.2
  refine g_callV (As := []) (st := [.ref (gla E (paC r q))]) (trC r) (c_X8_takePerson E M21 r hr h22) mt_X8_takePerson ml_X8_154 (dF_Tr hr) rfl rfl sg_X8_takePerson rfl (by decide) (Nat.le_of_ble_eq_true rfl) dX8_readPart_115 ?_
  rintro _ _ ⟨rfl, rfl⟩
  obtain ⟨z23, hz23⟩ : ∃ z, z = f_X8_takePerson M21 r := ⟨_, rfl⟩
  rw [← hz23]
  have hQ := bndQ hQ z23 hz23; have hs := bndS hs z23 hz23
  refine g_putI (paC r q) fd_X8_226 (dF_Pa hr hq) rfl dX8_readPart_118 (fun M24 hM24 => ?_)
  have hQ := bndQ hQ M24 hM24; have hs := bndS hs M24 hM24
  refine g_goto 137 dX8_readPart_121 (by decide) ?_
  exact g_vret rfl dX8_readPart_137 (hK _ hQ)
def f_X8_readPart_132 (M : gM) (r : Nat) (q : Nat)  : gM :=
  bnd (f_X8_fail M r 1) fun M26 =>
  (M26)
def s_X8_readPart_132 (M : gM) (r : Nat) (q : Nat)  : Prop :=
  (s_X8_fail M r 1) ∧
  (bndP (f_X8_fail M r 1) fun M26 =>
  (True))
theorem o_X8_readPart_132 (M : gM) (r : Nat) (q : Nat)  : offW [29, 30, 31, 32, 35, 36, 37, 38, 39, 40, 47, 48, 49] M (f_X8_readPart_132 M r q ) := by
  rw [f_X8_readPart_132]
  refine offB (offR.tr ((o_X8_fail M r 1).mono (by decide))) (fun M26 oM26 => ?_)
  exact oM26
set_option maxRecDepth 100000 in
set_option maxHeartbeats 4000000 in
theorem t_X8_readPart_132 {E : gE} {K : gM → Prop} {Q : Option Value → gM → Prop} (hK : ∀ z : gM, K z → Q none z) (M : gM) (r : Nat) (q : Nat) (hr : r < 2) (hq : q < 12)  (hs : s_X8_readPart_132 M r q ) (hQ : K (f_X8_readPart_132 M r q )) : gG E RX8 cX8_readPart 2 none (rm 4) 132 [(0, .ref (gla E (trC r)))] [] M Q := by
  rw [s_X8_readPart_132] at hs
  rw [f_X8_readPart_132] at hQ
  refine g_aload_n 0 dX8_readPart_132 rfl ?_
  refine g_iconst (v := 1) dX8_readPart_133 (by decide) ?_
  have h25 := hs.1; have hs := hs.2
  refine g_callV (As := [.int 1]) (st := []) (trC r) (c_X8_fail E M r hr 1 h25) mt_X8_fail ml_X8_87 (dF_Tr hr) rfl rfl sg_X8_fail rfl (by decide) (Nat.le_of_ble_eq_true rfl) dX8_readPart_134 ?_
  rintro _ M26 ⟨rfl, hM26⟩
  have hQ := bndQ hQ M26 hM26; have hs := bndS hs M26 hM26
  exact g_vret rfl dX8_readPart_137 (hK _ hQ)
def f_X8_readPart (M : gM) (r : Nat) (q : Nat) : gM :=
  if (swm (nn (f_Jx29ce0_ordinal_8abf5 M (f_X8_comes M r)))) = 9 then
    (bnd (f_X8_takeOnce M r (rdI M 29 r q 0)) fun M6 =>
    (bnd (wrI M6 29 r q 0 1) fun M7 =>
    (M7)))
  else
    (if (swm (nn (f_Jx29ce0_ordinal_8abf5 M (f_X8_comes M r)))) = 15 then
      (bnd (f_X8_readWitness M r q) fun M9 =>
      (M9))
    else
      (if (swm (nn (f_Jx29ce0_ordinal_8abf5 M (f_X8_comes M r)))) = 16 then
        (bnd (f_X8_readGive M r q) fun M11 =>
        (M11))
      else
        (if (swm (nn (f_Jx29ce0_ordinal_8abf5 M (f_X8_comes M r)))) = 17 then
          (if (rdI M 32 r q 0) = (-1) then
            (f_X8_readPart_110 M r q 0)
          else
            (f_X8_readPart_110 M r q 1))
        else
          (if (swm (nn (f_Jx29ce0_ordinal_8abf5 M (f_X8_comes M r)))) = 18 then
            (bnd (f_X8_readStrike M r q) fun M14 =>
            (M14))
          else
            (f_X8_readPart_132 M r q)))))
def s_X8_readPart (M : gM) (r : Nat) (q : Nat) : Prop :=
  (s_X8_comes M r) ∧
  ((f_X8_comes M r < 26) ∧
  ((s_Jx29ce0_ordinal_8abf5 M (f_X8_comes M r)) ∧
  ((vp_in (f_Jx29ce0_ordinal_8abf5 M (f_X8_comes M r)) 26) ∧
  (if (swm (nn (f_Jx29ce0_ordinal_8abf5 M (f_X8_comes M r)))) = 9 then
    ((s_X8_takeOnce M r (rdI M 29 r q 0)) ∧
    (bndP (f_X8_takeOnce M r (rdI M 29 r q 0)) fun M6 =>
    (bndP (wrI M6 29 r q 0 1) fun M7 =>
    (True))))
  else
    (if (swm (nn (f_Jx29ce0_ordinal_8abf5 M (f_X8_comes M r)))) = 15 then
      ((s_X8_readWitness M r q) ∧
      (bndP (f_X8_readWitness M r q) fun M9 =>
      (True)))
    else
      (if (swm (nn (f_Jx29ce0_ordinal_8abf5 M (f_X8_comes M r)))) = 16 then
        ((s_X8_readGive M r q) ∧
        (bndP (f_X8_readGive M r q) fun M11 =>
        (True)))
      else
        (if (swm (nn (f_Jx29ce0_ordinal_8abf5 M (f_X8_comes M r)))) = 17 then
          (if (rdI M 32 r q 0) = (-1) then
            (s_X8_readPart_110 M r q 0)
          else
            (s_X8_readPart_110 M r q 1))
        else
          (if (swm (nn (f_Jx29ce0_ordinal_8abf5 M (f_X8_comes M r)))) = 18 then
            ((s_X8_readStrike M r q) ∧
            (bndP (f_X8_readStrike M r q) fun M14 =>
            (True)))
          else
            (s_X8_readPart_132 M r q)))))))))
theorem o_X8_readPart (M : gM) (r : Nat) (q : Nat) : offW [29, 30, 31, 32, 35, 36, 37, 38, 39, 40, 47, 48, 49] M (f_X8_readPart M r q) := by
  rw [f_X8_readPart]
  refine offI ?_ ?_
  · refine offB (offR.tr ((o_X8_takeOnce M r (rdI M 29 r q 0)).mono (by decide))) (fun M6 oM6 => ?_)
    refine offB (oM6.wI (by decide)) (fun M7 oM7 => ?_)
    exact oM7
  refine offI ?_ ?_
  · refine offB (offR.tr ((o_X8_readWitness M r q).mono (by decide))) (fun M9 oM9 => ?_)
    exact oM9
  refine offI ?_ ?_
  · refine offB (offR.tr ((o_X8_readGive M r q).mono (by decide))) (fun M11 oM11 => ?_)
    exact oM11
  refine offI ?_ ?_
  · refine offI ?_ ?_
    · exact (o_X8_readPart_110 M r q 0)
    · exact (o_X8_readPart_110 M r q 1)
  refine offI ?_ ?_
  · refine offB (offR.tr ((o_X8_readStrike M r q).mono (by decide))) (fun M14 oM14 => ?_)
    exact oM14
  exact (o_X8_readPart_132 M r q)
set_option maxRecDepth 100000 in
set_option maxHeartbeats 4000000 in
theorem t_X8_readPart {E : gE} {K : gM → Prop} {Q : Option Value → gM → Prop} (hK : ∀ z : gM, K z → Q none z) (M : gM) (r : Nat) (q : Nat) (hr : r < 2) (hq : q < 12) (hs : s_X8_readPart M r q) (hQ : K (f_X8_readPart M r q)) : gG E RX8 cX8_readPart 2 none (rm 4) 0 [(0, .ref (gla E (trC r))), (1, .ref (gla E (paC r q)))] [] M Q := by
  rw [s_X8_readPart] at hs
  rw [f_X8_readPart] at hQ
  refine g_sw sl_X8_54 dX8_readPart_0 ?_
  refine g_aload_n 0 dX8_readPart_3 rfl ?_
  have h1 := hs.1; have hs := hs.2
  refine g_callV (As := []) (st := [.ref (gstSW E)]) (trC r) (c_X8_comes E M r hr h1) mt_X8_comes ml_X8_44 (dF_Tr hr) rfl rfl sg_X8_comes rfl (by decide) (Nat.le_of_ble_eq_true rfl) dX8_readPart_4 ?_
  rintro _ _ ⟨q1, q2⟩; rw [q1, q2]; clear q1 q2
  have h2 := hs.1; have hs := hs.2
  have h3 := hs.1; have hs := hs.2
  refine g_callO (st := [.ref (gstSW E)]) (f_X8_comes M r) h2 (c_Jx29ce0_ordinal_8abf5 E M (f_X8_comes M r) h2 h3) rfl rfl mo_X8_59 ow_sm ow_sel ow_in ow_ini ow_code ow_sg (by decide) (Nat.le_of_ble_eq_true rfl) dX8_readPart_7 ?_
  rintro _ _ ⟨q1, q2⟩; rw [q1, q2]; clear q1 q2
  have h4 := hs.1; have hs := hs.2
  refine g_swald h4 dX8_readPart_10 ?_
  by_cases c15 : (swm (nn (f_Jx29ce0_ordinal_8abf5 M (f_X8_comes M r)))) = 9
  · have hs := ifSt hs c15; have hQ := ifQt hQ c15
    refine g_tin 64 (k := 9) (z := 9) (off := 53) c15 dX8_readPart_11 (by decide) (by decide) (by decide) rfl (by decide) ?_
    refine g_aload_n 0 dX8_readPart_64 rfl ?_
    refine g_aload_n 1 dX8_readPart_65 rfl ?_
    refine g_getI (paC r q) fd_X8_217 (dF_Pa hr hq) rfl dX8_readPart_66 ?_
    have h5 := hs.1; have hs := hs.2
    refine g_callV (As := [.int (rdI M 29 r q 0)]) (st := []) (trC r) (c_X8_takeOnce E M r hr (rdI M 29 r q 0) h5) mt_X8_takeOnce ml_X8_127 (dF_Tr hr) rfl rfl sg_X8_takeOnce rfl (by decide) (Nat.le_of_ble_eq_true rfl) dX8_readPart_69 ?_
    rintro _ M6 ⟨rfl, hM6⟩
    have hQ := bndQ hQ M6 hM6; have hs := bndS hs M6 hM6
    refine g_aload_n 1 dX8_readPart_72 rfl ?_
    refine g_iconst (v := 1) dX8_readPart_73 (by decide) ?_
    refine g_putZ (paC r q) fd_X8_217 (Or.inr rfl) (dF_Pa hr hq) rfl dX8_readPart_74 (fun M7 hM7 => ?_)
    have hQ := bndQ hQ M7 hM7; have hs := bndS hs M7 hM7
    refine g_goto 137 dX8_readPart_77 (by decide) ?_
    exact g_vret rfl dX8_readPart_137 (hK _ hQ)
  have hs := ifSf hs c15; have hQ := ifQf hQ c15
  by_cases c16 : (swm (nn (f_Jx29ce0_ordinal_8abf5 M (f_X8_comes M r)))) = 15
  · have hs := ifSt hs c16; have hQ := ifQt hQ c16
    refine g_tin 80 (k := 15) (z := 15) (off := 69) c16 dX8_readPart_11 (by decide) (by decide) (by decide) rfl (by decide) ?_
    refine g_aload_n 0 dX8_readPart_80 rfl ?_
    refine g_aload_n 1 dX8_readPart_81 rfl ?_
    have h8 := hs.1; have hs := hs.2
    refine g_callV (As := [.ref (gla E (paC r q))]) (st := []) (trC r) (c_X8_readWitness E M r q hr hq h8) mt_X8_readWitness ml_X8_220 (dF_Tr hr) rfl rfl sg_X8_readWitness rfl (by decide) (Nat.le_of_ble_eq_true rfl) dX8_readPart_82 ?_
    rintro _ M9 ⟨rfl, hM9⟩
    have hQ := bndQ hQ M9 hM9; have hs := bndS hs M9 hM9
    refine g_goto 137 dX8_readPart_85 (by decide) ?_
    exact g_vret rfl dX8_readPart_137 (hK _ hQ)
  have hs := ifSf hs c16; have hQ := ifQf hQ c16
  by_cases c17 : (swm (nn (f_Jx29ce0_ordinal_8abf5 M (f_X8_comes M r)))) = 16
  · have hs := ifSt hs c17; have hQ := ifQt hQ c17
    refine g_tin 88 (k := 16) (z := 16) (off := 77) c17 dX8_readPart_11 (by decide) (by decide) (by decide) rfl (by decide) ?_
    refine g_aload_n 0 dX8_readPart_88 rfl ?_
    refine g_aload_n 1 dX8_readPart_89 rfl ?_
    have h10 := hs.1; have hs := hs.2
    refine g_callV (As := [.ref (gla E (paC r q))]) (st := []) (trC r) (c_X8_readGive E M r q hr hq h10) mt_X8_readGive ml_X8_223 (dF_Tr hr) rfl rfl sg_X8_readGive rfl (by decide) (Nat.le_of_ble_eq_true rfl) dX8_readPart_90 ?_
    rintro _ M11 ⟨rfl, hM11⟩
    have hQ := bndQ hQ M11 hM11; have hs := bndS hs M11 hM11
    refine g_goto 137 dX8_readPart_93 (by decide) ?_
    exact g_vret rfl dX8_readPart_137 (hK _ hQ)
  have hs := ifSf hs c17; have hQ := ifQf hQ c17
  by_cases c18 : (swm (nn (f_Jx29ce0_ordinal_8abf5 M (f_X8_comes M r)))) = 17
  · have hs := ifSt hs c18; have hQ := ifQt hQ c18
    refine g_tin 96 (k := 17) (z := 17) (off := 85) c18 dX8_readPart_11 (by decide) (by decide) (by decide) rfl (by decide) ?_
    refine g_aload_n 0 dX8_readPart_96 rfl ?_
    refine g_aload_n 1 dX8_readPart_97 rfl ?_
    refine g_getI (paC r q) fd_X8_226 (dF_Pa hr hq) rfl dX8_readPart_98 ?_
    refine g_iconst (v := (-1)) dX8_readPart_101 (by decide) ?_
    refine g_icmp_eq 109 dX8_readPart_102 (by decide) (fun c12 => ?_) (fun c12 => ?_)
    · have hs := ifSt hs c12; have hQ := ifQt hQ c12
      refine g_iconst (v := 0) dX8_readPart_109 (by decide) ?_
      exact t_X8_readPart_110 hK M r q 0 hr hq hs hQ
    · have hs := ifSf hs c12; have hQ := ifQf hQ c12
      refine g_iconst (v := 1) dX8_readPart_105 (by decide) ?_
      refine g_goto 110 dX8_readPart_106 (by decide) ?_
      exact t_X8_readPart_110 hK M r q 1 hr hq hs hQ
  have hs := ifSf hs c18; have hQ := ifQf hQ c18
  by_cases c19 : (swm (nn (f_Jx29ce0_ordinal_8abf5 M (f_X8_comes M r)))) = 18
  · have hs := ifSt hs c19; have hQ := ifQt hQ c19
    refine g_tin 124 (k := 18) (z := 18) (off := 113) c19 dX8_readPart_11 (by decide) (by decide) (by decide) rfl (by decide) ?_
    refine g_aload_n 0 dX8_readPart_124 rfl ?_
    refine g_aload_n 1 dX8_readPart_125 rfl ?_
    have h13 := hs.1; have hs := hs.2
    refine g_callV (As := [.ref (gla E (paC r q))]) (st := []) (trC r) (c_X8_readStrike E M r q hr hq h13) mt_X8_readStrike ml_X8_229 (dF_Tr hr) rfl rfl sg_X8_readStrike rfl (by decide) (Nat.le_of_ble_eq_true rfl) dX8_readPart_126 ?_
    rintro _ M14 ⟨rfl, hM14⟩
    have hQ := bndQ hQ M14 hM14; have hs := bndS hs M14 hM14
    refine g_goto 137 dX8_readPart_129 (by decide) ?_
    exact g_vret rfl dX8_readPart_137 (hK _ hQ)
  have hs := ifSf hs c19; have hQ := ifQf hQ c19
  refine g_tdf 132 dX8_readPart_11 (fun h1 h2 => by have ec15 : ¬ Int32.toInt (swm (nn (f_Jx29ce0_ordinal_8abf5 M (f_X8_comes M r)))) = 9 := ne_ti c15 (by decide); have ec16 : ¬ Int32.toInt (swm (nn (f_Jx29ce0_ordinal_8abf5 M (f_X8_comes M r)))) = 15 := ne_ti c16 (by decide); have ec17 : ¬ Int32.toInt (swm (nn (f_Jx29ce0_ordinal_8abf5 M (f_X8_comes M r)))) = 16 := ne_ti c17 (by decide); have ec18 : ¬ Int32.toInt (swm (nn (f_Jx29ce0_ordinal_8abf5 M (f_X8_comes M r)))) = 17 := ne_ti c18 (by decide); have ec19 : ¬ Int32.toInt (swm (nn (f_Jx29ce0_ordinal_8abf5 M (f_X8_comes M r)))) = 18 := ne_ti c19 (by decide); have e : Int32.toInt (swm (nn (f_Jx29ce0_ordinal_8abf5 M (f_X8_comes M r)))) = 10 ∨ Int32.toInt (swm (nn (f_Jx29ce0_ordinal_8abf5 M (f_X8_comes M r)))) = 11 ∨ Int32.toInt (swm (nn (f_Jx29ce0_ordinal_8abf5 M (f_X8_comes M r)))) = 12 ∨ Int32.toInt (swm (nn (f_Jx29ce0_ordinal_8abf5 M (f_X8_comes M r)))) = 13 ∨ Int32.toInt (swm (nn (f_Jx29ce0_ordinal_8abf5 M (f_X8_comes M r)))) = 14 := (by omega); rcases e with e | e | e | e | e <;> rw [e] <;> rfl) (by decide) ?_
  refine g_sub [0] _ rfl ?_
  exact t_X8_readPart_132 hK M r q hr hq hs hQ
theorem c_X8_readPart (E : gE) (M : gM) (r : Nat) (q : Nat) (hr : r < 2) (hq : q < 12) (hs : s_X8_readPart M r q) : gC E yX8_readPart cX8_readPart 2 none (rm 4) [.ref (gla E (trC r)), .ref (gla E (paC r q))] M (fun o N => o = none ∧ N = f_X8_readPart M r q) :=
  gC.of (by decide +kernel) (Nat.le_of_ble_eq_true rfl) rfl (t_X8_readPart (K := fun z => z = f_X8_readPart M r q) (fun z hz => ⟨rfl, hz⟩) M r q hr hq hs rfl)
def f_X8_readPaper_143 (M : gM) (r : Nat)  : gM :=
  if (rdI M 48 r 0 0) = 0 then
    (bnd (f_X7_addFilledPaper M r) fun M31 =>
    (M31))
  else
    (M)
def s_X8_readPaper_143 (M : gM) (r : Nat)  : Prop :=
  if (rdI M 48 r 0 0) = 0 then
    ((s_X7_addFilledPaper M r) ∧
    (bndP (f_X7_addFilledPaper M r) fun M31 =>
    (True)))
  else
    (True)
theorem o_X8_readPaper_143 (M : gM) (r : Nat)  : offW [7, 9, 25, 26, 27, 28, 29, 30, 31, 32, 33, 34, 35, 36, 37, 38, 39, 40, 47, 48, 49, 50] M (f_X8_readPaper_143 M r ) := by
  rw [f_X8_readPaper_143]
  refine offI ?_ ?_
  · refine offB (offR.tr ((o_X7_addFilledPaper M r).mono (by decide))) (fun M31 oM31 => ?_)
    exact oM31
  · exact offR
set_option maxRecDepth 100000 in
set_option maxHeartbeats 4000000 in
theorem t_X8_readPaper_143 {E : gE} {K : gM → Prop} {Q : Option Value → gM → Prop} (hK : ∀ z : gM, K z → Q none z) (M : gM) (r : Nat) (hr : r < 2)  (hs : s_X8_readPaper_143 M r ) (hQ : K (f_X8_readPaper_143 M r )) : gG E RX8 cX8_readPaper 3 none (rm 5) 143 [(0, .ref (gla E (trC r)))] [] M Q := by
  rw [s_X8_readPaper_143] at hs
  rw [f_X8_readPaper_143] at hQ
  refine g_aload_n 0 dX8_readPaper_143 rfl ?_
  refine g_getI (trC r) fd_X8_38 (dF_Tr hr) rfl dX8_readPaper_144 ?_
  refine g_if_ne 157 dX8_readPaper_147 (by decide) (fun c29 => ?_) (fun c29 => ?_)
  · have hs := ifSf hs c29; have hQ := ifQf hQ c29
    exact g_vret rfl dX8_readPaper_157 (hK _ hQ)
  · have hs := ifSt hs c29; have hQ := ifQt hQ c29
    refine g_aload_n 0 dX8_readPaper_150 rfl ?_
    refine g_getR (trC r) (rgC r) fd_X8_25 (dF_Tr hr) rfl rfl dX8_readPaper_151 ?_
    have h30 := hs.1; have hs := hs.2
    refine g_callV (As := []) (st := []) (rgC r) (c_X7_addFilledPaper E M r hr h30) mt_X7_addFilledPaper ml_X8_214 (dF_Rg hr) rfl rfl sg_X7_addFilledPaper rfl (by decide) (Nat.le_of_ble_eq_true rfl) dX8_readPaper_154 ?_
    rintro _ M31 ⟨rfl, hM31⟩
    have hQ := bndQ hQ M31 hM31; have hs := bndS hs M31 hM31
    exact g_vret rfl dX8_readPaper_157 (hK _ hQ)
def f_X8_readPaper_108 (r : Nat) (x1c1 : Nat)  : Nat → gM → Int32 → gM
  | 0, M, _ => M
  | n + 1, M, x2 =>
    if 1200 < x2 then
      (f_X8_readPaper_143 M r)
    else
      (if (rdI M 48 r 0 0) = 0 then
        (if f_X8_comes M r = 23 then
          (f_X8_readPaper_143 M r)
        else
          (bnd (f_X8_readPart M r x1c1) fun M28 =>
          (f_X8_readPaper_108 r x1c1 n M28 (x2 + 1))))
      else
        (f_X8_readPaper_143 M r))
def s_X8_readPaper_108 (r : Nat) (x1c1 : Nat)  : Nat → gM → Int32 → Prop
  | 0, _, _ => False
  | n + 1, M, x2 =>
    if 1200 < x2 then
      (s_X8_readPaper_143 M r)
    else
      (if (rdI M 48 r 0 0) = 0 then
        ((s_X8_comes M r) ∧
        ((f_X8_comes M r < 26) ∧
        (if f_X8_comes M r = 23 then
          (s_X8_readPaper_143 M r)
        else
          ((s_X8_readPart M r x1c1) ∧
          (bndP (f_X8_readPart M r x1c1) fun M28 =>
          (s_X8_readPaper_108 r x1c1 n M28 (x2 + 1)))))))
      else
        (s_X8_readPaper_143 M r))
theorem o_X8_readPaper_108 (r : Nat) (x1c1 : Nat)  : ∀ (n : Nat) (M : gM) (x2 : Int32), offW [7, 9, 25, 26, 27, 28, 29, 30, 31, 32, 33, 34, 35, 36, 37, 38, 39, 40, 47, 48, 49, 50] M (f_X8_readPaper_108 r x1c1  n M x2) := by
  intro n
  induction n with
  | zero => intro M x2; exact offR
  | succ n ih =>
    intro M x2
    rw [f_X8_readPaper_108]
    refine offI ?_ ?_
    · exact (o_X8_readPaper_143 M r)
    · refine offI ?_ ?_
      · refine offI ?_ ?_
        · exact (o_X8_readPaper_143 M r)
        · refine offB (offR.tr ((o_X8_readPart M r x1c1).mono (by decide))) (fun M28 oM28 => ?_)
          exact oM28.tr (ih M28 (x2 + 1))
      · exact (o_X8_readPaper_143 M r)
set_option maxRecDepth 100000 in
set_option maxHeartbeats 4000000 in
theorem t_X8_readPaper_108 {E : gE} {K : gM → Prop} {Q : Option Value → gM → Prop} (hK : ∀ z : gM, K z → Q none z) (r : Nat) (x1c1 : Nat) (hr : r < 2) (hx1c1 : x1c1 < 12)  : ∀ (n : Nat) (M : gM) (x2 : Int32) , s_X8_readPaper_108 r x1c1  n M x2 → K (f_X8_readPaper_108 r x1c1  n M x2) → gG E RX8 cX8_readPaper 3 none (rm 5) 108 [(0, .ref (gla E (trC r))), (1, .ref (gla E (paC r x1c1))), (2, .int x2)] [] M Q := by
  intro n
  induction n with
  | zero => intro M x2 hs hQ; exact (hs : False).elim
  | succ n ih =>
    intro M x2 hs hQ
    rw [s_X8_readPaper_108] at hs
    rw [f_X8_readPaper_108] at hQ
    refine g_iload_n 2 dX8_readPaper_108 rfl ?_
    refine g_sipush (v := 1200) dX8_readPaper_109 (by decide) ?_
    refine g_icmp_gt 143 dX8_readPaper_112 (by decide) (fun c22 => ?_) (fun c22 => ?_)
    · have hs := ifSt hs c22; have hQ := ifQt hQ c22
      refine g_sub [0] _ rfl ?_
      exact t_X8_readPaper_143 hK M r hr hs hQ
    · have hs := ifSf hs c22; have hQ := ifQf hQ c22
      refine g_aload_n 0 dX8_readPaper_115 rfl ?_
      refine g_getI (trC r) fd_X8_38 (dF_Tr hr) rfl dX8_readPaper_116 ?_
      refine g_if_ne 143 dX8_readPaper_119 (by decide) (fun c23 => ?_) (fun c23 => ?_)
      · have hs := ifSf hs c23; have hQ := ifQf hQ c23
        refine g_sub [0] _ rfl ?_
        exact t_X8_readPaper_143 hK M r hr hs hQ
      · have hs := ifSt hs c23; have hQ := ifQt hQ c23
        refine g_aload_n 0 dX8_readPaper_122 rfl ?_
        have h24 := hs.1; have hs := hs.2
        refine g_callV (As := []) (st := []) (trC r) (c_X8_comes E M r hr h24) mt_X8_comes ml_X8_44 (dF_Tr hr) rfl rfl sg_X8_comes rfl (by decide) (Nat.le_of_ble_eq_true rfl) dX8_readPaper_123 ?_
        rintro _ _ ⟨q1, q2⟩; rw [q1, q2]; clear q1 q2
        refine g_tok 23 (by decide) tl_X8_117 dX8_readPaper_126 ?_
        have h25 := hs.1; have hs := hs.2
        refine g_acmp_eq 143 h25 (by decide) dX8_readPaper_129 (by decide) (fun c26 => ?_) (fun c26 => ?_)
        · have hs := ifSt hs c26; have hQ := ifQt hQ c26
          refine g_sub [0] _ rfl ?_
          exact t_X8_readPaper_143 hK M r hr hs hQ
        · have hs := ifSf hs c26; have hQ := ifQf hQ c26
          refine g_aload_n 0 dX8_readPaper_132 rfl ?_
          refine g_aload_n 1 dX8_readPaper_133 rfl ?_
          have h27 := hs.1; have hs := hs.2
          refine g_callV (As := [.ref (gla E (paC r x1c1))]) (st := []) (trC r) (c_X8_readPart E M r x1c1 hr hx1c1 h27) mt_X8_readPart ml_X8_210 (dF_Tr hr) rfl rfl sg_X8_readPart rfl (by decide) (Nat.le_of_ble_eq_true rfl) dX8_readPaper_134 ?_
          rintro _ M28 ⟨rfl, hM28⟩
          have hQ := bndQ hQ M28 hM28; have hs := bndS hs M28 hM28
          refine g_iinc 2 (v := x2 + 1) _ dX8_readPaper_137 rfl rfl (by decide) rfl ?_
          refine g_goto 108 dX8_readPaper_140 (by decide) ?_
          refine g_sub [1, 2, 0] _ rfl ?_
          exact ih M28 (x2 + 1) hs hQ
def f_X8_readPaper (M : gM) (r : Nat) : gM :=
  bnd (f_X8_takeOneMore M r (rdI M 7 r 0 0) 12) fun M2 =>
  (if (rdI M2 48 r 0 0) = 0 then
    (if (rdI M2 7 r 0 0) < 12 then
      (bnd (f_X5_clear M2 r (nn (rdI M2 7 r 0 0))) fun M7 =>
      (bnd (f_X8_takeNewName M7 r 2 (rdI M7 7 r 0 0)) fun M9 =>
      (bnd (f_X8_takePerson M9 r) fun z11 =>
      (bnd (wrI z11.2 25 r (nn (rdI M2 7 r 0 0)) 0 z11.1) fun M12 =>
      (bnd (f_X8_takeNumber M12 r 0 9999) fun z14 =>
      (bnd (wrI z14.2 26 r (nn (rdI M2 7 r 0 0)) 0 z14.1) fun M15 =>
      (bnd (f_X8_takeNumber M15 r 0 1) fun z17 =>
      (bnd (wrI z17.2 27 r (nn (rdI M2 7 r 0 0)) 0 z17.1) fun M18 =>
      (bnd (f_X8_takePaperKind M18 r) fun z20 =>
      (bnd (wrI z20.2 28 r (nn (rdI M2 7 r 0 0)) 0 z20.1) fun M21 =>
      (f_X8_readPaper_108 r (nn (rdI M2 7 r 0 0)) FU M21 0)))))))))))
    else
      (M2))
  else
    (M2))
def s_X8_readPaper (M : gM) (r : Nat) : Prop :=
  (s_X8_takeOneMore M r (rdI M 7 r 0 0) 12) ∧
  (bndP (f_X8_takeOneMore M r (rdI M 7 r 0 0) 12) fun M2 =>
  (if (rdI M2 48 r 0 0) = 0 then
    (if (rdI M2 7 r 0 0) < 12 then
      ((vp_in (rdI M2 7 r 0 0) 12) ∧
      ((s_X5_clear M2 r (nn (rdI M2 7 r 0 0))) ∧
      (bndP (f_X5_clear M2 r (nn (rdI M2 7 r 0 0))) fun M7 =>
      ((s_X8_takeNewName M7 r 2 (rdI M7 7 r 0 0)) ∧
      (bndP (f_X8_takeNewName M7 r 2 (rdI M7 7 r 0 0)) fun M9 =>
      ((s_X8_takePerson M9 r) ∧
      (bndP (f_X8_takePerson M9 r) fun z11 =>
      (bndP (wrI z11.2 25 r (nn (rdI M2 7 r 0 0)) 0 z11.1) fun M12 =>
      ((s_X8_takeNumber M12 r 0 9999) ∧
      (bndP (f_X8_takeNumber M12 r 0 9999) fun z14 =>
      (bndP (wrI z14.2 26 r (nn (rdI M2 7 r 0 0)) 0 z14.1) fun M15 =>
      ((s_X8_takeNumber M15 r 0 1) ∧
      (bndP (f_X8_takeNumber M15 r 0 1) fun z17 =>
      (bndP (wrI z17.2 27 r (nn (rdI M2 7 r 0 0)) 0 z17.1) fun M18 =>
      ((s_X8_takePaperKind M18 r) ∧
      (bndP (f_X8_takePaperKind M18 r) fun z20 =>
      (bndP (wrI z20.2 28 r (nn (rdI M2 7 r 0 0)) 0 z20.1) fun M21 =>
      (s_X8_readPaper_108 r (nn (rdI M2 7 r 0 0)) FU M21 0))))))))))))))))))
    else
      (True))
  else
    (True)))
theorem o_X8_readPaper (M : gM) (r : Nat) : offW [7, 9, 25, 26, 27, 28, 29, 30, 31, 32, 33, 34, 35, 36, 37, 38, 39, 40, 47, 48, 49, 50] M (f_X8_readPaper M r) := by
  rw [f_X8_readPaper]
  refine offB (offR.tr ((o_X8_takeOneMore M r (rdI M 7 r 0 0) 12).mono (by decide))) (fun M2 oM2 => ?_)
  refine offI ?_ ?_
  · refine offI ?_ ?_
    · refine offB (oM2.tr ((o_X5_clear M2 r (nn (rdI M2 7 r 0 0))).mono (by decide))) (fun M7 oM7 => ?_)
      refine offB (oM7.tr ((o_X8_takeNewName M7 r 2 (rdI M7 7 r 0 0)).mono (by decide))) (fun M9 oM9 => ?_)
      refine offZ (oM9.tr ((o_X8_takePerson M9 r).mono (by decide))) (fun z11 oz11 => ?_)
      refine offB (oz11.wI (by decide)) (fun M12 oM12 => ?_)
      refine offZ (oM12.tr ((o_X8_takeNumber M12 r 0 9999).mono (by decide))) (fun z14 oz14 => ?_)
      refine offB (oz14.wI (by decide)) (fun M15 oM15 => ?_)
      refine offZ (oM15.tr ((o_X8_takeNumber M15 r 0 1).mono (by decide))) (fun z17 oz17 => ?_)
      refine offB (oz17.wI (by decide)) (fun M18 oM18 => ?_)
      refine offZ (oM18.tr ((o_X8_takePaperKind M18 r).mono (by decide))) (fun z20 oz20 => ?_)
      refine offB (oz20.wI (by decide)) (fun M21 oM21 => ?_)
      exact oM21.tr (o_X8_readPaper_108 r (nn (rdI M2 7 r 0 0)) FU M21 0)
    · exact oM2
  · exact oM2
set_option maxRecDepth 100000 in
set_option maxHeartbeats 4000000 in
theorem t_X8_readPaper {E : gE} {K : gM → Prop} {Q : Option Value → gM → Prop} (hK : ∀ z : gM, K z → Q none z) (M : gM) (r : Nat) (hr : r < 2) (hs : s_X8_readPaper M r) (hQ : K (f_X8_readPaper M r)) : gG E RX8 cX8_readPaper 3 none (rm 5) 0 [(0, .ref (gla E (trC r)))] [] M Q := by
  rw [s_X8_readPaper] at hs
  rw [f_X8_readPaper] at hQ
  refine g_aload_n 0 dX8_readPaper_0 rfl ?_
  refine g_aload_n 0 dX8_readPaper_1 rfl ?_
  refine g_getR (trC r) (rgC r) fd_X8_25 (dF_Tr hr) rfl rfl dX8_readPaper_2 ?_
  refine g_getI (rgC r) fd_X8_185 (dF_Rg hr) rfl dX8_readPaper_5 ?_
  refine g_bipush (v := 12) dX8_readPaper_8 (by decide) ?_
  have h1 := hs.1; have hs := hs.2
  refine g_callV (As := [.int (rdI M 7 r 0 0), .int 12]) (st := []) (trC r) (c_X8_takeOneMore E M r hr (rdI M 7 r 0 0) 12 h1) mt_X8_takeOneMore ml_X8_143 (dF_Tr hr) rfl rfl sg_X8_takeOneMore rfl (by decide) (Nat.le_of_ble_eq_true rfl) dX8_readPaper_10 ?_
  rintro _ M2 ⟨rfl, hM2⟩
  have hQ := bndQ hQ M2 hM2; have hs := bndS hs M2 hM2
  refine g_aload_n 0 dX8_readPaper_13 rfl ?_
  refine g_getI (trC r) fd_X8_38 (dF_Tr hr) rfl dX8_readPaper_14 ?_
  refine g_if_ne 32 dX8_readPaper_17 (by decide) (fun c3 => ?_) (fun c3 => ?_)
  · have hs := ifSf hs c3; have hQ := ifQf hQ c3
    exact g_vret rfl dX8_readPaper_32 (hK _ hQ)
  · have hs := ifSt hs c3; have hQ := ifQt hQ c3
    refine g_aload_n 0 dX8_readPaper_20 rfl ?_
    refine g_getR (trC r) (rgC r) fd_X8_25 (dF_Tr hr) rfl rfl dX8_readPaper_21 ?_
    refine g_getI (rgC r) fd_X8_185 (dF_Rg hr) rfl dX8_readPaper_24 ?_
    refine g_bipush (v := 12) dX8_readPaper_27 (by decide) ?_
    refine g_icmp_lt 33 dX8_readPaper_29 (by decide) (fun c4 => ?_) (fun c4 => ?_)
    · have hs := ifSt hs c4; have hQ := ifQt hQ c4
      refine g_aload_n 0 dX8_readPaper_33 rfl ?_
      refine g_getR (trC r) (rgC r) fd_X8_25 (dF_Tr hr) rfl rfl dX8_readPaper_34 ?_
      refine g_getR (rgC r) (rgC r + 4) fd_X8_188 (dF_Rg hr) rfl rfl dX8_readPaper_37 ?_
      refine g_aload_n 0 dX8_readPaper_40 rfl ?_
      refine g_getR (trC r) (rgC r) fd_X8_25 (dF_Tr hr) rfl rfl dX8_readPaper_41 ?_
      refine g_getI (rgC r) fd_X8_185 (dF_Rg hr) rfl dX8_readPaper_44 ?_
      have h5 := hs.1; have hs := hs.2
      refine g_aald (rgC r + 4) (paC r (nn (rdI M2 7 r 0 0))) rfl (dF_Rg_papers hr) h5 (aj_Pa _ _) dX8_readPaper_47 ?_
      refine g_astore_n _ dX8_readPaper_48 (by decide) rfl ?_
      refine g_aload_n 0 dX8_readPaper_49 rfl ?_
      have h6 := hs.1; have hs := hs.2
      refine g_callV (As := []) (st := []) (paC r (nn (rdI M2 7 r 0 0))) (c_X5_clear E M2 r (nn (rdI M2 7 r 0 0)) hr (vpL h5) h6) mt_X5_clear ml_X8_192 (dF_Pa hr (vpL h5)) rfl rfl sg_X5_clear rfl (by decide) (Nat.le_of_ble_eq_true rfl) dX8_readPaper_50 ?_
      rintro _ M7 ⟨rfl, hM7⟩
      have hQ := bndQ hQ M7 hM7; have hs := bndS hs M7 hM7
      refine g_aload_n 1 dX8_readPaper_53 rfl ?_
      refine g_aload_n 1 dX8_readPaper_54 rfl ?_
      refine g_getR (trC r) (trC r + 1 + 2) fd_X8_18 (dF_Tr hr) rfl rfl dX8_readPaper_55 ?_
      refine g_aload_n 1 dX8_readPaper_58 rfl ?_
      refine g_getR (trC r) (rgC r) fd_X8_25 (dF_Tr hr) rfl rfl dX8_readPaper_59 ?_
      refine g_getI (rgC r) fd_X8_185 (dF_Rg hr) rfl dX8_readPaper_62 ?_
      have h8 := hs.1; have hs := hs.2
      refine g_callV (As := [.ref (gla E (trC r + 1 + 2)), .int (rdI M7 7 r 0 0)]) (st := []) (trC r) (c_X8_takeNewName E M7 r 2 hr lt23 (rdI M7 7 r 0 0) h8) mt_X8_takeNewName ml_X8_147 (dF_Tr hr) rfl rfl sg_X8_takeNewName rfl (by decide) (Nat.le_of_ble_eq_true rfl) dX8_readPaper_65 ?_
      rintro _ M9 ⟨rfl, hM9⟩
      have hQ := bndQ hQ M9 hM9; have hs := bndS hs M9 hM9
      refine g_aload_n 0 dX8_readPaper_68 rfl ?_
      refine g_aload_n 1 dX8_readPaper_69 rfl ?_
      have h10 := hs.1; have hs := hs.2
      refine g_callV (As := []) (st := [.ref (gla E (paC r (nn (rdI M2 7 r 0 0))))]) (trC r) (c_X8_takePerson E M9 r hr h10) mt_X8_takePerson ml_X8_154 (dF_Tr hr) rfl rfl sg_X8_takePerson rfl (by decide) (Nat.le_of_ble_eq_true rfl) dX8_readPaper_70 ?_
      rintro _ _ ⟨rfl, rfl⟩
      obtain ⟨z11, hz11⟩ : ∃ z, z = f_X8_takePerson M9 r := ⟨_, rfl⟩
      rw [← hz11]
      have hQ := bndQ hQ z11 hz11; have hs := bndS hs z11 hz11
      refine g_putI (paC r (nn (rdI M2 7 r 0 0))) fd_X8_195 (dF_Pa hr (vpL h5)) rfl dX8_readPaper_73 (fun M12 hM12 => ?_)
      have hQ := bndQ hQ M12 hM12; have hs := bndS hs M12 hM12
      refine g_aload_n 0 dX8_readPaper_76 rfl ?_
      refine g_aload_n 1 dX8_readPaper_77 rfl ?_
      refine g_iconst (v := 0) dX8_readPaper_78 (by decide) ?_
      refine g_sipush (v := 9999) dX8_readPaper_79 (by decide) ?_
      have h13 := hs.1; have hs := hs.2
      refine g_callV (As := [.int 0, .int 9999]) (st := [.ref (gla E (paC r (nn (rdI M2 7 r 0 0))))]) (trC r) (c_X8_takeNumber E M12 r hr 0 9999 h13) mt_X8_takeNumber ml_X8_101 (dF_Tr hr) rfl rfl sg_X8_takeNumber rfl (by decide) (Nat.le_of_ble_eq_true rfl) dX8_readPaper_82 ?_
      rintro _ _ ⟨rfl, rfl⟩
      obtain ⟨z14, hz14⟩ : ∃ z, z = f_X8_takeNumber M12 r 0 9999 := ⟨_, rfl⟩
      rw [← hz14]
      have hQ := bndQ hQ z14 hz14; have hs := bndS hs z14 hz14
      refine g_putI (paC r (nn (rdI M2 7 r 0 0))) fd_X8_198 (dF_Pa hr (vpL h5)) rfl dX8_readPaper_85 (fun M15 hM15 => ?_)
      have hQ := bndQ hQ M15 hM15; have hs := bndS hs M15 hM15
      refine g_aload_n 0 dX8_readPaper_88 rfl ?_
      refine g_aload_n 1 dX8_readPaper_89 rfl ?_
      refine g_iconst (v := 0) dX8_readPaper_90 (by decide) ?_
      refine g_iconst (v := 1) dX8_readPaper_91 (by decide) ?_
      have h16 := hs.1; have hs := hs.2
      refine g_callV (As := [.int 0, .int 1]) (st := [.ref (gla E (paC r (nn (rdI M2 7 r 0 0))))]) (trC r) (c_X8_takeNumber E M15 r hr 0 1 h16) mt_X8_takeNumber ml_X8_101 (dF_Tr hr) rfl rfl sg_X8_takeNumber rfl (by decide) (Nat.le_of_ble_eq_true rfl) dX8_readPaper_92 ?_
      rintro _ _ ⟨rfl, rfl⟩
      obtain ⟨z17, hz17⟩ : ∃ z, z = f_X8_takeNumber M15 r 0 1 := ⟨_, rfl⟩
      rw [← hz17]
      have hQ := bndQ hQ z17 hz17; have hs := bndS hs z17 hz17
      refine g_putI (paC r (nn (rdI M2 7 r 0 0))) fd_X8_201 (dF_Pa hr (vpL h5)) rfl dX8_readPaper_95 (fun M18 hM18 => ?_)
      have hQ := bndQ hQ M18 hM18; have hs := bndS hs M18 hM18
      refine g_aload_n 0 dX8_readPaper_98 rfl ?_
      refine g_aload_n 1 dX8_readPaper_99 rfl ?_
      have h19 := hs.1; have hs := hs.2
      refine g_callV (As := []) (st := [.ref (gla E (paC r (nn (rdI M2 7 r 0 0))))]) (trC r) (c_X8_takePaperKind E M18 r hr h19) mt_X8_takePaperKind ml_X8_204 (dF_Tr hr) rfl rfl sg_X8_takePaperKind rfl (by decide) (Nat.le_of_ble_eq_true rfl) dX8_readPaper_100 ?_
      rintro _ _ ⟨rfl, rfl⟩
      obtain ⟨z20, hz20⟩ : ∃ z, z = f_X8_takePaperKind M18 r := ⟨_, rfl⟩
      rw [← hz20]
      have hQ := bndQ hQ z20 hz20; have hs := bndS hs z20 hz20
      refine g_putI (paC r (nn (rdI M2 7 r 0 0))) fd_X8_207 (dF_Pa hr (vpL h5)) rfl dX8_readPaper_103 (fun M21 hM21 => ?_)
      have hQ := bndQ hQ M21 hM21; have hs := bndS hs M21 hM21
      refine g_iconst (v := 0) dX8_readPaper_106 (by decide) ?_
      refine g_istore_n _ dX8_readPaper_107 (by decide) rfl ?_
      refine g_sub [2, 1, 0] _ rfl ?_
      exact t_X8_readPaper_108 hK r (nn (rdI M2 7 r 0 0)) hr (vpL h5) FU M21 0 hs hQ
    · have hs := ifSf hs c4; have hQ := ifQf hQ c4
      exact g_vret rfl dX8_readPaper_32 (hK _ hQ)
theorem c_X8_readPaper (E : gE) (M : gM) (r : Nat) (hr : r < 2) (hs : s_X8_readPaper M r) : gC E yX8_readPaper cX8_readPaper 3 none (rm 5) [.ref (gla E (trC r))] M (fun o N => o = none ∧ N = f_X8_readPaper M r) :=
  gC.of (by decide +kernel) (Nat.le_of_ble_eq_true rfl) rfl (t_X8_readPaper (K := fun z => z = f_X8_readPaper M r) (fun z hz => ⟨rfl, hz⟩) M r hr hs rfl)
def f_X11_isWord_17 (M : gM) (w : Nat) (x2 : Int32)  : Nat → Int32 → Int32
  | 0, _ => 0
  | n + 1, x3 =>
    if (f_J0_length_8abf5 M w) ≤ x3 then
      (1)
    else
      (if (f_J0_charAt_5068e M w x3) = (rdI M 3 0 0 (nn (x2 + x3))) then
        (f_X11_isWord_17 M w x2 n (x3 + 1))
      else
        (0))
def s_X11_isWord_17 (M : gM) (w : Nat) (x2 : Int32)  : Nat → Int32 → Prop
  | 0, _ => False
  | n + 1, x3 =>
    (s_J0_length_8abf5 M w) ∧
    (if (f_J0_length_8abf5 M w) ≤ x3 then
      (True)
    else
      ((s_J0_charAt_5068e M w x3) ∧
      ((vp_in (x2 + x3) 1200) ∧
      (if (f_J0_charAt_5068e M w x3) = (rdI M 3 0 0 (nn (x2 + x3))) then
        (s_X11_isWord_17 M w x2 n (x3 + 1))
      else
        (True)))))
set_option maxRecDepth 100000 in
set_option maxHeartbeats 4000000 in
theorem t_X11_isWord_17 {E : gE} {K : Int32 → Prop} {Q : Option Value → gM → Prop} {M : gM} (hK : ∀ z : Int32, K z → Q (some (.int z)) M) (w : Nat) (x2 : Int32) (hw : w < 23)  : ∀ (n : Nat) (x3 : Int32) , s_X11_isWord_17 M w x2  n x3 → K (f_X11_isWord_17 M w x2  n x3) → gG E RX11 cX11_isWord 4 (some .boolean) (rm 5) 17 [(0, .ref (gla E 204)), (1, .ref (gstr E w)), (2, .int x2), (3, .int x3)] [] M Q := by
  intro n
  induction n with
  | zero => intro x3 hs hQ; exact (hs : False).elim
  | succ n ih =>
    intro x3 hs hQ
    rw [s_X11_isWord_17] at hs
    rw [f_X11_isWord_17] at hQ
    refine g_iload_n 3 dX11_isWord_17 rfl ?_
    refine g_aload_n 1 dX11_isWord_18 rfl ?_
    have h3 := hs.1; have hs := hs.2
    refine g_callT (As := []) (st := [.int x3]) w hw (c_J0_length_8abf5 E M w hw h3) mt_J0_length_8abf5 ml_X11_92 rfl sg_J0_length_8abf5 rfl (by decide) (Nat.le_of_ble_eq_true rfl) dX11_isWord_19 ?_
    rintro _ _ ⟨q1, q2⟩; rw [q1, q2]; clear q1 q2
    refine g_icmp_ge 49 dX11_isWord_22 (by decide) (fun c4 => ?_) (fun c4 => ?_)
    · have hs := ifSt hs c4; have hQ := ifQt hQ c4
      refine g_iconst (v := 1) dX11_isWord_49 (by decide) ?_
      exact g_zret rfl (Or.inr rfl) dX11_isWord_50 (hK _ hQ)
    · have hs := ifSf hs c4; have hQ := ifQf hQ c4
      refine g_aload_n 1 dX11_isWord_25 rfl ?_
      refine g_iload_n 3 dX11_isWord_26 rfl ?_
      have h5 := hs.1; have hs := hs.2
      refine g_callT (As := [.int x3]) (st := []) w hw (c_J0_charAt_5068e E M w hw x3 h5) mt_J0_charAt_5068e ml_X11_97 rfl sg_J0_charAt_5068e rfl (by decide) (Nat.le_of_ble_eq_true rfl) dX11_isWord_27 ?_
      rintro _ _ ⟨q1, q2⟩; rw [q1, q2]; clear q1 q2
      refine g_aload_n 0 dX11_isWord_30 rfl ?_
      refine g_getR 204 1 fd_X11_24 dF_Tk rfl rfl dX11_isWord_31 ?_
      refine g_iload_n 2 dX11_isWord_34 rfl ?_
      refine g_iload_n 3 dX11_isWord_35 rfl ?_
      refine g_iadd dX11_isWord_36 ?_
      have h6 := hs.1; have hs := hs.2
      refine g_bald 1 dF_tape h6 dX11_isWord_37 ?_
      refine g_icmp_eq 43 dX11_isWord_38 (by decide) (fun c7 => ?_) (fun c7 => ?_)
      · have hs := ifSt hs c7; have hQ := ifQt hQ c7
        refine g_iinc 3 (v := x3 + 1) _ dX11_isWord_43 rfl rfl (by decide) rfl ?_
        refine g_goto 17 dX11_isWord_46 (by decide) ?_
        refine g_sub [1, 2, 3, 0] _ rfl ?_
        exact ih (x3 + 1) hs hQ
      · have hs := ifSf hs c7; have hQ := ifQf hQ c7
        refine g_iconst (v := 0) dX11_isWord_41 (by decide) ?_
        exact g_zret rfl (Or.inl rfl) dX11_isWord_42 (hK _ hQ)
def f_X11_isWord (M : gM) (w : Nat) (x2 : Int32) : Int32 :=
  if (f_J0_length_8abf5 M w) = ((rdI M 43 0 0 0) - x2) then
    (f_X11_isWord_17 M w x2 FU 0)
  else
    (0)
def s_X11_isWord (M : gM) (w : Nat) (x2 : Int32) : Prop :=
  (s_J0_length_8abf5 M w) ∧
  (if (f_J0_length_8abf5 M w) = ((rdI M 43 0 0 0) - x2) then
    (s_X11_isWord_17 M w x2 FU 0)
  else
    (True))
set_option maxRecDepth 100000 in
set_option maxHeartbeats 4000000 in
theorem t_X11_isWord {E : gE} {K : Int32 → Prop} {Q : Option Value → gM → Prop} {M : gM} (hK : ∀ z : Int32, K z → Q (some (.int z)) M)  (w : Nat) (x2 : Int32) (hw : w < 23) (hs : s_X11_isWord M w x2) (hQ : K (f_X11_isWord M w x2)) : gG E RX11 cX11_isWord 4 (some .boolean) (rm 5) 0 [(0, .ref (gla E 204)), (1, .ref (gstr E w)), (2, .int x2)] [] M Q := by
  rw [s_X11_isWord] at hs
  rw [f_X11_isWord] at hQ
  refine g_aload_n 1 dX11_isWord_0 rfl ?_
  have h1 := hs.1; have hs := hs.2
  refine g_callT (As := []) (st := []) w hw (c_J0_length_8abf5 E M w hw h1) mt_J0_length_8abf5 ml_X11_92 rfl sg_J0_length_8abf5 rfl (by decide) (Nat.le_of_ble_eq_true rfl) dX11_isWord_1 ?_
  rintro _ _ ⟨q1, q2⟩; rw [q1, q2]; clear q1 q2
  refine g_aload_n 0 dX11_isWord_4 rfl ?_
  refine g_getI 204 fd_X11_42 dF_Tk rfl dX11_isWord_5 ?_
  refine g_iload_n 2 dX11_isWord_8 rfl ?_
  refine g_isub dX11_isWord_9 ?_
  refine g_icmp_eq 15 dX11_isWord_10 (by decide) (fun c2 => ?_) (fun c2 => ?_)
  · have hs := ifSt hs c2; have hQ := ifQt hQ c2
    refine g_iconst (v := 0) dX11_isWord_15 (by decide) ?_
    refine g_istore_n _ dX11_isWord_16 (by decide) rfl ?_
    refine g_sub [1, 2, 3, 0] _ rfl ?_
    exact t_X11_isWord_17 hK w x2 hw FU 0 hs hQ
  · have hs := ifSf hs c2; have hQ := ifQf hQ c2
    refine g_iconst (v := 0) dX11_isWord_13 (by decide) ?_
    exact g_zret rfl (Or.inl rfl) dX11_isWord_14 (hK _ hQ)
theorem c_X11_isWord (E : gE) (M : gM) (w : Nat) (hw : w < 23) (x2 : Int32) (hs : s_X11_isWord M w x2) : gC E yX11_isWord cX11_isWord 4 (some .boolean) (rm 5) [.ref (gla E 204), .ref (gstr E w), .int x2] M (fun o N => o = some (.int (f_X11_isWord M w x2)) ∧ N = M) :=
  gC.of (by decide +kernel) (Nat.le_of_ble_eq_true rfl) rfl (t_X11_isWord (K := fun z => z = f_X11_isWord M w x2) (fun z hz => by rw [hz]; exact ⟨rfl, rfl⟩) w x2 hw hs rfl)
def f_X8_readAll_24 (r : Nat)  : Nat → gM → Int32 → gM
  | 0, M, _ => M
  | n + 1, M, x1 =>
    if 1200 < x1 then
      (M)
    else
      (if (rdI M 48 r 0 0) = 0 then
        (if f_X8_comes M r = 25 then
          (M)
        else
          (if (swm (nn (f_Jx29ce0_ordinal_8abf5 M (f_X8_comes M r)))) = 1 then
            (bnd (f_X8_readLand M r) fun M16 =>
            (bnd (f_X8_takeSemicolon M16 r) fun M18 =>
            (f_X8_readAll_24 r n M18 (x1 + 1))))
          else
            (if (swm (nn (f_Jx29ce0_ordinal_8abf5 M (f_X8_comes M r)))) = 2 then
              (bnd (f_X8_readPerson M r) fun M20 =>
              (bnd (f_X8_takeSemicolon M20 r) fun M22 =>
              (f_X8_readAll_24 r n M22 (x1 + 1))))
            else
              (if (swm (nn (f_Jx29ce0_ordinal_8abf5 M (f_X8_comes M r)))) = 3 then
                (bnd (f_X8_readChild M r) fun M24 =>
                (bnd (f_X8_takeSemicolon M24 r) fun M26 =>
                (f_X8_readAll_24 r n M26 (x1 + 1))))
              else
                (if (swm (nn (f_Jx29ce0_ordinal_8abf5 M (f_X8_comes M r)))) = 4 then
                  (bnd (f_X8_readWedding M r) fun M28 =>
                  (bnd (f_X8_takeSemicolon M28 r) fun M30 =>
                  (f_X8_readAll_24 r n M30 (x1 + 1))))
                else
                  (if (swm (nn (f_Jx29ce0_ordinal_8abf5 M (f_X8_comes M r)))) = 5 then
                    (bnd (f_X8_readThing M r) fun M32 =>
                    (bnd (f_X8_takeSemicolon M32 r) fun M34 =>
                    (f_X8_readAll_24 r n M34 (x1 + 1))))
                  else
                    (if (swm (nn (f_Jx29ce0_ordinal_8abf5 M (f_X8_comes M r)))) = 6 then
                      (bnd (f_X8_readPaper M r) fun M36 =>
                      (bnd (f_X8_takeSemicolon M36 r) fun M38 =>
                      (f_X8_readAll_24 r n M38 (x1 + 1))))
                    else
                      (if (swm (nn (f_Jx29ce0_ordinal_8abf5 M (f_X8_comes M r)))) = 7 then
                        (bnd (f_X8_readLost M r) fun M40 =>
                        (bnd (f_X8_takeSemicolon M40 r) fun M42 =>
                        (f_X8_readAll_24 r n M42 (x1 + 1))))
                      else
                        (if (swm (nn (f_Jx29ce0_ordinal_8abf5 M (f_X8_comes M r)))) = 8 then
                          (bnd (f_X8_readDeath M r) fun M44 =>
                          (bnd (f_X8_takeSemicolon M44 r) fun M46 =>
                          (f_X8_readAll_24 r n M46 (x1 + 1))))
                        else
                          (bnd (f_X8_fail M r 1) fun M48 =>
                          (bnd (f_X8_takeSemicolon M48 r) fun M50 =>
                          (f_X8_readAll_24 r n M50 (x1 + 1)))))))))))))
      else
        (M))
def s_X8_readAll_24 (r : Nat)  : Nat → gM → Int32 → Prop
  | 0, _, _ => False
  | n + 1, M, x1 =>
    if 1200 < x1 then
      (True)
    else
      (if (rdI M 48 r 0 0) = 0 then
        ((s_X8_comes M r) ∧
        ((f_X8_comes M r < 26) ∧
        (if f_X8_comes M r = 25 then
          (True)
        else
          ((s_X8_comes M r) ∧
          ((f_X8_comes M r < 26) ∧
          ((s_Jx29ce0_ordinal_8abf5 M (f_X8_comes M r)) ∧
          ((vp_in (f_Jx29ce0_ordinal_8abf5 M (f_X8_comes M r)) 26) ∧
          (if (swm (nn (f_Jx29ce0_ordinal_8abf5 M (f_X8_comes M r)))) = 1 then
            ((s_X8_readLand M r) ∧
            (bndP (f_X8_readLand M r) fun M16 =>
            ((s_X8_takeSemicolon M16 r) ∧
            (bndP (f_X8_takeSemicolon M16 r) fun M18 =>
            (s_X8_readAll_24 r n M18 (x1 + 1))))))
          else
            (if (swm (nn (f_Jx29ce0_ordinal_8abf5 M (f_X8_comes M r)))) = 2 then
              ((s_X8_readPerson M r) ∧
              (bndP (f_X8_readPerson M r) fun M20 =>
              ((s_X8_takeSemicolon M20 r) ∧
              (bndP (f_X8_takeSemicolon M20 r) fun M22 =>
              (s_X8_readAll_24 r n M22 (x1 + 1))))))
            else
              (if (swm (nn (f_Jx29ce0_ordinal_8abf5 M (f_X8_comes M r)))) = 3 then
                ((s_X8_readChild M r) ∧
                (bndP (f_X8_readChild M r) fun M24 =>
                ((s_X8_takeSemicolon M24 r) ∧
                (bndP (f_X8_takeSemicolon M24 r) fun M26 =>
                (s_X8_readAll_24 r n M26 (x1 + 1))))))
              else
                (if (swm (nn (f_Jx29ce0_ordinal_8abf5 M (f_X8_comes M r)))) = 4 then
                  ((s_X8_readWedding M r) ∧
                  (bndP (f_X8_readWedding M r) fun M28 =>
                  ((s_X8_takeSemicolon M28 r) ∧
                  (bndP (f_X8_takeSemicolon M28 r) fun M30 =>
                  (s_X8_readAll_24 r n M30 (x1 + 1))))))
                else
                  (if (swm (nn (f_Jx29ce0_ordinal_8abf5 M (f_X8_comes M r)))) = 5 then
                    ((s_X8_readThing M r) ∧
                    (bndP (f_X8_readThing M r) fun M32 =>
                    ((s_X8_takeSemicolon M32 r) ∧
                    (bndP (f_X8_takeSemicolon M32 r) fun M34 =>
                    (s_X8_readAll_24 r n M34 (x1 + 1))))))
                  else
                    (if (swm (nn (f_Jx29ce0_ordinal_8abf5 M (f_X8_comes M r)))) = 6 then
                      ((s_X8_readPaper M r) ∧
                      (bndP (f_X8_readPaper M r) fun M36 =>
                      ((s_X8_takeSemicolon M36 r) ∧
                      (bndP (f_X8_takeSemicolon M36 r) fun M38 =>
                      (s_X8_readAll_24 r n M38 (x1 + 1))))))
                    else
                      (if (swm (nn (f_Jx29ce0_ordinal_8abf5 M (f_X8_comes M r)))) = 7 then
                        ((s_X8_readLost M r) ∧
                        (bndP (f_X8_readLost M r) fun M40 =>
                        ((s_X8_takeSemicolon M40 r) ∧
                        (bndP (f_X8_takeSemicolon M40 r) fun M42 =>
                        (s_X8_readAll_24 r n M42 (x1 + 1))))))
                      else
                        (if (swm (nn (f_Jx29ce0_ordinal_8abf5 M (f_X8_comes M r)))) = 8 then
                          ((s_X8_readDeath M r) ∧
                          (bndP (f_X8_readDeath M r) fun M44 =>
                          ((s_X8_takeSemicolon M44 r) ∧
                          (bndP (f_X8_takeSemicolon M44 r) fun M46 =>
                          (s_X8_readAll_24 r n M46 (x1 + 1))))))
                        else
                          ((s_X8_fail M r 1) ∧
                          (bndP (f_X8_fail M r 1) fun M48 =>
                          ((s_X8_takeSemicolon M48 r) ∧
                          (bndP (f_X8_takeSemicolon M48 r) fun M50 =>
                          (s_X8_readAll_24 r n M50 (x1 + 1)))))))))))))))))))))
      else
        (True))
theorem o_X8_readAll_24 (r : Nat)  : ∀ (n : Nat) (M : gM) (x1 : Int32), offW [4, 5, 6, 7, 8, 9, 10, 11, 12, 13, 14, 15, 16, 17, 18, 19, 20, 21, 22, 23, 24, 25, 26, 27, 28, 29, 30, 31, 32, 33, 34, 35, 36, 37, 38, 39, 40, 47, 48, 49, 50] M (f_X8_readAll_24 r  n M x1) := by
  intro n
  induction n with
  | zero => intro M x1; exact offR
  | succ n ih =>
    intro M x1
    rw [f_X8_readAll_24]
    refine offI ?_ ?_
    · exact offR
    · refine offI ?_ ?_
      · refine offI ?_ ?_
        · exact offR
        · refine offI ?_ ?_
          · refine offB (offR.tr ((o_X8_readLand M r).mono (by decide))) (fun M16 oM16 => ?_)
            refine offB (oM16.tr ((o_X8_takeSemicolon M16 r).mono (by decide))) (fun M18 oM18 => ?_)
            exact oM18.tr (ih M18 (x1 + 1))
          refine offI ?_ ?_
          · refine offB (offR.tr ((o_X8_readPerson M r).mono (by decide))) (fun M20 oM20 => ?_)
            refine offB (oM20.tr ((o_X8_takeSemicolon M20 r).mono (by decide))) (fun M22 oM22 => ?_)
            exact oM22.tr (ih M22 (x1 + 1))
          refine offI ?_ ?_
          · refine offB (offR.tr ((o_X8_readChild M r).mono (by decide))) (fun M24 oM24 => ?_)
            refine offB (oM24.tr ((o_X8_takeSemicolon M24 r).mono (by decide))) (fun M26 oM26 => ?_)
            exact oM26.tr (ih M26 (x1 + 1))
          refine offI ?_ ?_
          · refine offB (offR.tr ((o_X8_readWedding M r).mono (by decide))) (fun M28 oM28 => ?_)
            refine offB (oM28.tr ((o_X8_takeSemicolon M28 r).mono (by decide))) (fun M30 oM30 => ?_)
            exact oM30.tr (ih M30 (x1 + 1))
          refine offI ?_ ?_
          · refine offB (offR.tr ((o_X8_readThing M r).mono (by decide))) (fun M32 oM32 => ?_)
            refine offB (oM32.tr ((o_X8_takeSemicolon M32 r).mono (by decide))) (fun M34 oM34 => ?_)
            exact oM34.tr (ih M34 (x1 + 1))
          refine offI ?_ ?_
          · refine offB (offR.tr ((o_X8_readPaper M r).mono (by decide))) (fun M36 oM36 => ?_)
            refine offB (oM36.tr ((o_X8_takeSemicolon M36 r).mono (by decide))) (fun M38 oM38 => ?_)
            exact oM38.tr (ih M38 (x1 + 1))
          refine offI ?_ ?_
          · refine offB (offR.tr ((o_X8_readLost M r).mono (by decide))) (fun M40 oM40 => ?_)
            refine offB (oM40.tr ((o_X8_takeSemicolon M40 r).mono (by decide))) (fun M42 oM42 => ?_)
            exact oM42.tr (ih M42 (x1 + 1))
          refine offI ?_ ?_
          · refine offB (offR.tr ((o_X8_readDeath M r).mono (by decide))) (fun M44 oM44 => ?_)
            refine offB (oM44.tr ((o_X8_takeSemicolon M44 r).mono (by decide))) (fun M46 oM46 => ?_)
            exact oM46.tr (ih M46 (x1 + 1))
          refine offB (offR.tr ((o_X8_fail M r 1).mono (by decide))) (fun M48 oM48 => ?_)
          refine offB (oM48.tr ((o_X8_takeSemicolon M48 r).mono (by decide))) (fun M50 oM50 => ?_)
          exact oM50.tr (ih M50 (x1 + 1))
      · exact offR
set_option maxRecDepth 100000 in
set_option maxHeartbeats 4000000 in
theorem t_X8_readAll_24 {E : gE} {K : gM → Prop} {Q : Option Value → gM → Prop} (hK : ∀ z : gM, K z → Q none z) (r : Nat) (hr : r < 2)  : ∀ (n : Nat) (M : gM) (x1 : Int32) , s_X8_readAll_24 r  n M x1 → K (f_X8_readAll_24 r  n M x1) → gG E RX8 cX8_readAll 2 none (rm 6) 24 [(0, .ref (gla E (trC r))), (1, .int x1)] [] M Q := by
  intro n
  induction n with
  | zero => intro M x1 hs hQ; exact (hs : False).elim
  | succ n ih =>
    intro M x1 hs hQ
    rw [s_X8_readAll_24] at hs
    rw [f_X8_readAll_24] at hQ
    refine g_iload_n 1 dX8_readAll_24 rfl ?_
    refine g_sipush (v := 1200) dX8_readAll_25 (by decide) ?_
    refine g_icmp_gt 175 dX8_readAll_28 (by decide) (fun c6 => ?_) (fun c6 => ?_)
    · have hs := ifSt hs c6; have hQ := ifQt hQ c6
      exact g_vret rfl dX8_readAll_175 (hK _ hQ)
    · have hs := ifSf hs c6; have hQ := ifQf hQ c6
      refine g_aload_n 0 dX8_readAll_31 rfl ?_
      refine g_getI (trC r) fd_X8_38 (dF_Tr hr) rfl dX8_readAll_32 ?_
      refine g_if_ne 175 dX8_readAll_35 (by decide) (fun c7 => ?_) (fun c7 => ?_)
      · have hs := ifSf hs c7; have hQ := ifQf hQ c7
        exact g_vret rfl dX8_readAll_175 (hK _ hQ)
      · have hs := ifSt hs c7; have hQ := ifQt hQ c7
        refine g_aload_n 0 dX8_readAll_38 rfl ?_
        have h8 := hs.1; have hs := hs.2
        refine g_callV (As := []) (st := []) (trC r) (c_X8_comes E M r hr h8) mt_X8_comes ml_X8_44 (dF_Tr hr) rfl rfl sg_X8_comes rfl (by decide) (Nat.le_of_ble_eq_true rfl) dX8_readAll_39 ?_
        rintro _ _ ⟨q1, q2⟩; rw [q1, q2]; clear q1 q2
        refine g_tok 25 (by decide) tl_X8_48 dX8_readAll_42 ?_
        have h9 := hs.1; have hs := hs.2
        refine g_acmp_eq 175 h9 (by decide) dX8_readAll_45 (by decide) (fun c10 => ?_) (fun c10 => ?_)
        · have hs := ifSt hs c10; have hQ := ifQt hQ c10
          exact g_vret rfl dX8_readAll_175 (hK _ hQ)
        · have hs := ifSf hs c10; have hQ := ifQf hQ c10
          refine g_sw sl_X8_54 dX8_readAll_48 ?_
          refine g_aload_n 0 dX8_readAll_51 rfl ?_
          have h11 := hs.1; have hs := hs.2
          refine g_callV (As := []) (st := [.ref (gstSW E)]) (trC r) (c_X8_comes E M r hr h11) mt_X8_comes ml_X8_44 (dF_Tr hr) rfl rfl sg_X8_comes rfl (by decide) (Nat.le_of_ble_eq_true rfl) dX8_readAll_52 ?_
          rintro _ _ ⟨q1, q2⟩; rw [q1, q2]; clear q1 q2
          have h12 := hs.1; have hs := hs.2
          have h13 := hs.1; have hs := hs.2
          refine g_callO (st := [.ref (gstSW E)]) (f_X8_comes M r) h12 (c_Jx29ce0_ordinal_8abf5 E M (f_X8_comes M r) h12 h13) rfl rfl mo_X8_59 ow_sm ow_sel ow_in ow_ini ow_code ow_sg (by decide) (Nat.le_of_ble_eq_true rfl) dX8_readAll_55 ?_
          rintro _ _ ⟨q1, q2⟩; rw [q1, q2]; clear q1 q2
          have h14 := hs.1; have hs := hs.2
          refine g_swald h14 dX8_readAll_58 ?_
          by_cases c51 : (swm (nn (f_Jx29ce0_ordinal_8abf5 M (f_X8_comes M r)))) = 1
          · have hs := ifSt hs c51; have hQ := ifQt hQ c51
            refine g_tin 104 (k := 1) (z := 1) (off := 45) c51 dX8_readAll_59 (by decide) (by decide) (by decide) rfl (by decide) ?_
            refine g_aload_n 0 dX8_readAll_104 rfl ?_
            have h15 := hs.1; have hs := hs.2
            refine g_callV (As := []) (st := []) (trC r) (c_X8_readLand E M r hr h15) mt_X8_readLand ml_X8_63 (dF_Tr hr) rfl rfl sg_X8_readLand rfl (by decide) (Nat.le_of_ble_eq_true rfl) dX8_readAll_105 ?_
            rintro _ M16 ⟨rfl, hM16⟩
            have hQ := bndQ hQ M16 hM16; have hs := bndS hs M16 hM16
            refine g_goto 165 dX8_readAll_108 (by decide) ?_
            refine g_aload_n 0 dX8_readAll_165 rfl ?_
            have h17 := hs.1; have hs := hs.2
            refine g_callV (As := []) (st := []) (trC r) (c_X8_takeSemicolon E M16 r hr h17) mt_X8_takeSemicolon ml_X8_91 (dF_Tr hr) rfl rfl sg_X8_takeSemicolon rfl (by decide) (Nat.le_of_ble_eq_true rfl) dX8_readAll_166 ?_
            rintro _ M18 ⟨rfl, hM18⟩
            have hQ := bndQ hQ M18 hM18; have hs := bndS hs M18 hM18
            refine g_iinc 1 (v := x1 + 1) _ dX8_readAll_169 rfl rfl (by decide) rfl ?_
            refine g_goto 24 dX8_readAll_172 (by decide) ?_
            refine g_sub [1, 0] _ rfl ?_
            exact ih M18 (x1 + 1) hs hQ
          have hs := ifSf hs c51; have hQ := ifQf hQ c51
          by_cases c52 : (swm (nn (f_Jx29ce0_ordinal_8abf5 M (f_X8_comes M r)))) = 2
          · have hs := ifSt hs c52; have hQ := ifQt hQ c52
            refine g_tin 111 (k := 2) (z := 2) (off := 52) c52 dX8_readAll_59 (by decide) (by decide) (by decide) rfl (by decide) ?_
            refine g_aload_n 0 dX8_readAll_111 rfl ?_
            have h19 := hs.1; have hs := hs.2
            refine g_callV (As := []) (st := []) (trC r) (c_X8_readPerson E M r hr h19) mt_X8_readPerson ml_X8_66 (dF_Tr hr) rfl rfl sg_X8_readPerson rfl (by decide) (Nat.le_of_ble_eq_true rfl) dX8_readAll_112 ?_
            rintro _ M20 ⟨rfl, hM20⟩
            have hQ := bndQ hQ M20 hM20; have hs := bndS hs M20 hM20
            refine g_goto 165 dX8_readAll_115 (by decide) ?_
            refine g_aload_n 0 dX8_readAll_165 rfl ?_
            have h21 := hs.1; have hs := hs.2
            refine g_callV (As := []) (st := []) (trC r) (c_X8_takeSemicolon E M20 r hr h21) mt_X8_takeSemicolon ml_X8_91 (dF_Tr hr) rfl rfl sg_X8_takeSemicolon rfl (by decide) (Nat.le_of_ble_eq_true rfl) dX8_readAll_166 ?_
            rintro _ M22 ⟨rfl, hM22⟩
            have hQ := bndQ hQ M22 hM22; have hs := bndS hs M22 hM22
            refine g_iinc 1 (v := x1 + 1) _ dX8_readAll_169 rfl rfl (by decide) rfl ?_
            refine g_goto 24 dX8_readAll_172 (by decide) ?_
            refine g_sub [1, 0] _ rfl ?_
            exact ih M22 (x1 + 1) hs hQ
          have hs := ifSf hs c52; have hQ := ifQf hQ c52
          by_cases c53 : (swm (nn (f_Jx29ce0_ordinal_8abf5 M (f_X8_comes M r)))) = 3
          · have hs := ifSt hs c53; have hQ := ifQt hQ c53
            refine g_tin 118 (k := 3) (z := 3) (off := 59) c53 dX8_readAll_59 (by decide) (by decide) (by decide) rfl (by decide) ?_
            refine g_aload_n 0 dX8_readAll_118 rfl ?_
            have h23 := hs.1; have hs := hs.2
            refine g_callV (As := []) (st := []) (trC r) (c_X8_readChild E M r hr h23) mt_X8_readChild ml_X8_69 (dF_Tr hr) rfl rfl sg_X8_readChild rfl (by decide) (Nat.le_of_ble_eq_true rfl) dX8_readAll_119 ?_
            rintro _ M24 ⟨rfl, hM24⟩
            have hQ := bndQ hQ M24 hM24; have hs := bndS hs M24 hM24
            refine g_goto 165 dX8_readAll_122 (by decide) ?_
            refine g_aload_n 0 dX8_readAll_165 rfl ?_
            have h25 := hs.1; have hs := hs.2
            refine g_callV (As := []) (st := []) (trC r) (c_X8_takeSemicolon E M24 r hr h25) mt_X8_takeSemicolon ml_X8_91 (dF_Tr hr) rfl rfl sg_X8_takeSemicolon rfl (by decide) (Nat.le_of_ble_eq_true rfl) dX8_readAll_166 ?_
            rintro _ M26 ⟨rfl, hM26⟩
            have hQ := bndQ hQ M26 hM26; have hs := bndS hs M26 hM26
            refine g_iinc 1 (v := x1 + 1) _ dX8_readAll_169 rfl rfl (by decide) rfl ?_
            refine g_goto 24 dX8_readAll_172 (by decide) ?_
            refine g_sub [1, 0] _ rfl ?_
            exact ih M26 (x1 + 1) hs hQ
          have hs := ifSf hs c53; have hQ := ifQf hQ c53
          by_cases c54 : (swm (nn (f_Jx29ce0_ordinal_8abf5 M (f_X8_comes M r)))) = 4
          · have hs := ifSt hs c54; have hQ := ifQt hQ c54
            refine g_tin 125 (k := 4) (z := 4) (off := 66) c54 dX8_readAll_59 (by decide) (by decide) (by decide) rfl (by decide) ?_
            refine g_aload_n 0 dX8_readAll_125 rfl ?_
            have h27 := hs.1; have hs := hs.2
            refine g_callV (As := []) (st := []) (trC r) (c_X8_readWedding E M r hr h27) mt_X8_readWedding ml_X8_72 (dF_Tr hr) rfl rfl sg_X8_readWedding rfl (by decide) (Nat.le_of_ble_eq_true rfl) dX8_readAll_126 ?_
            rintro _ M28 ⟨rfl, hM28⟩
            have hQ := bndQ hQ M28 hM28; have hs := bndS hs M28 hM28
            refine g_goto 165 dX8_readAll_129 (by decide) ?_
            refine g_aload_n 0 dX8_readAll_165 rfl ?_
            have h29 := hs.1; have hs := hs.2
            refine g_callV (As := []) (st := []) (trC r) (c_X8_takeSemicolon E M28 r hr h29) mt_X8_takeSemicolon ml_X8_91 (dF_Tr hr) rfl rfl sg_X8_takeSemicolon rfl (by decide) (Nat.le_of_ble_eq_true rfl) dX8_readAll_166 ?_
            rintro _ M30 ⟨rfl, hM30⟩
            have hQ := bndQ hQ M30 hM30; have hs := bndS hs M30 hM30
            refine g_iinc 1 (v := x1 + 1) _ dX8_readAll_169 rfl rfl (by decide) rfl ?_
            refine g_goto 24 dX8_readAll_172 (by decide) ?_
            refine g_sub [1, 0] _ rfl ?_
            exact ih M30 (x1 + 1) hs hQ
          have hs := ifSf hs c54; have hQ := ifQf hQ c54
          by_cases c55 : (swm (nn (f_Jx29ce0_ordinal_8abf5 M (f_X8_comes M r)))) = 5
          · have hs := ifSt hs c55; have hQ := ifQt hQ c55
            refine g_tin 132 (k := 5) (z := 5) (off := 73) c55 dX8_readAll_59 (by decide) (by decide) (by decide) rfl (by decide) ?_
            refine g_aload_n 0 dX8_readAll_132 rfl ?_
            have h31 := hs.1; have hs := hs.2
            refine g_callV (As := []) (st := []) (trC r) (c_X8_readThing E M r hr h31) mt_X8_readThing ml_X8_75 (dF_Tr hr) rfl rfl sg_X8_readThing rfl (by decide) (Nat.le_of_ble_eq_true rfl) dX8_readAll_133 ?_
            rintro _ M32 ⟨rfl, hM32⟩
            have hQ := bndQ hQ M32 hM32; have hs := bndS hs M32 hM32
            refine g_goto 165 dX8_readAll_136 (by decide) ?_
            refine g_aload_n 0 dX8_readAll_165 rfl ?_
            have h33 := hs.1; have hs := hs.2
            refine g_callV (As := []) (st := []) (trC r) (c_X8_takeSemicolon E M32 r hr h33) mt_X8_takeSemicolon ml_X8_91 (dF_Tr hr) rfl rfl sg_X8_takeSemicolon rfl (by decide) (Nat.le_of_ble_eq_true rfl) dX8_readAll_166 ?_
            rintro _ M34 ⟨rfl, hM34⟩
            have hQ := bndQ hQ M34 hM34; have hs := bndS hs M34 hM34
            refine g_iinc 1 (v := x1 + 1) _ dX8_readAll_169 rfl rfl (by decide) rfl ?_
            refine g_goto 24 dX8_readAll_172 (by decide) ?_
            refine g_sub [1, 0] _ rfl ?_
            exact ih M34 (x1 + 1) hs hQ
          have hs := ifSf hs c55; have hQ := ifQf hQ c55
          by_cases c56 : (swm (nn (f_Jx29ce0_ordinal_8abf5 M (f_X8_comes M r)))) = 6
          · have hs := ifSt hs c56; have hQ := ifQt hQ c56
            refine g_tin 139 (k := 6) (z := 6) (off := 80) c56 dX8_readAll_59 (by decide) (by decide) (by decide) rfl (by decide) ?_
            refine g_aload_n 0 dX8_readAll_139 rfl ?_
            have h35 := hs.1; have hs := hs.2
            refine g_callV (As := []) (st := []) (trC r) (c_X8_readPaper E M r hr h35) mt_X8_readPaper ml_X8_78 (dF_Tr hr) rfl rfl sg_X8_readPaper rfl (by decide) (Nat.le_of_ble_eq_true rfl) dX8_readAll_140 ?_
            rintro _ M36 ⟨rfl, hM36⟩
            have hQ := bndQ hQ M36 hM36; have hs := bndS hs M36 hM36
            refine g_goto 165 dX8_readAll_143 (by decide) ?_
            refine g_aload_n 0 dX8_readAll_165 rfl ?_
            have h37 := hs.1; have hs := hs.2
            refine g_callV (As := []) (st := []) (trC r) (c_X8_takeSemicolon E M36 r hr h37) mt_X8_takeSemicolon ml_X8_91 (dF_Tr hr) rfl rfl sg_X8_takeSemicolon rfl (by decide) (Nat.le_of_ble_eq_true rfl) dX8_readAll_166 ?_
            rintro _ M38 ⟨rfl, hM38⟩
            have hQ := bndQ hQ M38 hM38; have hs := bndS hs M38 hM38
            refine g_iinc 1 (v := x1 + 1) _ dX8_readAll_169 rfl rfl (by decide) rfl ?_
            refine g_goto 24 dX8_readAll_172 (by decide) ?_
            refine g_sub [1, 0] _ rfl ?_
            exact ih M38 (x1 + 1) hs hQ
          have hs := ifSf hs c56; have hQ := ifQf hQ c56
          by_cases c57 : (swm (nn (f_Jx29ce0_ordinal_8abf5 M (f_X8_comes M r)))) = 7
          · have hs := ifSt hs c57; have hQ := ifQt hQ c57
            refine g_tin 146 (k := 7) (z := 7) (off := 87) c57 dX8_readAll_59 (by decide) (by decide) (by decide) rfl (by decide) ?_
            refine g_aload_n 0 dX8_readAll_146 rfl ?_
            have h39 := hs.1; have hs := hs.2
            refine g_callV (As := []) (st := []) (trC r) (c_X8_readLost E M r hr h39) mt_X8_readLost ml_X8_81 (dF_Tr hr) rfl rfl sg_X8_readLost rfl (by decide) (Nat.le_of_ble_eq_true rfl) dX8_readAll_147 ?_
            rintro _ M40 ⟨rfl, hM40⟩
            have hQ := bndQ hQ M40 hM40; have hs := bndS hs M40 hM40
            refine g_goto 165 dX8_readAll_150 (by decide) ?_
            refine g_aload_n 0 dX8_readAll_165 rfl ?_
            have h41 := hs.1; have hs := hs.2
            refine g_callV (As := []) (st := []) (trC r) (c_X8_takeSemicolon E M40 r hr h41) mt_X8_takeSemicolon ml_X8_91 (dF_Tr hr) rfl rfl sg_X8_takeSemicolon rfl (by decide) (Nat.le_of_ble_eq_true rfl) dX8_readAll_166 ?_
            rintro _ M42 ⟨rfl, hM42⟩
            have hQ := bndQ hQ M42 hM42; have hs := bndS hs M42 hM42
            refine g_iinc 1 (v := x1 + 1) _ dX8_readAll_169 rfl rfl (by decide) rfl ?_
            refine g_goto 24 dX8_readAll_172 (by decide) ?_
            refine g_sub [1, 0] _ rfl ?_
            exact ih M42 (x1 + 1) hs hQ
          have hs := ifSf hs c57; have hQ := ifQf hQ c57
          by_cases c58 : (swm (nn (f_Jx29ce0_ordinal_8abf5 M (f_X8_comes M r)))) = 8
          · have hs := ifSt hs c58; have hQ := ifQt hQ c58
            refine g_tin 153 (k := 8) (z := 8) (off := 94) c58 dX8_readAll_59 (by decide) (by decide) (by decide) rfl (by decide) ?_
            refine g_aload_n 0 dX8_readAll_153 rfl ?_
            have h43 := hs.1; have hs := hs.2
            refine g_callV (As := []) (st := []) (trC r) (c_X8_readDeath E M r hr h43) mt_X8_readDeath ml_X8_84 (dF_Tr hr) rfl rfl sg_X8_readDeath rfl (by decide) (Nat.le_of_ble_eq_true rfl) dX8_readAll_154 ?_
            rintro _ M44 ⟨rfl, hM44⟩
            have hQ := bndQ hQ M44 hM44; have hs := bndS hs M44 hM44
            refine g_goto 165 dX8_readAll_157 (by decide) ?_
            refine g_aload_n 0 dX8_readAll_165 rfl ?_
            have h45 := hs.1; have hs := hs.2
            refine g_callV (As := []) (st := []) (trC r) (c_X8_takeSemicolon E M44 r hr h45) mt_X8_takeSemicolon ml_X8_91 (dF_Tr hr) rfl rfl sg_X8_takeSemicolon rfl (by decide) (Nat.le_of_ble_eq_true rfl) dX8_readAll_166 ?_
            rintro _ M46 ⟨rfl, hM46⟩
            have hQ := bndQ hQ M46 hM46; have hs := bndS hs M46 hM46
            refine g_iinc 1 (v := x1 + 1) _ dX8_readAll_169 rfl rfl (by decide) rfl ?_
            refine g_goto 24 dX8_readAll_172 (by decide) ?_
            refine g_sub [1, 0] _ rfl ?_
            exact ih M46 (x1 + 1) hs hQ
          have hs := ifSf hs c58; have hQ := ifQf hQ c58
          refine g_tdf 160 dX8_readAll_59 (fun h1 h2 => by have ec51 : ¬ Int32.toInt (swm (nn (f_Jx29ce0_ordinal_8abf5 M (f_X8_comes M r)))) = 1 := ne_ti c51 (by decide); have ec52 : ¬ Int32.toInt (swm (nn (f_Jx29ce0_ordinal_8abf5 M (f_X8_comes M r)))) = 2 := ne_ti c52 (by decide); have ec53 : ¬ Int32.toInt (swm (nn (f_Jx29ce0_ordinal_8abf5 M (f_X8_comes M r)))) = 3 := ne_ti c53 (by decide); have ec54 : ¬ Int32.toInt (swm (nn (f_Jx29ce0_ordinal_8abf5 M (f_X8_comes M r)))) = 4 := ne_ti c54 (by decide); have ec55 : ¬ Int32.toInt (swm (nn (f_Jx29ce0_ordinal_8abf5 M (f_X8_comes M r)))) = 5 := ne_ti c55 (by decide); have ec56 : ¬ Int32.toInt (swm (nn (f_Jx29ce0_ordinal_8abf5 M (f_X8_comes M r)))) = 6 := ne_ti c56 (by decide); have ec57 : ¬ Int32.toInt (swm (nn (f_Jx29ce0_ordinal_8abf5 M (f_X8_comes M r)))) = 7 := ne_ti c57 (by decide); have ec58 : ¬ Int32.toInt (swm (nn (f_Jx29ce0_ordinal_8abf5 M (f_X8_comes M r)))) = 8 := ne_ti c58 (by decide); exfalso; omega) (by decide) ?_
          refine g_aload_n 0 dX8_readAll_160 rfl ?_
          refine g_iconst (v := 1) dX8_readAll_161 (by decide) ?_
          have h47 := hs.1; have hs := hs.2
          refine g_callV (As := [.int 1]) (st := []) (trC r) (c_X8_fail E M r hr 1 h47) mt_X8_fail ml_X8_87 (dF_Tr hr) rfl rfl sg_X8_fail rfl (by decide) (Nat.le_of_ble_eq_true rfl) dX8_readAll_162 ?_
          rintro _ M48 ⟨rfl, hM48⟩
          have hQ := bndQ hQ M48 hM48; have hs := bndS hs M48 hM48
          refine g_aload_n 0 dX8_readAll_165 rfl ?_
          have h49 := hs.1; have hs := hs.2
          refine g_callV (As := []) (st := []) (trC r) (c_X8_takeSemicolon E M48 r hr h49) mt_X8_takeSemicolon ml_X8_91 (dF_Tr hr) rfl rfl sg_X8_takeSemicolon rfl (by decide) (Nat.le_of_ble_eq_true rfl) dX8_readAll_166 ?_
          rintro _ M50 ⟨rfl, hM50⟩
          have hQ := bndQ hQ M50 hM50; have hs := bndS hs M50 hM50
          refine g_iinc 1 (v := x1 + 1) _ dX8_readAll_169 rfl rfl (by decide) rfl ?_
          refine g_goto 24 dX8_readAll_172 (by decide) ?_
          refine g_sub [1, 0] _ rfl ?_
          exact ih M50 (x1 + 1) hs hQ
def f_X8_readAll (M : gM) (r : Nat) : gM :=
  bnd (f_X7_clear M r) fun M2 =>
  (bnd (wrI M2 47 r 0 0 0) fun M3 =>
  (bnd (wrI M3 48 r 0 0 0) fun M4 =>
  (bnd (wrI M4 49 r 0 0 (-1)) fun M5 =>
  (f_X8_readAll_24 r FU M5 0))))
def s_X8_readAll (M : gM) (r : Nat) : Prop :=
  (s_X7_clear M r) ∧
  (bndP (f_X7_clear M r) fun M2 =>
  (bndP (wrI M2 47 r 0 0 0) fun M3 =>
  (bndP (wrI M3 48 r 0 0 0) fun M4 =>
  (bndP (wrI M4 49 r 0 0 (-1)) fun M5 =>
  (s_X8_readAll_24 r FU M5 0)))))
theorem o_X8_readAll (M : gM) (r : Nat) : offW [4, 5, 6, 7, 8, 9, 10, 11, 12, 13, 14, 15, 16, 17, 18, 19, 20, 21, 22, 23, 24, 25, 26, 27, 28, 29, 30, 31, 32, 33, 34, 35, 36, 37, 38, 39, 40, 47, 48, 49, 50] M (f_X8_readAll M r) := by
  rw [f_X8_readAll]
  refine offB (offR.tr ((o_X7_clear M r).mono (by decide))) (fun M2 oM2 => ?_)
  refine offB (oM2.wI (by decide)) (fun M3 oM3 => ?_)
  refine offB (oM3.wI (by decide)) (fun M4 oM4 => ?_)
  refine offB (oM4.wI (by decide)) (fun M5 oM5 => ?_)
  exact oM5.tr (o_X8_readAll_24 r FU M5 0)
set_option maxRecDepth 100000 in
set_option maxHeartbeats 4000000 in
theorem t_X8_readAll {E : gE} {K : gM → Prop} {Q : Option Value → gM → Prop} (hK : ∀ z : gM, K z → Q none z) (M : gM) (r : Nat) (hr : r < 2) (hs : s_X8_readAll M r) (hQ : K (f_X8_readAll M r)) : gG E RX8 cX8_readAll 2 none (rm 6) 0 [(0, .ref (gla E (trC r)))] [] M Q := by
  rw [s_X8_readAll] at hs
  rw [f_X8_readAll] at hQ
  refine g_aload_n 0 dX8_readAll_0 rfl ?_
  refine g_getR (trC r) (rgC r) fd_X8_25 (dF_Tr hr) rfl rfl dX8_readAll_1 ?_
  have h1 := hs.1; have hs := hs.2
  refine g_callV (As := []) (st := []) (rgC r) (c_X7_clear E M r hr h1) mt_X7_clear ml_X8_29 (dF_Rg hr) rfl rfl sg_X7_clear rfl (by decide) (Nat.le_of_ble_eq_true rfl) dX8_readAll_4 ?_
  rintro _ M2 ⟨rfl, hM2⟩
  have hQ := bndQ hQ M2 hM2; have hs := bndS hs M2 hM2
  refine g_aload_n 0 dX8_readAll_7 rfl ?_
  refine g_iconst (v := 0) dX8_readAll_8 (by decide) ?_
  refine g_putI (trC r) fd_X8_34 (dF_Tr hr) rfl dX8_readAll_9 (fun M3 hM3 => ?_)
  have hQ := bndQ hQ M3 hM3; have hs := bndS hs M3 hM3
  refine g_aload_n 0 dX8_readAll_12 rfl ?_
  refine g_iconst (v := 0) dX8_readAll_13 (by decide) ?_
  refine g_putI (trC r) fd_X8_38 (dF_Tr hr) rfl dX8_readAll_14 (fun M4 hM4 => ?_)
  have hQ := bndQ hQ M4 hM4; have hs := bndS hs M4 hM4
  refine g_aload_n 0 dX8_readAll_17 rfl ?_
  refine g_iconst (v := (-1)) dX8_readAll_18 (by decide) ?_
  refine g_putI (trC r) fd_X8_41 (dF_Tr hr) rfl dX8_readAll_19 (fun M5 hM5 => ?_)
  have hQ := bndQ hQ M5 hM5; have hs := bndS hs M5 hM5
  refine g_iconst (v := 0) dX8_readAll_22 (by decide) ?_
  refine g_istore_n _ dX8_readAll_23 (by decide) rfl ?_
  refine g_sub [1, 0] _ rfl ?_
  exact t_X8_readAll_24 hK r hr FU M5 0 hs hQ
theorem c_X8_readAll (E : gE) (M : gM) (r : Nat) (hr : r < 2) (hs : s_X8_readAll M r) : gC E yX8_readAll cX8_readAll 2 none (rm 6) [.ref (gla E (trC r))] M (fun o N => o = none ∧ N = f_X8_readAll M r) :=
  gC.of (by decide +kernel) (Nat.le_of_ble_eq_true rfl) rfl (t_X8_readAll (K := fun z => z = f_X8_readAll M r) (fun z hz => ⟨rfl, hz⟩) M r hr hs rfl)
def f_X11_wordKind_2 (M : gM) (x1 : Int32)  : Nat → Int32 → Nat
  | 0, _ => 0
  | n + 1, x2 =>
    if 26 ≤ x2 then
      (if 5 < ((rdI M 43 0 0 0) - x1) then
        (24)
      else
        (21))
    else
      (if (f_X11_isWord M (letIx (nn x2)) x1) = 0 then
        (f_X11_wordKind_2 M x1 n (x2 + 1))
      else
        (nn x2))
def s_X11_wordKind_2 (M : gM) (x1 : Int32)  : Nat → Int32 → Prop
  | 0, _ => False
  | n + 1, x2 =>
    if 26 ≤ x2 then
      (if 5 < ((rdI M 43 0 0 0) - x1) then
        (True)
      else
        (True))
    else
      ((vp_in x2 26) ∧
      ((s_X11_isWord M (letIx (nn x2)) x1) ∧
      (if (f_X11_isWord M (letIx (nn x2)) x1) = 0 then
        (s_X11_wordKind_2 M x1 n (x2 + 1))
      else
        ((vp_in x2 26) ∧
        (True)))))
set_option maxRecDepth 100000 in
set_option maxHeartbeats 4000000 in
theorem t_X11_wordKind_2 {E : gE} {K : Nat → Prop} {Q : Option Value → gM → Prop} {M : gM} (hK : ∀ z : Nat, K z → Q (some (.ref (gad E z))) M) (x1 : Int32)   : ∀ (n : Nat) (x2 : Int32) , s_X11_wordKind_2 M x1  n x2 → K (f_X11_wordKind_2 M x1  n x2) → gG E RX11 cX11_wordKind 3 (some (.object "WillDeposit$Token")) (rm 6) 2 [(0, .ref (gla E 204)), (1, .int x1), (2, .int x2)] [] M Q := by
  intro n
  induction n with
  | zero => intro x2 hs hQ; exact (hs : False).elim
  | succ n ih =>
    intro x2 hs hQ
    rw [s_X11_wordKind_2] at hs
    rw [f_X11_wordKind_2] at hQ
    refine g_iload_n 2 dX11_wordKind_2 rfl ?_
    refine g_toks rfl rfl dX11_wordKind_3 ?_
    refine g_tklen dX11_wordKind_6 ?_
    refine g_icmp_ge 38 dX11_wordKind_7 (by decide) (fun c1 => ?_) (fun c1 => ?_)
    · have hs := ifSt hs c1; have hQ := ifQt hQ c1
      refine g_aload_n 0 dX11_wordKind_38 rfl ?_
      refine g_getI 204 fd_X11_42 dF_Tk rfl dX11_wordKind_39 ?_
      refine g_iload_n 1 dX11_wordKind_42 rfl ?_
      refine g_isub dX11_wordKind_43 ?_
      refine g_iconst (v := 5) dX11_wordKind_44 (by decide) ?_
      refine g_icmp_gt 54 dX11_wordKind_45 (by decide) (fun c2 => ?_) (fun c2 => ?_)
      · have hs := ifSt hs c2; have hQ := ifQt hQ c2
        refine g_tok 24 (by decide) tl_X11_67 dX11_wordKind_54 ?_
        exact g_aret rfl dX11_wordKind_57 (hK _ hQ)
      · have hs := ifSf hs c2; have hQ := ifQf hQ c2
        refine g_tok 21 (by decide) tl_X11_78 dX11_wordKind_48 ?_
        refine g_goto 57 dX11_wordKind_51 (by decide) ?_
        exact g_aret rfl dX11_wordKind_57 (hK _ hQ)
    · have hs := ifSf hs c1; have hQ := ifQf hQ c1
      refine g_aload_n 0 dX11_wordKind_10 rfl ?_
      refine g_toks rfl rfl dX11_wordKind_11 ?_
      refine g_iload_n 2 dX11_wordKind_14 rfl ?_
      have h3 := hs.1; have hs := hs.2
      refine g_tkald h3 dX11_wordKind_15 ?_
      refine g_letters (vpL h3) ll_X11_84 dX11_wordKind_16 ?_
      refine g_iload_n 1 dX11_wordKind_19 rfl ?_
      have h4 := hs.1; have hs := hs.2
      refine g_callV (As := [.ref (gstr E (letIx (nn x2))), .int x1]) (st := []) 204 (c_X11_isWord E M (letIx (nn x2)) (letIx_lt _) x1 h4) mt_X11_isWord ml_X11_88 dF_Tk rfl rfl sg_X11_isWord rfl (by decide) (Nat.le_of_ble_eq_true rfl) dX11_wordKind_20 ?_
      rintro _ _ ⟨q1, q2⟩; rw [q1, q2]; clear q1 q2
      refine g_if_eq 32 dX11_wordKind_23 (by decide) (fun c5 => ?_) (fun c5 => ?_)
      · have hs := ifSt hs c5; have hQ := ifQt hQ c5
        refine g_iinc 2 (v := x2 + 1) _ dX11_wordKind_32 rfl rfl (by decide) rfl ?_
        refine g_goto 2 dX11_wordKind_35 (by decide) ?_
        refine g_sub [1, 2, 0] _ rfl ?_
        exact ih (x2 + 1) hs hQ
      · have hs := ifSf hs c5; have hQ := ifQf hQ c5
        refine g_toks rfl rfl dX11_wordKind_26 ?_
        refine g_iload_n 2 dX11_wordKind_29 rfl ?_
        have h6 := hs.1; have hs := hs.2
        refine g_tkald h6 dX11_wordKind_30 ?_
        exact g_aret rfl dX11_wordKind_31 (hK _ hQ)
def f_X11_wordKind (M : gM) (x1 : Int32) : Nat :=
  f_X11_wordKind_2 M x1 FU 0
def s_X11_wordKind (M : gM) (x1 : Int32) : Prop :=
  s_X11_wordKind_2 M x1 FU 0
set_option maxRecDepth 100000 in
set_option maxHeartbeats 4000000 in
theorem t_X11_wordKind {E : gE} {K : Nat → Prop} {Q : Option Value → gM → Prop} {M : gM} (hK : ∀ z : Nat, K z → Q (some (.ref (gad E z))) M)  (x1 : Int32)  (hs : s_X11_wordKind M x1) (hQ : K (f_X11_wordKind M x1)) : gG E RX11 cX11_wordKind 3 (some (.object "WillDeposit$Token")) (rm 6) 0 [(0, .ref (gla E 204)), (1, .int x1)] [] M Q := by
  rw [s_X11_wordKind] at hs
  rw [f_X11_wordKind] at hQ
  refine g_iconst (v := 0) dX11_wordKind_0 (by decide) ?_
  refine g_istore_n _ dX11_wordKind_1 (by decide) rfl ?_
  refine g_sub [1, 2, 0] _ rfl ?_
  exact t_X11_wordKind_2 hK x1 FU 0 hs hQ
theorem c_X11_wordKind (E : gE) (M : gM) (x1 : Int32) (hs : s_X11_wordKind M x1) : gC E yX11_wordKind cX11_wordKind 3 (some (.object "WillDeposit$Token")) (rm 6) [.ref (gla E 204), .int x1] M (fun o N => o = some (.ref (gad E (f_X11_wordKind M x1))) ∧ N = M) :=
  gC.of (by decide +kernel) (Nat.le_of_ble_eq_true rfl) rfl (t_X11_wordKind (K := fun z => z = f_X11_wordKind M x1) (fun z hz => by rw [hz]; exact ⟨rfl, rfl⟩) x1 hs rfl)
def f_X11_cutWord_75   : Nat → gM → Int32 → gM
  | 0, M, _ => M
  | n + 1, M, x2 =>
    if (rdI M 43 0 0 0) ≤ x2 then
      (M)
    else
      (bnd (wrI M 46 0 0 (nn (rdI M 41 0 0 0)) (((((rdI M 46 0 0 (nn (rdI M 41 0 0 0))) * 27) + (rdI M 3 0 0 (nn x2))) - 97) + 1)) fun M17 =>
      (f_X11_cutWord_75 n M17 (x2 + 1)))
def s_X11_cutWord_75   : Nat → gM → Int32 → Prop
  | 0, _, _ => False
  | n + 1, M, x2 =>
    if (rdI M 43 0 0 0) ≤ x2 then
      (True)
    else
      ((vp_in (rdI M 41 0 0 0) 1201) ∧
      ((vp_in x2 1200) ∧
      ((vp_in (rdI M 41 0 0 0) 1201) ∧
      (bndP (wrI M 46 0 0 (nn (rdI M 41 0 0 0)) (((((rdI M 46 0 0 (nn (rdI M 41 0 0 0))) * 27) + (rdI M 3 0 0 (nn x2))) - 97) + 1)) fun M17 =>
      (s_X11_cutWord_75 n M17 (x2 + 1))))))
theorem o_X11_cutWord_75   : ∀ (n : Nat) (M : gM) (x2 : Int32), offW [43, 44, 46] M (f_X11_cutWord_75   n M x2) := by
  intro n
  induction n with
  | zero => intro M x2; exact offR
  | succ n ih =>
    intro M x2
    rw [f_X11_cutWord_75]
    refine offI ?_ ?_
    · exact offR
    · refine offB (offR.wI (by decide)) (fun M17 oM17 => ?_)
      exact oM17.tr (ih M17 (x2 + 1))
set_option maxRecDepth 100000 in
set_option maxHeartbeats 4000000 in
theorem t_X11_cutWord_75 {E : gE} {K : gM → Prop} {Q : Option Value → gM → Prop} (hK : ∀ z : gM, K z → Q none z)    : ∀ (n : Nat) (M : gM) (x2 : Int32) , s_X11_cutWord_75   n M x2 → K (f_X11_cutWord_75   n M x2) → gG E RX11 cX11_cutWord 3 none (rm 7) 75 [(0, .ref (gla E 204)), (2, .int x2)] [] M Q := by
  intro n
  induction n with
  | zero => intro M x2 hs hQ; exact (hs : False).elim
  | succ n ih =>
    intro M x2 hs hQ
    rw [s_X11_cutWord_75] at hs
    rw [f_X11_cutWord_75] at hQ
    refine g_iload_n 1 dX11_cutWord_75 rfl ?_
    refine g_aload_n 0 dX11_cutWord_76 rfl ?_
    refine g_getI 204 fd_X11_42 dF_Tk rfl dX11_cutWord_77 ?_
    refine g_icmp_ge 122 dX11_cutWord_80 (by decide) (fun c13 => ?_) (fun c13 => ?_)
    · have hs := ifSt hs c13; have hQ := ifQt hQ c13
      exact g_vret rfl dX11_cutWord_122 (hK _ hQ)
    · have hs := ifSf hs c13; have hQ := ifQf hQ c13
      refine g_aload_n 0 dX11_cutWord_83 rfl ?_
      refine g_getR 204 207 fd_X11_21 dF_Tk rfl rfl dX11_cutWord_84 ?_
      refine g_aload_n 0 dX11_cutWord_87 rfl ?_
      refine g_getI 204 fd_X11_45 dF_Tk rfl dX11_cutWord_88 ?_
      refine g_aload_n 0 dX11_cutWord_91 rfl ?_
      refine g_getR 204 207 fd_X11_21 dF_Tk rfl rfl dX11_cutWord_92 ?_
      refine g_aload_n 0 dX11_cutWord_95 rfl ?_
      refine g_getI 204 fd_X11_45 dF_Tk rfl dX11_cutWord_96 ?_
      have h14 := hs.1; have hs := hs.2
      refine g_iald 207 dF_Tk_values h14 dX11_cutWord_99 ?_
      refine g_bipush (v := 27) dX11_cutWord_100 (by decide) ?_
      refine g_imul dX11_cutWord_102 ?_
      refine g_aload_n 0 dX11_cutWord_103 rfl ?_
      refine g_getR 204 1 fd_X11_24 dF_Tk rfl rfl dX11_cutWord_104 ?_
      refine g_iload_n 1 dX11_cutWord_107 rfl ?_
      have h15 := hs.1; have hs := hs.2
      refine g_bald 1 dF_tape h15 dX11_cutWord_108 ?_
      refine g_iadd dX11_cutWord_109 ?_
      refine g_bipush (v := 97) dX11_cutWord_110 (by decide) ?_
      refine g_isub dX11_cutWord_112 ?_
      refine g_iconst (v := 1) dX11_cutWord_113 (by decide) ?_
      refine g_iadd dX11_cutWord_114 ?_
      have h16 := hs.1; have hs := hs.2
      refine g_iast 207 dF_Tk_values h16 dX11_cutWord_115 (fun M17 hM17 => ?_)
      have hQ := bndQ hQ M17 hM17; have hs := bndS hs M17 hM17
      refine g_iinc 1 (v := x2 + 1) _ dX11_cutWord_116 rfl rfl (by decide) rfl ?_
      refine g_goto 75 dX11_cutWord_119 (by decide) ?_
      refine g_sub [1, 0] _ rfl ?_
      exact ih M17 (x2 + 1) hs hQ
def f_X11_cutWord_44 (M : gM) (x1 : Int32)  : gM :=
  bnd (wrI M 44 0 0 (nn (rdI M 41 0 0 0)) (nI (f_X11_wordKind M x1))) fun M9 =>
  (if nn (rdI M9 44 0 0 (nn (rdI M9 41 0 0 0))) = 21 then
    (f_X11_cutWord_75 FU M9 x1)
  else
    (M9))
def s_X11_cutWord_44 (M : gM) (x1 : Int32)  : Prop :=
  (s_X11_wordKind M x1) ∧
  ((vp_in (rdI M 41 0 0 0) 1201) ∧
  ((f_X11_wordKind M x1 < 26) ∧
  (bndP (wrI M 44 0 0 (nn (rdI M 41 0 0 0)) (nI (f_X11_wordKind M x1))) fun M9 =>
  ((vp_in (rdI M9 41 0 0 0) 1201) ∧
  ((nn (rdI M9 44 0 0 (nn (rdI M9 41 0 0 0))) < 26) ∧
  (if nn (rdI M9 44 0 0 (nn (rdI M9 41 0 0 0))) = 21 then
    (s_X11_cutWord_75 FU M9 x1)
  else
    (True)))))))
theorem o_X11_cutWord_44 (M : gM) (x1 : Int32)  : offW [43, 44, 46] M (f_X11_cutWord_44 M x1 ) := by
  rw [f_X11_cutWord_44]
  refine offB (offR.wI (by decide)) (fun M9 oM9 => ?_)
  refine offI ?_ ?_
  · exact oM9.tr (o_X11_cutWord_75  FU M9 x1)
  · exact oM9
set_option maxRecDepth 100000 in
set_option maxHeartbeats 4000000 in
theorem t_X11_cutWord_44 {E : gE} {K : gM → Prop} {Q : Option Value → gM → Prop} (hK : ∀ z : gM, K z → Q none z) (M : gM) (x1 : Int32)   (hs : s_X11_cutWord_44 M x1 ) (hQ : K (f_X11_cutWord_44 M x1 )) : gG E RX11 cX11_cutWord 3 none (rm 7) 44 [(0, .ref (gla E 204)), (1, .int x1)] [] M Q := by
  rw [s_X11_cutWord_44] at hs
  rw [f_X11_cutWord_44] at hQ
  refine g_aload_n 0 dX11_cutWord_44 rfl ?_
  refine g_getR 204 205 fd_X11_11 dF_Tk rfl rfl dX11_cutWord_45 ?_
  refine g_aload_n 0 dX11_cutWord_48 rfl ?_
  refine g_getI 204 fd_X11_45 dF_Tk rfl dX11_cutWord_49 ?_
  refine g_aload_n 0 dX11_cutWord_52 rfl ?_
  refine g_iload_n 1 dX11_cutWord_53 rfl ?_
  have h6 := hs.1; have hs := hs.2
  refine g_callV (As := [.int x1]) (st := [.int (rdI M 41 0 0 0), .ref (gla E 205)]) 204 (c_X11_wordKind E M x1 h6) mt_X11_wordKind ml_X11_74 dF_Tk rfl rfl sg_X11_wordKind rfl (by decide) (Nat.le_of_ble_eq_true rfl) dX11_cutWord_54 ?_
  rintro _ _ ⟨q1, q2⟩; rw [q1, q2]; clear q1 q2
  have h7 := hs.1; have hs := hs.2
  have h8 := hs.1; have hs := hs.2
  refine g_east 205 h8 dF_Tk_kinds h7 dX11_cutWord_57 (fun M9 hM9 => ?_)
  have hQ := bndQ hQ M9 hM9; have hs := bndS hs M9 hM9
  refine g_aload_n 0 dX11_cutWord_58 rfl ?_
  refine g_getR 204 205 fd_X11_11 dF_Tk rfl rfl dX11_cutWord_59 ?_
  refine g_aload_n 0 dX11_cutWord_62 rfl ?_
  refine g_getI 204 fd_X11_45 dF_Tk rfl dX11_cutWord_63 ?_
  have h10 := hs.1; have hs := hs.2
  refine g_eald 205 dF_Tk_kinds h10 dX11_cutWord_66 ?_
  refine g_tok 21 (by decide) tl_X11_78 dX11_cutWord_67 ?_
  have h11 := hs.1; have hs := hs.2
  refine g_acmp_ne 122 h11 (by decide) dX11_cutWord_70 (by decide) (fun c12 => ?_) (fun c12 => ?_)
  · have hs := ifSf hs c12; have hQ := ifQf hQ c12
    exact g_vret rfl dX11_cutWord_122 (hK _ hQ)
  · have hs := ifSt hs c12; have hQ := ifQt hQ c12
    refine g_iload_n 1 dX11_cutWord_73 rfl ?_
    refine g_istore_n _ dX11_cutWord_74 (by decide) rfl ?_
    refine g_sub [1, 0] _ rfl ?_
    exact t_X11_cutWord_75 hK FU M9 x1 hs hQ
def f_X11_cutWord_5 (x1 : Int32)  : Nat → gM → gM
  | 0, M => M
  | n + 1, M =>
    if (rdI M 42 0 0 0) ≤ (rdI M 43 0 0 0) then
      (f_X11_cutWord_44 M x1)
    else
      (if (f_X11_isLetter M (rdI M 3 0 0 (nn (rdI M 43 0 0 0)))) = 0 then
        (f_X11_cutWord_44 M x1)
      else
        (bnd (wrI M 43 0 0 0 ((rdI M 43 0 0 0) + 1)) fun M5 =>
        (f_X11_cutWord_5 x1 n M5)))
def s_X11_cutWord_5 (x1 : Int32)  : Nat → gM → Prop
  | 0, _ => False
  | n + 1, M =>
    if (rdI M 42 0 0 0) ≤ (rdI M 43 0 0 0) then
      (s_X11_cutWord_44 M x1)
    else
      ((vp_in (rdI M 43 0 0 0) 1200) ∧
      ((s_X11_isLetter M (rdI M 3 0 0 (nn (rdI M 43 0 0 0)))) ∧
      (if (f_X11_isLetter M (rdI M 3 0 0 (nn (rdI M 43 0 0 0)))) = 0 then
        (s_X11_cutWord_44 M x1)
      else
        (bndP (wrI M 43 0 0 0 ((rdI M 43 0 0 0) + 1)) fun M5 =>
        (s_X11_cutWord_5 x1 n M5)))))
theorem o_X11_cutWord_5 (x1 : Int32)  : ∀ (n : Nat) (M : gM), offW [43, 44, 46] M (f_X11_cutWord_5 x1  n M) := by
  intro n
  induction n with
  | zero => intro M; exact offR
  | succ n ih =>
    intro M
    rw [f_X11_cutWord_5]
    refine offI ?_ ?_
    · exact (o_X11_cutWord_44 M x1)
    · refine offI ?_ ?_
      · exact (o_X11_cutWord_44 M x1)
      · refine offB (offR.wI (by decide)) (fun M5 oM5 => ?_)
        exact oM5.tr (ih M5)
set_option maxRecDepth 100000 in
set_option maxHeartbeats 4000000 in
theorem t_X11_cutWord_5 {E : gE} {K : gM → Prop} {Q : Option Value → gM → Prop} (hK : ∀ z : gM, K z → Q none z) (x1 : Int32)   : ∀ (n : Nat) (M : gM) , s_X11_cutWord_5 x1  n M → K (f_X11_cutWord_5 x1  n M) → gG E RX11 cX11_cutWord 3 none (rm 7) 5 [(0, .ref (gla E 204)), (1, .int x1)] [] M Q := by
  intro n
  induction n with
  | zero => intro M hs hQ; exact (hs : False).elim
  | succ n ih =>
    intro M hs hQ
    rw [s_X11_cutWord_5] at hs
    rw [f_X11_cutWord_5] at hQ
    refine g_aload_n 0 dX11_cutWord_5 rfl ?_
    refine g_getI 204 fd_X11_42 dF_Tk rfl dX11_cutWord_6 ?_
    refine g_aload_n 0 dX11_cutWord_9 rfl ?_
    refine g_getI 204 fd_X11_38 dF_Tk rfl dX11_cutWord_10 ?_
    refine g_icmp_ge 44 dX11_cutWord_13 (by decide) (fun c1 => ?_) (fun c1 => ?_)
    · have hs := ifSt hs c1; have hQ := ifQt hQ c1
      exact t_X11_cutWord_44 hK M x1 hs hQ
    · have hs := ifSf hs c1; have hQ := ifQf hQ c1
      refine g_aload_n 0 dX11_cutWord_16 rfl ?_
      refine g_getR 204 1 fd_X11_24 dF_Tk rfl rfl dX11_cutWord_17 ?_
      refine g_aload_n 0 dX11_cutWord_20 rfl ?_
      refine g_getI 204 fd_X11_42 dF_Tk rfl dX11_cutWord_21 ?_
      have h2 := hs.1; have hs := hs.2
      refine g_bald 1 dF_tape h2 dX11_cutWord_24 ?_
      have h3 := hs.1; have hs := hs.2
      refine g_callS (As := [.int (rdI M 3 0 0 (nn (rdI M 43 0 0 0)))]) (st := []) (c_X11_isLetter E M (rdI M 3 0 0 (nn (rdI M 43 0 0 0))) h3) mt_X11_isLetter ml_X11_58 sg_X11_isLetter rfl (by decide) (Nat.le_of_ble_eq_true rfl) dX11_cutWord_25 ?_
      rintro _ _ ⟨q1, q2⟩; rw [q1, q2]; clear q1 q2
      refine g_if_eq 44 dX11_cutWord_28 (by decide) (fun c4 => ?_) (fun c4 => ?_)
      · have hs := ifSt hs c4; have hQ := ifQt hQ c4
        exact t_X11_cutWord_44 hK M x1 hs hQ
      · have hs := ifSf hs c4; have hQ := ifQf hQ c4
        refine g_aload_n 0 dX11_cutWord_31 rfl ?_
        refine g_dup dX11_cutWord_32 rfl ?_
        refine g_getI 204 fd_X11_42 dF_Tk rfl dX11_cutWord_33 ?_
        refine g_iconst (v := 1) dX11_cutWord_36 (by decide) ?_
        refine g_iadd dX11_cutWord_37 ?_
        refine g_putI 204 fd_X11_42 dF_Tk rfl dX11_cutWord_38 (fun M5 hM5 => ?_)
        have hQ := bndQ hQ M5 hM5; have hs := bndS hs M5 hM5
        refine g_goto 5 dX11_cutWord_41 (by decide) ?_
        exact ih M5 hs hQ
def f_X11_cutWord (M : gM) : gM :=
  f_X11_cutWord_5 (rdI M 43 0 0 0) FU M
def s_X11_cutWord (M : gM) : Prop :=
  s_X11_cutWord_5 (rdI M 43 0 0 0) FU M
theorem o_X11_cutWord (M : gM) : offW [43, 44, 46] M (f_X11_cutWord M) := by
  rw [f_X11_cutWord]
  exact (o_X11_cutWord_5 (rdI M 43 0 0 0) FU M)
set_option maxRecDepth 100000 in
set_option maxHeartbeats 4000000 in
theorem t_X11_cutWord {E : gE} {K : gM → Prop} {Q : Option Value → gM → Prop} (hK : ∀ z : gM, K z → Q none z) (M : gM)  (hs : s_X11_cutWord M) (hQ : K (f_X11_cutWord M)) : gG E RX11 cX11_cutWord 3 none (rm 7) 0 [(0, .ref (gla E 204))] [] M Q := by
  rw [s_X11_cutWord] at hs
  rw [f_X11_cutWord] at hQ
  refine g_aload_n 0 dX11_cutWord_0 rfl ?_
  refine g_getI 204 fd_X11_42 dF_Tk rfl dX11_cutWord_1 ?_
  refine g_istore_n _ dX11_cutWord_4 (by decide) rfl ?_
  refine g_sub [1, 0] _ rfl ?_
  exact t_X11_cutWord_5 hK (rdI M 43 0 0 0) FU M hs hQ
theorem c_X11_cutWord (E : gE) (M : gM)  (hs : s_X11_cutWord M) : gC E yX11_cutWord cX11_cutWord 3 none (rm 7) [.ref (gla E 204)] M (fun o N => o = none ∧ N = f_X11_cutWord M) :=
  gC.of (by decide +kernel) (Nat.le_of_ble_eq_true rfl) rfl (t_X11_cutWord (K := fun z => z = f_X11_cutWord M) (fun z hz => ⟨rfl, hz⟩) M hs rfl)
def f_X11_cutTape_155 (M : gM) (k25 : gM → gM) : gM :=
  bnd (wrI M 41 0 0 0 ((rdI M 41 0 0 0) + 1)) fun M34 =>
  (bnd (f_X11_skipBlanks M34) fun M36 =>
  (k25 M36))
def s_X11_cutTape_155 (M : gM) (q25 : gM → Prop) : Prop :=
  bndP (wrI M 41 0 0 0 ((rdI M 41 0 0 0) + 1)) fun M34 =>
  ((s_X11_skipBlanks M34) ∧
  (bndP (f_X11_skipBlanks M34) fun M36 =>
  (q25 M36)))
theorem o_X11_cutTape_155 (M : gM) (k25 : gM → gM) (ho25 : ∀ (M : gM), offW [41, 42, 43, 44, 45, 46] M (k25 M)) : offW [41, 42, 43, 44, 45, 46] M (f_X11_cutTape_155 M k25) := by
  rw [f_X11_cutTape_155]
  refine offB (offR.wI (by decide)) (fun M34 oM34 => ?_)
  refine offB (oM34.tr ((o_X11_skipBlanks M34).mono (by decide))) (fun M36 oM36 => ?_)
  exact oM36.tr (ho25 M36)
set_option maxRecDepth 100000 in
set_option maxHeartbeats 4000000 in
theorem t_X11_cutTape_155 {E : gE} {K : gM → Prop} {Q : Option Value → gM → Prop} (hK : ∀ z : gM, K z → Q none z) (M : gM)  (k25 : gM → gM) (q25 : gM → Prop) (hk25 : ∀ (M : gM) , q25 M → K (k25 M) → gG E RX11 cX11_cutTape 2 none (rm 8) 25 [(0, .ref (gla E 204))] [] M Q) (hs : s_X11_cutTape_155 M q25) (hQ : K (f_X11_cutTape_155 M k25)) : gG E RX11 cX11_cutTape 2 none (rm 8) 155 [(0, .ref (gla E 204))] [] M Q := by
  rw [s_X11_cutTape_155] at hs
  rw [f_X11_cutTape_155] at hQ
  refine g_aload_n 0 dX11_cutTape_155 rfl ?_
  refine g_dup dX11_cutTape_156 rfl ?_
  refine g_getI 204 fd_X11_45 dF_Tk rfl dX11_cutTape_157 ?_
  refine g_iconst (v := 1) dX11_cutTape_160 (by decide) ?_
  refine g_iadd dX11_cutTape_161 ?_
  refine g_putI 204 fd_X11_45 dF_Tk rfl dX11_cutTape_162 (fun M34 hM34 => ?_)
  have hQ := bndQ hQ M34 hM34; have hs := bndS hs M34 hM34
  refine g_aload_n 0 dX11_cutTape_165 rfl ?_
  have h35 := hs.1; have hs := hs.2
  refine g_callV (As := []) (st := []) 204 (c_X11_skipBlanks E M34 h35) mt_X11_skipBlanks ml_X11_48 dF_Tk rfl rfl sg_X11_skipBlanks rfl (by decide) (Nat.le_of_ble_eq_true rfl) dX11_cutTape_166 ?_
  rintro _ M36 ⟨rfl, hM36⟩
  have hQ := bndQ hQ M36 hM36; have hs := bndS hs M36 hM36
  refine g_goto 25 dX11_cutTape_169 (by decide) ?_
  exact hk25 M36 hs hQ
def f_X11_cutTape_144 (M : gM) (y1 : Int32) (y2c0 : Nat) (k25 : gM → gM) : gM :=
  bnd (wrI M 44 0 0 (nn y1) (nI y2c0)) fun M32 =>
  (bnd (wrI M32 43 0 0 0 ((rdI M32 43 0 0 0) + 1)) fun M33 =>
  (f_X11_cutTape_155 M33 k25))
def s_X11_cutTape_144 (M : gM) (y1 : Int32) (y2c0 : Nat) (q25 : gM → Prop) : Prop :=
  (vp_in y1 1201) ∧
  ((y2c0 < 26) ∧
  (bndP (wrI M 44 0 0 (nn y1) (nI y2c0)) fun M32 =>
  (bndP (wrI M32 43 0 0 0 ((rdI M32 43 0 0 0) + 1)) fun M33 =>
  (s_X11_cutTape_155 M33 q25))))
theorem o_X11_cutTape_144 (M : gM) (y1 : Int32) (y2c0 : Nat) (k25 : gM → gM) (ho25 : ∀ (M : gM), offW [41, 42, 43, 44, 45, 46] M (k25 M)) : offW [41, 42, 43, 44, 45, 46] M (f_X11_cutTape_144 M y1 y2c0 k25) := by
  rw [f_X11_cutTape_144]
  refine offB (offR.wI (by decide)) (fun M32 oM32 => ?_)
  refine offB (oM32.wI (by decide)) (fun M33 oM33 => ?_)
  exact oM33.tr (o_X11_cutTape_155 M33 k25 ho25)
set_option maxRecDepth 100000 in
set_option maxHeartbeats 4000000 in
theorem t_X11_cutTape_144 {E : gE} {K : gM → Prop} {Q : Option Value → gM → Prop} (hK : ∀ z : gM, K z → Q none z) (M : gM) (y1 : Int32) (y2c0 : Nat) (hy2c0 : y2c0 < 26) (k25 : gM → gM) (q25 : gM → Prop) (hk25 : ∀ (M : gM) , q25 M → K (k25 M) → gG E RX11 cX11_cutTape 2 none (rm 8) 25 [(0, .ref (gla E 204))] [] M Q) (hs : s_X11_cutTape_144 M y1 y2c0 q25) (hQ : K (f_X11_cutTape_144 M y1 y2c0 k25)) : gG E RX11 cX11_cutTape 2 none (rm 8) 144 [(0, .ref (gla E 204))] [.ref (gad E y2c0), .int y1, .ref (gla E 205)] M Q := by
  rw [s_X11_cutTape_144] at hs
  rw [f_X11_cutTape_144] at hQ
  have h30 := hs.1; have hs := hs.2
  have h31 := hs.1; have hs := hs.2
  refine g_east 205 h31 dF_Tk_kinds h30 dX11_cutTape_144 (fun M32 hM32 => ?_)
  have hQ := bndQ hQ M32 hM32; have hs := bndS hs M32 hM32
  refine g_aload_n 0 dX11_cutTape_145 rfl ?_
  refine g_dup dX11_cutTape_146 rfl ?_
  refine g_getI 204 fd_X11_42 dF_Tk rfl dX11_cutTape_147 ?_
  refine g_iconst (v := 1) dX11_cutTape_150 (by decide) ?_
  refine g_iadd dX11_cutTape_151 ?_
  refine g_putI 204 fd_X11_42 dF_Tk rfl dX11_cutTape_152 (fun M33 hM33 => ?_)
  have hQ := bndQ hQ M33 hM33; have hs := bndS hs M33 hM33
  exact t_X11_cutTape_155 hK M33 k25 q25 hk25 hs hQ
def f_X11_cutTape_172 (M : gM)  : gM :=
  bnd (wrI M 44 0 0 (nn (rdI M 41 0 0 0)) (nI 25)) fun M25 =>
  (bnd (wrI M25 45 0 0 (nn (rdI M25 41 0 0 0)) (rdI M25 42 0 0 0)) fun M27 =>
  (bnd (wrI M27 46 0 0 (nn (rdI M27 41 0 0 0)) 0) fun M29 =>
  (M29)))
def s_X11_cutTape_172 (M : gM)  : Prop :=
  (vp_in (rdI M 41 0 0 0) 1201) ∧
  (bndP (wrI M 44 0 0 (nn (rdI M 41 0 0 0)) (nI 25)) fun M25 =>
  ((vp_in (rdI M25 41 0 0 0) 1201) ∧
  (bndP (wrI M25 45 0 0 (nn (rdI M25 41 0 0 0)) (rdI M25 42 0 0 0)) fun M27 =>
  ((vp_in (rdI M27 41 0 0 0) 1201) ∧
  (bndP (wrI M27 46 0 0 (nn (rdI M27 41 0 0 0)) 0) fun M29 =>
  (True))))))
theorem o_X11_cutTape_172 (M : gM)  : offW [41, 42, 43, 44, 45, 46] M (f_X11_cutTape_172 M ) := by
  rw [f_X11_cutTape_172]
  refine offB (offR.wI (by decide)) (fun M25 oM25 => ?_)
  refine offB (oM25.wI (by decide)) (fun M27 oM27 => ?_)
  refine offB (oM27.wI (by decide)) (fun M29 oM29 => ?_)
  exact oM29
set_option maxRecDepth 100000 in
set_option maxHeartbeats 4000000 in
theorem t_X11_cutTape_172 {E : gE} {K : gM → Prop} {Q : Option Value → gM → Prop} (hK : ∀ z : gM, K z → Q none z) (M : gM)   (hs : s_X11_cutTape_172 M ) (hQ : K (f_X11_cutTape_172 M )) : gG E RX11 cX11_cutTape 2 none (rm 8) 172 [(0, .ref (gla E 204))] [] M Q := by
  rw [s_X11_cutTape_172] at hs
  rw [f_X11_cutTape_172] at hQ
  refine g_aload_n 0 dX11_cutTape_172 rfl ?_
  refine g_getR 204 205 fd_X11_11 dF_Tk rfl rfl dX11_cutTape_173 ?_
  refine g_aload_n 0 dX11_cutTape_176 rfl ?_
  refine g_getI 204 fd_X11_45 dF_Tk rfl dX11_cutTape_177 ?_
  refine g_tok 25 (by decide) tl_X11_28 dX11_cutTape_180 ?_
  have h24 := hs.1; have hs := hs.2
  refine g_east 205 (by decide) dF_Tk_kinds h24 dX11_cutTape_183 (fun M25 hM25 => ?_)
  have hQ := bndQ hQ M25 hM25; have hs := bndS hs M25 hM25
  refine g_aload_n 0 dX11_cutTape_184 rfl ?_
  refine g_getR 204 206 fd_X11_17 dF_Tk rfl rfl dX11_cutTape_185 ?_
  refine g_aload_n 0 dX11_cutTape_188 rfl ?_
  refine g_getI 204 fd_X11_45 dF_Tk rfl dX11_cutTape_189 ?_
  refine g_aload_n 0 dX11_cutTape_192 rfl ?_
  refine g_getI 204 fd_X11_38 dF_Tk rfl dX11_cutTape_193 ?_
  have h26 := hs.1; have hs := hs.2
  refine g_iast 206 dF_Tk_places h26 dX11_cutTape_196 (fun M27 hM27 => ?_)
  have hQ := bndQ hQ M27 hM27; have hs := bndS hs M27 hM27
  refine g_aload_n 0 dX11_cutTape_197 rfl ?_
  refine g_getR 204 207 fd_X11_21 dF_Tk rfl rfl dX11_cutTape_198 ?_
  refine g_aload_n 0 dX11_cutTape_201 rfl ?_
  refine g_getI 204 fd_X11_45 dF_Tk rfl dX11_cutTape_202 ?_
  refine g_iconst (v := 0) dX11_cutTape_205 (by decide) ?_
  have h28 := hs.1; have hs := hs.2
  refine g_iast 207 dF_Tk_values h28 dX11_cutTape_206 (fun M29 hM29 => ?_)
  have hQ := bndQ hQ M29 hM29; have hs := bndS hs M29 hM29
  exact g_vret rfl dX11_cutTape_207 (hK _ hQ)
def f_X11_cutTape_25   : Nat → gM → gM
  | 0, M => M
  | n + 1, M =>
    if (rdI M 42 0 0 0) ≤ (rdI M 43 0 0 0) then
      (f_X11_cutTape_172 M)
    else
      (if 1200 ≤ (rdI M 41 0 0 0) then
        (f_X11_cutTape_172 M)
      else
        (bnd (wrI M 45 0 0 (nn (rdI M 41 0 0 0)) (rdI M 43 0 0 0)) fun M9 =>
        (bnd (wrI M9 46 0 0 (nn (rdI M9 41 0 0 0)) 0) fun M11 =>
        (if (f_X11_isDigit M11 (rdI M11 3 0 0 (nn (rdI M11 43 0 0 0)))) = 0 then
          (if (f_X11_isLetter M11 (rdI M11 3 0 0 (nn (rdI M11 43 0 0 0)))) = 0 then
            (if (rdI M11 3 0 0 (nn (rdI M11 43 0 0 0))) = 59 then
              (f_X11_cutTape_144 M11 (rdI M11 41 0 0 0) 23 (f_X11_cutTape_25  n))
            else
              (f_X11_cutTape_144 M11 (rdI M11 41 0 0 0) 24 (f_X11_cutTape_25  n)))
          else
            (bnd (f_X11_cutWord M11) fun M21 =>
            (f_X11_cutTape_155 M21 (f_X11_cutTape_25  n))))
        else
          (bnd (f_X11_cutNumber M11) fun M23 =>
          (f_X11_cutTape_155 M23 (f_X11_cutTape_25  n)))))))
def s_X11_cutTape_25   : Nat → gM → Prop
  | 0, _ => False
  | n + 1, M =>
    if (rdI M 42 0 0 0) ≤ (rdI M 43 0 0 0) then
      (s_X11_cutTape_172 M)
    else
      (if 1200 ≤ (rdI M 41 0 0 0) then
        (s_X11_cutTape_172 M)
      else
        ((vp_in (rdI M 41 0 0 0) 1201) ∧
        (bndP (wrI M 45 0 0 (nn (rdI M 41 0 0 0)) (rdI M 43 0 0 0)) fun M9 =>
        ((vp_in (rdI M9 41 0 0 0) 1201) ∧
        (bndP (wrI M9 46 0 0 (nn (rdI M9 41 0 0 0)) 0) fun M11 =>
        ((vp_in (rdI M11 43 0 0 0) 1200) ∧
        ((s_X11_isDigit M11 (rdI M11 3 0 0 (nn (rdI M11 43 0 0 0)))) ∧
        (if (f_X11_isDigit M11 (rdI M11 3 0 0 (nn (rdI M11 43 0 0 0)))) = 0 then
          ((vp_in (rdI M11 43 0 0 0) 1200) ∧
          ((s_X11_isLetter M11 (rdI M11 3 0 0 (nn (rdI M11 43 0 0 0)))) ∧
          (if (f_X11_isLetter M11 (rdI M11 3 0 0 (nn (rdI M11 43 0 0 0)))) = 0 then
            ((vp_in (rdI M11 43 0 0 0) 1200) ∧
            (if (rdI M11 3 0 0 (nn (rdI M11 43 0 0 0))) = 59 then
              (s_X11_cutTape_144 M11 (rdI M11 41 0 0 0) 23 (s_X11_cutTape_25  n))
            else
              (s_X11_cutTape_144 M11 (rdI M11 41 0 0 0) 24 (s_X11_cutTape_25  n))))
          else
            ((s_X11_cutWord M11) ∧
            (bndP (f_X11_cutWord M11) fun M21 =>
            (s_X11_cutTape_155 M21 (s_X11_cutTape_25  n)))))))
        else
          ((s_X11_cutNumber M11) ∧
          (bndP (f_X11_cutNumber M11) fun M23 =>
          (s_X11_cutTape_155 M23 (s_X11_cutTape_25  n))))))))))))
theorem o_X11_cutTape_25   : ∀ (n : Nat) (M : gM), offW [41, 42, 43, 44, 45, 46] M (f_X11_cutTape_25   n M) := by
  intro n
  induction n with
  | zero => intro M; exact offR
  | succ n ih =>
    intro M
    rw [f_X11_cutTape_25]
    refine offI ?_ ?_
    · exact (o_X11_cutTape_172 M)
    · refine offI ?_ ?_
      · exact (o_X11_cutTape_172 M)
      · refine offB (offR.wI (by decide)) (fun M9 oM9 => ?_)
        refine offB (oM9.wI (by decide)) (fun M11 oM11 => ?_)
        refine offI ?_ ?_
        · refine offI ?_ ?_
          · refine offI ?_ ?_
            · exact oM11.tr (o_X11_cutTape_144 M11 (rdI M11 41 0 0 0) 23 (f_X11_cutTape_25  n) ih)
            · exact oM11.tr (o_X11_cutTape_144 M11 (rdI M11 41 0 0 0) 24 (f_X11_cutTape_25  n) ih)
          · refine offB (oM11.tr ((o_X11_cutWord M11).mono (by decide))) (fun M21 oM21 => ?_)
            exact oM21.tr (o_X11_cutTape_155 M21 (f_X11_cutTape_25  n) ih)
        · refine offB (oM11.tr ((o_X11_cutNumber M11).mono (by decide))) (fun M23 oM23 => ?_)
          exact oM23.tr (o_X11_cutTape_155 M23 (f_X11_cutTape_25  n) ih)
set_option maxRecDepth 100000 in
set_option maxHeartbeats 4000000 in
theorem t_X11_cutTape_25 {E : gE} {K : gM → Prop} {Q : Option Value → gM → Prop} (hK : ∀ z : gM, K z → Q none z)    : ∀ (n : Nat) (M : gM) , s_X11_cutTape_25   n M → K (f_X11_cutTape_25   n M) → gG E RX11 cX11_cutTape 2 none (rm 8) 25 [(0, .ref (gla E 204))] [] M Q := by
  intro n
  induction n with
  | zero => intro M hs hQ; exact (hs : False).elim
  | succ n ih =>
    intro M hs hQ
    rw [s_X11_cutTape_25] at hs
    rw [f_X11_cutTape_25] at hQ
    refine g_aload_n 0 dX11_cutTape_25 rfl ?_
    refine g_getI 204 fd_X11_42 dF_Tk rfl dX11_cutTape_26 ?_
    refine g_aload_n 0 dX11_cutTape_29 rfl ?_
    refine g_getI 204 fd_X11_38 dF_Tk rfl dX11_cutTape_30 ?_
    refine g_icmp_ge 172 dX11_cutTape_33 (by decide) (fun c6 => ?_) (fun c6 => ?_)
    · have hs := ifSt hs c6; have hQ := ifQt hQ c6
      exact t_X11_cutTape_172 hK M hs hQ
    · have hs := ifSf hs c6; have hQ := ifQf hQ c6
      refine g_aload_n 0 dX11_cutTape_36 rfl ?_
      refine g_getI 204 fd_X11_45 dF_Tk rfl dX11_cutTape_37 ?_
      refine g_sipush (v := 1200) dX11_cutTape_40 (by decide) ?_
      refine g_icmp_ge 172 dX11_cutTape_43 (by decide) (fun c7 => ?_) (fun c7 => ?_)
      · have hs := ifSt hs c7; have hQ := ifQt hQ c7
        exact t_X11_cutTape_172 hK M hs hQ
      · have hs := ifSf hs c7; have hQ := ifQf hQ c7
        refine g_aload_n 0 dX11_cutTape_46 rfl ?_
        refine g_getR 204 206 fd_X11_17 dF_Tk rfl rfl dX11_cutTape_47 ?_
        refine g_aload_n 0 dX11_cutTape_50 rfl ?_
        refine g_getI 204 fd_X11_45 dF_Tk rfl dX11_cutTape_51 ?_
        refine g_aload_n 0 dX11_cutTape_54 rfl ?_
        refine g_getI 204 fd_X11_42 dF_Tk rfl dX11_cutTape_55 ?_
        have h8 := hs.1; have hs := hs.2
        refine g_iast 206 dF_Tk_places h8 dX11_cutTape_58 (fun M9 hM9 => ?_)
        have hQ := bndQ hQ M9 hM9; have hs := bndS hs M9 hM9
        refine g_aload_n 0 dX11_cutTape_59 rfl ?_
        refine g_getR 204 207 fd_X11_21 dF_Tk rfl rfl dX11_cutTape_60 ?_
        refine g_aload_n 0 dX11_cutTape_63 rfl ?_
        refine g_getI 204 fd_X11_45 dF_Tk rfl dX11_cutTape_64 ?_
        refine g_iconst (v := 0) dX11_cutTape_67 (by decide) ?_
        have h10 := hs.1; have hs := hs.2
        refine g_iast 207 dF_Tk_values h10 dX11_cutTape_68 (fun M11 hM11 => ?_)
        have hQ := bndQ hQ M11 hM11; have hs := bndS hs M11 hM11
        refine g_aload_n 0 dX11_cutTape_69 rfl ?_
        refine g_getR 204 1 fd_X11_24 dF_Tk rfl rfl dX11_cutTape_70 ?_
        refine g_aload_n 0 dX11_cutTape_73 rfl ?_
        refine g_getI 204 fd_X11_42 dF_Tk rfl dX11_cutTape_74 ?_
        have h12 := hs.1; have hs := hs.2
        refine g_bald 1 dF_tape h12 dX11_cutTape_77 ?_
        have h13 := hs.1; have hs := hs.2
        refine g_callS (As := [.int (rdI M11 3 0 0 (nn (rdI M11 43 0 0 0)))]) (st := []) (c_X11_isDigit E M11 (rdI M11 3 0 0 (nn (rdI M11 43 0 0 0))) h13) mt_X11_isDigit ml_X11_51 sg_X11_isDigit rfl (by decide) (Nat.le_of_ble_eq_true rfl) dX11_cutTape_78 ?_
        rintro _ _ ⟨q1, q2⟩; rw [q1, q2]; clear q1 q2
        refine g_if_eq 91 dX11_cutTape_81 (by decide) (fun c14 => ?_) (fun c14 => ?_)
        · have hs := ifSt hs c14; have hQ := ifQt hQ c14
          refine g_aload_n 0 dX11_cutTape_91 rfl ?_
          refine g_getR 204 1 fd_X11_24 dF_Tk rfl rfl dX11_cutTape_92 ?_
          refine g_aload_n 0 dX11_cutTape_95 rfl ?_
          refine g_getI 204 fd_X11_42 dF_Tk rfl dX11_cutTape_96 ?_
          have h15 := hs.1; have hs := hs.2
          refine g_bald 1 dF_tape h15 dX11_cutTape_99 ?_
          have h16 := hs.1; have hs := hs.2
          refine g_callS (As := [.int (rdI M11 3 0 0 (nn (rdI M11 43 0 0 0)))]) (st := []) (c_X11_isLetter E M11 (rdI M11 3 0 0 (nn (rdI M11 43 0 0 0))) h16) mt_X11_isLetter ml_X11_58 sg_X11_isLetter rfl (by decide) (Nat.le_of_ble_eq_true rfl) dX11_cutTape_100 ?_
          rintro _ _ ⟨q1, q2⟩; rw [q1, q2]; clear q1 q2
          refine g_if_eq 113 dX11_cutTape_103 (by decide) (fun c17 => ?_) (fun c17 => ?_)
          · have hs := ifSt hs c17; have hQ := ifQt hQ c17
            refine g_aload_n 0 dX11_cutTape_113 rfl ?_
            refine g_getR 204 205 fd_X11_11 dF_Tk rfl rfl dX11_cutTape_114 ?_
            refine g_aload_n 0 dX11_cutTape_117 rfl ?_
            refine g_getI 204 fd_X11_45 dF_Tk rfl dX11_cutTape_118 ?_
            refine g_aload_n 0 dX11_cutTape_121 rfl ?_
            refine g_getR 204 1 fd_X11_24 dF_Tk rfl rfl dX11_cutTape_122 ?_
            refine g_aload_n 0 dX11_cutTape_125 rfl ?_
            refine g_getI 204 fd_X11_42 dF_Tk rfl dX11_cutTape_126 ?_
            have h18 := hs.1; have hs := hs.2
            refine g_bald 1 dF_tape h18 dX11_cutTape_129 ?_
            refine g_bipush (v := 59) dX11_cutTape_130 (by decide) ?_
            refine g_icmp_ne 141 dX11_cutTape_132 (by decide) (fun c19 => ?_) (fun c19 => ?_)
            · have hs := ifSf hs c19; have hQ := ifQf hQ c19
              refine g_tok 24 (by decide) tl_X11_67 dX11_cutTape_141 ?_
              exact t_X11_cutTape_144 hK M11 (rdI M11 41 0 0 0) 24 (by decide) (f_X11_cutTape_25  n) (s_X11_cutTape_25  n) ih hs hQ
            · have hs := ifSt hs c19; have hQ := ifQt hQ c19
              refine g_tok 23 (by decide) tl_X11_64 dX11_cutTape_135 ?_
              refine g_goto 144 dX11_cutTape_138 (by decide) ?_
              exact t_X11_cutTape_144 hK M11 (rdI M11 41 0 0 0) 23 (by decide) (f_X11_cutTape_25  n) (s_X11_cutTape_25  n) ih hs hQ
          · have hs := ifSf hs c17; have hQ := ifQf hQ c17
            refine g_aload_n 0 dX11_cutTape_106 rfl ?_
            have h20 := hs.1; have hs := hs.2
            refine g_callV (As := []) (st := []) 204 (c_X11_cutWord E M11 h20) mt_X11_cutWord ml_X11_61 dF_Tk rfl rfl sg_X11_cutWord rfl (by decide) (Nat.le_of_ble_eq_true rfl) dX11_cutTape_107 ?_
            rintro _ M21 ⟨rfl, hM21⟩
            have hQ := bndQ hQ M21 hM21; have hs := bndS hs M21 hM21
            refine g_goto 155 dX11_cutTape_110 (by decide) ?_
            exact t_X11_cutTape_155 hK M21 (f_X11_cutTape_25  n) (s_X11_cutTape_25  n) ih hs hQ
        · have hs := ifSf hs c14; have hQ := ifQf hQ c14
          refine g_aload_n 0 dX11_cutTape_84 rfl ?_
          have h22 := hs.1; have hs := hs.2
          refine g_callV (As := []) (st := []) 204 (c_X11_cutNumber E M11 h22) mt_X11_cutNumber ml_X11_55 dF_Tk rfl rfl sg_X11_cutNumber rfl (by decide) (Nat.le_of_ble_eq_true rfl) dX11_cutTape_85 ?_
          rintro _ M23 ⟨rfl, hM23⟩
          have hQ := bndQ hQ M23 hM23; have hs := bndS hs M23 hM23
          refine g_goto 155 dX11_cutTape_88 (by decide) ?_
          exact t_X11_cutTape_155 hK M23 (f_X11_cutTape_25  n) (s_X11_cutTape_25  n) ih hs hQ
def f_X11_cutTape (M : gM) (x1 : Int32) : gM :=
  bnd (wrI M 42 0 0 0 (mn x1 1200)) fun M1 =>
  (bnd (wrI M1 43 0 0 0 0) fun M2 =>
  (bnd (wrI M2 41 0 0 0 0) fun M3 =>
  (bnd (f_X11_skipBlanks M3) fun M5 =>
  (f_X11_cutTape_25 FU M5))))
def s_X11_cutTape (M : gM) (x1 : Int32) : Prop :=
  bndP (wrI M 42 0 0 0 (mn x1 1200)) fun M1 =>
  (bndP (wrI M1 43 0 0 0 0) fun M2 =>
  (bndP (wrI M2 41 0 0 0 0) fun M3 =>
  ((s_X11_skipBlanks M3) ∧
  (bndP (f_X11_skipBlanks M3) fun M5 =>
  (s_X11_cutTape_25 FU M5)))))
theorem o_X11_cutTape (M : gM) (x1 : Int32) : offW [41, 42, 43, 44, 45, 46] M (f_X11_cutTape M x1) := by
  rw [f_X11_cutTape]
  refine offB (offR.wI (by decide)) (fun M1 oM1 => ?_)
  refine offB (oM1.wI (by decide)) (fun M2 oM2 => ?_)
  refine offB (oM2.wI (by decide)) (fun M3 oM3 => ?_)
  refine offB (oM3.tr ((o_X11_skipBlanks M3).mono (by decide))) (fun M5 oM5 => ?_)
  exact oM5.tr (o_X11_cutTape_25  FU M5)
set_option maxRecDepth 100000 in
set_option maxHeartbeats 4000000 in
theorem t_X11_cutTape {E : gE} {K : gM → Prop} {Q : Option Value → gM → Prop} (hK : ∀ z : gM, K z → Q none z) (M : gM) (x1 : Int32)  (hs : s_X11_cutTape M x1) (hQ : K (f_X11_cutTape M x1)) : gG E RX11 cX11_cutTape 2 none (rm 8) 0 [(0, .ref (gla E 204)), (1, .int x1)] [] M Q := by
  rw [s_X11_cutTape] at hs
  rw [f_X11_cutTape] at hQ
  refine g_aload_n 0 dX11_cutTape_0 rfl ?_
  refine g_iload_n 1 dX11_cutTape_1 rfl ?_
  refine g_sipush (v := 1200) dX11_cutTape_2 (by decide) ?_
  refine g_mmin ml_X11_32 ms_min ms_ini mc_min ⟨by decide, Nat.le_of_ble_eq_true rfl, Nat.zero_le _, Nat.zero_le _⟩ dX11_cutTape_5 ?_
  refine g_putI 204 fd_X11_38 dF_Tk rfl dX11_cutTape_8 (fun M1 hM1 => ?_)
  have hQ := bndQ hQ M1 hM1; have hs := bndS hs M1 hM1
  refine g_aload_n 0 dX11_cutTape_11 rfl ?_
  refine g_iconst (v := 0) dX11_cutTape_12 (by decide) ?_
  refine g_putI 204 fd_X11_42 dF_Tk rfl dX11_cutTape_13 (fun M2 hM2 => ?_)
  have hQ := bndQ hQ M2 hM2; have hs := bndS hs M2 hM2
  refine g_aload_n 0 dX11_cutTape_16 rfl ?_
  refine g_iconst (v := 0) dX11_cutTape_17 (by decide) ?_
  refine g_putI 204 fd_X11_45 dF_Tk rfl dX11_cutTape_18 (fun M3 hM3 => ?_)
  have hQ := bndQ hQ M3 hM3; have hs := bndS hs M3 hM3
  refine g_aload_n 0 dX11_cutTape_21 rfl ?_
  have h4 := hs.1; have hs := hs.2
  refine g_callV (As := []) (st := []) 204 (c_X11_skipBlanks E M3 h4) mt_X11_skipBlanks ml_X11_48 dF_Tk rfl rfl sg_X11_skipBlanks rfl (by decide) (Nat.le_of_ble_eq_true rfl) dX11_cutTape_22 ?_
  rintro _ M5 ⟨rfl, hM5⟩
  have hQ := bndQ hQ M5 hM5; have hs := bndS hs M5 hM5
  refine g_sub [0] _ rfl ?_
  exact t_X11_cutTape_25 hK FU M5 hs hQ
theorem c_X11_cutTape (E : gE) (M : gM) (x1 : Int32) (hs : s_X11_cutTape M x1) : gC E yX11_cutTape cX11_cutTape 2 none (rm 8) [.ref (gla E 204), .int x1] M (fun o N => o = none ∧ N = f_X11_cutTape M x1) :=
  gC.of (by decide +kernel) (Nat.le_of_ble_eq_true rfl) rfl (t_X11_cutTape (K := fun z => z = f_X11_cutTape M x1) (fun z hz => ⟨rfl, hz⟩) M x1 hs rfl)
end
