set_option linter.all false
noncomputable section
def f_X13_has__65 (M : gM) (x4 : Int32) (y0 : Int32)  : Int64 × gM :=
  if x4 = 0 then
    ((rdJ M 97 0 0 (nn y0), M))
  else
    ((rdJ M 98 0 0 (nn y0), M))
def s_X13_has__65 (M : gM) (x4 : Int32) (y0 : Int32)  : Prop :=
  if x4 = 0 then
    ((vp_in y0 11) ∧
    (True))
  else
    ((vp_in y0 11) ∧
    (True))
theorem o_X13_has__65 (M : gM) (x4 : Int32) (y0 : Int32)  : offW [67, 80, 81, 82, 83, 84, 85, 97, 98] M (f_X13_has__65 M x4 y0 ).2 := by
  rw [f_X13_has__65]
  refine offI2 ?_ ?_
  · exact offR
  · exact offR
set_option maxRecDepth 100000 in
set_option maxHeartbeats 4000000 in
theorem t_X13_has__65 {E : gE} {K : Int64 × gM → Prop} {Q : Option Value → gM → Prop} (hK : ∀ z : Int64 × gM, K z → Q (some (.long z.1)) z.2) (M : gM) (x4 : Int32) (y0 : Int32)   (hs : s_X13_has__65 M x4 y0 ) (hQ : K (f_X13_has__65 M x4 y0 )) : gG E RX13 cX13_has_ 6 (some .long) (rm 11) 65 [(0, .ref (gla E 226)), (4, .int x4)] [.int y0] M Q := by
  rw [s_X13_has__65] at hs
  rw [f_X13_has__65] at hQ
  refine g_istore _ dX13_has__65 (by decide) rfl ?_
  refine g_iload 2 dX13_has__67 rfl ?_
  refine g_if_ne 82 dX13_has__69 (by decide) (fun c14 => ?_) (fun c14 => ?_)
  · have hs := ifSf hs c14; have hQ := ifQf hQ c14
    refine g_aload_n 1 dX13_has__82 rfl ?_
    refine g_getR 226 238 fd_X13_49 dF_Md rfl rfl dX13_has__83 ?_
    refine g_iload 0 dX13_has__86 rfl ?_
    have h15 := hs.1; have hs := hs.2
    refine g_lald 238 dF_Md_below h15 dX13_has__88 ?_
    exact g_lret rfl dX13_has__89 (hK _ hQ)
  · have hs := ifSt hs c14; have hQ := ifQt hQ c14
    refine g_aload_n 1 dX13_has__72 rfl ?_
    refine g_getR 226 237 fd_X13_45 dF_Md rfl rfl dX13_has__73 ?_
    refine g_iload 0 dX13_has__76 rfl ?_
    have h16 := hs.1; have hs := hs.2
    refine g_lald 237 dF_Md_above h16 dX13_has__78 ?_
    refine g_goto 89 dX13_has__79 (by decide) ?_
    exact g_lret rfl dX13_has__89 (hK _ hQ)
def f_X13_has__18 (M : gM) (x1 : Int32) (x2 : Int32) (x3 : Int32) (x4 : Int32)  : Int64 × gM :=
  if (f_X13_isThing M x2) = 0 then
    (((-1), M))
  else
    (if (f_X13_isDay M x3) = 0 then
      (((-1), M))
    else
      (if x4 < 0 then
        (((-1), M))
      else
        (if x4 ≤ 1 then
          (bnd (f_X13_laysParts M x2 x3) fun M12 =>
          (if x1 = (-1) then
            (f_X13_has__65 M12 x4 10)
          else
            (f_X13_has__65 M12 x4 x1)))
        else
          (((-1), M)))))
def s_X13_has__18 (M : gM) (x1 : Int32) (x2 : Int32) (x3 : Int32) (x4 : Int32)  : Prop :=
  (s_X13_isThing M x2) ∧
  (if (f_X13_isThing M x2) = 0 then
    (True)
  else
    ((s_X13_isDay M x3) ∧
    (if (f_X13_isDay M x3) = 0 then
      (True)
    else
      (if x4 < 0 then
        (True)
      else
        (if x4 ≤ 1 then
          ((s_X13_laysParts M x2 x3) ∧
          (bndP (f_X13_laysParts M x2 x3) fun M12 =>
          (if x1 = (-1) then
            (s_X13_has__65 M12 x4 10)
          else
            (s_X13_has__65 M12 x4 x1))))
        else
          (True))))))
theorem o_X13_has__18 (M : gM) (x1 : Int32) (x2 : Int32) (x3 : Int32) (x4 : Int32)  : offW [67, 80, 81, 82, 83, 84, 85, 97, 98] M (f_X13_has__18 M x1 x2 x3 x4 ).2 := by
  rw [f_X13_has__18]
  refine offI2 ?_ ?_
  · exact offR
  · refine offI2 ?_ ?_
    · exact offR
    · refine offI2 ?_ ?_
      · exact offR
      · refine offI2 ?_ ?_
        · refine offB2 (offR.tr ((o_X13_laysParts M x2 x3).mono (by decide))) (fun M12 oM12 => ?_)
          refine offI2 ?_ ?_
          · exact oM12.tr (o_X13_has__65 M12 x4 10)
          · exact oM12.tr (o_X13_has__65 M12 x4 x1)
        · exact offR
set_option maxRecDepth 100000 in
set_option maxHeartbeats 4000000 in
theorem t_X13_has__18 {E : gE} {K : Int64 × gM → Prop} {Q : Option Value → gM → Prop} (hK : ∀ z : Int64 × gM, K z → Q (some (.long z.1)) z.2) (M : gM) (x1 : Int32) (x2 : Int32) (x3 : Int32) (x4 : Int32)   (hs : s_X13_has__18 M x1 x2 x3 x4 ) (hQ : K (f_X13_has__18 M x1 x2 x3 x4 )) : gG E RX13 cX13_has_ 6 (some .long) (rm 11) 18 [(0, .ref (gla E 226)), (1, .int x1), (2, .int x2), (3, .int x3), (4, .int x4)] [] M Q := by
  rw [s_X13_has__18] at hs
  rw [f_X13_has__18] at hQ
  refine g_aload_n 0 dX13_has__18 rfl ?_
  refine g_iload_n 2 dX13_has__19 rfl ?_
  have h5 := hs.1; have hs := hs.2
  refine g_callV (As := [.int x2]) (st := []) 226 (c_X13_isThing E M x2 h5) mt_X13_isThing ml_X13_221 dF_Md rfl rfl sg_X13_isThing rfl (by decide) (Nat.le_of_ble_eq_true rfl) dX13_has__20 ?_
  rintro _ _ ⟨q1, q2⟩; rw [q1, q2]; clear q1 q2
  refine g_if_eq 44 dX13_has__23 (by decide) (fun c6 => ?_) (fun c6 => ?_)
  · have hs := ifSt hs c6; have hQ := ifQt hQ c6
    refine g_ldc2 kc_X13_327 dX13_has__44 ?_
    exact g_lret rfl dX13_has__47 (hK _ hQ)
  · have hs := ifSf hs c6; have hQ := ifQf hQ c6
    refine g_iload_n 3 dX13_has__26 rfl ?_
    have h7 := hs.1; have hs := hs.2
    refine g_callS (As := [.int x3]) (st := []) (c_X13_isDay E M x3 h7) mt_X13_isDay ml_X13_230 sg_X13_isDay rfl (by decide) (Nat.le_of_ble_eq_true rfl) dX13_has__27 ?_
    rintro _ _ ⟨q1, q2⟩; rw [q1, q2]; clear q1 q2
    refine g_if_eq 44 dX13_has__30 (by decide) (fun c8 => ?_) (fun c8 => ?_)
    · have hs := ifSt hs c8; have hQ := ifQt hQ c8
      refine g_ldc2 kc_X13_327 dX13_has__44 ?_
      exact g_lret rfl dX13_has__47 (hK _ hQ)
    · have hs := ifSf hs c8; have hQ := ifQf hQ c8
      refine g_iload 4 dX13_has__33 rfl ?_
      refine g_if_lt 44 dX13_has__35 (by decide) (fun c9 => ?_) (fun c9 => ?_)
      · have hs := ifSt hs c9; have hQ := ifQt hQ c9
        refine g_ldc2 kc_X13_327 dX13_has__44 ?_
        exact g_lret rfl dX13_has__47 (hK _ hQ)
      · have hs := ifSf hs c9; have hQ := ifQf hQ c9
        refine g_iload 4 dX13_has__38 rfl ?_
        refine g_iconst (v := 1) dX13_has__40 (by decide) ?_
        refine g_icmp_le 48 dX13_has__41 (by decide) (fun c10 => ?_) (fun c10 => ?_)
        · have hs := ifSt hs c10; have hQ := ifQt hQ c10
          refine g_aload_n 0 dX13_has__48 rfl ?_
          refine g_iload_n 2 dX13_has__49 rfl ?_
          refine g_iload_n 3 dX13_has__50 rfl ?_
          have h11 := hs.1; have hs := hs.2
          refine g_callV (As := [.int x2, .int x3]) (st := []) 226 (c_X13_laysParts E M x2 x3 h11) mt_X13_laysParts ml_X13_329 dF_Md rfl rfl sg_X13_laysParts rfl (by decide) (Nat.le_of_ble_eq_true rfl) dX13_has__51 ?_
          rintro _ M12 ⟨rfl, hM12⟩
          have hQ := bndQ hQ M12 hM12; have hs := bndS hs M12 hM12
          refine g_iload_n 1 dX13_has__54 rfl ?_
          refine g_iconst (v := (-1)) dX13_has__55 (by decide) ?_
          refine g_icmp_ne 64 dX13_has__56 (by decide) (fun c13 => ?_) (fun c13 => ?_)
          · have hs := ifSf hs c13; have hQ := ifQf hQ c13
            refine g_iload_n 1 dX13_has__64 rfl ?_
            refine g_sub [0, 4] _ rfl ?_
            exact t_X13_has__65 hK M12 x4 x1 hs hQ
          · have hs := ifSt hs c13; have hQ := ifQt hQ c13
            refine g_bipush (v := 10) dX13_has__59 (by decide) ?_
            refine g_goto 65 dX13_has__61 (by decide) ?_
            refine g_sub [0, 4] _ rfl ?_
            exact t_X13_has__65 hK M12 x4 10 hs hQ
        · have hs := ifSf hs c10; have hQ := ifQf hQ c10
          refine g_ldc2 kc_X13_327 dX13_has__44 ?_
          exact g_lret rfl dX13_has__47 (hK _ hQ)
def f_X13_has_ (M : gM) (x1 : Int32) (x2 : Int32) (x3 : Int32) (x4 : Int32) : Int64 × gM :=
  bnd (wrI M 67 0 0 0 0) fun M1 =>
  (if x1 = (-1) then
    (f_X13_has__18 M1 x1 x2 x3 x4)
  else
    (if (f_X13_isPerson M1 x1) = 0 then
      (((-1), M1))
    else
      (f_X13_has__18 M1 x1 x2 x3 x4)))
def s_X13_has_ (M : gM) (x1 : Int32) (x2 : Int32) (x3 : Int32) (x4 : Int32) : Prop :=
  bndP (wrI M 67 0 0 0 0) fun M1 =>
  (if x1 = (-1) then
    (s_X13_has__18 M1 x1 x2 x3 x4)
  else
    ((s_X13_isPerson M1 x1) ∧
    (if (f_X13_isPerson M1 x1) = 0 then
      (True)
    else
      (s_X13_has__18 M1 x1 x2 x3 x4))))
theorem o_X13_has_ (M : gM) (x1 : Int32) (x2 : Int32) (x3 : Int32) (x4 : Int32) : offW [67, 80, 81, 82, 83, 84, 85, 97, 98] M (f_X13_has_ M x1 x2 x3 x4).2 := by
  rw [f_X13_has_]
  refine offB2 (offR.wI (by decide)) (fun M1 oM1 => ?_)
  refine offI2 ?_ ?_
  · exact oM1.tr (o_X13_has__18 M1 x1 x2 x3 x4)
  · refine offI2 ?_ ?_
    · exact oM1
    · exact oM1.tr (o_X13_has__18 M1 x1 x2 x3 x4)
set_option maxRecDepth 100000 in
set_option maxHeartbeats 4000000 in
theorem t_X13_has_ {E : gE} {K : Int64 × gM → Prop} {Q : Option Value → gM → Prop} (hK : ∀ z : Int64 × gM, K z → Q (some (.long z.1)) z.2) (M : gM) (x1 : Int32) (x2 : Int32) (x3 : Int32) (x4 : Int32)  (hs : s_X13_has_ M x1 x2 x3 x4) (hQ : K (f_X13_has_ M x1 x2 x3 x4)) : gG E RX13 cX13_has_ 6 (some .long) (rm 11) 0 [(0, .ref (gla E 226)), (1, .int x1), (2, .int x2), (3, .int x3), (4, .int x4)] [] M Q := by
  rw [s_X13_has_] at hs
  rw [f_X13_has_] at hQ
  refine g_aload_n 0 dX13_has__0 rfl ?_
  refine g_iconst (v := 0) dX13_has__1 (by decide) ?_
  refine g_putI 226 fd_X13_61 dF_Md rfl dX13_has__2 (fun M1 hM1 => ?_)
  have hQ := bndQ hQ M1 hM1; have hs := bndS hs M1 hM1
  refine g_iload_n 1 dX13_has__5 rfl ?_
  refine g_iconst (v := (-1)) dX13_has__6 (by decide) ?_
  refine g_icmp_eq 18 dX13_has__7 (by decide) (fun c2 => ?_) (fun c2 => ?_)
  · have hs := ifSt hs c2; have hQ := ifQt hQ c2
    exact t_X13_has__18 hK M1 x1 x2 x3 x4 hs hQ
  · have hs := ifSf hs c2; have hQ := ifQf hQ c2
    refine g_aload_n 0 dX13_has__10 rfl ?_
    refine g_iload_n 1 dX13_has__11 rfl ?_
    have h3 := hs.1; have hs := hs.2
    refine g_callV (As := [.int x1]) (st := []) 226 (c_X13_isPerson E M1 x1 h3) mt_X13_isPerson ml_X13_206 dF_Md rfl rfl sg_X13_isPerson rfl (by decide) (Nat.le_of_ble_eq_true rfl) dX13_has__12 ?_
    rintro _ _ ⟨q1, q2⟩; rw [q1, q2]; clear q1 q2
    refine g_if_eq 44 dX13_has__15 (by decide) (fun c4 => ?_) (fun c4 => ?_)
    · have hs := ifSt hs c4; have hQ := ifQt hQ c4
      refine g_ldc2 kc_X13_327 dX13_has__44 ?_
      exact g_lret rfl dX13_has__47 (hK _ hQ)
    · have hs := ifSf hs c4; have hQ := ifQf hQ c4
      exact t_X13_has__18 hK M1 x1 x2 x3 x4 hs hQ
theorem c_X13_has_ (E : gE) (M : gM) (x1 : Int32) (x2 : Int32) (x3 : Int32) (x4 : Int32) (hs : s_X13_has_ M x1 x2 x3 x4) : gC E yX13_has_ cX13_has_ 6 (some .long) (rm 11) [.ref (gla E 226), .int x1, .int x2, .int x3, .int x4] M (fun o N => o = some (.long (f_X13_has_ M x1 x2 x3 x4).1) ∧ N = (f_X13_has_ M x1 x2 x3 x4).2) :=
  gC.of (by decide +kernel) (Nat.le_of_ble_eq_true rfl) rfl (t_X13_has_ (K := fun z => z = f_X13_has_ M x1 x2 x3 x4) (fun z hz => by rw [hz]; exact ⟨rfl, rfl⟩) M x1 x2 x3 x4 hs rfl)
def f_X13_holdersIn (M : gM) (x1 : Int32) (x2 : Int32) : Int32 × gM :=
  bnd (f_X13_laysParts M x1 x2) fun M2 =>
  ((f_X13_holding M2, M2))
def s_X13_holdersIn (M : gM) (x1 : Int32) (x2 : Int32) : Prop :=
  (s_X13_laysParts M x1 x2) ∧
  (bndP (f_X13_laysParts M x1 x2) fun M2 =>
  ((s_X13_holding M2) ∧
  (True)))
theorem o_X13_holdersIn (M : gM) (x1 : Int32) (x2 : Int32) : offW [80, 81, 82, 83, 84, 85, 97, 98] M (f_X13_holdersIn M x1 x2).2 := by
  rw [f_X13_holdersIn]
  refine offB2 (offR.tr ((o_X13_laysParts M x1 x2).mono (by decide))) (fun M2 oM2 => ?_)
  exact oM2
set_option maxRecDepth 100000 in
set_option maxHeartbeats 4000000 in
theorem t_X13_holdersIn {E : gE} {K : Int32 × gM → Prop} {Q : Option Value → gM → Prop} (hK : ∀ z : Int32 × gM, K z → Q (some (.int z.1)) z.2) (M : gM) (x1 : Int32) (x2 : Int32)  (hs : s_X13_holdersIn M x1 x2) (hQ : K (f_X13_holdersIn M x1 x2)) : gG E RX13 cX13_holdersIn 3 (some .int) (rm 11) 0 [(0, .ref (gla E 226)), (1, .int x1), (2, .int x2)] [] M Q := by
  rw [s_X13_holdersIn] at hs
  rw [f_X13_holdersIn] at hQ
  refine g_aload_n 0 dX13_holdersIn_0 rfl ?_
  refine g_iload_n 1 dX13_holdersIn_1 rfl ?_
  refine g_iload_n 2 dX13_holdersIn_2 rfl ?_
  have h1 := hs.1; have hs := hs.2
  refine g_callV (As := [.int x1, .int x2]) (st := []) 226 (c_X13_laysParts E M x1 x2 h1) mt_X13_laysParts ml_X13_329 dF_Md rfl rfl sg_X13_laysParts rfl (by decide) (Nat.le_of_ble_eq_true rfl) dX13_holdersIn_3 ?_
  rintro _ M2 ⟨rfl, hM2⟩
  have hQ := bndQ hQ M2 hM2; have hs := bndS hs M2 hM2
  refine g_aload_n 0 dX13_holdersIn_6 rfl ?_
  have h3 := hs.1; have hs := hs.2
  refine g_callV (As := []) (st := []) 226 (c_X13_holding E M2 h3) mt_X13_holding ml_X13_306 dF_Md rfl rfl sg_X13_holding rfl (by decide) (Nat.le_of_ble_eq_true rfl) dX13_holdersIn_7 ?_
  rintro _ _ ⟨q1, q2⟩; rw [q1, q2]; clear q1 q2
  exact g_iret rfl dX13_holdersIn_10 (hK _ hQ)
theorem c_X13_holdersIn (E : gE) (M : gM) (x1 : Int32) (x2 : Int32) (hs : s_X13_holdersIn M x1 x2) : gC E yX13_holdersIn cX13_holdersIn 3 (some .int) (rm 11) [.ref (gla E 226), .int x1, .int x2] M (fun o N => o = some (.int (f_X13_holdersIn M x1 x2).1) ∧ N = (f_X13_holdersIn M x1 x2).2) :=
  gC.of (by decide +kernel) (Nat.le_of_ble_eq_true rfl) rfl (t_X13_holdersIn (K := fun z => z = f_X13_holdersIn M x1 x2) (fun z hz => by rw [hz]; exact ⟨rfl, rfl⟩) M x1 x2 hs rfl)
def f_X13_wealthOf_5 (x1 : Int32)  : Nat → gM → Int64 → Int32 → Int32 × gM
  | 0, M, _, _ => (0, M)
  | n + 1, M, x2, x4 =>
    if (rdI M 88 0 0 (nn 1)) ≤ x4 then
      ((Int64.toInt32 x2, M))
    else
      (bnd (f_X13_laysParts M x4 9999) fun M4 =>
      (bnd (x2 + (((100 * (Int32.toInt64 (rdI M4 88 0 0 (nn ((34 + (3 * x4)) + 2))))) * (rdJ M4 97 0 0 (nn x1))) / (rdJ M4 98 0 0 (nn x1)))) fun v9 =>
      (f_X13_wealthOf_5 x1 n M4 v9 (x4 + 1))))
def s_X13_wealthOf_5 (x1 : Int32)  : Nat → gM → Int64 → Int32 → Prop
  | 0, _, _, _ => False
  | n + 1, M, x2, x4 =>
    (vp_in 1 502) ∧
    (if (rdI M 88 0 0 (nn 1)) ≤ x4 then
      (True)
    else
      ((s_X13_laysParts M x4 9999) ∧
      (bndP (f_X13_laysParts M x4 9999) fun M4 =>
      ((vp_in ((34 + (3 * x4)) + 2) 502) ∧
      ((vp_in x1 11) ∧
      ((vp_in x1 11) ∧
      ((¬ (rdJ M4 98 0 0 (nn x1)) = 0) ∧
      (bndP (x2 + (((100 * (Int32.toInt64 (rdI M4 88 0 0 (nn ((34 + (3 * x4)) + 2))))) * (rdJ M4 97 0 0 (nn x1))) / (rdJ M4 98 0 0 (nn x1)))) fun v9 =>
      (s_X13_wealthOf_5 x1 n M4 v9 (x4 + 1))))))))))
theorem o_X13_wealthOf_5 (x1 : Int32)  : ∀ (n : Nat) (M : gM) (x2 : Int64) (x4 : Int32), offW [80, 81, 82, 83, 84, 85, 97, 98] M (f_X13_wealthOf_5 x1  n M x2 x4).2 := by
  intro n
  induction n with
  | zero => intro M x2 x4; exact offR
  | succ n ih =>
    intro M x2 x4
    rw [f_X13_wealthOf_5]
    refine offI2 ?_ ?_
    · exact offR
    · refine offB2 (offR.tr ((o_X13_laysParts M x4 9999).mono (by decide))) (fun M4 oM4 => ?_)
      refine offV2 (fun v9 => ?_)
      exact oM4.tr (ih M4 v9 (x4 + 1))
set_option maxRecDepth 100000 in
set_option maxHeartbeats 4000000 in
theorem t_X13_wealthOf_5 {E : gE} {K : Int32 × gM → Prop} {Q : Option Value → gM → Prop} (hK : ∀ z : Int32 × gM, K z → Q (some (.int z.1)) z.2) (x1 : Int32)   : ∀ (n : Nat) (M : gM) (x2 : Int64) (x4 : Int32) , s_X13_wealthOf_5 x1  n M x2 x4 → K (f_X13_wealthOf_5 x1  n M x2 x4) → gG E RX13 cX13_wealthOf 5 (some .int) (rm 11) 5 [(0, .ref (gla E 226)), (1, .int x1), (2, .long x2), (4, .int x4)] [] M Q := by
  intro n
  induction n with
  | zero => intro M x2 x4 hs hQ; exact (hs : False).elim
  | succ n ih =>
    intro M x2 x4 hs hQ
    rw [s_X13_wealthOf_5] at hs
    rw [f_X13_wealthOf_5] at hQ
    refine g_iload 3 dX13_wealthOf_5 rfl ?_
    refine g_aload_n 0 dX13_wealthOf_7 rfl ?_
    refine g_getR 226 228 fd_X13_13 dF_Md rfl rfl dX13_wealthOf_8 ?_
    refine g_iconst (v := 1) dX13_wealthOf_11 (by decide) ?_
    have h1 := hs.1; have hs := hs.2
    refine g_iald 228 dF_Md_world h1 dX13_wealthOf_12 ?_
    refine g_icmp_ge 67 dX13_wealthOf_13 (by decide) (fun c2 => ?_) (fun c2 => ?_)
    · have hs := ifSt hs c2; have hQ := ifQt hQ c2
      refine g_lload_n 2 dX13_wealthOf_67 rfl ?_
      refine g_l2i dX13_wealthOf_68 ?_
      exact g_iret rfl dX13_wealthOf_69 (hK _ hQ)
    · have hs := ifSf hs c2; have hQ := ifQf hQ c2
      refine g_aload_n 0 dX13_wealthOf_16 rfl ?_
      refine g_iload 3 dX13_wealthOf_17 rfl ?_
      refine g_sipush (v := 9999) dX13_wealthOf_19 (by decide) ?_
      have h3 := hs.1; have hs := hs.2
      refine g_callV (As := [.int x4, .int 9999]) (st := []) 226 (c_X13_laysParts E M x4 9999 h3) mt_X13_laysParts ml_X13_329 dF_Md rfl rfl sg_X13_laysParts rfl (by decide) (Nat.le_of_ble_eq_true rfl) dX13_wealthOf_22 ?_
      rintro _ M4 ⟨rfl, hM4⟩
      have hQ := bndQ hQ M4 hM4; have hs := bndS hs M4 hM4
      refine g_lload_n 2 dX13_wealthOf_25 rfl ?_
      refine g_ldc2 kc_X13_335 dX13_wealthOf_26 ?_
      refine g_aload_n 0 dX13_wealthOf_29 rfl ?_
      refine g_getR 226 228 fd_X13_13 dF_Md rfl rfl dX13_wealthOf_30 ?_
      refine g_bipush (v := 34) dX13_wealthOf_33 (by decide) ?_
      refine g_iconst (v := 3) dX13_wealthOf_35 (by decide) ?_
      refine g_iload 3 dX13_wealthOf_36 rfl ?_
      refine g_imul dX13_wealthOf_38 ?_
      refine g_iadd dX13_wealthOf_39 ?_
      refine g_iconst (v := 2) dX13_wealthOf_40 (by decide) ?_
      refine g_iadd dX13_wealthOf_41 ?_
      have h5 := hs.1; have hs := hs.2
      refine g_iald 228 dF_Md_world h5 dX13_wealthOf_42 ?_
      refine g_i2l dX13_wealthOf_43 ?_
      refine g_lmul dX13_wealthOf_44 ?_
      refine g_aload_n 0 dX13_wealthOf_45 rfl ?_
      refine g_getR 226 237 fd_X13_45 dF_Md rfl rfl dX13_wealthOf_46 ?_
      refine g_iload_n 1 dX13_wealthOf_49 rfl ?_
      have h6 := hs.1; have hs := hs.2
      refine g_lald 237 dF_Md_above h6 dX13_wealthOf_50 ?_
      refine g_lmul dX13_wealthOf_51 ?_
      refine g_aload_n 0 dX13_wealthOf_52 rfl ?_
      refine g_getR 226 238 fd_X13_49 dF_Md rfl rfl dX13_wealthOf_53 ?_
      refine g_iload_n 1 dX13_wealthOf_56 rfl ?_
      have h7 := hs.1; have hs := hs.2
      refine g_lald 238 dF_Md_below h7 dX13_wealthOf_57 ?_
      have h8 := hs.1; have hs := hs.2
      refine g_ldiv dX13_wealthOf_58 h8 ?_
      refine g_ladd dX13_wealthOf_59 ?_
      refine g_topJ (fun v9 hv9 => ?_)
      have hQ := bndQ hQ v9 hv9; have hs := bndS hs v9 hv9
      refine g_lstore_n _ dX13_wealthOf_60 (by decide) rfl ?_
      refine g_iinc 3 (v := x4 + 1) _ dX13_wealthOf_61 rfl rfl (by decide) rfl ?_
      refine g_goto 5 dX13_wealthOf_64 (by decide) ?_
      refine g_sub [2, 3, 1, 0] _ rfl ?_
      exact ih M4 v9 (x4 + 1) hs hQ
def f_X13_wealthOf (M : gM) (x1 : Int32) : Int32 × gM :=
  f_X13_wealthOf_5 x1 FU M 0 0
def s_X13_wealthOf (M : gM) (x1 : Int32) : Prop :=
  s_X13_wealthOf_5 x1 FU M 0 0
theorem o_X13_wealthOf (M : gM) (x1 : Int32) : offW [80, 81, 82, 83, 84, 85, 97, 98] M (f_X13_wealthOf M x1).2 := by
  rw [f_X13_wealthOf]
  exact (o_X13_wealthOf_5 x1 FU M 0 0)
set_option maxRecDepth 100000 in
set_option maxHeartbeats 4000000 in
theorem t_X13_wealthOf {E : gE} {K : Int32 × gM → Prop} {Q : Option Value → gM → Prop} (hK : ∀ z : Int32 × gM, K z → Q (some (.int z.1)) z.2) (M : gM) (x1 : Int32)  (hs : s_X13_wealthOf M x1) (hQ : K (f_X13_wealthOf M x1)) : gG E RX13 cX13_wealthOf 5 (some .int) (rm 11) 0 [(0, .ref (gla E 226)), (1, .int x1)] [] M Q := by
  rw [s_X13_wealthOf] at hs
  rw [f_X13_wealthOf] at hQ
  refine g_lconst (v := 0) dX13_wealthOf_0 (by decide) ?_
  refine g_lstore_n _ dX13_wealthOf_1 (by decide) rfl ?_
  refine g_iconst (v := 0) dX13_wealthOf_2 (by decide) ?_
  refine g_istore _ dX13_wealthOf_3 (by decide) rfl ?_
  refine g_sub [2, 3, 1, 0] _ rfl ?_
  exact t_X13_wealthOf_5 hK x1 FU M 0 0 hs hQ
theorem c_X13_wealthOf (E : gE) (M : gM) (x1 : Int32) (hs : s_X13_wealthOf M x1) : gC E yX13_wealthOf cX13_wealthOf 5 (some .int) (rm 11) [.ref (gla E 226), .int x1] M (fun o N => o = some (.int (f_X13_wealthOf M x1).1) ∧ N = (f_X13_wealthOf M x1).2) :=
  gC.of (by decide +kernel) (Nat.le_of_ble_eq_true rfl) rfl (t_X13_wealthOf (K := fun z => z = f_X13_wealthOf M x1) (fun z hz => by rw [hz]; exact ⟨rfl, rfl⟩) M x1 hs rfl)
def f_X13_ever_19 (x1 : Int32)  : Nat → gM → Int32 → Int32 → Int32 × gM
  | 0, M, _, _ => (0, M)
  | n + 1, M, x2, x3 =>
    if (rdI M 88 0 0 (nn 1)) ≤ x3 then
      ((x2, M))
    else
      (bnd (f_X13_laysParts M x3 9999) fun M7 =>
      (bnd (x2 ||| ((((rdI M7 82 0 0 0) >>> (x1 &&& 31)) &&& 1) <<< (x3 &&& 31))) fun v8 =>
      (f_X13_ever_19 x1 n M7 v8 (x3 + 1))))
def s_X13_ever_19 (x1 : Int32)  : Nat → gM → Int32 → Int32 → Prop
  | 0, _, _, _ => False
  | n + 1, M, x2, x3 =>
    (vp_in 1 502) ∧
    (if (rdI M 88 0 0 (nn 1)) ≤ x3 then
      (True)
    else
      ((s_X13_laysParts M x3 9999) ∧
      (bndP (f_X13_laysParts M x3 9999) fun M7 =>
      (bndP (x2 ||| ((((rdI M7 82 0 0 0) >>> (x1 &&& 31)) &&& 1) <<< (x3 &&& 31))) fun v8 =>
      (s_X13_ever_19 x1 n M7 v8 (x3 + 1))))))
theorem o_X13_ever_19 (x1 : Int32)  : ∀ (n : Nat) (M : gM) (x2 : Int32) (x3 : Int32), offW [67, 80, 81, 82, 83, 84, 85, 97, 98] M (f_X13_ever_19 x1  n M x2 x3).2 := by
  intro n
  induction n with
  | zero => intro M x2 x3; exact offR
  | succ n ih =>
    intro M x2 x3
    rw [f_X13_ever_19]
    refine offI2 ?_ ?_
    · exact offR
    · refine offB2 (offR.tr ((o_X13_laysParts M x3 9999).mono (by decide))) (fun M7 oM7 => ?_)
      refine offV2 (fun v8 => ?_)
      exact oM7.tr (ih M7 v8 (x3 + 1))
set_option maxRecDepth 100000 in
set_option maxHeartbeats 4000000 in
theorem t_X13_ever_19 {E : gE} {K : Int32 × gM → Prop} {Q : Option Value → gM → Prop} (hK : ∀ z : Int32 × gM, K z → Q (some (.int z.1)) z.2) (x1 : Int32)   : ∀ (n : Nat) (M : gM) (x2 : Int32) (x3 : Int32) , s_X13_ever_19 x1  n M x2 x3 → K (f_X13_ever_19 x1  n M x2 x3) → gG E RX13 cX13_ever 4 (some .int) (rm 11) 19 [(0, .ref (gla E 226)), (1, .int x1), (2, .int x2), (3, .int x3)] [] M Q := by
  intro n
  induction n with
  | zero => intro M x2 x3 hs hQ; exact (hs : False).elim
  | succ n ih =>
    intro M x2 x3 hs hQ
    rw [s_X13_ever_19] at hs
    rw [f_X13_ever_19] at hQ
    refine g_iload_n 3 dX13_ever_19 rfl ?_
    refine g_aload_n 0 dX13_ever_20 rfl ?_
    refine g_getR 226 228 fd_X13_13 dF_Md rfl rfl dX13_ever_21 ?_
    refine g_iconst (v := 1) dX13_ever_24 (by decide) ?_
    have h4 := hs.1; have hs := hs.2
    refine g_iald 228 dF_Md_world h4 dX13_ever_25 ?_
    refine g_icmp_ge 56 dX13_ever_26 (by decide) (fun c5 => ?_) (fun c5 => ?_)
    · have hs := ifSt hs c5; have hQ := ifQt hQ c5
      refine g_iload_n 2 dX13_ever_56 rfl ?_
      exact g_iret rfl dX13_ever_57 (hK _ hQ)
    · have hs := ifSf hs c5; have hQ := ifQf hQ c5
      refine g_aload_n 0 dX13_ever_29 rfl ?_
      refine g_iload_n 3 dX13_ever_30 rfl ?_
      refine g_sipush (v := 9999) dX13_ever_31 (by decide) ?_
      have h6 := hs.1; have hs := hs.2
      refine g_callV (As := [.int x3, .int 9999]) (st := []) 226 (c_X13_laysParts E M x3 9999 h6) mt_X13_laysParts ml_X13_329 dF_Md rfl rfl sg_X13_laysParts rfl (by decide) (Nat.le_of_ble_eq_true rfl) dX13_ever_34 ?_
      rintro _ M7 ⟨rfl, hM7⟩
      have hQ := bndQ hQ M7 hM7; have hs := bndS hs M7 hM7
      refine g_iload_n 2 dX13_ever_37 rfl ?_
      refine g_aload_n 0 dX13_ever_38 rfl ?_
      refine g_getI 226 fd_X13_309 dF_Md rfl dX13_ever_39 ?_
      refine g_iload_n 1 dX13_ever_42 rfl ?_
      refine g_ishr dX13_ever_43 ?_
      refine g_iconst (v := 1) dX13_ever_44 (by decide) ?_
      refine g_iand dX13_ever_45 ?_
      refine g_iload_n 3 dX13_ever_46 rfl ?_
      refine g_ishl dX13_ever_47 ?_
      refine g_ior dX13_ever_48 ?_
      refine g_topI (fun v8 hv8 => ?_)
      have hQ := bndQ hQ v8 hv8; have hs := bndS hs v8 hv8
      refine g_istore_n _ dX13_ever_49 (by decide) rfl ?_
      refine g_iinc 3 (v := x3 + 1) _ dX13_ever_50 rfl rfl (by decide) rfl ?_
      refine g_goto 19 dX13_ever_53 (by decide) ?_
      refine g_sub [2, 3, 1, 0] _ rfl ?_
      exact ih M7 v8 (x3 + 1) hs hQ
def f_X13_ever (M : gM) (x1 : Int32) : Int32 × gM :=
  bnd (wrI M 67 0 0 0 0) fun M1 =>
  (if (f_X13_isPerson M1 x1) = 0 then
    (((-1), M1))
  else
    (f_X13_ever_19 x1 FU M1 0 0))
def s_X13_ever (M : gM) (x1 : Int32) : Prop :=
  bndP (wrI M 67 0 0 0 0) fun M1 =>
  ((s_X13_isPerson M1 x1) ∧
  (if (f_X13_isPerson M1 x1) = 0 then
    (True)
  else
    (s_X13_ever_19 x1 FU M1 0 0)))
theorem o_X13_ever (M : gM) (x1 : Int32) : offW [67, 80, 81, 82, 83, 84, 85, 97, 98] M (f_X13_ever M x1).2 := by
  rw [f_X13_ever]
  refine offB2 (offR.wI (by decide)) (fun M1 oM1 => ?_)
  refine offI2 ?_ ?_
  · exact oM1
  · exact oM1.tr (o_X13_ever_19 x1 FU M1 0 0)
set_option maxRecDepth 100000 in
set_option maxHeartbeats 4000000 in
theorem t_X13_ever {E : gE} {K : Int32 × gM → Prop} {Q : Option Value → gM → Prop} (hK : ∀ z : Int32 × gM, K z → Q (some (.int z.1)) z.2) (M : gM) (x1 : Int32)  (hs : s_X13_ever M x1) (hQ : K (f_X13_ever M x1)) : gG E RX13 cX13_ever 4 (some .int) (rm 11) 0 [(0, .ref (gla E 226)), (1, .int x1)] [] M Q := by
  rw [s_X13_ever] at hs
  rw [f_X13_ever] at hQ
  refine g_aload_n 0 dX13_ever_0 rfl ?_
  refine g_iconst (v := 0) dX13_ever_1 (by decide) ?_
  refine g_putI 226 fd_X13_61 dF_Md rfl dX13_ever_2 (fun M1 hM1 => ?_)
  have hQ := bndQ hQ M1 hM1; have hs := bndS hs M1 hM1
  refine g_aload_n 0 dX13_ever_5 rfl ?_
  refine g_iload_n 1 dX13_ever_6 rfl ?_
  have h2 := hs.1; have hs := hs.2
  refine g_callV (As := [.int x1]) (st := []) 226 (c_X13_isPerson E M1 x1 h2) mt_X13_isPerson ml_X13_206 dF_Md rfl rfl sg_X13_isPerson rfl (by decide) (Nat.le_of_ble_eq_true rfl) dX13_ever_7 ?_
  rintro _ _ ⟨q1, q2⟩; rw [q1, q2]; clear q1 q2
  refine g_if_ne 15 dX13_ever_10 (by decide) (fun c3 => ?_) (fun c3 => ?_)
  · have hs := ifSf hs c3; have hQ := ifQf hQ c3
    refine g_iconst (v := 0) dX13_ever_15 (by decide) ?_
    refine g_istore_n _ dX13_ever_16 (by decide) rfl ?_
    refine g_iconst (v := 0) dX13_ever_17 (by decide) ?_
    refine g_istore_n _ dX13_ever_18 (by decide) rfl ?_
    refine g_sub [2, 3, 1, 0] _ rfl ?_
    exact t_X13_ever_19 hK x1 FU M1 0 0 hs hQ
  · have hs := ifSt hs c3; have hQ := ifQt hQ c3
    refine g_iconst (v := (-1)) dX13_ever_13 (by decide) ?_
    exact g_iret rfl dX13_ever_14 (hK _ hQ)
theorem c_X13_ever (E : gE) (M : gM) (x1 : Int32) (hs : s_X13_ever M x1) : gC E yX13_ever cX13_ever 4 (some .int) (rm 11) [.ref (gla E 226), .int x1] M (fun o N => o = some (.int (f_X13_ever M x1).1) ∧ N = (f_X13_ever M x1).2) :=
  gC.of (by decide +kernel) (Nat.le_of_ble_eq_true rfl) rfl (t_X13_ever (K := fun z => z = f_X13_ever M x1) (fun z hz => by rw [hz]; exact ⟨rfl, rfl⟩) M x1 hs rfl)
def f_X13_death_106 (x4 : Int32)  : Nat → gM → Int32 → Int32 → Int32 × gM
  | 0, M, _, _ => (0, M)
  | n + 1, M, x5, x6 =>
    if (rdI M 88 0 0 (nn 1)) ≤ x6 then
      ((x5, M))
    else
      (bnd (f_X13_laysParts M x6 9999) fun M19 =>
      (bnd (x5 ||| ((((rdI M19 85 0 0 0) >>> (x4 &&& 31)) &&& 1) <<< (x6 &&& 31))) fun v20 =>
      (f_X13_death_106 x4 n M19 v20 (x6 + 1))))
def s_X13_death_106 (x4 : Int32)  : Nat → gM → Int32 → Int32 → Prop
  | 0, _, _, _ => False
  | n + 1, M, x5, x6 =>
    (vp_in 1 502) ∧
    (if (rdI M 88 0 0 (nn 1)) ≤ x6 then
      (True)
    else
      ((s_X13_laysParts M x6 9999) ∧
      (bndP (f_X13_laysParts M x6 9999) fun M19 =>
      (bndP (x5 ||| ((((rdI M19 85 0 0 0) >>> (x4 &&& 31)) &&& 1) <<< (x6 &&& 31))) fun v20 =>
      (s_X13_death_106 x4 n M19 v20 (x6 + 1))))))
theorem o_X13_death_106 (x4 : Int32)  : ∀ (n : Nat) (M : gM) (x5 : Int32) (x6 : Int32), offW [67, 80, 81, 82, 83, 84, 85, 97, 98] M (f_X13_death_106 x4  n M x5 x6).2 := by
  intro n
  induction n with
  | zero => intro M x5 x6; exact offR
  | succ n ih =>
    intro M x5 x6
    rw [f_X13_death_106]
    refine offI2 ?_ ?_
    · exact offR
    · refine offB2 (offR.tr ((o_X13_laysParts M x6 9999).mono (by decide))) (fun M19 oM19 => ?_)
      refine offV2 (fun v20 => ?_)
      exact oM19.tr (ih M19 v20 (x6 + 1))
set_option maxRecDepth 100000 in
set_option maxHeartbeats 4000000 in
theorem t_X13_death_106 {E : gE} {K : Int32 × gM → Prop} {Q : Option Value → gM → Prop} (hK : ∀ z : Int32 × gM, K z → Q (some (.int z.1)) z.2) (x4 : Int32)   : ∀ (n : Nat) (M : gM) (x5 : Int32) (x6 : Int32) , s_X13_death_106 x4  n M x5 x6 → K (f_X13_death_106 x4  n M x5 x6) → gG E RX13 cX13_death 7 (some .int) (rm 11) 106 [(0, .ref (gla E 226)), (4, .int x4), (5, .int x5), (6, .int x6)] [] M Q := by
  intro n
  induction n with
  | zero => intro M x5 x6 hs hQ; exact (hs : False).elim
  | succ n ih =>
    intro M x5 x6 hs hQ
    rw [s_X13_death_106] at hs
    rw [f_X13_death_106] at hQ
    refine g_iload 3 dX13_death_106 rfl ?_
    refine g_aload_n 0 dX13_death_108 rfl ?_
    refine g_getR 226 228 fd_X13_13 dF_Md rfl rfl dX13_death_109 ?_
    refine g_iconst (v := 1) dX13_death_112 (by decide) ?_
    have h16 := hs.1; have hs := hs.2
    refine g_iald 228 dF_Md_world h16 dX13_death_113 ?_
    refine g_icmp_ge 149 dX13_death_114 (by decide) (fun c17 => ?_) (fun c17 => ?_)
    · have hs := ifSt hs c17; have hQ := ifQt hQ c17
      refine g_iload 2 dX13_death_149 rfl ?_
      exact g_iret rfl dX13_death_151 (hK _ hQ)
    · have hs := ifSf hs c17; have hQ := ifQf hQ c17
      refine g_aload_n 0 dX13_death_117 rfl ?_
      refine g_iload 3 dX13_death_118 rfl ?_
      refine g_sipush (v := 9999) dX13_death_120 (by decide) ?_
      have h18 := hs.1; have hs := hs.2
      refine g_callV (As := [.int x6, .int 9999]) (st := []) 226 (c_X13_laysParts E M x6 9999 h18) mt_X13_laysParts ml_X13_329 dF_Md rfl rfl sg_X13_laysParts rfl (by decide) (Nat.le_of_ble_eq_true rfl) dX13_death_123 ?_
      rintro _ M19 ⟨rfl, hM19⟩
      have hQ := bndQ hQ M19 hM19; have hs := bndS hs M19 hM19
      refine g_iload 2 dX13_death_126 rfl ?_
      refine g_aload_n 0 dX13_death_128 rfl ?_
      refine g_getI 226 fd_X13_318 dF_Md rfl dX13_death_129 ?_
      refine g_iload 1 dX13_death_132 rfl ?_
      refine g_ishr dX13_death_134 ?_
      refine g_iconst (v := 1) dX13_death_135 (by decide) ?_
      refine g_iand dX13_death_136 ?_
      refine g_iload 3 dX13_death_137 rfl ?_
      refine g_ishl dX13_death_139 ?_
      refine g_ior dX13_death_140 ?_
      refine g_topI (fun v20 hv20 => ?_)
      have hQ := bndQ hQ v20 hv20; have hs := bndS hs v20 hv20
      refine g_istore _ dX13_death_141 (by decide) rfl ?_
      refine g_iinc 3 (v := x6 + 1) _ dX13_death_143 rfl rfl (by decide) rfl ?_
      refine g_goto 106 dX13_death_146 (by decide) ?_
      refine g_sub [2, 3, 1, 0] _ rfl ?_
      exact ih M19 v20 (x6 + 1) hs hQ
def f_X13_death_70 (M : gM) (x2 : Int32) (x4 : Int32)  : Int32 × gM :=
  if x4 = (-1) then
    (((-2), M))
  else
    (if 2 ≤ x2 then
      (f_X13_death_106 x4 FU M 0 0)
    else
      (if x2 = 0 then
        ((x4, M))
      else
        ((f_X13_diesOn M x4, M))))
def s_X13_death_70 (M : gM) (x2 : Int32) (x4 : Int32)  : Prop :=
  if x4 = (-1) then
    (True)
  else
    (if 2 ≤ x2 then
      (s_X13_death_106 x4 FU M 0 0)
    else
      (if x2 = 0 then
        (True)
      else
        ((s_X13_diesOn M x4) ∧
        (True))))
theorem o_X13_death_70 (M : gM) (x2 : Int32) (x4 : Int32)  : offW [67, 80, 81, 82, 83, 84, 85, 97, 98] M (f_X13_death_70 M x2 x4 ).2 := by
  rw [f_X13_death_70]
  refine offI2 ?_ ?_
  · exact offR
  · refine offI2 ?_ ?_
    · exact (o_X13_death_106 x4 FU M 0 0)
    · refine offI2 ?_ ?_
      · exact offR
      · exact offR
set_option maxRecDepth 100000 in
set_option maxHeartbeats 4000000 in
theorem t_X13_death_70 {E : gE} {K : Int32 × gM → Prop} {Q : Option Value → gM → Prop} (hK : ∀ z : Int32 × gM, K z → Q (some (.int z.1)) z.2) (M : gM) (x2 : Int32) (x4 : Int32)   (hs : s_X13_death_70 M x2 x4 ) (hQ : K (f_X13_death_70 M x2 x4 )) : gG E RX13 cX13_death 7 (some .int) (rm 11) 70 [(0, .ref (gla E 226)), (2, .int x2), (4, .int x4)] [] M Q := by
  rw [s_X13_death_70] at hs
  rw [f_X13_death_70] at hQ
  refine g_iload 2 dX13_death_70 rfl ?_
  refine g_iconst (v := (-1)) dX13_death_72 (by decide) ?_
  refine g_icmp_ne 79 dX13_death_73 (by decide) (fun c12 => ?_) (fun c12 => ?_)
  · have hs := ifSf hs c12; have hQ := ifQf hQ c12
    refine g_iload_n 1 dX13_death_79 rfl ?_
    refine g_iconst (v := 2) dX13_death_80 (by decide) ?_
    refine g_icmp_ge 100 dX13_death_81 (by decide) (fun c13 => ?_) (fun c13 => ?_)
    · have hs := ifSt hs c13; have hQ := ifQt hQ c13
      refine g_iconst (v := 0) dX13_death_100 (by decide) ?_
      refine g_istore _ dX13_death_101 (by decide) rfl ?_
      refine g_iconst (v := 0) dX13_death_103 (by decide) ?_
      refine g_istore _ dX13_death_104 (by decide) rfl ?_
      refine g_sub [2, 4, 1, 0] _ rfl ?_
      exact t_X13_death_106 hK x4 FU M 0 0 hs hQ
    · have hs := ifSf hs c13; have hQ := ifQf hQ c13
      refine g_iload_n 1 dX13_death_84 rfl ?_
      refine g_if_ne 93 dX13_death_85 (by decide) (fun c14 => ?_) (fun c14 => ?_)
      · have hs := ifSf hs c14; have hQ := ifQf hQ c14
        refine g_aload_n 0 dX13_death_93 rfl ?_
        refine g_iload 2 dX13_death_94 rfl ?_
        have h15 := hs.1; have hs := hs.2
        refine g_callV (As := [.int x4]) (st := []) 226 (c_X13_diesOn E M x4 h15) mt_X13_diesOn ml_X13_203 dF_Md rfl rfl sg_X13_diesOn rfl (by decide) (Nat.le_of_ble_eq_true rfl) dX13_death_96 ?_
        rintro _ _ ⟨q1, q2⟩; rw [q1, q2]; clear q1 q2
        exact g_iret rfl dX13_death_99 (hK _ hQ)
      · have hs := ifSt hs c14; have hQ := ifQt hQ c14
        refine g_iload 2 dX13_death_88 rfl ?_
        refine g_goto 99 dX13_death_90 (by decide) ?_
        exact g_iret rfl dX13_death_99 (hK _ hQ)
  · have hs := ifSt hs c12; have hQ := ifQt hQ c12
    refine g_bipush (v := (-2)) dX13_death_76 (by decide) ?_
    exact g_iret rfl dX13_death_78 (hK _ hQ)
def f_X13_death_35 (M : gM) (x1 : Int32) (x2 : Int32)  : Nat → Int32 → Int32 → Int32 → Int32 × gM
  | 0, _, _, _ => (0, M)
  | n + 1, x3, x4, x5 =>
    if x1 ≤ x5 then
      (f_X13_death_70 M x2 x4)
    else
      (if x4 = (-1) then
        (f_X13_death_70 M x2 x4)
      else
        (bnd (x3 ||| (1 <<< (x4 &&& 31))) fun v9 =>
        (bnd (f_X13_nextDeath M v9 9999) fun v11 =>
        (f_X13_death_35 M x1 x2 n v9 v11 (x5 + 1)))))
def s_X13_death_35 (M : gM) (x1 : Int32) (x2 : Int32)  : Nat → Int32 → Int32 → Int32 → Prop
  | 0, _, _, _ => False
  | n + 1, x3, x4, x5 =>
    if x1 ≤ x5 then
      (s_X13_death_70 M x2 x4)
    else
      (if x4 = (-1) then
        (s_X13_death_70 M x2 x4)
      else
        (bndP (x3 ||| (1 <<< (x4 &&& 31))) fun v9 =>
        ((s_X13_nextDeath M v9 9999) ∧
        (bndP (f_X13_nextDeath M v9 9999) fun v11 =>
        (s_X13_death_35 M x1 x2 n v9 v11 (x5 + 1))))))
theorem o_X13_death_35 (M : gM) (x1 : Int32) (x2 : Int32)  : ∀ (n : Nat) (x3 : Int32) (x4 : Int32) (x5 : Int32), offW [67, 80, 81, 82, 83, 84, 85, 97, 98] M (f_X13_death_35 M x1 x2  n x3 x4 x5).2 := by
  intro n
  induction n with
  | zero => intro x3 x4 x5; exact offR
  | succ n ih =>
    intro x3 x4 x5
    rw [f_X13_death_35]
    refine offI2 ?_ ?_
    · exact (o_X13_death_70 M x2 x4)
    · refine offI2 ?_ ?_
      · exact (o_X13_death_70 M x2 x4)
      · refine offV2 (fun v9 => ?_)
        refine offV2 (fun v11 => ?_)
        exact (ih v9 v11 (x5 + 1))
set_option maxRecDepth 100000 in
set_option maxHeartbeats 4000000 in
theorem t_X13_death_35 {E : gE} {K : Int32 × gM → Prop} {Q : Option Value → gM → Prop} (hK : ∀ z : Int32 × gM, K z → Q (some (.int z.1)) z.2) (M : gM) (x1 : Int32) (x2 : Int32)   : ∀ (n : Nat) (x3 : Int32) (x4 : Int32) (x5 : Int32) , s_X13_death_35 M x1 x2  n x3 x4 x5 → K (f_X13_death_35 M x1 x2  n x3 x4 x5) → gG E RX13 cX13_death 7 (some .int) (rm 11) 35 [(0, .ref (gla E 226)), (1, .int x1), (2, .int x2), (3, .int x3), (4, .int x4), (5, .int x5)] [] M Q := by
  intro n
  induction n with
  | zero => intro x3 x4 x5 hs hQ; exact (hs : False).elim
  | succ n ih =>
    intro x3 x4 x5 hs hQ
    rw [s_X13_death_35] at hs
    rw [f_X13_death_35] at hQ
    refine g_iload 5 dX13_death_35 rfl ?_
    refine g_iload_n 1 dX13_death_37 rfl ?_
    refine g_icmp_ge 70 dX13_death_38 (by decide) (fun c7 => ?_) (fun c7 => ?_)
    · have hs := ifSt hs c7; have hQ := ifQt hQ c7
      refine g_sub [0, 2, 4] _ rfl ?_
      exact t_X13_death_70 hK M x2 x4 hs hQ
    · have hs := ifSf hs c7; have hQ := ifQf hQ c7
      refine g_iload 4 dX13_death_41 rfl ?_
      refine g_iconst (v := (-1)) dX13_death_43 (by decide) ?_
      refine g_icmp_eq 70 dX13_death_44 (by decide) (fun c8 => ?_) (fun c8 => ?_)
      · have hs := ifSt hs c8; have hQ := ifQt hQ c8
        refine g_sub [0, 2, 4] _ rfl ?_
        exact t_X13_death_70 hK M x2 x4 hs hQ
      · have hs := ifSf hs c8; have hQ := ifQf hQ c8
        refine g_iload_n 3 dX13_death_47 rfl ?_
        refine g_iconst (v := 1) dX13_death_48 (by decide) ?_
        refine g_iload 4 dX13_death_49 rfl ?_
        refine g_ishl dX13_death_51 ?_
        refine g_ior dX13_death_52 ?_
        refine g_topI (fun v9 hv9 => ?_)
        have hQ := bndQ hQ v9 hv9; have hs := bndS hs v9 hv9
        refine g_istore_n _ dX13_death_53 (by decide) rfl ?_
        refine g_aload_n 1 dX13_death_54 rfl ?_
        refine g_iload_n 0 dX13_death_55 rfl ?_
        refine g_sipush (v := 9999) dX13_death_56 (by decide) ?_
        have h10 := hs.1; have hs := hs.2
        refine g_callV (As := [.int v9, .int 9999]) (st := []) 226 (c_X13_nextDeath E M v9 9999 h10) mt_X13_nextDeath ml_X13_321 dF_Md rfl rfl sg_X13_nextDeath rfl (by decide) (Nat.le_of_ble_eq_true rfl) dX13_death_59 ?_
        rintro _ _ ⟨q1, q2⟩; rw [q1, q2]; clear q1 q2
        refine g_topI (fun v11 hv11 => ?_)
        have hQ := bndQ hQ v11 hv11; have hs := bndS hs v11 hv11
        refine g_istore _ dX13_death_62 (by decide) rfl ?_
        refine g_iinc 5 (v := x5 + 1) _ dX13_death_64 rfl rfl (by decide) rfl ?_
        refine g_goto 35 dX13_death_67 (by decide) ?_
        refine g_sub [3, 4, 5, 2, 1, 0] _ rfl ?_
        exact ih v9 v11 (x5 + 1) hs hQ
def f_X13_death (M : gM) (x1 : Int32) (x2 : Int32) : Int32 × gM :=
  bnd (wrI M 67 0 0 0 0) fun M1 =>
  (if x1 < 0 then
    (((-1), M1))
  else
    (if x2 < 0 then
      (((-1), M1))
    else
      (if x2 ≤ 2 then
        (bnd (f_X13_nextDeath M1 0 9999) fun v6 =>
        (f_X13_death_35 M1 x1 x2 FU 0 v6 0))
      else
        (((-1), M1)))))
def s_X13_death (M : gM) (x1 : Int32) (x2 : Int32) : Prop :=
  bndP (wrI M 67 0 0 0 0) fun M1 =>
  (if x1 < 0 then
    (True)
  else
    (if x2 < 0 then
      (True)
    else
      (if x2 ≤ 2 then
        ((s_X13_nextDeath M1 0 9999) ∧
        (bndP (f_X13_nextDeath M1 0 9999) fun v6 =>
        (s_X13_death_35 M1 x1 x2 FU 0 v6 0)))
      else
        (True))))
theorem o_X13_death (M : gM) (x1 : Int32) (x2 : Int32) : offW [67, 80, 81, 82, 83, 84, 85, 97, 98] M (f_X13_death M x1 x2).2 := by
  rw [f_X13_death]
  refine offB2 (offR.wI (by decide)) (fun M1 oM1 => ?_)
  refine offI2 ?_ ?_
  · exact oM1
  · refine offI2 ?_ ?_
    · exact oM1
    · refine offI2 ?_ ?_
      · refine offV2 (fun v6 => ?_)
        exact oM1.tr (o_X13_death_35 M1 x1 x2 FU 0 v6 0)
      · exact oM1
set_option maxRecDepth 100000 in
set_option maxHeartbeats 4000000 in
theorem t_X13_death {E : gE} {K : Int32 × gM → Prop} {Q : Option Value → gM → Prop} (hK : ∀ z : Int32 × gM, K z → Q (some (.int z.1)) z.2) (M : gM) (x1 : Int32) (x2 : Int32)  (hs : s_X13_death M x1 x2) (hQ : K (f_X13_death M x1 x2)) : gG E RX13 cX13_death 7 (some .int) (rm 11) 0 [(0, .ref (gla E 226)), (1, .int x1), (2, .int x2)] [] M Q := by
  rw [s_X13_death] at hs
  rw [f_X13_death] at hQ
  refine g_aload_n 0 dX13_death_0 rfl ?_
  refine g_iconst (v := 0) dX13_death_1 (by decide) ?_
  refine g_putI 226 fd_X13_61 dF_Md rfl dX13_death_2 (fun M1 hM1 => ?_)
  have hQ := bndQ hQ M1 hM1; have hs := bndS hs M1 hM1
  refine g_iload_n 1 dX13_death_5 rfl ?_
  refine g_if_lt 18 dX13_death_6 (by decide) (fun c2 => ?_) (fun c2 => ?_)
  · have hs := ifSt hs c2; have hQ := ifQt hQ c2
    refine g_iconst (v := (-1)) dX13_death_18 (by decide) ?_
    exact g_iret rfl dX13_death_19 (hK _ hQ)
  · have hs := ifSf hs c2; have hQ := ifQf hQ c2
    refine g_iload_n 2 dX13_death_9 rfl ?_
    refine g_if_lt 18 dX13_death_10 (by decide) (fun c3 => ?_) (fun c3 => ?_)
    · have hs := ifSt hs c3; have hQ := ifQt hQ c3
      refine g_iconst (v := (-1)) dX13_death_18 (by decide) ?_
      exact g_iret rfl dX13_death_19 (hK _ hQ)
    · have hs := ifSf hs c3; have hQ := ifQf hQ c3
      refine g_iload_n 2 dX13_death_13 rfl ?_
      refine g_iconst (v := 2) dX13_death_14 (by decide) ?_
      refine g_icmp_le 20 dX13_death_15 (by decide) (fun c4 => ?_) (fun c4 => ?_)
      · have hs := ifSt hs c4; have hQ := ifQt hQ c4
        refine g_iconst (v := 0) dX13_death_20 (by decide) ?_
        refine g_istore_n _ dX13_death_21 (by decide) rfl ?_
        refine g_aload_n 1 dX13_death_22 rfl ?_
        refine g_iload_n 0 dX13_death_23 rfl ?_
        refine g_sipush (v := 9999) dX13_death_24 (by decide) ?_
        have h5 := hs.1; have hs := hs.2
        refine g_callV (As := [.int 0, .int 9999]) (st := []) 226 (c_X13_nextDeath E M1 0 9999 h5) mt_X13_nextDeath ml_X13_321 dF_Md rfl rfl sg_X13_nextDeath rfl (by decide) (Nat.le_of_ble_eq_true rfl) dX13_death_27 ?_
        rintro _ _ ⟨q1, q2⟩; rw [q1, q2]; clear q1 q2
        refine g_topI (fun v6 hv6 => ?_)
        have hQ := bndQ hQ v6 hv6; have hs := bndS hs v6 hv6
        refine g_istore _ dX13_death_30 (by decide) rfl ?_
        refine g_iconst (v := 0) dX13_death_32 (by decide) ?_
        refine g_istore _ dX13_death_33 (by decide) rfl ?_
        refine g_sub [3, 4, 5, 2, 1, 0] _ rfl ?_
        exact t_X13_death_35 hK M1 x1 x2 FU 0 v6 0 hs hQ
      · have hs := ifSf hs c4; have hQ := ifQf hQ c4
        refine g_iconst (v := (-1)) dX13_death_18 (by decide) ?_
        exact g_iret rfl dX13_death_19 (hK _ hQ)
theorem c_X13_death (E : gE) (M : gM) (x1 : Int32) (x2 : Int32) (hs : s_X13_death M x1 x2) : gC E yX13_death cX13_death 7 (some .int) (rm 11) [.ref (gla E 226), .int x1, .int x2] M (fun o N => o = some (.int (f_X13_death M x1 x2).1) ∧ N = (f_X13_death M x1 x2).2) :=
  gC.of (by decide +kernel) (Nat.le_of_ble_eq_true rfl) rfl (t_X13_death (K := fun z => z = f_X13_death M x1 x2) (fun z hz => by rw [hz]; exact ⟨rfl, rfl⟩) M x1 x2 hs rfl)
def f_X13_moves (M : gM) (x1 : Int32) (x2 : Int32) : Int32 × gM :=
  bnd (wrI M 67 0 0 0 0) fun M1 =>
  (if (f_X13_isThing M1 x1) = 0 then
    (((-1), M1))
  else
    (if x2 < 0 then
      (((-1), M1))
    else
      (if x2 ≤ 1 then
        (bnd (f_X13_laysParts M1 x1 9999) fun M7 =>
        (if x2 = 0 then
          ((rdI M7 83 0 0 0, M7))
        else
          ((rdI M7 84 0 0 0, M7))))
      else
        (((-1), M1)))))
def s_X13_moves (M : gM) (x1 : Int32) (x2 : Int32) : Prop :=
  bndP (wrI M 67 0 0 0 0) fun M1 =>
  ((s_X13_isThing M1 x1) ∧
  (if (f_X13_isThing M1 x1) = 0 then
    (True)
  else
    (if x2 < 0 then
      (True)
    else
      (if x2 ≤ 1 then
        ((s_X13_laysParts M1 x1 9999) ∧
        (bndP (f_X13_laysParts M1 x1 9999) fun M7 =>
        (if x2 = 0 then
          (True)
        else
          (True))))
      else
        (True)))))
theorem o_X13_moves (M : gM) (x1 : Int32) (x2 : Int32) : offW [67, 80, 81, 82, 83, 84, 85, 97, 98] M (f_X13_moves M x1 x2).2 := by
  rw [f_X13_moves]
  refine offB2 (offR.wI (by decide)) (fun M1 oM1 => ?_)
  refine offI2 ?_ ?_
  · exact oM1
  · refine offI2 ?_ ?_
    · exact oM1
    · refine offI2 ?_ ?_
      · refine offB2 (oM1.tr ((o_X13_laysParts M1 x1 9999).mono (by decide))) (fun M7 oM7 => ?_)
        refine offI2 ?_ ?_
        · exact oM7
        · exact oM7
      · exact oM1
set_option maxRecDepth 100000 in
set_option maxHeartbeats 4000000 in
theorem t_X13_moves {E : gE} {K : Int32 × gM → Prop} {Q : Option Value → gM → Prop} (hK : ∀ z : Int32 × gM, K z → Q (some (.int z.1)) z.2) (M : gM) (x1 : Int32) (x2 : Int32)  (hs : s_X13_moves M x1 x2) (hQ : K (f_X13_moves M x1 x2)) : gG E RX13 cX13_moves 3 (some .int) (rm 11) 0 [(0, .ref (gla E 226)), (1, .int x1), (2, .int x2)] [] M Q := by
  rw [s_X13_moves] at hs
  rw [f_X13_moves] at hQ
  refine g_aload_n 0 dX13_moves_0 rfl ?_
  refine g_iconst (v := 0) dX13_moves_1 (by decide) ?_
  refine g_putI 226 fd_X13_61 dF_Md rfl dX13_moves_2 (fun M1 hM1 => ?_)
  have hQ := bndQ hQ M1 hM1; have hs := bndS hs M1 hM1
  refine g_aload_n 0 dX13_moves_5 rfl ?_
  refine g_iload_n 1 dX13_moves_6 rfl ?_
  have h2 := hs.1; have hs := hs.2
  refine g_callV (As := [.int x1]) (st := []) 226 (c_X13_isThing E M1 x1 h2) mt_X13_isThing ml_X13_221 dF_Md rfl rfl sg_X13_isThing rfl (by decide) (Nat.le_of_ble_eq_true rfl) dX13_moves_7 ?_
  rintro _ _ ⟨q1, q2⟩; rw [q1, q2]; clear q1 q2
  refine g_if_eq 22 dX13_moves_10 (by decide) (fun c3 => ?_) (fun c3 => ?_)
  · have hs := ifSt hs c3; have hQ := ifQt hQ c3
    refine g_iconst (v := (-1)) dX13_moves_22 (by decide) ?_
    exact g_iret rfl dX13_moves_23 (hK _ hQ)
  · have hs := ifSf hs c3; have hQ := ifQf hQ c3
    refine g_iload_n 2 dX13_moves_13 rfl ?_
    refine g_if_lt 22 dX13_moves_14 (by decide) (fun c4 => ?_) (fun c4 => ?_)
    · have hs := ifSt hs c4; have hQ := ifQt hQ c4
      refine g_iconst (v := (-1)) dX13_moves_22 (by decide) ?_
      exact g_iret rfl dX13_moves_23 (hK _ hQ)
    · have hs := ifSf hs c4; have hQ := ifQf hQ c4
      refine g_iload_n 2 dX13_moves_17 rfl ?_
      refine g_iconst (v := 1) dX13_moves_18 (by decide) ?_
      refine g_icmp_le 24 dX13_moves_19 (by decide) (fun c5 => ?_) (fun c5 => ?_)
      · have hs := ifSt hs c5; have hQ := ifQt hQ c5
        refine g_aload_n 0 dX13_moves_24 rfl ?_
        refine g_iload_n 1 dX13_moves_25 rfl ?_
        refine g_sipush (v := 9999) dX13_moves_26 (by decide) ?_
        have h6 := hs.1; have hs := hs.2
        refine g_callV (As := [.int x1, .int 9999]) (st := []) 226 (c_X13_laysParts E M1 x1 9999 h6) mt_X13_laysParts ml_X13_329 dF_Md rfl rfl sg_X13_laysParts rfl (by decide) (Nat.le_of_ble_eq_true rfl) dX13_moves_29 ?_
        rintro _ M7 ⟨rfl, hM7⟩
        have hQ := bndQ hQ M7 hM7; have hs := bndS hs M7 hM7
        refine g_iload_n 2 dX13_moves_32 rfl ?_
        refine g_if_ne 43 dX13_moves_33 (by decide) (fun c8 => ?_) (fun c8 => ?_)
        · have hs := ifSf hs c8; have hQ := ifQf hQ c8
          refine g_aload_n 0 dX13_moves_43 rfl ?_
          refine g_getI 226 fd_X13_315 dF_Md rfl dX13_moves_44 ?_
          exact g_iret rfl dX13_moves_47 (hK _ hQ)
        · have hs := ifSt hs c8; have hQ := ifQt hQ c8
          refine g_aload_n 0 dX13_moves_36 rfl ?_
          refine g_getI 226 fd_X13_312 dF_Md rfl dX13_moves_37 ?_
          refine g_goto 47 dX13_moves_40 (by decide) ?_
          exact g_iret rfl dX13_moves_47 (hK _ hQ)
      · have hs := ifSf hs c5; have hQ := ifQf hQ c5
        refine g_iconst (v := (-1)) dX13_moves_22 (by decide) ?_
        exact g_iret rfl dX13_moves_23 (hK _ hQ)
theorem c_X13_moves (E : gE) (M : gM) (x1 : Int32) (x2 : Int32) (hs : s_X13_moves M x1 x2) : gC E yX13_moves cX13_moves 3 (some .int) (rm 11) [.ref (gla E 226), .int x1, .int x2] M (fun o N => o = some (.int (f_X13_moves M x1 x2).1) ∧ N = (f_X13_moves M x1 x2).2) :=
  gC.of (by decide +kernel) (Nat.le_of_ble_eq_true rfl) rfl (t_X13_moves (K := fun z => z = f_X13_moves M x1 x2) (fun z hz => by rw [hz]; exact ⟨rfl, rfl⟩) M x1 x2 hs rfl)
def f_X13_holders_29 (M : gM)  : Int32 × gM :=
  ((-1), M)
def s_X13_holders_29 (M : gM)  : Prop :=
  True
theorem o_X13_holders_29 (M : gM)  : offW [67, 80, 81, 82, 83, 84, 85, 97, 98] M (f_X13_holders_29 M ).2 := by
  rw [f_X13_holders_29]
  exact offR
set_option maxRecDepth 100000 in
set_option maxHeartbeats 4000000 in
theorem t_X13_holders_29 {E : gE} {K : Int32 × gM → Prop} {Q : Option Value → gM → Prop} (hK : ∀ z : Int32 × gM, K z → Q (some (.int z.1)) z.2) (M : gM)   (hs : s_X13_holders_29 M ) (hQ : K (f_X13_holders_29 M )) : gG E RX13 cX13_holders 3 (some .int) (rm 12) 29 [] [] M Q := by
  rw [s_X13_holders_29] at hs
  rw [f_X13_holders_29] at hQ
  refine g_iconst (v := (-1)) dX13_holders_29 (by decide) ?_
  exact g_iret rfl dX13_holders_30 (hK _ hQ)
def f_X13_holders (M : gM) (x1 : Int32) (x2 : Int32) : Int32 × gM :=
  bnd (wrI M 67 0 0 0 0) fun M1 =>
  (if (f_X13_isThing M1 x1) = 0 then
    (f_X13_holders_29 M1)
  else
    (if (f_X13_isDay M1 x2) = 0 then
      (f_X13_holders_29 M1)
    else
      (bnd (f_X13_holdersIn M1 x1 x2) fun z7 =>
      ((z7.1, z7.2)))))
def s_X13_holders (M : gM) (x1 : Int32) (x2 : Int32) : Prop :=
  bndP (wrI M 67 0 0 0 0) fun M1 =>
  ((s_X13_isThing M1 x1) ∧
  (if (f_X13_isThing M1 x1) = 0 then
    (s_X13_holders_29 M1)
  else
    ((s_X13_isDay M1 x2) ∧
    (if (f_X13_isDay M1 x2) = 0 then
      (s_X13_holders_29 M1)
    else
      ((s_X13_holdersIn M1 x1 x2) ∧
      (bndP (f_X13_holdersIn M1 x1 x2) fun z7 =>
      (True)))))))
theorem o_X13_holders (M : gM) (x1 : Int32) (x2 : Int32) : offW [67, 80, 81, 82, 83, 84, 85, 97, 98] M (f_X13_holders M x1 x2).2 := by
  rw [f_X13_holders]
  refine offB2 (offR.wI (by decide)) (fun M1 oM1 => ?_)
  refine offI2 ?_ ?_
  · exact oM1.tr (o_X13_holders_29 M1)
  · refine offI2 ?_ ?_
    · exact oM1.tr (o_X13_holders_29 M1)
    · refine offZ2 (oM1.tr ((o_X13_holdersIn M1 x1 x2).mono (by decide))) (fun z7 oz7 => ?_)
      exact oz7
set_option maxRecDepth 100000 in
set_option maxHeartbeats 4000000 in
theorem t_X13_holders {E : gE} {K : Int32 × gM → Prop} {Q : Option Value → gM → Prop} (hK : ∀ z : Int32 × gM, K z → Q (some (.int z.1)) z.2) (M : gM) (x1 : Int32) (x2 : Int32)  (hs : s_X13_holders M x1 x2) (hQ : K (f_X13_holders M x1 x2)) : gG E RX13 cX13_holders 3 (some .int) (rm 12) 0 [(0, .ref (gla E 226)), (1, .int x1), (2, .int x2)] [] M Q := by
  rw [s_X13_holders] at hs
  rw [f_X13_holders] at hQ
  refine g_aload_n 0 dX13_holders_0 rfl ?_
  refine g_iconst (v := 0) dX13_holders_1 (by decide) ?_
  refine g_putI 226 fd_X13_61 dF_Md rfl dX13_holders_2 (fun M1 hM1 => ?_)
  have hQ := bndQ hQ M1 hM1; have hs := bndS hs M1 hM1
  refine g_aload_n 0 dX13_holders_5 rfl ?_
  refine g_iload_n 1 dX13_holders_6 rfl ?_
  have h2 := hs.1; have hs := hs.2
  refine g_callV (As := [.int x1]) (st := []) 226 (c_X13_isThing E M1 x1 h2) mt_X13_isThing ml_X13_221 dF_Md rfl rfl sg_X13_isThing rfl (by decide) (Nat.le_of_ble_eq_true rfl) dX13_holders_7 ?_
  rintro _ _ ⟨q1, q2⟩; rw [q1, q2]; clear q1 q2
  refine g_if_eq 29 dX13_holders_10 (by decide) (fun c3 => ?_) (fun c3 => ?_)
  · have hs := ifSt hs c3; have hQ := ifQt hQ c3
    refine g_sub [] _ rfl ?_
    exact t_X13_holders_29 hK M1 hs hQ
  · have hs := ifSf hs c3; have hQ := ifQf hQ c3
    refine g_iload_n 2 dX13_holders_13 rfl ?_
    have h4 := hs.1; have hs := hs.2
    refine g_callS (As := [.int x2]) (st := []) (c_X13_isDay E M1 x2 h4) mt_X13_isDay ml_X13_230 sg_X13_isDay rfl (by decide) (Nat.le_of_ble_eq_true rfl) dX13_holders_14 ?_
    rintro _ _ ⟨q1, q2⟩; rw [q1, q2]; clear q1 q2
    refine g_if_eq 29 dX13_holders_17 (by decide) (fun c5 => ?_) (fun c5 => ?_)
    · have hs := ifSt hs c5; have hQ := ifQt hQ c5
      refine g_sub [] _ rfl ?_
      exact t_X13_holders_29 hK M1 hs hQ
    · have hs := ifSf hs c5; have hQ := ifQf hQ c5
      refine g_aload_n 0 dX13_holders_20 rfl ?_
      refine g_iload_n 1 dX13_holders_21 rfl ?_
      refine g_iload_n 2 dX13_holders_22 rfl ?_
      have h6 := hs.1; have hs := hs.2
      refine g_callV (As := [.int x1, .int x2]) (st := []) 226 (c_X13_holdersIn E M1 x1 x2 h6) mt_X13_holdersIn ml_X13_332 dF_Md rfl rfl sg_X13_holdersIn rfl (by decide) (Nat.le_of_ble_eq_true rfl) dX13_holders_23 ?_
      rintro _ _ ⟨rfl, rfl⟩
      obtain ⟨z7, hz7⟩ : ∃ z, z = f_X13_holdersIn M1 x1 x2 := ⟨_, rfl⟩
      rw [← hz7]
      have hQ := bndQ hQ z7 hz7; have hs := bndS hs z7 hz7
      refine g_goto 30 dX13_holders_26 (by decide) ?_
      exact g_iret rfl dX13_holders_30 (hK _ hQ)
theorem c_X13_holders (E : gE) (M : gM) (x1 : Int32) (x2 : Int32) (hs : s_X13_holders M x1 x2) : gC E yX13_holders cX13_holders 3 (some .int) (rm 12) [.ref (gla E 226), .int x1, .int x2] M (fun o N => o = some (.int (f_X13_holders M x1 x2).1) ∧ N = (f_X13_holders M x1 x2).2) :=
  gC.of (by decide +kernel) (Nat.le_of_ble_eq_true rfl) rfl (t_X13_holders (K := fun z => z = f_X13_holders M x1 x2) (fun z hz => by rw [hz]; exact ⟨rfl, rfl⟩) M x1 x2 hs rfl)
def f_X13_wealth_21 (M : gM) (x1 : Int32)  : Int32 × gM :=
  if x1 = (-1) then
    (bnd (f_X13_wealthOf M 10) fun z9 =>
    ((z9.1, z9.2)))
  else
    (bnd (f_X13_wealthOf M x1) fun z7 =>
    ((z7.1, z7.2)))
def s_X13_wealth_21 (M : gM) (x1 : Int32)  : Prop :=
  if x1 = (-1) then
    ((s_X13_wealthOf M 10) ∧
    (bndP (f_X13_wealthOf M 10) fun z9 =>
    (True)))
  else
    ((s_X13_wealthOf M x1) ∧
    (bndP (f_X13_wealthOf M x1) fun z7 =>
    (True)))
theorem o_X13_wealth_21 (M : gM) (x1 : Int32)  : offW [67, 80, 81, 82, 83, 84, 85, 97, 98] M (f_X13_wealth_21 M x1 ).2 := by
  rw [f_X13_wealth_21]
  refine offI2 ?_ ?_
  · refine offZ2 (offR.tr ((o_X13_wealthOf M 10).mono (by decide))) (fun z9 oz9 => ?_)
    exact oz9
  · refine offZ2 (offR.tr ((o_X13_wealthOf M x1).mono (by decide))) (fun z7 oz7 => ?_)
    exact oz7
set_option maxRecDepth 100000 in
set_option maxHeartbeats 4000000 in
theorem t_X13_wealth_21 {E : gE} {K : Int32 × gM → Prop} {Q : Option Value → gM → Prop} (hK : ∀ z : Int32 × gM, K z → Q (some (.int z.1)) z.2) (M : gM) (x1 : Int32)   (hs : s_X13_wealth_21 M x1 ) (hQ : K (f_X13_wealth_21 M x1 )) : gG E RX13 cX13_wealth 2 (some .int) (rm 12) 21 [(0, .ref (gla E 226)), (1, .int x1)] [] M Q := by
  rw [s_X13_wealth_21] at hs
  rw [f_X13_wealth_21] at hQ
  refine g_aload_n 0 dX13_wealth_21 rfl ?_
  refine g_iload_n 1 dX13_wealth_22 rfl ?_
  refine g_iconst (v := (-1)) dX13_wealth_23 (by decide) ?_
  refine g_icmp_ne 32 dX13_wealth_24 (by decide) (fun c5 => ?_) (fun c5 => ?_)
  · have hs := ifSf hs c5; have hQ := ifQf hQ c5
    refine g_iload_n 1 dX13_wealth_32 rfl ?_
    have h6 := hs.1; have hs := hs.2
    refine g_callV (As := [.int x1]) (st := []) 226 (c_X13_wealthOf E M x1 h6) mt_X13_wealthOf ml_X13_337 dF_Md rfl rfl sg_X13_wealthOf rfl (by decide) (Nat.le_of_ble_eq_true rfl) dX13_wealth_33 ?_
    rintro _ _ ⟨rfl, rfl⟩
    obtain ⟨z7, hz7⟩ : ∃ z, z = f_X13_wealthOf M x1 := ⟨_, rfl⟩
    rw [← hz7]
    have hQ := bndQ hQ z7 hz7; have hs := bndS hs z7 hz7
    exact g_iret rfl dX13_wealth_36 (hK _ hQ)
  · have hs := ifSt hs c5; have hQ := ifQt hQ c5
    refine g_bipush (v := 10) dX13_wealth_27 (by decide) ?_
    refine g_goto 33 dX13_wealth_29 (by decide) ?_
    have h8 := hs.1; have hs := hs.2
    refine g_callV (As := [.int 10]) (st := []) 226 (c_X13_wealthOf E M 10 h8) mt_X13_wealthOf ml_X13_337 dF_Md rfl rfl sg_X13_wealthOf rfl (by decide) (Nat.le_of_ble_eq_true rfl) dX13_wealth_33 ?_
    rintro _ _ ⟨rfl, rfl⟩
    obtain ⟨z9, hz9⟩ : ∃ z, z = f_X13_wealthOf M 10 := ⟨_, rfl⟩
    rw [← hz9]
    have hQ := bndQ hQ z9 hz9; have hs := bndS hs z9 hz9
    exact g_iret rfl dX13_wealth_36 (hK _ hQ)
def f_X13_wealth (M : gM) (x1 : Int32) : Int32 × gM :=
  bnd (wrI M 67 0 0 0 0) fun M1 =>
  (if x1 = (-1) then
    (f_X13_wealth_21 M1 x1)
  else
    (if (f_X13_isPerson M1 x1) = 0 then
      (((-2), M1))
    else
      (f_X13_wealth_21 M1 x1)))
def s_X13_wealth (M : gM) (x1 : Int32) : Prop :=
  bndP (wrI M 67 0 0 0 0) fun M1 =>
  (if x1 = (-1) then
    (s_X13_wealth_21 M1 x1)
  else
    ((s_X13_isPerson M1 x1) ∧
    (if (f_X13_isPerson M1 x1) = 0 then
      (True)
    else
      (s_X13_wealth_21 M1 x1))))
theorem o_X13_wealth (M : gM) (x1 : Int32) : offW [67, 80, 81, 82, 83, 84, 85, 97, 98] M (f_X13_wealth M x1).2 := by
  rw [f_X13_wealth]
  refine offB2 (offR.wI (by decide)) (fun M1 oM1 => ?_)
  refine offI2 ?_ ?_
  · exact oM1.tr (o_X13_wealth_21 M1 x1)
  · refine offI2 ?_ ?_
    · exact oM1
    · exact oM1.tr (o_X13_wealth_21 M1 x1)
set_option maxRecDepth 100000 in
set_option maxHeartbeats 4000000 in
theorem t_X13_wealth {E : gE} {K : Int32 × gM → Prop} {Q : Option Value → gM → Prop} (hK : ∀ z : Int32 × gM, K z → Q (some (.int z.1)) z.2) (M : gM) (x1 : Int32)  (hs : s_X13_wealth M x1) (hQ : K (f_X13_wealth M x1)) : gG E RX13 cX13_wealth 2 (some .int) (rm 12) 0 [(0, .ref (gla E 226)), (1, .int x1)] [] M Q := by
  rw [s_X13_wealth] at hs
  rw [f_X13_wealth] at hQ
  refine g_aload_n 0 dX13_wealth_0 rfl ?_
  refine g_iconst (v := 0) dX13_wealth_1 (by decide) ?_
  refine g_putI 226 fd_X13_61 dF_Md rfl dX13_wealth_2 (fun M1 hM1 => ?_)
  have hQ := bndQ hQ M1 hM1; have hs := bndS hs M1 hM1
  refine g_iload_n 1 dX13_wealth_5 rfl ?_
  refine g_iconst (v := (-1)) dX13_wealth_6 (by decide) ?_
  refine g_icmp_eq 21 dX13_wealth_7 (by decide) (fun c2 => ?_) (fun c2 => ?_)
  · have hs := ifSt hs c2; have hQ := ifQt hQ c2
    exact t_X13_wealth_21 hK M1 x1 hs hQ
  · have hs := ifSf hs c2; have hQ := ifQf hQ c2
    refine g_aload_n 0 dX13_wealth_10 rfl ?_
    refine g_iload_n 1 dX13_wealth_11 rfl ?_
    have h3 := hs.1; have hs := hs.2
    refine g_callV (As := [.int x1]) (st := []) 226 (c_X13_isPerson E M1 x1 h3) mt_X13_isPerson ml_X13_206 dF_Md rfl rfl sg_X13_isPerson rfl (by decide) (Nat.le_of_ble_eq_true rfl) dX13_wealth_12 ?_
    rintro _ _ ⟨q1, q2⟩; rw [q1, q2]; clear q1 q2
    refine g_if_ne 21 dX13_wealth_15 (by decide) (fun c4 => ?_) (fun c4 => ?_)
    · have hs := ifSf hs c4; have hQ := ifQf hQ c4
      exact t_X13_wealth_21 hK M1 x1 hs hQ
    · have hs := ifSt hs c4; have hQ := ifQt hQ c4
      refine g_bipush (v := (-2)) dX13_wealth_18 (by decide) ?_
      exact g_iret rfl dX13_wealth_20 (hK _ hQ)
theorem c_X13_wealth (E : gE) (M : gM) (x1 : Int32) (hs : s_X13_wealth M x1) : gC E yX13_wealth cX13_wealth 2 (some .int) (rm 12) [.ref (gla E 226), .int x1] M (fun o N => o = some (.int (f_X13_wealth M x1).1) ∧ N = (f_X13_wealth M x1).2) :=
  gC.of (by decide +kernel) (Nat.le_of_ble_eq_true rfl) rfl (t_X13_wealth (K := fun z => z = f_X13_wealth M x1) (fun z hz => by rw [hz]; exact ⟨rfl, rfl⟩) M x1 hs rfl)
def f_X13_gainOf (M : gM) (x1 : Int32) (x2 : Int32) : Int32 × gM :=
  bnd (f_X13_wealthOf M x1) fun z2 =>
  (bnd (rdI z2.2 92 0 0 (nn (34 + x2))) fun v4 =>
  (bnd (wrI z2.2 92 0 0 (nn (34 + x2)) 1) fun M6 =>
  (bnd (f_X13_wealthOf M6 x1) fun z8 =>
  (bnd (wrI z8.2 92 0 0 (nn (34 + x2)) v4) fun M10 =>
  ((z2.1 - z8.1, M10))))))
def s_X13_gainOf (M : gM) (x1 : Int32) (x2 : Int32) : Prop :=
  (s_X13_wealthOf M x1) ∧
  (bndP (f_X13_wealthOf M x1) fun z2 =>
  ((vp_in (34 + x2) 65) ∧
  (bndP (rdI z2.2 92 0 0 (nn (34 + x2))) fun v4 =>
  ((vp_in (34 + x2) 65) ∧
  (bndP (wrI z2.2 92 0 0 (nn (34 + x2)) 1) fun M6 =>
  ((s_X13_wealthOf M6 x1) ∧
  (bndP (f_X13_wealthOf M6 x1) fun z8 =>
  ((vp_in (34 + x2) 65) ∧
  (bndP (wrI z8.2 92 0 0 (nn (34 + x2)) v4) fun M10 =>
  (True))))))))))
theorem o_X13_gainOf (M : gM) (x1 : Int32) (x2 : Int32) : offW [80, 81, 82, 83, 84, 85, 92, 97, 98] M (f_X13_gainOf M x1 x2).2 := by
  rw [f_X13_gainOf]
  refine offZ2 (offR.tr ((o_X13_wealthOf M x1).mono (by decide))) (fun z2 oz2 => ?_)
  refine offV2 (fun v4 => ?_)
  refine offB2 (oz2.wI (by decide)) (fun M6 oM6 => ?_)
  refine offZ2 (oM6.tr ((o_X13_wealthOf M6 x1).mono (by decide))) (fun z8 oz8 => ?_)
  refine offB2 (oz8.wI (by decide)) (fun M10 oM10 => ?_)
  exact oM10
set_option maxRecDepth 100000 in
set_option maxHeartbeats 4000000 in
theorem t_X13_gainOf {E : gE} {K : Int32 × gM → Prop} {Q : Option Value → gM → Prop} (hK : ∀ z : Int32 × gM, K z → Q (some (.int z.1)) z.2) (M : gM) (x1 : Int32) (x2 : Int32)  (hs : s_X13_gainOf M x1 x2) (hQ : K (f_X13_gainOf M x1 x2)) : gG E RX13 cX13_gainOf 6 (some .int) (rm 12) 0 [(0, .ref (gla E 226)), (1, .int x1), (2, .int x2)] [] M Q := by
  rw [s_X13_gainOf] at hs
  rw [f_X13_gainOf] at hQ
  refine g_aload_n 0 dX13_gainOf_0 rfl ?_
  refine g_iload_n 1 dX13_gainOf_1 rfl ?_
  have h1 := hs.1; have hs := hs.2
  refine g_callV (As := [.int x1]) (st := []) 226 (c_X13_wealthOf E M x1 h1) mt_X13_wealthOf ml_X13_337 dF_Md rfl rfl sg_X13_wealthOf rfl (by decide) (Nat.le_of_ble_eq_true rfl) dX13_gainOf_2 ?_
  rintro _ _ ⟨rfl, rfl⟩
  obtain ⟨z2, hz2⟩ : ∃ z, z = f_X13_wealthOf M x1 := ⟨_, rfl⟩
  rw [← hz2]
  have hQ := bndQ hQ z2 hz2; have hs := bndS hs z2 hz2
  refine g_istore_n _ dX13_gainOf_5 (by decide) rfl ?_
  refine g_aload_n 1 dX13_gainOf_6 rfl ?_
  refine g_getR 226 232 fd_X13_25 dF_Md rfl rfl dX13_gainOf_7 ?_
  refine g_bipush (v := 34) dX13_gainOf_10 (by decide) ?_
  refine g_iload_n 3 dX13_gainOf_12 rfl ?_
  refine g_iadd dX13_gainOf_13 ?_
  have h3 := hs.1; have hs := hs.2
  refine g_iald 232 dF_Md_now h3 dX13_gainOf_14 ?_
  refine g_topI (fun v4 hv4 => ?_)
  have hQ := bndQ hQ v4 hv4; have hs := bndS hs v4 hv4
  refine g_istore _ dX13_gainOf_15 (by decide) rfl ?_
  refine g_aload_n 2 dX13_gainOf_17 rfl ?_
  refine g_getR 226 232 fd_X13_25 dF_Md rfl rfl dX13_gainOf_18 ?_
  refine g_bipush (v := 34) dX13_gainOf_21 (by decide) ?_
  refine g_iload_n 4 dX13_gainOf_23 rfl ?_
  refine g_iadd dX13_gainOf_24 ?_
  refine g_iconst (v := 1) dX13_gainOf_25 (by decide) ?_
  have h5 := hs.1; have hs := hs.2
  refine g_iast 232 dF_Md_now h5 dX13_gainOf_26 (fun M6 hM6 => ?_)
  have hQ := bndQ hQ M6 hM6; have hs := bndS hs M6 hM6
  refine g_aload_n 2 dX13_gainOf_27 rfl ?_
  refine g_iload_n 3 dX13_gainOf_28 rfl ?_
  have h7 := hs.1; have hs := hs.2
  refine g_callV (As := [.int x1]) (st := []) 226 (c_X13_wealthOf E M6 x1 h7) mt_X13_wealthOf ml_X13_337 dF_Md rfl rfl sg_X13_wealthOf rfl (by decide) (Nat.le_of_ble_eq_true rfl) dX13_gainOf_29 ?_
  rintro _ _ ⟨rfl, rfl⟩
  obtain ⟨z8, hz8⟩ : ∃ z, z = f_X13_wealthOf M6 x1 := ⟨_, rfl⟩
  rw [← hz8]
  have hQ := bndQ hQ z8 hz8; have hs := bndS hs z8 hz8
  refine g_istore _ dX13_gainOf_32 (by decide) rfl ?_
  refine g_aload_n 3 dX13_gainOf_34 rfl ?_
  refine g_getR 226 232 fd_X13_25 dF_Md rfl rfl dX13_gainOf_35 ?_
  refine g_bipush (v := 34) dX13_gainOf_38 (by decide) ?_
  refine g_iload_n 5 dX13_gainOf_40 rfl ?_
  refine g_iadd dX13_gainOf_41 ?_
  refine g_iload 1 dX13_gainOf_42 rfl ?_
  have h9 := hs.1; have hs := hs.2
  refine g_iast 232 dF_Md_now h9 dX13_gainOf_44 (fun M10 hM10 => ?_)
  have hQ := bndQ hQ M10 hM10; have hs := bndS hs M10 hM10
  refine g_iload_n 2 dX13_gainOf_45 rfl ?_
  refine g_iload 0 dX13_gainOf_46 rfl ?_
  refine g_isub dX13_gainOf_48 ?_
  exact g_iret rfl dX13_gainOf_49 (hK _ hQ)
theorem c_X13_gainOf (E : gE) (M : gM) (x1 : Int32) (x2 : Int32) (hs : s_X13_gainOf M x1 x2) : gC E yX13_gainOf cX13_gainOf 6 (some .int) (rm 12) [.ref (gla E 226), .int x1, .int x2] M (fun o N => o = some (.int (f_X13_gainOf M x1 x2).1) ∧ N = (f_X13_gainOf M x1 x2).2) :=
  gC.of (by decide +kernel) (Nat.le_of_ble_eq_true rfl) rfl (t_X13_gainOf (K := fun z => z = f_X13_gainOf M x1 x2) (fun z hz => by rw [hz]; exact ⟨rfl, rfl⟩) M x1 x2 hs rfl)
def f_X13_wouldBe (M : gM) (x1 : Int32) (x2 : Int32) (x3 : Int32) : Int32 × gM :=
  bnd (wrI M 92 0 0 (nn x1) x2) fun M3 =>
  (bnd (f_X13_holdersIn M3 x3 9999) fun z5 =>
  (bnd (wrI z5.2 92 0 0 (nn x1) (rdI M 92 0 0 (nn x1))) fun M7 =>
  ((z5.1, M7))))
def s_X13_wouldBe (M : gM) (x1 : Int32) (x2 : Int32) (x3 : Int32) : Prop :=
  (vp_in x1 65) ∧
  ((vp_in x1 65) ∧
  (bndP (wrI M 92 0 0 (nn x1) x2) fun M3 =>
  ((s_X13_holdersIn M3 x3 9999) ∧
  (bndP (f_X13_holdersIn M3 x3 9999) fun z5 =>
  ((vp_in x1 65) ∧
  (bndP (wrI z5.2 92 0 0 (nn x1) (rdI M 92 0 0 (nn x1))) fun M7 =>
  (True)))))))
theorem o_X13_wouldBe (M : gM) (x1 : Int32) (x2 : Int32) (x3 : Int32) : offW [80, 81, 82, 83, 84, 85, 92, 97, 98] M (f_X13_wouldBe M x1 x2 x3).2 := by
  rw [f_X13_wouldBe]
  refine offB2 (offR.wI (by decide)) (fun M3 oM3 => ?_)
  refine offZ2 (oM3.tr ((o_X13_holdersIn M3 x3 9999).mono (by decide))) (fun z5 oz5 => ?_)
  refine offB2 (oz5.wI (by decide)) (fun M7 oM7 => ?_)
  exact oM7
set_option maxRecDepth 100000 in
set_option maxHeartbeats 4000000 in
theorem t_X13_wouldBe {E : gE} {K : Int32 × gM → Prop} {Q : Option Value → gM → Prop} (hK : ∀ z : Int32 × gM, K z → Q (some (.int z.1)) z.2) (M : gM) (x1 : Int32) (x2 : Int32) (x3 : Int32)  (hs : s_X13_wouldBe M x1 x2 x3) (hQ : K (f_X13_wouldBe M x1 x2 x3)) : gG E RX13 cX13_wouldBe 6 (some .int) (rm 12) 0 [(0, .ref (gla E 226)), (1, .int x1), (2, .int x2), (3, .int x3)] [] M Q := by
  rw [s_X13_wouldBe] at hs
  rw [f_X13_wouldBe] at hQ
  refine g_aload_n 0 dX13_wouldBe_0 rfl ?_
  refine g_getR 226 232 fd_X13_25 dF_Md rfl rfl dX13_wouldBe_1 ?_
  refine g_iload_n 1 dX13_wouldBe_4 rfl ?_
  have h1 := hs.1; have hs := hs.2
  refine g_iald 232 dF_Md_now h1 dX13_wouldBe_5 ?_
  refine g_istore _ dX13_wouldBe_6 (by decide) rfl ?_
  refine g_aload_n 1 dX13_wouldBe_8 rfl ?_
  refine g_getR 226 232 fd_X13_25 dF_Md rfl rfl dX13_wouldBe_9 ?_
  refine g_iload_n 2 dX13_wouldBe_12 rfl ?_
  refine g_iload_n 3 dX13_wouldBe_13 rfl ?_
  have h2 := hs.1; have hs := hs.2
  refine g_iast 232 dF_Md_now h2 dX13_wouldBe_14 (fun M3 hM3 => ?_)
  have hQ := bndQ hQ M3 hM3; have hs := bndS hs M3 hM3
  refine g_aload_n 1 dX13_wouldBe_15 rfl ?_
  refine g_iload_n 4 dX13_wouldBe_16 rfl ?_
  refine g_sipush (v := 9999) dX13_wouldBe_17 (by decide) ?_
  have h4 := hs.1; have hs := hs.2
  refine g_callV (As := [.int x3, .int 9999]) (st := []) 226 (c_X13_holdersIn E M3 x3 9999 h4) mt_X13_holdersIn ml_X13_332 dF_Md rfl rfl sg_X13_holdersIn rfl (by decide) (Nat.le_of_ble_eq_true rfl) dX13_wouldBe_20 ?_
  rintro _ _ ⟨rfl, rfl⟩
  obtain ⟨z5, hz5⟩ : ∃ z, z = f_X13_holdersIn M3 x3 9999 := ⟨_, rfl⟩
  rw [← hz5]
  have hQ := bndQ hQ z5 hz5; have hs := bndS hs z5 hz5
  refine g_istore _ dX13_wouldBe_23 (by decide) rfl ?_
  refine g_aload_n 2 dX13_wouldBe_25 rfl ?_
  refine g_getR 226 232 fd_X13_25 dF_Md rfl rfl dX13_wouldBe_26 ?_
  refine g_iload_n 3 dX13_wouldBe_29 rfl ?_
  refine g_iload 1 dX13_wouldBe_30 rfl ?_
  have h6 := hs.1; have hs := hs.2
  refine g_iast 232 dF_Md_now h6 dX13_wouldBe_32 (fun M7 hM7 => ?_)
  have hQ := bndQ hQ M7 hM7; have hs := bndS hs M7 hM7
  refine g_iload 0 dX13_wouldBe_33 rfl ?_
  exact g_iret rfl dX13_wouldBe_35 (hK _ hQ)
theorem c_X13_wouldBe (E : gE) (M : gM) (x1 : Int32) (x2 : Int32) (x3 : Int32) (hs : s_X13_wouldBe M x1 x2 x3) : gC E yX13_wouldBe cX13_wouldBe 6 (some .int) (rm 12) [.ref (gla E 226), .int x1, .int x2, .int x3] M (fun o N => o = some (.int (f_X13_wouldBe M x1 x2 x3).1) ∧ N = (f_X13_wouldBe M x1 x2 x3).2) :=
  gC.of (by decide +kernel) (Nat.le_of_ble_eq_true rfl) rfl (t_X13_wouldBe (K := fun z => z = f_X13_wouldBe M x1 x2 x3) (fun z hz => by rw [hz]; exact ⟨rfl, rfl⟩) M x1 x2 x3 hs rfl)
def f_X13_gain_30 (M : gM)  : Int32 × gM :=
  ((-1000000), M)
def s_X13_gain_30 (M : gM)  : Prop :=
  True
theorem o_X13_gain_30 (M : gM)  : offW [67, 80, 81, 82, 83, 84, 85, 92, 97, 98] M (f_X13_gain_30 M ).2 := by
  rw [f_X13_gain_30]
  exact offR
set_option maxRecDepth 100000 in
set_option maxHeartbeats 4000000 in
theorem t_X13_gain_30 {E : gE} {K : Int32 × gM → Prop} {Q : Option Value → gM → Prop} (hK : ∀ z : Int32 × gM, K z → Q (some (.int z.1)) z.2) (M : gM)   (hs : s_X13_gain_30 M ) (hQ : K (f_X13_gain_30 M )) : gG E RX13 cX13_gain 3 (some .int) (rm 13) 30 [] [] M Q := by
  rw [s_X13_gain_30] at hs
  rw [f_X13_gain_30] at hQ
  refine g_ldcw kc_X13_349 dX13_gain_30 ?_
  exact g_iret rfl dX13_gain_33 (hK _ hQ)
def f_X13_gain (M : gM) (x1 : Int32) (x2 : Int32) : Int32 × gM :=
  bnd (wrI M 67 0 0 0 0) fun M1 =>
  (if (f_X13_isPerson M1 x1) = 0 then
    (f_X13_gain_30 M1)
  else
    (if (f_X13_isPaper M1 x2) = 0 then
      (f_X13_gain_30 M1)
    else
      (bnd (f_X13_gainOf M1 x1 x2) fun z7 =>
      ((z7.1, z7.2)))))
def s_X13_gain (M : gM) (x1 : Int32) (x2 : Int32) : Prop :=
  bndP (wrI M 67 0 0 0 0) fun M1 =>
  ((s_X13_isPerson M1 x1) ∧
  (if (f_X13_isPerson M1 x1) = 0 then
    (s_X13_gain_30 M1)
  else
    ((s_X13_isPaper M1 x2) ∧
    (if (f_X13_isPaper M1 x2) = 0 then
      (s_X13_gain_30 M1)
    else
      ((s_X13_gainOf M1 x1 x2) ∧
      (bndP (f_X13_gainOf M1 x1 x2) fun z7 =>
      (True)))))))
theorem o_X13_gain (M : gM) (x1 : Int32) (x2 : Int32) : offW [67, 80, 81, 82, 83, 84, 85, 92, 97, 98] M (f_X13_gain M x1 x2).2 := by
  rw [f_X13_gain]
  refine offB2 (offR.wI (by decide)) (fun M1 oM1 => ?_)
  refine offI2 ?_ ?_
  · exact oM1.tr (o_X13_gain_30 M1)
  · refine offI2 ?_ ?_
    · exact oM1.tr (o_X13_gain_30 M1)
    · refine offZ2 (oM1.tr ((o_X13_gainOf M1 x1 x2).mono (by decide))) (fun z7 oz7 => ?_)
      exact oz7
set_option maxRecDepth 100000 in
set_option maxHeartbeats 4000000 in
theorem t_X13_gain {E : gE} {K : Int32 × gM → Prop} {Q : Option Value → gM → Prop} (hK : ∀ z : Int32 × gM, K z → Q (some (.int z.1)) z.2) (M : gM) (x1 : Int32) (x2 : Int32)  (hs : s_X13_gain M x1 x2) (hQ : K (f_X13_gain M x1 x2)) : gG E RX13 cX13_gain 3 (some .int) (rm 13) 0 [(0, .ref (gla E 226)), (1, .int x1), (2, .int x2)] [] M Q := by
  rw [s_X13_gain] at hs
  rw [f_X13_gain] at hQ
  refine g_aload_n 0 dX13_gain_0 rfl ?_
  refine g_iconst (v := 0) dX13_gain_1 (by decide) ?_
  refine g_putI 226 fd_X13_61 dF_Md rfl dX13_gain_2 (fun M1 hM1 => ?_)
  have hQ := bndQ hQ M1 hM1; have hs := bndS hs M1 hM1
  refine g_aload_n 0 dX13_gain_5 rfl ?_
  refine g_iload_n 1 dX13_gain_6 rfl ?_
  have h2 := hs.1; have hs := hs.2
  refine g_callV (As := [.int x1]) (st := []) 226 (c_X13_isPerson E M1 x1 h2) mt_X13_isPerson ml_X13_206 dF_Md rfl rfl sg_X13_isPerson rfl (by decide) (Nat.le_of_ble_eq_true rfl) dX13_gain_7 ?_
  rintro _ _ ⟨q1, q2⟩; rw [q1, q2]; clear q1 q2
  refine g_if_eq 30 dX13_gain_10 (by decide) (fun c3 => ?_) (fun c3 => ?_)
  · have hs := ifSt hs c3; have hQ := ifQt hQ c3
    refine g_sub [] _ rfl ?_
    exact t_X13_gain_30 hK M1 hs hQ
  · have hs := ifSf hs c3; have hQ := ifQf hQ c3
    refine g_aload_n 0 dX13_gain_13 rfl ?_
    refine g_iload_n 2 dX13_gain_14 rfl ?_
    have h4 := hs.1; have hs := hs.2
    refine g_callV (As := [.int x2]) (st := []) 226 (c_X13_isPaper E M1 x2 h4) mt_X13_isPaper ml_X13_215 dF_Md rfl rfl sg_X13_isPaper rfl (by decide) (Nat.le_of_ble_eq_true rfl) dX13_gain_15 ?_
    rintro _ _ ⟨q1, q2⟩; rw [q1, q2]; clear q1 q2
    refine g_if_eq 30 dX13_gain_18 (by decide) (fun c5 => ?_) (fun c5 => ?_)
    · have hs := ifSt hs c5; have hQ := ifQt hQ c5
      refine g_sub [] _ rfl ?_
      exact t_X13_gain_30 hK M1 hs hQ
    · have hs := ifSf hs c5; have hQ := ifQf hQ c5
      refine g_aload_n 0 dX13_gain_21 rfl ?_
      refine g_iload_n 1 dX13_gain_22 rfl ?_
      refine g_iload_n 2 dX13_gain_23 rfl ?_
      have h6 := hs.1; have hs := hs.2
      refine g_callV (As := [.int x1, .int x2]) (st := []) 226 (c_X13_gainOf E M1 x1 x2 h6) mt_X13_gainOf ml_X13_346 dF_Md rfl rfl sg_X13_gainOf rfl (by decide) (Nat.le_of_ble_eq_true rfl) dX13_gain_24 ?_
      rintro _ _ ⟨rfl, rfl⟩
      obtain ⟨z7, hz7⟩ : ∃ z, z = f_X13_gainOf M1 x1 x2 := ⟨_, rfl⟩
      rw [← hz7]
      have hQ := bndQ hQ z7 hz7; have hs := bndS hs z7 hz7
      refine g_goto 33 dX13_gain_27 (by decide) ?_
      exact g_iret rfl dX13_gain_33 (hK _ hQ)
theorem c_X13_gain (E : gE) (M : gM) (x1 : Int32) (x2 : Int32) (hs : s_X13_gain M x1 x2) : gC E yX13_gain cX13_gain 3 (some .int) (rm 13) [.ref (gla E 226), .int x1, .int x2] M (fun o N => o = some (.int (f_X13_gain M x1 x2).1) ∧ N = (f_X13_gain M x1 x2).2) :=
  gC.of (by decide +kernel) (Nat.le_of_ble_eq_true rfl) rfl (t_X13_gain (K := fun z => z = f_X13_gain M x1 x2) (fun z hz => by rw [hz]; exact ⟨rfl, rfl⟩) M x1 x2 hs rfl)
def f_X13_against_86 (M : gM) (x3 : Int32)  : Int32 × gM :=
  (x3, M)
def s_X13_against_86 (M : gM) (x3 : Int32)  : Prop :=
  True
theorem o_X13_against_86 (M : gM) (x3 : Int32)  : offW [67, 80, 81, 82, 83, 84, 85, 92, 97, 98] M (f_X13_against_86 M x3 ).2 := by
  rw [f_X13_against_86]
  exact offR
set_option maxRecDepth 100000 in
set_option maxHeartbeats 4000000 in
theorem t_X13_against_86 {E : gE} {K : Int32 × gM → Prop} {Q : Option Value → gM → Prop} (hK : ∀ z : Int32 × gM, K z → Q (some (.int z.1)) z.2) (M : gM) (x3 : Int32)   (hs : s_X13_against_86 M x3 ) (hQ : K (f_X13_against_86 M x3 )) : gG E RX13 cX13_against 7 (some .int) (rm 13) 86 [(3, .int x3)] [] M Q := by
  rw [s_X13_against_86] at hs
  rw [f_X13_against_86] at hQ
  refine g_iload_n 0 dX13_against_86 rfl ?_
  refine g_goto 92 dX13_against_87 (by decide) ?_
  exact g_iret rfl dX13_against_92 (hK _ hQ)
def f_X13_against_33 (x1 : Int32) (x2 : Int32)  : Nat → gM → Int32 → Int32 → Int32 → Int32 × gM
  | 0, M, _, _, _ => (0, M)
  | n + 1, M, x3, x4, x5 =>
    if (rdI M 88 0 0 (nn 2)) ≤ x5 then
      (if x3 = (-2) then
        (f_X13_against_86 M x3)
      else
        (if x2 = 0 then
          (f_X13_against_86 M x3)
        else
          ((x4, M))))
    else
      (bnd (f_X13_gainOf M x1 x5) fun z11 =>
      (if z11.1 < x4 then
        (f_X13_against_33 x1 x2 n z11.2 x5 z11.1 (x5 + 1))
      else
        (f_X13_against_33 x1 x2 n z11.2 x3 x4 (x5 + 1))))
def s_X13_against_33 (x1 : Int32) (x2 : Int32)  : Nat → gM → Int32 → Int32 → Int32 → Prop
  | 0, _, _, _, _ => False
  | n + 1, M, x3, x4, x5 =>
    (vp_in 2 502) ∧
    (if (rdI M 88 0 0 (nn 2)) ≤ x5 then
      (if x3 = (-2) then
        (s_X13_against_86 M x3)
      else
        (if x2 = 0 then
          (s_X13_against_86 M x3)
        else
          (True)))
    else
      ((s_X13_gainOf M x1 x5) ∧
      (bndP (f_X13_gainOf M x1 x5) fun z11 =>
      (if z11.1 < x4 then
        (s_X13_against_33 x1 x2 n z11.2 x5 z11.1 (x5 + 1))
      else
        (s_X13_against_33 x1 x2 n z11.2 x3 x4 (x5 + 1))))))
theorem o_X13_against_33 (x1 : Int32) (x2 : Int32)  : ∀ (n : Nat) (M : gM) (x3 : Int32) (x4 : Int32) (x5 : Int32), offW [67, 80, 81, 82, 83, 84, 85, 92, 97, 98] M (f_X13_against_33 x1 x2  n M x3 x4 x5).2 := by
  intro n
  induction n with
  | zero => intro M x3 x4 x5; exact offR
  | succ n ih =>
    intro M x3 x4 x5
    rw [f_X13_against_33]
    refine offI2 ?_ ?_
    · refine offI2 ?_ ?_
      · exact (o_X13_against_86 M x3)
      · refine offI2 ?_ ?_
        · exact (o_X13_against_86 M x3)
        · exact offR
    · refine offZ2 (offR.tr ((o_X13_gainOf M x1 x5).mono (by decide))) (fun z11 oz11 => ?_)
      refine offI2 ?_ ?_
      · exact oz11.tr (ih z11.2 x5 z11.1 (x5 + 1))
      · exact oz11.tr (ih z11.2 x3 x4 (x5 + 1))
set_option maxRecDepth 100000 in
set_option maxHeartbeats 4000000 in
theorem t_X13_against_33 {E : gE} {K : Int32 × gM → Prop} {Q : Option Value → gM → Prop} (hK : ∀ z : Int32 × gM, K z → Q (some (.int z.1)) z.2) (x1 : Int32) (x2 : Int32)   : ∀ (n : Nat) (M : gM) (x3 : Int32) (x4 : Int32) (x5 : Int32) , s_X13_against_33 x1 x2  n M x3 x4 x5 → K (f_X13_against_33 x1 x2  n M x3 x4 x5) → gG E RX13 cX13_against 7 (some .int) (rm 13) 33 [(0, .ref (gla E 226)), (1, .int x1), (2, .int x2), (3, .int x3), (4, .int x4), (5, .int x5)] [] M Q := by
  intro n
  induction n with
  | zero => intro M x3 x4 x5 hs hQ; exact (hs : False).elim
  | succ n ih =>
    intro M x3 x4 x5 hs hQ
    rw [s_X13_against_33] at hs
    rw [f_X13_against_33] at hQ
    refine g_iload 5 dX13_against_33 rfl ?_
    refine g_aload_n 0 dX13_against_35 rfl ?_
    refine g_getR 226 228 fd_X13_13 dF_Md rfl rfl dX13_against_36 ?_
    refine g_iconst (v := 2) dX13_against_39 (by decide) ?_
    have h6 := hs.1; have hs := hs.2
    refine g_iald 228 dF_Md_world h6 dX13_against_40 ?_
    refine g_icmp_ge 76 dX13_against_41 (by decide) (fun c7 => ?_) (fun c7 => ?_)
    · have hs := ifSt hs c7; have hQ := ifQt hQ c7
      refine g_iload_n 3 dX13_against_76 rfl ?_
      refine g_bipush (v := (-2)) dX13_against_77 (by decide) ?_
      refine g_icmp_eq 86 dX13_against_79 (by decide) (fun c8 => ?_) (fun c8 => ?_)
      · have hs := ifSt hs c8; have hQ := ifQt hQ c8
        refine g_sub [3] _ rfl ?_
        exact t_X13_against_86 hK M x3 hs hQ
      · have hs := ifSf hs c8; have hQ := ifQf hQ c8
        refine g_iload_n 2 dX13_against_82 rfl ?_
        refine g_if_ne 90 dX13_against_83 (by decide) (fun c9 => ?_) (fun c9 => ?_)
        · have hs := ifSf hs c9; have hQ := ifQf hQ c9
          refine g_iload 4 dX13_against_90 rfl ?_
          exact g_iret rfl dX13_against_92 (hK _ hQ)
        · have hs := ifSt hs c9; have hQ := ifQt hQ c9
          refine g_sub [3] _ rfl ?_
          exact t_X13_against_86 hK M x3 hs hQ
    · have hs := ifSf hs c7; have hQ := ifQf hQ c7
      refine g_aload_n 0 dX13_against_44 rfl ?_
      refine g_iload_n 1 dX13_against_45 rfl ?_
      refine g_iload 5 dX13_against_46 rfl ?_
      have h10 := hs.1; have hs := hs.2
      refine g_callV (As := [.int x1, .int x5]) (st := []) 226 (c_X13_gainOf E M x1 x5 h10) mt_X13_gainOf ml_X13_346 dF_Md rfl rfl sg_X13_gainOf rfl (by decide) (Nat.le_of_ble_eq_true rfl) dX13_against_48 ?_
      rintro _ _ ⟨rfl, rfl⟩
      obtain ⟨z11, hz11⟩ : ∃ z, z = f_X13_gainOf M x1 x5 := ⟨_, rfl⟩
      rw [← hz11]
      have hQ := bndQ hQ z11 hz11; have hs := bndS hs z11 hz11
      refine g_istore _ dX13_against_51 (by decide) rfl ?_
      refine g_iload 0 dX13_against_53 rfl ?_
      refine g_iload 5 dX13_against_55 rfl ?_
      refine g_icmp_lt 63 dX13_against_57 (by decide) (fun c12 => ?_) (fun c12 => ?_)
      · have hs := ifSt hs c12; have hQ := ifQt hQ c12
        refine g_iload 6 dX13_against_63 rfl ?_
        refine g_istore_n _ dX13_against_65 (by decide) rfl ?_
        refine g_iload 1 dX13_against_66 rfl ?_
        refine g_istore _ dX13_against_68 (by decide) rfl ?_
        refine g_iinc 6 (v := x5 + 1) _ dX13_against_70 rfl rfl (by decide) rfl ?_
        refine g_goto 33 dX13_against_73 (by decide) ?_
        refine g_sub [4, 5, 6, 2, 1, 0] _ rfl ?_
        exact ih z11.2 x5 z11.1 (x5 + 1) hs hQ
      · have hs := ifSf hs c12; have hQ := ifQf hQ c12
        refine g_goto 70 dX13_against_60 (by decide) ?_
        refine g_iinc 6 (v := x5 + 1) _ dX13_against_70 rfl rfl (by decide) rfl ?_
        refine g_goto 33 dX13_against_73 (by decide) ?_
        refine g_sub [2, 3, 4, 5, 6, 0] _ rfl ?_
        exact ih z11.2 x3 x4 (x5 + 1) hs hQ
def f_X13_against (M : gM) (x1 : Int32) (x2 : Int32) : Int32 × gM :=
  bnd (wrI M 67 0 0 0 0) fun M1 =>
  (if (f_X13_isPerson M1 x1) = 0 then
    (((-1), M1))
  else
    (if x2 < 0 then
      (((-1), M1))
    else
      (if x2 ≤ 1 then
        (f_X13_against_33 x1 x2 FU M1 (-2) 0 0)
      else
        (((-1), M1)))))
def s_X13_against (M : gM) (x1 : Int32) (x2 : Int32) : Prop :=
  bndP (wrI M 67 0 0 0 0) fun M1 =>
  ((s_X13_isPerson M1 x1) ∧
  (if (f_X13_isPerson M1 x1) = 0 then
    (True)
  else
    (if x2 < 0 then
      (True)
    else
      (if x2 ≤ 1 then
        (s_X13_against_33 x1 x2 FU M1 (-2) 0 0)
      else
        (True)))))
theorem o_X13_against (M : gM) (x1 : Int32) (x2 : Int32) : offW [67, 80, 81, 82, 83, 84, 85, 92, 97, 98] M (f_X13_against M x1 x2).2 := by
  rw [f_X13_against]
  refine offB2 (offR.wI (by decide)) (fun M1 oM1 => ?_)
  refine offI2 ?_ ?_
  · exact oM1
  · refine offI2 ?_ ?_
    · exact oM1
    · refine offI2 ?_ ?_
      · exact oM1.tr (o_X13_against_33 x1 x2 FU M1 (-2) 0 0)
      · exact oM1
set_option maxRecDepth 100000 in
set_option maxHeartbeats 4000000 in
theorem t_X13_against {E : gE} {K : Int32 × gM → Prop} {Q : Option Value → gM → Prop} (hK : ∀ z : Int32 × gM, K z → Q (some (.int z.1)) z.2) (M : gM) (x1 : Int32) (x2 : Int32)  (hs : s_X13_against M x1 x2) (hQ : K (f_X13_against M x1 x2)) : gG E RX13 cX13_against 7 (some .int) (rm 13) 0 [(0, .ref (gla E 226)), (1, .int x1), (2, .int x2)] [] M Q := by
  rw [s_X13_against] at hs
  rw [f_X13_against] at hQ
  refine g_aload_n 0 dX13_against_0 rfl ?_
  refine g_iconst (v := 0) dX13_against_1 (by decide) ?_
  refine g_putI 226 fd_X13_61 dF_Md rfl dX13_against_2 (fun M1 hM1 => ?_)
  have hQ := bndQ hQ M1 hM1; have hs := bndS hs M1 hM1
  refine g_aload_n 0 dX13_against_5 rfl ?_
  refine g_iload_n 1 dX13_against_6 rfl ?_
  have h2 := hs.1; have hs := hs.2
  refine g_callV (As := [.int x1]) (st := []) 226 (c_X13_isPerson E M1 x1 h2) mt_X13_isPerson ml_X13_206 dF_Md rfl rfl sg_X13_isPerson rfl (by decide) (Nat.le_of_ble_eq_true rfl) dX13_against_7 ?_
  rintro _ _ ⟨q1, q2⟩; rw [q1, q2]; clear q1 q2
  refine g_if_eq 22 dX13_against_10 (by decide) (fun c3 => ?_) (fun c3 => ?_)
  · have hs := ifSt hs c3; have hQ := ifQt hQ c3
    refine g_iconst (v := (-1)) dX13_against_22 (by decide) ?_
    exact g_iret rfl dX13_against_23 (hK _ hQ)
  · have hs := ifSf hs c3; have hQ := ifQf hQ c3
    refine g_iload_n 2 dX13_against_13 rfl ?_
    refine g_if_lt 22 dX13_against_14 (by decide) (fun c4 => ?_) (fun c4 => ?_)
    · have hs := ifSt hs c4; have hQ := ifQt hQ c4
      refine g_iconst (v := (-1)) dX13_against_22 (by decide) ?_
      exact g_iret rfl dX13_against_23 (hK _ hQ)
    · have hs := ifSf hs c4; have hQ := ifQf hQ c4
      refine g_iload_n 2 dX13_against_17 rfl ?_
      refine g_iconst (v := 1) dX13_against_18 (by decide) ?_
      refine g_icmp_le 24 dX13_against_19 (by decide) (fun c5 => ?_) (fun c5 => ?_)
      · have hs := ifSt hs c5; have hQ := ifQt hQ c5
        refine g_bipush (v := (-2)) dX13_against_24 (by decide) ?_
        refine g_istore_n _ dX13_against_26 (by decide) rfl ?_
        refine g_iconst (v := 0) dX13_against_27 (by decide) ?_
        refine g_istore _ dX13_against_28 (by decide) rfl ?_
        refine g_iconst (v := 0) dX13_against_30 (by decide) ?_
        refine g_istore _ dX13_against_31 (by decide) rfl ?_
        refine g_sub [3, 4, 5, 2, 1, 0] _ rfl ?_
        exact t_X13_against_33 hK x1 x2 FU M1 (-2) 0 0 hs hQ
      · have hs := ifSf hs c5; have hQ := ifQf hQ c5
        refine g_iconst (v := (-1)) dX13_against_22 (by decide) ?_
        exact g_iret rfl dX13_against_23 (hK _ hQ)
theorem c_X13_against (E : gE) (M : gM) (x1 : Int32) (x2 : Int32) (hs : s_X13_against M x1 x2) : gC E yX13_against cX13_against 7 (some .int) (rm 13) [.ref (gla E 226), .int x1, .int x2] M (fun o N => o = some (.int (f_X13_against M x1 x2).1) ∧ N = (f_X13_against M x1 x2).2) :=
  gC.of (by decide +kernel) (Nat.le_of_ble_eq_true rfl) rfl (t_X13_against (K := fun z => z = f_X13_against M x1 x2) (fun z hz => by rw [hz]; exact ⟨rfl, rfl⟩) M x1 x2 hs rfl)
def f_X13_others_4 (x1 : Int32)  : Nat → gM → Int32 → Int32 → Int32 × gM
  | 0, M, _, _ => (0, M)
  | n + 1, M, x2, x3 =>
    if (rdI M 88 0 0 (nn 1)) ≤ x3 then
      ((x2, M))
    else
      (bnd (f_X13_holdersIn M x3 9999) fun z4 =>
      (bnd (f_X13_wouldBe z4.2 (34 + x1) 1 x3) fun z6 =>
      (if z4.1 = z6.1 then
        (f_X13_others_4 x1 n z6.2 (x2 + 0) (x3 + 1))
      else
        (f_X13_others_4 x1 n z6.2 (x2 + 1) (x3 + 1)))))
def s_X13_others_4 (x1 : Int32)  : Nat → gM → Int32 → Int32 → Prop
  | 0, _, _, _ => False
  | n + 1, M, x2, x3 =>
    (vp_in 1 502) ∧
    (if (rdI M 88 0 0 (nn 1)) ≤ x3 then
      (True)
    else
      ((s_X13_holdersIn M x3 9999) ∧
      (bndP (f_X13_holdersIn M x3 9999) fun z4 =>
      ((s_X13_wouldBe z4.2 (34 + x1) 1 x3) ∧
      (bndP (f_X13_wouldBe z4.2 (34 + x1) 1 x3) fun z6 =>
      (if z4.1 = z6.1 then
        (s_X13_others_4 x1 n z6.2 (x2 + 0) (x3 + 1))
      else
        (s_X13_others_4 x1 n z6.2 (x2 + 1) (x3 + 1))))))))
theorem o_X13_others_4 (x1 : Int32)  : ∀ (n : Nat) (M : gM) (x2 : Int32) (x3 : Int32), offW [80, 81, 82, 83, 84, 85, 92, 97, 98] M (f_X13_others_4 x1  n M x2 x3).2 := by
  intro n
  induction n with
  | zero => intro M x2 x3; exact offR
  | succ n ih =>
    intro M x2 x3
    rw [f_X13_others_4]
    refine offI2 ?_ ?_
    · exact offR
    · refine offZ2 (offR.tr ((o_X13_holdersIn M x3 9999).mono (by decide))) (fun z4 oz4 => ?_)
      refine offZ2 (oz4.tr ((o_X13_wouldBe z4.2 (34 + x1) 1 x3).mono (by decide))) (fun z6 oz6 => ?_)
      refine offI2 ?_ ?_
      · exact oz6.tr (ih z6.2 (x2 + 0) (x3 + 1))
      · exact oz6.tr (ih z6.2 (x2 + 1) (x3 + 1))
set_option maxRecDepth 100000 in
set_option maxHeartbeats 4000000 in
theorem t_X13_others_4 {E : gE} {K : Int32 × gM → Prop} {Q : Option Value → gM → Prop} (hK : ∀ z : Int32 × gM, K z → Q (some (.int z.1)) z.2) (x1 : Int32)   : ∀ (n : Nat) (M : gM) (x2 : Int32) (x3 : Int32) , s_X13_others_4 x1  n M x2 x3 → K (f_X13_others_4 x1  n M x2 x3) → gG E RX13 cX13_others 4 (some .int) (rm 13) 4 [(0, .ref (gla E 226)), (1, .int x1), (2, .int x2), (3, .int x3)] [] M Q := by
  intro n
  induction n with
  | zero => intro M x2 x3 hs hQ; exact (hs : False).elim
  | succ n ih =>
    intro M x2 x3 hs hQ
    rw [s_X13_others_4] at hs
    rw [f_X13_others_4] at hQ
    refine g_iload_n 3 dX13_others_4 rfl ?_
    refine g_aload_n 0 dX13_others_5 rfl ?_
    refine g_getR 226 228 fd_X13_13 dF_Md rfl rfl dX13_others_6 ?_
    refine g_iconst (v := 1) dX13_others_9 (by decide) ?_
    have h1 := hs.1; have hs := hs.2
    refine g_iald 228 dF_Md_world h1 dX13_others_10 ?_
    refine g_icmp_ge 49 dX13_others_11 (by decide) (fun c2 => ?_) (fun c2 => ?_)
    · have hs := ifSt hs c2; have hQ := ifQt hQ c2
      refine g_iload_n 2 dX13_others_49 rfl ?_
      exact g_iret rfl dX13_others_50 (hK _ hQ)
    · have hs := ifSf hs c2; have hQ := ifQf hQ c2
      refine g_iload_n 2 dX13_others_14 rfl ?_
      refine g_aload_n 0 dX13_others_15 rfl ?_
      refine g_iload_n 3 dX13_others_16 rfl ?_
      refine g_sipush (v := 9999) dX13_others_17 (by decide) ?_
      have h3 := hs.1; have hs := hs.2
      refine g_callV (As := [.int x3, .int 9999]) (st := [.int x2]) 226 (c_X13_holdersIn E M x3 9999 h3) mt_X13_holdersIn ml_X13_332 dF_Md rfl rfl sg_X13_holdersIn rfl (by decide) (Nat.le_of_ble_eq_true rfl) dX13_others_20 ?_
      rintro _ _ ⟨rfl, rfl⟩
      obtain ⟨z4, hz4⟩ : ∃ z, z = f_X13_holdersIn M x3 9999 := ⟨_, rfl⟩
      rw [← hz4]
      have hQ := bndQ hQ z4 hz4; have hs := bndS hs z4 hz4
      refine g_aload_n 0 dX13_others_23 rfl ?_
      refine g_bipush (v := 34) dX13_others_24 (by decide) ?_
      refine g_iload_n 1 dX13_others_26 rfl ?_
      refine g_iadd dX13_others_27 ?_
      refine g_iconst (v := 1) dX13_others_28 (by decide) ?_
      refine g_iload_n 3 dX13_others_29 rfl ?_
      have h5 := hs.1; have hs := hs.2
      refine g_callV (As := [.int (34 + x1), .int 1, .int x3]) (st := [.int z4.1, .int x2]) 226 (c_X13_wouldBe E z4.2 (34 + x1) 1 x3 h5) mt_X13_wouldBe ml_X13_350 dF_Md rfl rfl sg_X13_wouldBe rfl (by decide) (Nat.le_of_ble_eq_true rfl) dX13_others_30 ?_
      rintro _ _ ⟨rfl, rfl⟩
      obtain ⟨z6, hz6⟩ : ∃ z, z = f_X13_wouldBe z4.2 (34 + x1) 1 x3 := ⟨_, rfl⟩
      rw [← hz6]
      have hQ := bndQ hQ z6 hz6; have hs := bndS hs z6 hz6
      refine g_icmp_ne 40 dX13_others_33 (by decide) (fun c7 => ?_) (fun c7 => ?_)
      · have hs := ifSf hs c7; have hQ := ifQf hQ c7
        refine g_iconst (v := 1) dX13_others_40 (by decide) ?_
        refine g_iadd dX13_others_41 ?_
        refine g_istore_n _ dX13_others_42 (by decide) rfl ?_
        refine g_iinc 3 (v := x3 + 1) _ dX13_others_43 rfl rfl (by decide) rfl ?_
        refine g_goto 4 dX13_others_46 (by decide) ?_
        refine g_sub [2, 3, 1, 0] _ rfl ?_
        exact ih z6.2 (x2 + 1) (x3 + 1) hs hQ
      · have hs := ifSt hs c7; have hQ := ifQt hQ c7
        refine g_iconst (v := 0) dX13_others_36 (by decide) ?_
        refine g_goto 41 dX13_others_37 (by decide) ?_
        refine g_iadd dX13_others_41 ?_
        refine g_istore_n _ dX13_others_42 (by decide) rfl ?_
        refine g_iinc 3 (v := x3 + 1) _ dX13_others_43 rfl rfl (by decide) rfl ?_
        refine g_goto 4 dX13_others_46 (by decide) ?_
        refine g_sub [2, 3, 1, 0] _ rfl ?_
        exact ih z6.2 (x2 + 0) (x3 + 1) hs hQ
def f_X13_others (M : gM) (x1 : Int32) : Int32 × gM :=
  f_X13_others_4 x1 FU M 0 0
def s_X13_others (M : gM) (x1 : Int32) : Prop :=
  s_X13_others_4 x1 FU M 0 0
theorem o_X13_others (M : gM) (x1 : Int32) : offW [80, 81, 82, 83, 84, 85, 92, 97, 98] M (f_X13_others M x1).2 := by
  rw [f_X13_others]
  exact (o_X13_others_4 x1 FU M 0 0)
set_option maxRecDepth 100000 in
set_option maxHeartbeats 4000000 in
theorem t_X13_others {E : gE} {K : Int32 × gM → Prop} {Q : Option Value → gM → Prop} (hK : ∀ z : Int32 × gM, K z → Q (some (.int z.1)) z.2) (M : gM) (x1 : Int32)  (hs : s_X13_others M x1) (hQ : K (f_X13_others M x1)) : gG E RX13 cX13_others 4 (some .int) (rm 13) 0 [(0, .ref (gla E 226)), (1, .int x1)] [] M Q := by
  rw [s_X13_others] at hs
  rw [f_X13_others] at hQ
  refine g_iconst (v := 0) dX13_others_0 (by decide) ?_
  refine g_istore_n _ dX13_others_1 (by decide) rfl ?_
  refine g_iconst (v := 0) dX13_others_2 (by decide) ?_
  refine g_istore_n _ dX13_others_3 (by decide) rfl ?_
  refine g_sub [2, 3, 1, 0] _ rfl ?_
  exact t_X13_others_4 hK x1 FU M 0 0 hs hQ
theorem c_X13_others (E : gE) (M : gM) (x1 : Int32) (hs : s_X13_others M x1) : gC E yX13_others cX13_others 4 (some .int) (rm 13) [.ref (gla E 226), .int x1] M (fun o N => o = some (.int (f_X13_others M x1).1) ∧ N = (f_X13_others M x1).2) :=
  gC.of (by decide +kernel) (Nat.le_of_ble_eq_true rfl) rfl (t_X13_others (K := fun z => z = f_X13_others M x1) (fun z hz => by rw [hz]; exact ⟨rfl, rfl⟩) M x1 hs rfl)
def f_X13_wouldPaper_65 (M : gM) (x3 : Int32) (y1 : Int32) (y2 : Int32)  : Int32 × gM :=
  bnd (f_X13_wouldBe M y1 y2 x3) fun z13 =>
  ((z13.1, z13.2))
def s_X13_wouldPaper_65 (M : gM) (x3 : Int32) (y1 : Int32) (y2 : Int32)  : Prop :=
  (s_X13_wouldBe M y1 y2 x3) ∧
  (bndP (f_X13_wouldBe M y1 y2 x3) fun z13 =>
  (True))
theorem o_X13_wouldPaper_65 (M : gM) (x3 : Int32) (y1 : Int32) (y2 : Int32)  : offW [67, 80, 81, 82, 83, 84, 85, 92, 97, 98] M (f_X13_wouldPaper_65 M x3 y1 y2 ).2 := by
  rw [f_X13_wouldPaper_65]
  refine offZ2 (offR.tr ((o_X13_wouldBe M y1 y2 x3).mono (by decide))) (fun z13 oz13 => ?_)
  exact oz13
set_option maxRecDepth 100000 in
set_option maxHeartbeats 4000000 in
theorem t_X13_wouldPaper_65 {E : gE} {K : Int32 × gM → Prop} {Q : Option Value → gM → Prop} (hK : ∀ z : Int32 × gM, K z → Q (some (.int z.1)) z.2) (M : gM) (x3 : Int32) (y1 : Int32) (y2 : Int32)   (hs : s_X13_wouldPaper_65 M x3 y1 y2 ) (hQ : K (f_X13_wouldPaper_65 M x3 y1 y2 )) : gG E RX13 cX13_wouldPaper 4 (some .int) (rm 13) 65 [(3, .int x3)] [.int y2, .int y1, .ref (gla E 226)] M Q := by
  rw [s_X13_wouldPaper_65] at hs
  rw [f_X13_wouldPaper_65] at hQ
  refine g_iload_n 0 dX13_wouldPaper_65 rfl ?_
  have h12 := hs.1; have hs := hs.2
  refine g_callV (As := [.int y1, .int y2, .int x3]) (st := []) 226 (c_X13_wouldBe E M y1 y2 x3 h12) mt_X13_wouldBe ml_X13_350 dF_Md rfl rfl sg_X13_wouldBe rfl (by decide) (Nat.le_of_ble_eq_true rfl) dX13_wouldPaper_66 ?_
  rintro _ _ ⟨rfl, rfl⟩
  obtain ⟨z13, hz13⟩ : ∃ z, z = f_X13_wouldBe M y1 y2 x3 := ⟨_, rfl⟩
  rw [← hz13]
  have hQ := bndQ hQ z13 hz13; have hs := bndS hs z13 hz13
  exact g_iret rfl dX13_wouldPaper_69 (hK _ hQ)
def f_X13_wouldPaper (M : gM) (x1 : Int32) (x2 : Int32) (x3 : Int32) : Int32 × gM :=
  bnd (wrI M 67 0 0 0 0) fun M1 =>
  (if (f_X13_isPaper M1 x1) = 0 then
    (((-1), M1))
  else
    (if x2 < 0 then
      (((-1), M1))
    else
      (if 2 < x2 then
        (((-1), M1))
      else
        (if (f_X13_isThing M1 x3) = 0 then
          (((-1), M1))
        else
          (if x2 = 2 then
            (bnd (f_X13_wouldBe M1 (34 + x1) 1 x3) fun z11 =>
            ((z11.1, z11.2)))
          else
            (if x2 = 0 then
              (f_X13_wouldPaper_65 M1 x3 (10 + x1) 0)
            else
              (f_X13_wouldPaper_65 M1 x3 (10 + x1) (-2))))))))
def s_X13_wouldPaper (M : gM) (x1 : Int32) (x2 : Int32) (x3 : Int32) : Prop :=
  bndP (wrI M 67 0 0 0 0) fun M1 =>
  ((s_X13_isPaper M1 x1) ∧
  (if (f_X13_isPaper M1 x1) = 0 then
    (True)
  else
    (if x2 < 0 then
      (True)
    else
      (if 2 < x2 then
        (True)
      else
        ((s_X13_isThing M1 x3) ∧
        (if (f_X13_isThing M1 x3) = 0 then
          (True)
        else
          (if x2 = 2 then
            ((s_X13_wouldBe M1 (34 + x1) 1 x3) ∧
            (bndP (f_X13_wouldBe M1 (34 + x1) 1 x3) fun z11 =>
            (True)))
          else
            (if x2 = 0 then
              (s_X13_wouldPaper_65 M1 x3 (10 + x1) 0)
            else
              (s_X13_wouldPaper_65 M1 x3 (10 + x1) (-2))))))))))
theorem o_X13_wouldPaper (M : gM) (x1 : Int32) (x2 : Int32) (x3 : Int32) : offW [67, 80, 81, 82, 83, 84, 85, 92, 97, 98] M (f_X13_wouldPaper M x1 x2 x3).2 := by
  rw [f_X13_wouldPaper]
  refine offB2 (offR.wI (by decide)) (fun M1 oM1 => ?_)
  refine offI2 ?_ ?_
  · exact oM1
  · refine offI2 ?_ ?_
    · exact oM1
    · refine offI2 ?_ ?_
      · exact oM1
      · refine offI2 ?_ ?_
        · exact oM1
        · refine offI2 ?_ ?_
          · refine offZ2 (oM1.tr ((o_X13_wouldBe M1 (34 + x1) 1 x3).mono (by decide))) (fun z11 oz11 => ?_)
            exact oz11
          · refine offI2 ?_ ?_
            · exact oM1.tr (o_X13_wouldPaper_65 M1 x3 (10 + x1) 0)
            · exact oM1.tr (o_X13_wouldPaper_65 M1 x3 (10 + x1) (-2))
set_option maxRecDepth 100000 in
set_option maxHeartbeats 4000000 in
theorem t_X13_wouldPaper {E : gE} {K : Int32 × gM → Prop} {Q : Option Value → gM → Prop} (hK : ∀ z : Int32 × gM, K z → Q (some (.int z.1)) z.2) (M : gM) (x1 : Int32) (x2 : Int32) (x3 : Int32)  (hs : s_X13_wouldPaper M x1 x2 x3) (hQ : K (f_X13_wouldPaper M x1 x2 x3)) : gG E RX13 cX13_wouldPaper 4 (some .int) (rm 13) 0 [(0, .ref (gla E 226)), (1, .int x1), (2, .int x2), (3, .int x3)] [] M Q := by
  rw [s_X13_wouldPaper] at hs
  rw [f_X13_wouldPaper] at hQ
  refine g_aload_n 0 dX13_wouldPaper_0 rfl ?_
  refine g_iconst (v := 0) dX13_wouldPaper_1 (by decide) ?_
  refine g_putI 226 fd_X13_61 dF_Md rfl dX13_wouldPaper_2 (fun M1 hM1 => ?_)
  have hQ := bndQ hQ M1 hM1; have hs := bndS hs M1 hM1
  refine g_aload_n 0 dX13_wouldPaper_5 rfl ?_
  refine g_iload_n 1 dX13_wouldPaper_6 rfl ?_
  have h2 := hs.1; have hs := hs.2
  refine g_callV (As := [.int x1]) (st := []) 226 (c_X13_isPaper E M1 x1 h2) mt_X13_isPaper ml_X13_215 dF_Md rfl rfl sg_X13_isPaper rfl (by decide) (Nat.le_of_ble_eq_true rfl) dX13_wouldPaper_7 ?_
  rintro _ _ ⟨q1, q2⟩; rw [q1, q2]; clear q1 q2
  refine g_if_eq 30 dX13_wouldPaper_10 (by decide) (fun c3 => ?_) (fun c3 => ?_)
  · have hs := ifSt hs c3; have hQ := ifQt hQ c3
    refine g_iconst (v := (-1)) dX13_wouldPaper_30 (by decide) ?_
    exact g_iret rfl dX13_wouldPaper_31 (hK _ hQ)
  · have hs := ifSf hs c3; have hQ := ifQf hQ c3
    refine g_iload_n 2 dX13_wouldPaper_13 rfl ?_
    refine g_if_lt 30 dX13_wouldPaper_14 (by decide) (fun c4 => ?_) (fun c4 => ?_)
    · have hs := ifSt hs c4; have hQ := ifQt hQ c4
      refine g_iconst (v := (-1)) dX13_wouldPaper_30 (by decide) ?_
      exact g_iret rfl dX13_wouldPaper_31 (hK _ hQ)
    · have hs := ifSf hs c4; have hQ := ifQf hQ c4
      refine g_iload_n 2 dX13_wouldPaper_17 rfl ?_
      refine g_iconst (v := 2) dX13_wouldPaper_18 (by decide) ?_
      refine g_icmp_gt 30 dX13_wouldPaper_19 (by decide) (fun c5 => ?_) (fun c5 => ?_)
      · have hs := ifSt hs c5; have hQ := ifQt hQ c5
        refine g_iconst (v := (-1)) dX13_wouldPaper_30 (by decide) ?_
        exact g_iret rfl dX13_wouldPaper_31 (hK _ hQ)
      · have hs := ifSf hs c5; have hQ := ifQf hQ c5
        refine g_aload_n 0 dX13_wouldPaper_22 rfl ?_
        refine g_iload_n 3 dX13_wouldPaper_23 rfl ?_
        have h6 := hs.1; have hs := hs.2
        refine g_callV (As := [.int x3]) (st := []) 226 (c_X13_isThing E M1 x3 h6) mt_X13_isThing ml_X13_221 dF_Md rfl rfl sg_X13_isThing rfl (by decide) (Nat.le_of_ble_eq_true rfl) dX13_wouldPaper_24 ?_
        rintro _ _ ⟨q1, q2⟩; rw [q1, q2]; clear q1 q2
        refine g_if_ne 32 dX13_wouldPaper_27 (by decide) (fun c7 => ?_) (fun c7 => ?_)
        · have hs := ifSf hs c7; have hQ := ifQf hQ c7
          refine g_iload_n 2 dX13_wouldPaper_32 rfl ?_
          refine g_iconst (v := 2) dX13_wouldPaper_33 (by decide) ?_
          refine g_icmp_ne 50 dX13_wouldPaper_34 (by decide) (fun c8 => ?_) (fun c8 => ?_)
          · have hs := ifSf hs c8; have hQ := ifQf hQ c8
            refine g_aload_n 0 dX13_wouldPaper_50 rfl ?_
            refine g_bipush (v := 10) dX13_wouldPaper_51 (by decide) ?_
            refine g_iload_n 1 dX13_wouldPaper_53 rfl ?_
            refine g_iadd dX13_wouldPaper_54 ?_
            refine g_iload_n 2 dX13_wouldPaper_55 rfl ?_
            refine g_if_ne 63 dX13_wouldPaper_56 (by decide) (fun c9 => ?_) (fun c9 => ?_)
            · have hs := ifSf hs c9; have hQ := ifQf hQ c9
              refine g_bipush (v := (-2)) dX13_wouldPaper_63 (by decide) ?_
              refine g_sub [3] _ rfl ?_
              exact t_X13_wouldPaper_65 hK M1 x3 (10 + x1) (-2) hs hQ
            · have hs := ifSt hs c9; have hQ := ifQt hQ c9
              refine g_iconst (v := 0) dX13_wouldPaper_59 (by decide) ?_
              refine g_goto 65 dX13_wouldPaper_60 (by decide) ?_
              refine g_sub [3] _ rfl ?_
              exact t_X13_wouldPaper_65 hK M1 x3 (10 + x1) 0 hs hQ
          · have hs := ifSt hs c8; have hQ := ifQt hQ c8
            refine g_aload_n 0 dX13_wouldPaper_37 rfl ?_
            refine g_bipush (v := 34) dX13_wouldPaper_38 (by decide) ?_
            refine g_iload_n 1 dX13_wouldPaper_40 rfl ?_
            refine g_iadd dX13_wouldPaper_41 ?_
            refine g_iconst (v := 1) dX13_wouldPaper_42 (by decide) ?_
            refine g_iload_n 3 dX13_wouldPaper_43 rfl ?_
            have h10 := hs.1; have hs := hs.2
            refine g_callV (As := [.int (34 + x1), .int 1, .int x3]) (st := []) 226 (c_X13_wouldBe E M1 (34 + x1) 1 x3 h10) mt_X13_wouldBe ml_X13_350 dF_Md rfl rfl sg_X13_wouldBe rfl (by decide) (Nat.le_of_ble_eq_true rfl) dX13_wouldPaper_44 ?_
            rintro _ _ ⟨rfl, rfl⟩
            obtain ⟨z11, hz11⟩ : ∃ z, z = f_X13_wouldBe M1 (34 + x1) 1 x3 := ⟨_, rfl⟩
            rw [← hz11]
            have hQ := bndQ hQ z11 hz11; have hs := bndS hs z11 hz11
            refine g_goto 69 dX13_wouldPaper_47 (by decide) ?_
            exact g_iret rfl dX13_wouldPaper_69 (hK _ hQ)
        · have hs := ifSt hs c7; have hQ := ifQt hQ c7
          refine g_iconst (v := (-1)) dX13_wouldPaper_30 (by decide) ?_
          exact g_iret rfl dX13_wouldPaper_31 (hK _ hQ)
theorem c_X13_wouldPaper (E : gE) (M : gM) (x1 : Int32) (x2 : Int32) (x3 : Int32) (hs : s_X13_wouldPaper M x1 x2 x3) : gC E yX13_wouldPaper cX13_wouldPaper 4 (some .int) (rm 13) [.ref (gla E 226), .int x1, .int x2, .int x3] M (fun o N => o = some (.int (f_X13_wouldPaper M x1 x2 x3).1) ∧ N = (f_X13_wouldPaper M x1 x2 x3).2) :=
  gC.of (by decide +kernel) (Nat.le_of_ble_eq_true rfl) rfl (t_X13_wouldPaper (K := fun z => z = f_X13_wouldPaper M x1 x2 x3) (fun z hz => by rw [hz]; exact ⟨rfl, rfl⟩) M x1 x2 x3 hs rfl)
def f_X13_wouldDie_25 (M : gM) (x1 : Int32) (x2 : Int32) (x3 : Int32)  : Int32 × gM :=
  if (f_X13_isThing M x3) = 0 then
    (((-1), M))
  else
    (if x2 = (-1) then
      (bnd (f_X13_wouldBe M (0 + x1) (-2) x3) fun z13 =>
      ((z13.1, z13.2)))
    else
      (bnd (f_X13_wouldBe M (0 + x1) x2 x3) fun z11 =>
      ((z11.1, z11.2))))
def s_X13_wouldDie_25 (M : gM) (x1 : Int32) (x2 : Int32) (x3 : Int32)  : Prop :=
  (s_X13_isThing M x3) ∧
  (if (f_X13_isThing M x3) = 0 then
    (True)
  else
    (if x2 = (-1) then
      ((s_X13_wouldBe M (0 + x1) (-2) x3) ∧
      (bndP (f_X13_wouldBe M (0 + x1) (-2) x3) fun z13 =>
      (True)))
    else
      ((s_X13_wouldBe M (0 + x1) x2 x3) ∧
      (bndP (f_X13_wouldBe M (0 + x1) x2 x3) fun z11 =>
      (True)))))
theorem o_X13_wouldDie_25 (M : gM) (x1 : Int32) (x2 : Int32) (x3 : Int32)  : offW [67, 80, 81, 82, 83, 84, 85, 92, 97, 98] M (f_X13_wouldDie_25 M x1 x2 x3 ).2 := by
  rw [f_X13_wouldDie_25]
  refine offI2 ?_ ?_
  · exact offR
  · refine offI2 ?_ ?_
    · refine offZ2 (offR.tr ((o_X13_wouldBe M (0 + x1) (-2) x3).mono (by decide))) (fun z13 oz13 => ?_)
      exact oz13
    · refine offZ2 (offR.tr ((o_X13_wouldBe M (0 + x1) x2 x3).mono (by decide))) (fun z11 oz11 => ?_)
      exact oz11
set_option maxRecDepth 100000 in
set_option maxHeartbeats 4000000 in
theorem t_X13_wouldDie_25 {E : gE} {K : Int32 × gM → Prop} {Q : Option Value → gM → Prop} (hK : ∀ z : Int32 × gM, K z → Q (some (.int z.1)) z.2) (M : gM) (x1 : Int32) (x2 : Int32) (x3 : Int32)   (hs : s_X13_wouldDie_25 M x1 x2 x3 ) (hQ : K (f_X13_wouldDie_25 M x1 x2 x3 )) : gG E RX13 cX13_wouldDie 4 (some .int) (rm 13) 25 [(0, .ref (gla E 226)), (1, .int x1), (2, .int x2), (3, .int x3)] [] M Q := by
  rw [s_X13_wouldDie_25] at hs
  rw [f_X13_wouldDie_25] at hQ
  refine g_aload_n 0 dX13_wouldDie_25 rfl ?_
  refine g_iload_n 3 dX13_wouldDie_26 rfl ?_
  have h7 := hs.1; have hs := hs.2
  refine g_callV (As := [.int x3]) (st := []) 226 (c_X13_isThing E M x3 h7) mt_X13_isThing ml_X13_221 dF_Md rfl rfl sg_X13_isThing rfl (by decide) (Nat.le_of_ble_eq_true rfl) dX13_wouldDie_27 ?_
  rintro _ _ ⟨q1, q2⟩; rw [q1, q2]; clear q1 q2
  refine g_if_ne 35 dX13_wouldDie_30 (by decide) (fun c8 => ?_) (fun c8 => ?_)
  · have hs := ifSf hs c8; have hQ := ifQf hQ c8
    refine g_aload_n 0 dX13_wouldDie_35 rfl ?_
    refine g_iconst (v := 0) dX13_wouldDie_36 (by decide) ?_
    refine g_iload_n 1 dX13_wouldDie_37 rfl ?_
    refine g_iadd dX13_wouldDie_38 ?_
    refine g_iload_n 2 dX13_wouldDie_39 rfl ?_
    refine g_iconst (v := (-1)) dX13_wouldDie_40 (by decide) ?_
    refine g_icmp_ne 49 dX13_wouldDie_41 (by decide) (fun c9 => ?_) (fun c9 => ?_)
    · have hs := ifSf hs c9; have hQ := ifQf hQ c9
      refine g_iload_n 2 dX13_wouldDie_49 rfl ?_
      refine g_iload_n 3 dX13_wouldDie_50 rfl ?_
      have h10 := hs.1; have hs := hs.2
      refine g_callV (As := [.int (0 + x1), .int x2, .int x3]) (st := []) 226 (c_X13_wouldBe E M (0 + x1) x2 x3 h10) mt_X13_wouldBe ml_X13_350 dF_Md rfl rfl sg_X13_wouldBe rfl (by decide) (Nat.le_of_ble_eq_true rfl) dX13_wouldDie_51 ?_
      rintro _ _ ⟨rfl, rfl⟩
      obtain ⟨z11, hz11⟩ : ∃ z, z = f_X13_wouldBe M (0 + x1) x2 x3 := ⟨_, rfl⟩
      rw [← hz11]
      have hQ := bndQ hQ z11 hz11; have hs := bndS hs z11 hz11
      exact g_iret rfl dX13_wouldDie_54 (hK _ hQ)
    · have hs := ifSt hs c9; have hQ := ifQt hQ c9
      refine g_bipush (v := (-2)) dX13_wouldDie_44 (by decide) ?_
      refine g_goto 50 dX13_wouldDie_46 (by decide) ?_
      refine g_iload_n 3 dX13_wouldDie_50 rfl ?_
      have h12 := hs.1; have hs := hs.2
      refine g_callV (As := [.int (0 + x1), .int (-2), .int x3]) (st := []) 226 (c_X13_wouldBe E M (0 + x1) (-2) x3 h12) mt_X13_wouldBe ml_X13_350 dF_Md rfl rfl sg_X13_wouldBe rfl (by decide) (Nat.le_of_ble_eq_true rfl) dX13_wouldDie_51 ?_
      rintro _ _ ⟨rfl, rfl⟩
      obtain ⟨z13, hz13⟩ : ∃ z, z = f_X13_wouldBe M (0 + x1) (-2) x3 := ⟨_, rfl⟩
      rw [← hz13]
      have hQ := bndQ hQ z13 hz13; have hs := bndS hs z13 hz13
      exact g_iret rfl dX13_wouldDie_54 (hK _ hQ)
  · have hs := ifSt hs c8; have hQ := ifQt hQ c8
    refine g_iconst (v := (-1)) dX13_wouldDie_33 (by decide) ?_
    exact g_iret rfl dX13_wouldDie_34 (hK _ hQ)
def f_X13_wouldDie (M : gM) (x1 : Int32) (x2 : Int32) (x3 : Int32) : Int32 × gM :=
  bnd (wrI M 67 0 0 0 0) fun M1 =>
  (if (f_X13_isPerson M1 x1) = 0 then
    (((-1), M1))
  else
    (if x2 = (-1) then
      (f_X13_wouldDie_25 M1 x1 x2 x3)
    else
      (if (f_X13_isDay M1 x2) = 0 then
        (((-1), M1))
      else
        (f_X13_wouldDie_25 M1 x1 x2 x3))))
def s_X13_wouldDie (M : gM) (x1 : Int32) (x2 : Int32) (x3 : Int32) : Prop :=
  bndP (wrI M 67 0 0 0 0) fun M1 =>
  ((s_X13_isPerson M1 x1) ∧
  (if (f_X13_isPerson M1 x1) = 0 then
    (True)
  else
    (if x2 = (-1) then
      (s_X13_wouldDie_25 M1 x1 x2 x3)
    else
      ((s_X13_isDay M1 x2) ∧
      (if (f_X13_isDay M1 x2) = 0 then
        (True)
      else
        (s_X13_wouldDie_25 M1 x1 x2 x3))))))
theorem o_X13_wouldDie (M : gM) (x1 : Int32) (x2 : Int32) (x3 : Int32) : offW [67, 80, 81, 82, 83, 84, 85, 92, 97, 98] M (f_X13_wouldDie M x1 x2 x3).2 := by
  rw [f_X13_wouldDie]
  refine offB2 (offR.wI (by decide)) (fun M1 oM1 => ?_)
  refine offI2 ?_ ?_
  · exact oM1
  · refine offI2 ?_ ?_
    · exact oM1.tr (o_X13_wouldDie_25 M1 x1 x2 x3)
    · refine offI2 ?_ ?_
      · exact oM1
      · exact oM1.tr (o_X13_wouldDie_25 M1 x1 x2 x3)
set_option maxRecDepth 100000 in
set_option maxHeartbeats 4000000 in
theorem t_X13_wouldDie {E : gE} {K : Int32 × gM → Prop} {Q : Option Value → gM → Prop} (hK : ∀ z : Int32 × gM, K z → Q (some (.int z.1)) z.2) (M : gM) (x1 : Int32) (x2 : Int32) (x3 : Int32)  (hs : s_X13_wouldDie M x1 x2 x3) (hQ : K (f_X13_wouldDie M x1 x2 x3)) : gG E RX13 cX13_wouldDie 4 (some .int) (rm 13) 0 [(0, .ref (gla E 226)), (1, .int x1), (2, .int x2), (3, .int x3)] [] M Q := by
  rw [s_X13_wouldDie] at hs
  rw [f_X13_wouldDie] at hQ
  refine g_aload_n 0 dX13_wouldDie_0 rfl ?_
  refine g_iconst (v := 0) dX13_wouldDie_1 (by decide) ?_
  refine g_putI 226 fd_X13_61 dF_Md rfl dX13_wouldDie_2 (fun M1 hM1 => ?_)
  have hQ := bndQ hQ M1 hM1; have hs := bndS hs M1 hM1
  refine g_aload_n 0 dX13_wouldDie_5 rfl ?_
  refine g_iload_n 1 dX13_wouldDie_6 rfl ?_
  have h2 := hs.1; have hs := hs.2
  refine g_callV (As := [.int x1]) (st := []) 226 (c_X13_isPerson E M1 x1 h2) mt_X13_isPerson ml_X13_206 dF_Md rfl rfl sg_X13_isPerson rfl (by decide) (Nat.le_of_ble_eq_true rfl) dX13_wouldDie_7 ?_
  rintro _ _ ⟨q1, q2⟩; rw [q1, q2]; clear q1 q2
  refine g_if_eq 33 dX13_wouldDie_10 (by decide) (fun c3 => ?_) (fun c3 => ?_)
  · have hs := ifSt hs c3; have hQ := ifQt hQ c3
    refine g_iconst (v := (-1)) dX13_wouldDie_33 (by decide) ?_
    exact g_iret rfl dX13_wouldDie_34 (hK _ hQ)
  · have hs := ifSf hs c3; have hQ := ifQf hQ c3
    refine g_iload_n 2 dX13_wouldDie_13 rfl ?_
    refine g_iconst (v := (-1)) dX13_wouldDie_14 (by decide) ?_
    refine g_icmp_eq 25 dX13_wouldDie_15 (by decide) (fun c4 => ?_) (fun c4 => ?_)
    · have hs := ifSt hs c4; have hQ := ifQt hQ c4
      exact t_X13_wouldDie_25 hK M1 x1 x2 x3 hs hQ
    · have hs := ifSf hs c4; have hQ := ifQf hQ c4
      refine g_iload_n 2 dX13_wouldDie_18 rfl ?_
      have h5 := hs.1; have hs := hs.2
      refine g_callS (As := [.int x2]) (st := []) (c_X13_isDay E M1 x2 h5) mt_X13_isDay ml_X13_230 sg_X13_isDay rfl (by decide) (Nat.le_of_ble_eq_true rfl) dX13_wouldDie_19 ?_
      rintro _ _ ⟨q1, q2⟩; rw [q1, q2]; clear q1 q2
      refine g_if_eq 33 dX13_wouldDie_22 (by decide) (fun c6 => ?_) (fun c6 => ?_)
      · have hs := ifSt hs c6; have hQ := ifQt hQ c6
        refine g_iconst (v := (-1)) dX13_wouldDie_33 (by decide) ?_
        exact g_iret rfl dX13_wouldDie_34 (hK _ hQ)
      · have hs := ifSf hs c6; have hQ := ifQf hQ c6
        exact t_X13_wouldDie_25 hK M1 x1 x2 x3 hs hQ
theorem c_X13_wouldDie (E : gE) (M : gM) (x1 : Int32) (x2 : Int32) (x3 : Int32) (hs : s_X13_wouldDie M x1 x2 x3) : gC E yX13_wouldDie cX13_wouldDie 4 (some .int) (rm 13) [.ref (gla E 226), .int x1, .int x2, .int x3] M (fun o N => o = some (.int (f_X13_wouldDie M x1 x2 x3).1) ∧ N = (f_X13_wouldDie M x1 x2 x3).2) :=
  gC.of (by decide +kernel) (Nat.le_of_ble_eq_true rfl) rfl (t_X13_wouldDie (K := fun z => z = f_X13_wouldDie M x1 x2 x3) (fun z hz => by rw [hz]; exact ⟨rfl, rfl⟩) M x1 x2 x3 hs rfl)
def f_X13_dayFor_103 (M : gM) (x1 : Int32) (x2 : Int32) (x3 : Int32) (x4 : Int32) (x5 : Int32) (y0 : Int32) (k47 : gM → Int32 → Int32 → Int32 × gM) : Int32 × gM :=
  if y0 = 0 then
    (k47 M x4 (x5 + 1))
  else
    (k47 M (rdI M 99 0 0 (nn x5)) (x5 + 1))
def s_X13_dayFor_103 (M : gM) (x1 : Int32) (x2 : Int32) (x3 : Int32) (x4 : Int32) (x5 : Int32) (y0 : Int32) (q47 : gM → Int32 → Int32 → Prop) : Prop :=
  if y0 = 0 then
    (q47 M x4 (x5 + 1))
  else
    ((vp_in x5 60) ∧
    (q47 M (rdI M 99 0 0 (nn x5)) (x5 + 1)))
theorem o_X13_dayFor_103 (M : gM) (x1 : Int32) (x2 : Int32) (x3 : Int32) (x4 : Int32) (x5 : Int32) (y0 : Int32) (k47 : gM → Int32 → Int32 → Int32 × gM) (ho47 : ∀ (M : gM) (x4 : Int32) (x5 : Int32), offW [67, 80, 81, 82, 83, 84, 85, 86, 92, 97, 98, 99] M (k47 M x4 x5).2) : offW [67, 80, 81, 82, 83, 84, 85, 86, 92, 97, 98, 99] M (f_X13_dayFor_103 M x1 x2 x3 x4 x5 y0 k47).2 := by
  rw [f_X13_dayFor_103]
  refine offI2 ?_ ?_
  · exact (ho47 M x4 (x5 + 1))
  · exact (ho47 M (rdI M 99 0 0 (nn x5)) (x5 + 1))
set_option maxRecDepth 100000 in
set_option maxHeartbeats 4000000 in
theorem t_X13_dayFor_103 {E : gE} {K : Int32 × gM → Prop} {Q : Option Value → gM → Prop} (hK : ∀ z : Int32 × gM, K z → Q (some (.int z.1)) z.2) (M : gM) (x1 : Int32) (x2 : Int32) (x3 : Int32) (x4 : Int32) (x5 : Int32) (y0 : Int32)  (k47 : gM → Int32 → Int32 → Int32 × gM) (q47 : gM → Int32 → Int32 → Prop) (hk47 : ∀ (M : gM) (x4 : Int32) (x5 : Int32) , q47 M x4 x5 → K (k47 M x4 x5) → gG E RX13 cX13_dayFor 7 (some .int) (rm 13) 47 [(0, .ref (gla E 226)), (1, .int x1), (2, .int x2), (3, .int x3), (4, .int x4), (5, .int x5)] [] M Q) (hs : s_X13_dayFor_103 M x1 x2 x3 x4 x5 y0 q47) (hQ : K (f_X13_dayFor_103 M x1 x2 x3 x4 x5 y0 k47)) : gG E RX13 cX13_dayFor 7 (some .int) (rm 13) 103 [(0, .ref (gla E 226)), (1, .int x1), (2, .int x2), (3, .int x3), (4, .int x4), (5, .int x5)] [.int y0] M Q := by
  rw [s_X13_dayFor_103] at hs
  rw [f_X13_dayFor_103] at hQ
  refine g_istore _ dX13_dayFor_103 (by decide) rfl ?_
  refine g_iload 0 dX13_dayFor_105 rfl ?_
  refine g_if_eq 120 dX13_dayFor_107 (by decide) (fun c19 => ?_) (fun c19 => ?_)
  · have hs := ifSt hs c19; have hQ := ifQt hQ c19
    refine g_iload 5 dX13_dayFor_120 rfl ?_
    refine g_istore _ dX13_dayFor_122 (by decide) rfl ?_
    refine g_iinc 6 (v := x5 + 1) _ dX13_dayFor_124 rfl rfl (by decide) rfl ?_
    refine g_goto 47 dX13_dayFor_127 (by decide) ?_
    refine g_sub [3, 4, 5, 6, 1, 0] _ rfl ?_
    exact hk47 M x4 (x5 + 1) hs hQ
  · have hs := ifSf hs c19; have hQ := ifQf hQ c19
    refine g_aload_n 1 dX13_dayFor_110 rfl ?_
    refine g_getR 226 239 fd_X13_52 dF_Md rfl rfl dX13_dayFor_111 ?_
    refine g_iload 6 dX13_dayFor_114 rfl ?_
    have h20 := hs.1; have hs := hs.2
    refine g_iald 239 dF_Md_days h20 dX13_dayFor_116 ?_
    refine g_goto 122 dX13_dayFor_117 (by decide) ?_
    refine g_istore _ dX13_dayFor_122 (by decide) rfl ?_
    refine g_iinc 6 (v := x5 + 1) _ dX13_dayFor_124 rfl rfl (by decide) rfl ?_
    refine g_goto 47 dX13_dayFor_127 (by decide) ?_
    refine g_sub [3, 4, 5, 6, 1, 0] _ rfl ?_
    exact hk47 M (rdI M 99 0 0 (nn x5)) (x5 + 1) hs hQ
def f_X13_dayFor_102 (M : gM) (x1 : Int32) (x2 : Int32) (x3 : Int32) (x4 : Int32) (x5 : Int32) (k47 : gM → Int32 → Int32 → Int32 × gM) : Int32 × gM :=
  f_X13_dayFor_103 M x1 x2 x3 x4 x5 0 k47
def s_X13_dayFor_102 (M : gM) (x1 : Int32) (x2 : Int32) (x3 : Int32) (x4 : Int32) (x5 : Int32) (q47 : gM → Int32 → Int32 → Prop) : Prop :=
  s_X13_dayFor_103 M x1 x2 x3 x4 x5 0 q47
theorem o_X13_dayFor_102 (M : gM) (x1 : Int32) (x2 : Int32) (x3 : Int32) (x4 : Int32) (x5 : Int32) (k47 : gM → Int32 → Int32 → Int32 × gM) (ho47 : ∀ (M : gM) (x4 : Int32) (x5 : Int32), offW [67, 80, 81, 82, 83, 84, 85, 86, 92, 97, 98, 99] M (k47 M x4 x5).2) : offW [67, 80, 81, 82, 83, 84, 85, 86, 92, 97, 98, 99] M (f_X13_dayFor_102 M x1 x2 x3 x4 x5 k47).2 := by
  rw [f_X13_dayFor_102]
  exact (o_X13_dayFor_103 M x1 x2 x3 x4 x5 0 k47 ho47)
set_option maxRecDepth 100000 in
set_option maxHeartbeats 4000000 in
theorem t_X13_dayFor_102 {E : gE} {K : Int32 × gM → Prop} {Q : Option Value → gM → Prop} (hK : ∀ z : Int32 × gM, K z → Q (some (.int z.1)) z.2) (M : gM) (x1 : Int32) (x2 : Int32) (x3 : Int32) (x4 : Int32) (x5 : Int32)  (k47 : gM → Int32 → Int32 → Int32 × gM) (q47 : gM → Int32 → Int32 → Prop) (hk47 : ∀ (M : gM) (x4 : Int32) (x5 : Int32) , q47 M x4 x5 → K (k47 M x4 x5) → gG E RX13 cX13_dayFor 7 (some .int) (rm 13) 47 [(0, .ref (gla E 226)), (1, .int x1), (2, .int x2), (3, .int x3), (4, .int x4), (5, .int x5)] [] M Q) (hs : s_X13_dayFor_102 M x1 x2 x3 x4 x5 q47) (hQ : K (f_X13_dayFor_102 M x1 x2 x3 x4 x5 k47)) : gG E RX13 cX13_dayFor 7 (some .int) (rm 13) 102 [(0, .ref (gla E 226)), (1, .int x1), (2, .int x2), (3, .int x3), (4, .int x4), (5, .int x5)] [] M Q := by
  rw [s_X13_dayFor_102] at hs
  rw [f_X13_dayFor_102] at hQ
  refine g_iconst (v := 0) dX13_dayFor_102 (by decide) ?_
  exact t_X13_dayFor_103 hK M x1 x2 x3 x4 x5 0 k47 q47 hk47 hs hQ
def f_X13_dayFor_75 (M : gM) (x1 : Int32) (x2 : Int32) (x3 : Int32) (x4 : Int32) (x5 : Int32) (k47 : gM → Int32 → Int32 → Int32 × gM) : Int32 × gM :=
  bnd (f_X13_wouldBe M (0 + x1) (rdI M 99 0 0 (nn x5)) x3) fun z17 =>
  (if ((z17.1 >>> (x2 &&& 31)) &&& 1) = 1 then
    (f_X13_dayFor_103 z17.2 x1 x2 x3 x4 x5 1 k47)
  else
    (f_X13_dayFor_102 z17.2 x1 x2 x3 x4 x5 k47))
def s_X13_dayFor_75 (M : gM) (x1 : Int32) (x2 : Int32) (x3 : Int32) (x4 : Int32) (x5 : Int32) (q47 : gM → Int32 → Int32 → Prop) : Prop :=
  (vp_in x5 60) ∧
  ((s_X13_wouldBe M (0 + x1) (rdI M 99 0 0 (nn x5)) x3) ∧
  (bndP (f_X13_wouldBe M (0 + x1) (rdI M 99 0 0 (nn x5)) x3) fun z17 =>
  (if ((z17.1 >>> (x2 &&& 31)) &&& 1) = 1 then
    (s_X13_dayFor_103 z17.2 x1 x2 x3 x4 x5 1 q47)
  else
    (s_X13_dayFor_102 z17.2 x1 x2 x3 x4 x5 q47))))
theorem o_X13_dayFor_75 (M : gM) (x1 : Int32) (x2 : Int32) (x3 : Int32) (x4 : Int32) (x5 : Int32) (k47 : gM → Int32 → Int32 → Int32 × gM) (ho47 : ∀ (M : gM) (x4 : Int32) (x5 : Int32), offW [67, 80, 81, 82, 83, 84, 85, 86, 92, 97, 98, 99] M (k47 M x4 x5).2) : offW [67, 80, 81, 82, 83, 84, 85, 86, 92, 97, 98, 99] M (f_X13_dayFor_75 M x1 x2 x3 x4 x5 k47).2 := by
  rw [f_X13_dayFor_75]
  refine offZ2 (offR.tr ((o_X13_wouldBe M (0 + x1) (rdI M 99 0 0 (nn x5)) x3).mono (by decide))) (fun z17 oz17 => ?_)
  refine offI2 ?_ ?_
  · exact oz17.tr (o_X13_dayFor_103 z17.2 x1 x2 x3 x4 x5 1 k47 ho47)
  · exact oz17.tr (o_X13_dayFor_102 z17.2 x1 x2 x3 x4 x5 k47 ho47)
set_option maxRecDepth 100000 in
set_option maxHeartbeats 4000000 in
theorem t_X13_dayFor_75 {E : gE} {K : Int32 × gM → Prop} {Q : Option Value → gM → Prop} (hK : ∀ z : Int32 × gM, K z → Q (some (.int z.1)) z.2) (M : gM) (x1 : Int32) (x2 : Int32) (x3 : Int32) (x4 : Int32) (x5 : Int32)  (k47 : gM → Int32 → Int32 → Int32 × gM) (q47 : gM → Int32 → Int32 → Prop) (hk47 : ∀ (M : gM) (x4 : Int32) (x5 : Int32) , q47 M x4 x5 → K (k47 M x4 x5) → gG E RX13 cX13_dayFor 7 (some .int) (rm 13) 47 [(0, .ref (gla E 226)), (1, .int x1), (2, .int x2), (3, .int x3), (4, .int x4), (5, .int x5)] [] M Q) (hs : s_X13_dayFor_75 M x1 x2 x3 x4 x5 q47) (hQ : K (f_X13_dayFor_75 M x1 x2 x3 x4 x5 k47)) : gG E RX13 cX13_dayFor 7 (some .int) (rm 13) 75 [(0, .ref (gla E 226)), (1, .int x1), (2, .int x2), (3, .int x3), (4, .int x4), (5, .int x5)] [] M Q := by
  rw [s_X13_dayFor_75] at hs
  rw [f_X13_dayFor_75] at hQ
  refine g_aload_n 0 dX13_dayFor_75 rfl ?_
  refine g_iconst (v := 0) dX13_dayFor_76 (by decide) ?_
  refine g_iload_n 1 dX13_dayFor_77 rfl ?_
  refine g_iadd dX13_dayFor_78 ?_
  refine g_aload_n 0 dX13_dayFor_79 rfl ?_
  refine g_getR 226 239 fd_X13_52 dF_Md rfl rfl dX13_dayFor_80 ?_
  refine g_iload 5 dX13_dayFor_83 rfl ?_
  have h15 := hs.1; have hs := hs.2
  refine g_iald 239 dF_Md_days h15 dX13_dayFor_85 ?_
  refine g_iload_n 3 dX13_dayFor_86 rfl ?_
  have h16 := hs.1; have hs := hs.2
  refine g_callV (As := [.int (0 + x1), .int (rdI M 99 0 0 (nn x5)), .int x3]) (st := []) 226 (c_X13_wouldBe E M (0 + x1) (rdI M 99 0 0 (nn x5)) x3 h16) mt_X13_wouldBe ml_X13_350 dF_Md rfl rfl sg_X13_wouldBe rfl (by decide) (Nat.le_of_ble_eq_true rfl) dX13_dayFor_87 ?_
  rintro _ _ ⟨rfl, rfl⟩
  obtain ⟨z17, hz17⟩ : ∃ z, z = f_X13_wouldBe M (0 + x1) (rdI M 99 0 0 (nn x5)) x3 := ⟨_, rfl⟩
  rw [← hz17]
  have hQ := bndQ hQ z17 hz17; have hs := bndS hs z17 hz17
  refine g_iload_n 2 dX13_dayFor_90 rfl ?_
  refine g_ishr dX13_dayFor_91 ?_
  refine g_iconst (v := 1) dX13_dayFor_92 (by decide) ?_
  refine g_iand dX13_dayFor_93 ?_
  refine g_iconst (v := 1) dX13_dayFor_94 (by decide) ?_
  refine g_icmp_ne 102 dX13_dayFor_95 (by decide) (fun c18 => ?_) (fun c18 => ?_)
  · have hs := ifSf hs c18; have hQ := ifQf hQ c18
    exact t_X13_dayFor_102 hK z17.2 x1 x2 x3 x4 x5 k47 q47 hk47 hs hQ
  · have hs := ifSt hs c18; have hQ := ifQt hQ c18
    refine g_iconst (v := 1) dX13_dayFor_98 (by decide) ?_
    refine g_goto 103 dX13_dayFor_99 (by decide) ?_
    exact t_X13_dayFor_103 hK z17.2 x1 x2 x3 x4 x5 1 k47 q47 hk47 hs hQ
def f_X13_dayFor_47 (x1 : Int32) (x2 : Int32) (x3 : Int32)  : Nat → gM → Int32 → Int32 → Int32 × gM
  | 0, M, _, _ => (0, M)
  | n + 1, M, x4, x5 =>
    if (rdI M 86 0 0 0) ≤ x5 then
      ((x4, M))
    else
      (if x4 = (-2) then
        (f_X13_dayFor_75 M x1 x2 x3 x4 x5 (f_X13_dayFor_47 x1 x2 x3 n))
      else
        (if x4 ≤ (rdI M 99 0 0 (nn x5)) then
          (f_X13_dayFor_102 M x1 x2 x3 x4 x5 (f_X13_dayFor_47 x1 x2 x3 n))
        else
          (f_X13_dayFor_75 M x1 x2 x3 x4 x5 (f_X13_dayFor_47 x1 x2 x3 n))))
def s_X13_dayFor_47 (x1 : Int32) (x2 : Int32) (x3 : Int32)  : Nat → gM → Int32 → Int32 → Prop
  | 0, _, _, _ => False
  | n + 1, M, x4, x5 =>
    if (rdI M 86 0 0 0) ≤ x5 then
      (True)
    else
      (if x4 = (-2) then
        (s_X13_dayFor_75 M x1 x2 x3 x4 x5 (s_X13_dayFor_47 x1 x2 x3 n))
      else
        ((vp_in x5 60) ∧
        (if x4 ≤ (rdI M 99 0 0 (nn x5)) then
          (s_X13_dayFor_102 M x1 x2 x3 x4 x5 (s_X13_dayFor_47 x1 x2 x3 n))
        else
          (s_X13_dayFor_75 M x1 x2 x3 x4 x5 (s_X13_dayFor_47 x1 x2 x3 n)))))
theorem o_X13_dayFor_47 (x1 : Int32) (x2 : Int32) (x3 : Int32)  : ∀ (n : Nat) (M : gM) (x4 : Int32) (x5 : Int32), offW [67, 80, 81, 82, 83, 84, 85, 86, 92, 97, 98, 99] M (f_X13_dayFor_47 x1 x2 x3  n M x4 x5).2 := by
  intro n
  induction n with
  | zero => intro M x4 x5; exact offR
  | succ n ih =>
    intro M x4 x5
    rw [f_X13_dayFor_47]
    refine offI2 ?_ ?_
    · exact offR
    · refine offI2 ?_ ?_
      · exact (o_X13_dayFor_75 M x1 x2 x3 x4 x5 (f_X13_dayFor_47 x1 x2 x3 n) ih)
      · refine offI2 ?_ ?_
        · exact (o_X13_dayFor_102 M x1 x2 x3 x4 x5 (f_X13_dayFor_47 x1 x2 x3 n) ih)
        · exact (o_X13_dayFor_75 M x1 x2 x3 x4 x5 (f_X13_dayFor_47 x1 x2 x3 n) ih)
set_option maxRecDepth 100000 in
set_option maxHeartbeats 4000000 in
theorem t_X13_dayFor_47 {E : gE} {K : Int32 × gM → Prop} {Q : Option Value → gM → Prop} (hK : ∀ z : Int32 × gM, K z → Q (some (.int z.1)) z.2) (x1 : Int32) (x2 : Int32) (x3 : Int32)   : ∀ (n : Nat) (M : gM) (x4 : Int32) (x5 : Int32) , s_X13_dayFor_47 x1 x2 x3  n M x4 x5 → K (f_X13_dayFor_47 x1 x2 x3  n M x4 x5) → gG E RX13 cX13_dayFor 7 (some .int) (rm 13) 47 [(0, .ref (gla E 226)), (1, .int x1), (2, .int x2), (3, .int x3), (4, .int x4), (5, .int x5)] [] M Q := by
  intro n
  induction n with
  | zero => intro M x4 x5 hs hQ; exact (hs : False).elim
  | succ n ih =>
    intro M x4 x5 hs hQ
    rw [s_X13_dayFor_47] at hs
    rw [f_X13_dayFor_47] at hQ
    refine g_iload 5 dX13_dayFor_47 rfl ?_
    refine g_aload_n 0 dX13_dayFor_49 rfl ?_
    refine g_getI 226 fd_X13_356 dF_Md rfl dX13_dayFor_50 ?_
    refine g_icmp_ge 130 dX13_dayFor_53 (by decide) (fun c11 => ?_) (fun c11 => ?_)
    · have hs := ifSt hs c11; have hQ := ifQt hQ c11
      refine g_iload 4 dX13_dayFor_130 rfl ?_
      exact g_iret rfl dX13_dayFor_132 (hK _ hQ)
    · have hs := ifSf hs c11; have hQ := ifQf hQ c11
      refine g_iload 4 dX13_dayFor_56 rfl ?_
      refine g_bipush (v := (-2)) dX13_dayFor_58 (by decide) ?_
      refine g_icmp_eq 75 dX13_dayFor_60 (by decide) (fun c12 => ?_) (fun c12 => ?_)
      · have hs := ifSt hs c12; have hQ := ifQt hQ c12
        exact t_X13_dayFor_75 hK M x1 x2 x3 x4 x5 (f_X13_dayFor_47 x1 x2 x3 n) (s_X13_dayFor_47 x1 x2 x3 n) ih hs hQ
      · have hs := ifSf hs c12; have hQ := ifQf hQ c12
        refine g_aload_n 0 dX13_dayFor_63 rfl ?_
        refine g_getR 226 239 fd_X13_52 dF_Md rfl rfl dX13_dayFor_64 ?_
        refine g_iload 5 dX13_dayFor_67 rfl ?_
        have h13 := hs.1; have hs := hs.2
        refine g_iald 239 dF_Md_days h13 dX13_dayFor_69 ?_
        refine g_iload 4 dX13_dayFor_70 rfl ?_
        refine g_icmp_ge 102 dX13_dayFor_72 (by decide) (fun c14 => ?_) (fun c14 => ?_)
        · have hs := ifSt hs c14; have hQ := ifQt hQ c14
          exact t_X13_dayFor_102 hK M x1 x2 x3 x4 x5 (f_X13_dayFor_47 x1 x2 x3 n) (s_X13_dayFor_47 x1 x2 x3 n) ih hs hQ
        · have hs := ifSf hs c14; have hQ := ifQf hQ c14
          exact t_X13_dayFor_75 hK M x1 x2 x3 x4 x5 (f_X13_dayFor_47 x1 x2 x3 n) (s_X13_dayFor_47 x1 x2 x3 n) ih hs hQ
def f_X13_dayFor (M : gM) (x1 : Int32) (x2 : Int32) (x3 : Int32) : Int32 × gM :=
  bnd (wrI M 67 0 0 0 0) fun M1 =>
  (if (f_X13_isPerson M1 x1) = 0 then
    (((-1), M1))
  else
    (if (f_X13_isPerson M1 x2) = 0 then
      (((-1), M1))
    else
      (if x1 = x2 then
        (((-1), M1))
      else
        (if (f_X13_isThing M1 x3) = 0 then
          (((-1), M1))
        else
          (bnd (f_X13_laysDays M1) fun M10 =>
          (f_X13_dayFor_47 x1 x2 x3 FU M10 (-2) 0))))))
def s_X13_dayFor (M : gM) (x1 : Int32) (x2 : Int32) (x3 : Int32) : Prop :=
  bndP (wrI M 67 0 0 0 0) fun M1 =>
  ((s_X13_isPerson M1 x1) ∧
  (if (f_X13_isPerson M1 x1) = 0 then
    (True)
  else
    ((s_X13_isPerson M1 x2) ∧
    (if (f_X13_isPerson M1 x2) = 0 then
      (True)
    else
      (if x1 = x2 then
        (True)
      else
        ((s_X13_isThing M1 x3) ∧
        (if (f_X13_isThing M1 x3) = 0 then
          (True)
        else
          ((s_X13_laysDays M1) ∧
          (bndP (f_X13_laysDays M1) fun M10 =>
          (s_X13_dayFor_47 x1 x2 x3 FU M10 (-2) 0))))))))))
theorem o_X13_dayFor (M : gM) (x1 : Int32) (x2 : Int32) (x3 : Int32) : offW [67, 80, 81, 82, 83, 84, 85, 86, 92, 97, 98, 99] M (f_X13_dayFor M x1 x2 x3).2 := by
  rw [f_X13_dayFor]
  refine offB2 (offR.wI (by decide)) (fun M1 oM1 => ?_)
  refine offI2 ?_ ?_
  · exact oM1
  · refine offI2 ?_ ?_
    · exact oM1
    · refine offI2 ?_ ?_
      · exact oM1
      · refine offI2 ?_ ?_
        · exact oM1
        · refine offB2 (oM1.tr ((o_X13_laysDays M1).mono (by decide))) (fun M10 oM10 => ?_)
          exact oM10.tr (o_X13_dayFor_47 x1 x2 x3 FU M10 (-2) 0)
set_option maxRecDepth 100000 in
set_option maxHeartbeats 4000000 in
theorem t_X13_dayFor {E : gE} {K : Int32 × gM → Prop} {Q : Option Value → gM → Prop} (hK : ∀ z : Int32 × gM, K z → Q (some (.int z.1)) z.2) (M : gM) (x1 : Int32) (x2 : Int32) (x3 : Int32)  (hs : s_X13_dayFor M x1 x2 x3) (hQ : K (f_X13_dayFor M x1 x2 x3)) : gG E RX13 cX13_dayFor 7 (some .int) (rm 13) 0 [(0, .ref (gla E 226)), (1, .int x1), (2, .int x2), (3, .int x3)] [] M Q := by
  rw [s_X13_dayFor] at hs
  rw [f_X13_dayFor] at hQ
  refine g_aload_n 0 dX13_dayFor_0 rfl ?_
  refine g_iconst (v := 0) dX13_dayFor_1 (by decide) ?_
  refine g_putI 226 fd_X13_61 dF_Md rfl dX13_dayFor_2 (fun M1 hM1 => ?_)
  have hQ := bndQ hQ M1 hM1; have hs := bndS hs M1 hM1
  refine g_aload_n 0 dX13_dayFor_5 rfl ?_
  refine g_iload_n 1 dX13_dayFor_6 rfl ?_
  have h2 := hs.1; have hs := hs.2
  refine g_callV (As := [.int x1]) (st := []) 226 (c_X13_isPerson E M1 x1 h2) mt_X13_isPerson ml_X13_206 dF_Md rfl rfl sg_X13_isPerson rfl (by decide) (Nat.le_of_ble_eq_true rfl) dX13_dayFor_7 ?_
  rintro _ _ ⟨q1, q2⟩; rw [q1, q2]; clear q1 q2
  refine g_if_eq 34 dX13_dayFor_10 (by decide) (fun c3 => ?_) (fun c3 => ?_)
  · have hs := ifSt hs c3; have hQ := ifQt hQ c3
    refine g_iconst (v := (-1)) dX13_dayFor_34 (by decide) ?_
    exact g_iret rfl dX13_dayFor_35 (hK _ hQ)
  · have hs := ifSf hs c3; have hQ := ifQf hQ c3
    refine g_aload_n 0 dX13_dayFor_13 rfl ?_
    refine g_iload_n 2 dX13_dayFor_14 rfl ?_
    have h4 := hs.1; have hs := hs.2
    refine g_callV (As := [.int x2]) (st := []) 226 (c_X13_isPerson E M1 x2 h4) mt_X13_isPerson ml_X13_206 dF_Md rfl rfl sg_X13_isPerson rfl (by decide) (Nat.le_of_ble_eq_true rfl) dX13_dayFor_15 ?_
    rintro _ _ ⟨q1, q2⟩; rw [q1, q2]; clear q1 q2
    refine g_if_eq 34 dX13_dayFor_18 (by decide) (fun c5 => ?_) (fun c5 => ?_)
    · have hs := ifSt hs c5; have hQ := ifQt hQ c5
      refine g_iconst (v := (-1)) dX13_dayFor_34 (by decide) ?_
      exact g_iret rfl dX13_dayFor_35 (hK _ hQ)
    · have hs := ifSf hs c5; have hQ := ifQf hQ c5
      refine g_iload_n 1 dX13_dayFor_21 rfl ?_
      refine g_iload_n 2 dX13_dayFor_22 rfl ?_
      refine g_icmp_eq 34 dX13_dayFor_23 (by decide) (fun c6 => ?_) (fun c6 => ?_)
      · have hs := ifSt hs c6; have hQ := ifQt hQ c6
        refine g_iconst (v := (-1)) dX13_dayFor_34 (by decide) ?_
        exact g_iret rfl dX13_dayFor_35 (hK _ hQ)
      · have hs := ifSf hs c6; have hQ := ifQf hQ c6
        refine g_aload_n 0 dX13_dayFor_26 rfl ?_
        refine g_iload_n 3 dX13_dayFor_27 rfl ?_
        have h7 := hs.1; have hs := hs.2
        refine g_callV (As := [.int x3]) (st := []) 226 (c_X13_isThing E M1 x3 h7) mt_X13_isThing ml_X13_221 dF_Md rfl rfl sg_X13_isThing rfl (by decide) (Nat.le_of_ble_eq_true rfl) dX13_dayFor_28 ?_
        rintro _ _ ⟨q1, q2⟩; rw [q1, q2]; clear q1 q2
        refine g_if_ne 36 dX13_dayFor_31 (by decide) (fun c8 => ?_) (fun c8 => ?_)
        · have hs := ifSf hs c8; have hQ := ifQf hQ c8
          refine g_aload_n 0 dX13_dayFor_36 rfl ?_
          have h9 := hs.1; have hs := hs.2
          refine g_callV (As := []) (st := []) 226 (c_X13_laysDays E M1 h9) mt_X13_laysDays ml_X13_362 dF_Md rfl rfl sg_X13_laysDays rfl (by decide) (Nat.le_of_ble_eq_true rfl) dX13_dayFor_37 ?_
          rintro _ M10 ⟨rfl, hM10⟩
          have hQ := bndQ hQ M10 hM10; have hs := bndS hs M10 hM10
          refine g_bipush (v := (-2)) dX13_dayFor_40 (by decide) ?_
          refine g_istore _ dX13_dayFor_42 (by decide) rfl ?_
          refine g_iconst (v := 0) dX13_dayFor_44 (by decide) ?_
          refine g_istore _ dX13_dayFor_45 (by decide) rfl ?_
          refine g_sub [2, 3, 4, 5, 1, 0] _ rfl ?_
          exact t_X13_dayFor_47 hK x1 x2 x3 FU M10 (-2) 0 hs hQ
        · have hs := ifSt hs c8; have hQ := ifQt hQ c8
          refine g_iconst (v := (-1)) dX13_dayFor_34 (by decide) ?_
          exact g_iret rfl dX13_dayFor_35 (hK _ hQ)
theorem c_X13_dayFor (E : gE) (M : gM) (x1 : Int32) (x2 : Int32) (x3 : Int32) (hs : s_X13_dayFor M x1 x2 x3) : gC E yX13_dayFor cX13_dayFor 7 (some .int) (rm 13) [.ref (gla E 226), .int x1, .int x2, .int x3] M (fun o N => o = some (.int (f_X13_dayFor M x1 x2 x3).1) ∧ N = (f_X13_dayFor M x1 x2 x3).2) :=
  gC.of (by decide +kernel) (Nat.le_of_ble_eq_true rfl) rfl (t_X13_dayFor (K := fun z => z = f_X13_dayFor M x1 x2 x3) (fun z hz => by rw [hz]; exact ⟨rfl, rfl⟩) M x1 x2 x3 hs rfl)
def f_X13_key_74 (M : gM) (x2 : Int32)  : Int32 × gM :=
  (x2, M)
def s_X13_key_74 (M : gM) (x2 : Int32)  : Prop :=
  True
theorem o_X13_key_74 (M : gM) (x2 : Int32)  : offW [67, 80, 81, 82, 83, 84, 85, 92, 97, 98] M (f_X13_key_74 M x2 ).2 := by
  rw [f_X13_key_74]
  exact offR
set_option maxRecDepth 100000 in
set_option maxHeartbeats 4000000 in
theorem t_X13_key_74 {E : gE} {K : Int32 × gM → Prop} {Q : Option Value → gM → Prop} (hK : ∀ z : Int32 × gM, K z → Q (some (.int z.1)) z.2) (M : gM) (x2 : Int32)   (hs : s_X13_key_74 M x2 ) (hQ : K (f_X13_key_74 M x2 )) : gG E RX13 cX13_key 6 (some .int) (rm 14) 74 [(2, .int x2)] [] M Q := by
  rw [s_X13_key_74] at hs
  rw [f_X13_key_74] at hQ
  refine g_iload_n 0 dX13_key_74 rfl ?_
  refine g_goto 79 dX13_key_75 (by decide) ?_
  exact g_iret rfl dX13_key_79 (hK _ hQ)
def f_X13_key_24 (x1 : Int32)  : Nat → gM → Int32 → Int32 → Int32 → Int32 × gM
  | 0, M, _, _, _ => (0, M)
  | n + 1, M, x2, x3, x4 =>
    if (rdI M 88 0 0 (nn 2)) ≤ x4 then
      (if x2 = (-2) then
        (f_X13_key_74 M x2)
      else
        (if x1 = 0 then
          (f_X13_key_74 M x2)
        else
          ((x3, M))))
    else
      (bnd (f_X13_others M x4) fun z9 =>
      (if x3 < z9.1 then
        (f_X13_key_24 x1 n z9.2 x4 z9.1 (x4 + 1))
      else
        (f_X13_key_24 x1 n z9.2 x2 x3 (x4 + 1))))
def s_X13_key_24 (x1 : Int32)  : Nat → gM → Int32 → Int32 → Int32 → Prop
  | 0, _, _, _, _ => False
  | n + 1, M, x2, x3, x4 =>
    (vp_in 2 502) ∧
    (if (rdI M 88 0 0 (nn 2)) ≤ x4 then
      (if x2 = (-2) then
        (s_X13_key_74 M x2)
      else
        (if x1 = 0 then
          (s_X13_key_74 M x2)
        else
          (True)))
    else
      ((s_X13_others M x4) ∧
      (bndP (f_X13_others M x4) fun z9 =>
      (if x3 < z9.1 then
        (s_X13_key_24 x1 n z9.2 x4 z9.1 (x4 + 1))
      else
        (s_X13_key_24 x1 n z9.2 x2 x3 (x4 + 1))))))
theorem o_X13_key_24 (x1 : Int32)  : ∀ (n : Nat) (M : gM) (x2 : Int32) (x3 : Int32) (x4 : Int32), offW [67, 80, 81, 82, 83, 84, 85, 92, 97, 98] M (f_X13_key_24 x1  n M x2 x3 x4).2 := by
  intro n
  induction n with
  | zero => intro M x2 x3 x4; exact offR
  | succ n ih =>
    intro M x2 x3 x4
    rw [f_X13_key_24]
    refine offI2 ?_ ?_
    · refine offI2 ?_ ?_
      · exact (o_X13_key_74 M x2)
      · refine offI2 ?_ ?_
        · exact (o_X13_key_74 M x2)
        · exact offR
    · refine offZ2 (offR.tr ((o_X13_others M x4).mono (by decide))) (fun z9 oz9 => ?_)
      refine offI2 ?_ ?_
      · exact oz9.tr (ih z9.2 x4 z9.1 (x4 + 1))
      · exact oz9.tr (ih z9.2 x2 x3 (x4 + 1))
set_option maxRecDepth 100000 in
set_option maxHeartbeats 4000000 in
theorem t_X13_key_24 {E : gE} {K : Int32 × gM → Prop} {Q : Option Value → gM → Prop} (hK : ∀ z : Int32 × gM, K z → Q (some (.int z.1)) z.2) (x1 : Int32)   : ∀ (n : Nat) (M : gM) (x2 : Int32) (x3 : Int32) (x4 : Int32) , s_X13_key_24 x1  n M x2 x3 x4 → K (f_X13_key_24 x1  n M x2 x3 x4) → gG E RX13 cX13_key 6 (some .int) (rm 14) 24 [(0, .ref (gla E 226)), (1, .int x1), (2, .int x2), (3, .int x3), (4, .int x4)] [] M Q := by
  intro n
  induction n with
  | zero => intro M x2 x3 x4 hs hQ; exact (hs : False).elim
  | succ n ih =>
    intro M x2 x3 x4 hs hQ
    rw [s_X13_key_24] at hs
    rw [f_X13_key_24] at hQ
    refine g_iload 4 dX13_key_24 rfl ?_
    refine g_aload_n 0 dX13_key_26 rfl ?_
    refine g_getR 226 228 fd_X13_13 dF_Md rfl rfl dX13_key_27 ?_
    refine g_iconst (v := 2) dX13_key_30 (by decide) ?_
    have h4 := hs.1; have hs := hs.2
    refine g_iald 228 dF_Md_world h4 dX13_key_31 ?_
    refine g_icmp_ge 64 dX13_key_32 (by decide) (fun c5 => ?_) (fun c5 => ?_)
    · have hs := ifSt hs c5; have hQ := ifQt hQ c5
      refine g_iload_n 2 dX13_key_64 rfl ?_
      refine g_bipush (v := (-2)) dX13_key_65 (by decide) ?_
      refine g_icmp_eq 74 dX13_key_67 (by decide) (fun c6 => ?_) (fun c6 => ?_)
      · have hs := ifSt hs c6; have hQ := ifQt hQ c6
        refine g_sub [2] _ rfl ?_
        exact t_X13_key_74 hK M x2 hs hQ
      · have hs := ifSf hs c6; have hQ := ifQf hQ c6
        refine g_iload_n 1 dX13_key_70 rfl ?_
        refine g_if_ne 78 dX13_key_71 (by decide) (fun c7 => ?_) (fun c7 => ?_)
        · have hs := ifSf hs c7; have hQ := ifQf hQ c7
          refine g_iload_n 3 dX13_key_78 rfl ?_
          exact g_iret rfl dX13_key_79 (hK _ hQ)
        · have hs := ifSt hs c7; have hQ := ifQt hQ c7
          refine g_sub [2] _ rfl ?_
          exact t_X13_key_74 hK M x2 hs hQ
    · have hs := ifSf hs c5; have hQ := ifQf hQ c5
      refine g_aload_n 0 dX13_key_35 rfl ?_
      refine g_iload 4 dX13_key_36 rfl ?_
      have h8 := hs.1; have hs := hs.2
      refine g_callV (As := [.int x4]) (st := []) 226 (c_X13_others E M x4 h8) mt_X13_others ml_X13_353 dF_Md rfl rfl sg_X13_others rfl (by decide) (Nat.le_of_ble_eq_true rfl) dX13_key_38 ?_
      rintro _ _ ⟨rfl, rfl⟩
      obtain ⟨z9, hz9⟩ : ∃ z, z = f_X13_others M x4 := ⟨_, rfl⟩
      rw [← hz9]
      have hQ := bndQ hQ z9 hz9; have hs := bndS hs z9 hz9
      refine g_istore _ dX13_key_41 (by decide) rfl ?_
      refine g_iload 0 dX13_key_43 rfl ?_
      refine g_iload_n 4 dX13_key_45 rfl ?_
      refine g_icmp_gt 52 dX13_key_46 (by decide) (fun c10 => ?_) (fun c10 => ?_)
      · have hs := ifSt hs c10; have hQ := ifQt hQ c10
        refine g_iload 5 dX13_key_52 rfl ?_
        refine g_istore_n _ dX13_key_54 (by decide) rfl ?_
        refine g_iload 1 dX13_key_55 rfl ?_
        refine g_istore_n _ dX13_key_57 (by decide) rfl ?_
        refine g_iinc 5 (v := x4 + 1) _ dX13_key_58 rfl rfl (by decide) rfl ?_
        refine g_goto 24 dX13_key_61 (by decide) ?_
        refine g_sub [4, 5, 2, 1, 0] _ rfl ?_
        exact ih z9.2 x4 z9.1 (x4 + 1) hs hQ
      · have hs := ifSf hs c10; have hQ := ifQf hQ c10
        refine g_goto 58 dX13_key_49 (by decide) ?_
        refine g_iinc 5 (v := x4 + 1) _ dX13_key_58 rfl rfl (by decide) rfl ?_
        refine g_goto 24 dX13_key_61 (by decide) ?_
        refine g_sub [2, 3, 4, 5, 0] _ rfl ?_
        exact ih z9.2 x2 x3 (x4 + 1) hs hQ
def f_X13_key (M : gM) (x1 : Int32) : Int32 × gM :=
  bnd (wrI M 67 0 0 0 0) fun M1 =>
  (if x1 < 0 then
    (((-1), M1))
  else
    (if x1 ≤ 1 then
      (f_X13_key_24 x1 FU M1 (-2) (-1) 0)
    else
      (((-1), M1))))
def s_X13_key (M : gM) (x1 : Int32) : Prop :=
  bndP (wrI M 67 0 0 0 0) fun M1 =>
  (if x1 < 0 then
    (True)
  else
    (if x1 ≤ 1 then
      (s_X13_key_24 x1 FU M1 (-2) (-1) 0)
    else
      (True)))
theorem o_X13_key (M : gM) (x1 : Int32) : offW [67, 80, 81, 82, 83, 84, 85, 92, 97, 98] M (f_X13_key M x1).2 := by
  rw [f_X13_key]
  refine offB2 (offR.wI (by decide)) (fun M1 oM1 => ?_)
  refine offI2 ?_ ?_
  · exact oM1
  · refine offI2 ?_ ?_
    · exact oM1.tr (o_X13_key_24 x1 FU M1 (-2) (-1) 0)
    · exact oM1
set_option maxRecDepth 100000 in
set_option maxHeartbeats 4000000 in
theorem t_X13_key {E : gE} {K : Int32 × gM → Prop} {Q : Option Value → gM → Prop} (hK : ∀ z : Int32 × gM, K z → Q (some (.int z.1)) z.2) (M : gM) (x1 : Int32)  (hs : s_X13_key M x1) (hQ : K (f_X13_key M x1)) : gG E RX13 cX13_key 6 (some .int) (rm 14) 0 [(0, .ref (gla E 226)), (1, .int x1)] [] M Q := by
  rw [s_X13_key] at hs
  rw [f_X13_key] at hQ
  refine g_aload_n 0 dX13_key_0 rfl ?_
  refine g_iconst (v := 0) dX13_key_1 (by decide) ?_
  refine g_putI 226 fd_X13_61 dF_Md rfl dX13_key_2 (fun M1 hM1 => ?_)
  have hQ := bndQ hQ M1 hM1; have hs := bndS hs M1 hM1
  refine g_iload_n 1 dX13_key_5 rfl ?_
  refine g_if_lt 14 dX13_key_6 (by decide) (fun c2 => ?_) (fun c2 => ?_)
  · have hs := ifSt hs c2; have hQ := ifQt hQ c2
    refine g_iconst (v := (-1)) dX13_key_14 (by decide) ?_
    exact g_iret rfl dX13_key_15 (hK _ hQ)
  · have hs := ifSf hs c2; have hQ := ifQf hQ c2
    refine g_iload_n 1 dX13_key_9 rfl ?_
    refine g_iconst (v := 1) dX13_key_10 (by decide) ?_
    refine g_icmp_le 16 dX13_key_11 (by decide) (fun c3 => ?_) (fun c3 => ?_)
    · have hs := ifSt hs c3; have hQ := ifQt hQ c3
      refine g_bipush (v := (-2)) dX13_key_16 (by decide) ?_
      refine g_istore_n _ dX13_key_18 (by decide) rfl ?_
      refine g_iconst (v := (-1)) dX13_key_19 (by decide) ?_
      refine g_istore_n _ dX13_key_20 (by decide) rfl ?_
      refine g_iconst (v := 0) dX13_key_21 (by decide) ?_
      refine g_istore _ dX13_key_22 (by decide) rfl ?_
      refine g_sub [3, 4, 2, 1, 0] _ rfl ?_
      exact t_X13_key_24 hK x1 FU M1 (-2) (-1) 0 hs hQ
    · have hs := ifSf hs c3; have hQ := ifQf hQ c3
      refine g_iconst (v := (-1)) dX13_key_14 (by decide) ?_
      exact g_iret rfl dX13_key_15 (hK _ hQ)
theorem c_X13_key (E : gE) (M : gM) (x1 : Int32) (hs : s_X13_key M x1) : gC E yX13_key cX13_key 6 (some .int) (rm 14) [.ref (gla E 226), .int x1] M (fun o N => o = some (.int (f_X13_key M x1).1) ∧ N = (f_X13_key M x1).2) :=
  gC.of (by decide +kernel) (Nat.le_of_ble_eq_true rfl) rfl (t_X13_key (K := fun z => z = f_X13_key M x1) (fun z hz => by rw [hz]; exact ⟨rfl, rfl⟩) M x1 hs rfl)
def f_X13_readPaper_249 (M : gM)  : gM :=
  if (rdI M 76 0 0 0) = 0 then
    (bnd (wrI M 89 0 0 (nn 2) ((rdI M 89 0 0 (nn 2)) + 1)) fun M55 =>
    (M55))
  else
    (M)
def s_X13_readPaper_249 (M : gM)  : Prop :=
  if (rdI M 76 0 0 0) = 0 then
    ((vp_in 2 502) ∧
    ((vp_in 2 502) ∧
    (bndP (wrI M 89 0 0 (nn 2) ((rdI M 89 0 0 (nn 2)) + 1)) fun M55 =>
    (True))))
  else
    (True)
theorem o_X13_readPaper_249 (M : gM)  : offW [71, 72, 73, 74, 75, 76, 77, 89, 91, 93, 95] M (f_X13_readPaper_249 M ) := by
  rw [f_X13_readPaper_249]
  refine offI ?_ ?_
  · refine offB (offR.wI (by decide)) (fun M55 oM55 => ?_)
    exact oM55
  · exact offR
set_option maxRecDepth 100000 in
set_option maxHeartbeats 4000000 in
theorem t_X13_readPaper_249 {E : gE} {K : gM → Prop} {Q : Option Value → gM → Prop} (hK : ∀ z : gM, K z → Q none z) (M : gM)   (hs : s_X13_readPaper_249 M ) (hQ : K (f_X13_readPaper_249 M )) : gG E RX13 cX13_readPaper 6 none (rm 44) 249 [(0, .ref (gla E 226))] [] M Q := by
  rw [s_X13_readPaper_249] at hs
  rw [f_X13_readPaper_249] at hQ
  refine g_aload_n 0 dX13_readPaper_249 rfl ?_
  refine g_getI 226 fd_X13_111 dF_Md rfl dX13_readPaper_250 ?_
  refine g_if_ne 266 dX13_readPaper_253 (by decide) (fun c52 => ?_) (fun c52 => ?_)
  · have hs := ifSf hs c52; have hQ := ifQf hQ c52
    exact g_vret rfl dX13_readPaper_266 (hK _ hQ)
  · have hs := ifSt hs c52; have hQ := ifQt hQ c52
    refine g_aload_n 0 dX13_readPaper_256 rfl ?_
    refine g_getR 226 229 fd_X13_16 dF_Md rfl rfl dX13_readPaper_257 ?_
    refine g_iconst (v := 2) dX13_readPaper_260 (by decide) ?_
    refine g_dup2 dX13_readPaper_261 rfl rfl ?_
    have h53 := hs.1; have hs := hs.2
    refine g_iald 229 dF_Md_fresh h53 dX13_readPaper_262 ?_
    refine g_iconst (v := 1) dX13_readPaper_263 (by decide) ?_
    refine g_iadd dX13_readPaper_264 ?_
    have h54 := hs.1; have hs := hs.2
    refine g_iast 229 dF_Md_fresh h54 dX13_readPaper_265 (fun M55 hM55 => ?_)
    have hQ := bndQ hQ M55 hM55; have hs := bndS hs M55 hM55
    exact g_vret rfl dX13_readPaper_266 (hK _ hQ)
def f_X13_readPaper_225 (x1 : Int32) (x5 : Int32)  : Nat → gM → gM
  | 0, M => M
  | n + 1, M =>
    if (rdI M 76 0 0 0) = 0 then
      (bnd (f_X13_readPart (f_X13_readGive DG) M x1 x5) fun z48 =>
      (if z48.1 = 0 then
        (f_X13_readPaper_249 z48.2)
      else
        (bnd (f_X13_goOn z48.2) fun M51 =>
        (f_X13_readPaper_225 x1 x5 n M51))))
    else
      (f_X13_readPaper_249 M)
def s_X13_readPaper_225 (x1 : Int32) (x5 : Int32)  : Nat → gM → Prop
  | 0, _ => False
  | n + 1, M =>
    if (rdI M 76 0 0 0) = 0 then
      ((s_X13_readPart (f_X13_readGive DG) (s_X13_readGive DG) M x1 x5) ∧
      (bndP (f_X13_readPart (f_X13_readGive DG) M x1 x5) fun z48 =>
      (if z48.1 = 0 then
        (s_X13_readPaper_249 z48.2)
      else
        ((s_X13_goOn z48.2) ∧
        (bndP (f_X13_goOn z48.2) fun M51 =>
        (s_X13_readPaper_225 x1 x5 n M51))))))
    else
      (s_X13_readPaper_249 M)
theorem o_X13_readPaper_225 (x1 : Int32) (x5 : Int32)  : ∀ (n : Nat) (M : gM), offW [71, 72, 73, 74, 75, 76, 77, 89, 91, 93, 95] M (f_X13_readPaper_225 x1 x5  n M) := by
  intro n
  induction n with
  | zero => intro M; exact offR
  | succ n ih =>
    intro M
    rw [f_X13_readPaper_225]
    refine offI ?_ ?_
    · refine offZ (offR.tr ((o_X13_readPart (f_X13_readGive DG) (o_X13_readGive DG) M x1 x5).mono (by decide))) (fun z48 oz48 => ?_)
      refine offI ?_ ?_
      · exact oz48.tr (o_X13_readPaper_249 z48.2)
      · refine offB (oz48.tr ((o_X13_goOn z48.2).mono (by decide))) (fun M51 oM51 => ?_)
        exact oM51.tr (ih M51)
    · exact (o_X13_readPaper_249 M)
set_option maxRecDepth 100000 in
set_option maxHeartbeats 4000000 in
theorem t_X13_readPaper_225 {E : gE} {K : gM → Prop} {Q : Option Value → gM → Prop} (hK : ∀ z : gM, K z → Q none z) (x1 : Int32) (x5 : Int32)   : ∀ (n : Nat) (M : gM) , s_X13_readPaper_225 x1 x5  n M → K (f_X13_readPaper_225 x1 x5  n M) → gG E RX13 cX13_readPaper 6 none (rm 44) 225 [(0, .ref (gla E 226)), (1, .int x1), (5, .int x5)] [] M Q := by
  intro n
  induction n with
  | zero => intro M hs hQ; exact (hs : False).elim
  | succ n ih =>
    intro M hs hQ
    rw [s_X13_readPaper_225] at hs
    rw [f_X13_readPaper_225] at hQ
    refine g_aload_n 0 dX13_readPaper_225 rfl ?_
    refine g_getI 226 fd_X13_111 dF_Md rfl dX13_readPaper_226 ?_
    refine g_if_ne 249 dX13_readPaper_229 (by decide) (fun c46 => ?_) (fun c46 => ?_)
    · have hs := ifSf hs c46; have hQ := ifQf hQ c46
      refine g_sub [0] _ rfl ?_
      exact t_X13_readPaper_249 hK M hs hQ
    · have hs := ifSt hs c46; have hQ := ifQt hQ c46
      refine g_aload_n 0 dX13_readPaper_232 rfl ?_
      refine g_iload_n 1 dX13_readPaper_233 rfl ?_
      refine g_iload 2 dX13_readPaper_234 rfl ?_
      have h47 := hs.1; have hs := hs.2
      refine g_callV (As := [.int x1, .int x5]) (st := []) 226 (c_X13_readPart E (dg := 42) (by decide) (f_X13_readGive DG) (s_X13_readGive DG) (c_X13_giveDG E) M x1 x5 h47) mt_X13_readPart ml_X13_163 dF_Md rfl rfl sg_X13_readPart rfl (by decide) (Nat.le_of_ble_eq_true rfl) dX13_readPaper_236 ?_
      rintro _ _ ⟨rfl, rfl⟩
      obtain ⟨z48, hz48⟩ : ∃ z, z = f_X13_readPart (f_X13_readGive DG) M x1 x5 := ⟨_, rfl⟩
      rw [← hz48]
      have hQ := bndQ hQ z48 hz48; have hs := bndS hs z48 hz48
      refine g_if_eq 249 dX13_readPaper_239 (by decide) (fun c49 => ?_) (fun c49 => ?_)
      · have hs := ifSt hs c49; have hQ := ifQt hQ c49
        refine g_sub [0] _ rfl ?_
        exact t_X13_readPaper_249 hK z48.2 hs hQ
      · have hs := ifSf hs c49; have hQ := ifQf hQ c49
        refine g_aload_n 0 dX13_readPaper_242 rfl ?_
        have h50 := hs.1; have hs := hs.2
        refine g_callV (As := []) (st := []) 226 (c_X13_goOn E z48.2 h50) mt_X13_goOn ml_X13_128 dF_Md rfl rfl sg_X13_goOn rfl (by decide) (Nat.le_of_ble_eq_true rfl) dX13_readPaper_243 ?_
        rintro _ M51 ⟨rfl, hM51⟩
        have hQ := bndQ hQ M51 hM51; have hs := bndS hs M51 hM51
        refine g_goto 225 dX13_readPaper_246 (by decide) ?_
        exact ih M51 hs hQ
def f_X13_readPaper_87 (M : gM) (x1 : Int32) (x2 : Int32) (x3 : Int32) (x4 : Int32)  : gM :=
  if (rdI M 76 0 0 0) = 0 then
    (bnd (wrI M 89 0 0 (nn ((58 + (7 * x1)) + 0)) x2) fun M21 =>
    (bnd (wrI M21 89 0 0 (nn ((58 + (7 * x1)) + 1)) x3) fun M23 =>
    (bnd (wrI M23 89 0 0 (nn ((58 + (7 * x1)) + 2)) x4) fun M25 =>
    (bnd (wrI M25 89 0 0 (nn ((58 + (7 * x1)) + 3)) ((rdI M25 74 0 0 0) - 11)) fun M27 =>
    (bnd (wrI M27 89 0 0 (nn ((58 + (7 * x1)) + 4)) 0) fun M29 =>
    (bnd (wrI M29 89 0 0 (nn ((58 + (7 * x1)) + 5)) 0) fun M31 =>
    (bnd (wrI M31 89 0 0 (nn ((58 + (7 * x1)) + 6)) (-2)) fun M33 =>
    (bnd (wrI M33 93 0 0 (nn (10 + x1)) (-2)) fun M35 =>
    (bnd (wrI M35 93 0 0 (nn (22 + x1)) 0) fun M37 =>
    (bnd (wrI M37 93 0 0 (nn (34 + x1)) 0) fun M39 =>
    (bnd (wrI M39 91 0 0 (nn x1) 0) fun M41 =>
    (bnd (f_X13_goOn M41) fun M43 =>
    (f_X13_readPaper_225 x1 (58 + (7 * x1)) FU M43)))))))))))))
  else
    (M)
def s_X13_readPaper_87 (M : gM) (x1 : Int32) (x2 : Int32) (x3 : Int32) (x4 : Int32)  : Prop :=
  if (rdI M 76 0 0 0) = 0 then
    ((vp_in ((58 + (7 * x1)) + 0) 502) ∧
    (bndP (wrI M 89 0 0 (nn ((58 + (7 * x1)) + 0)) x2) fun M21 =>
    ((vp_in ((58 + (7 * x1)) + 1) 502) ∧
    (bndP (wrI M21 89 0 0 (nn ((58 + (7 * x1)) + 1)) x3) fun M23 =>
    ((vp_in ((58 + (7 * x1)) + 2) 502) ∧
    (bndP (wrI M23 89 0 0 (nn ((58 + (7 * x1)) + 2)) x4) fun M25 =>
    ((vp_in ((58 + (7 * x1)) + 3) 502) ∧
    (bndP (wrI M25 89 0 0 (nn ((58 + (7 * x1)) + 3)) ((rdI M25 74 0 0 0) - 11)) fun M27 =>
    ((vp_in ((58 + (7 * x1)) + 4) 502) ∧
    (bndP (wrI M27 89 0 0 (nn ((58 + (7 * x1)) + 4)) 0) fun M29 =>
    ((vp_in ((58 + (7 * x1)) + 5) 502) ∧
    (bndP (wrI M29 89 0 0 (nn ((58 + (7 * x1)) + 5)) 0) fun M31 =>
    ((vp_in ((58 + (7 * x1)) + 6) 502) ∧
    (bndP (wrI M31 89 0 0 (nn ((58 + (7 * x1)) + 6)) (-2)) fun M33 =>
    ((vp_in (10 + x1) 65) ∧
    (bndP (wrI M33 93 0 0 (nn (10 + x1)) (-2)) fun M35 =>
    ((vp_in (22 + x1) 65) ∧
    (bndP (wrI M35 93 0 0 (nn (22 + x1)) 0) fun M37 =>
    ((vp_in (34 + x1) 65) ∧
    (bndP (wrI M37 93 0 0 (nn (34 + x1)) 0) fun M39 =>
    ((vp_in x1 12) ∧
    (bndP (wrI M39 91 0 0 (nn x1) 0) fun M41 =>
    ((s_X13_goOn M41) ∧
    (bndP (f_X13_goOn M41) fun M43 =>
    (s_X13_readPaper_225 x1 (58 + (7 * x1)) FU M43)))))))))))))))))))))))))
  else
    (True)
theorem o_X13_readPaper_87 (M : gM) (x1 : Int32) (x2 : Int32) (x3 : Int32) (x4 : Int32)  : offW [71, 72, 73, 74, 75, 76, 77, 89, 91, 93, 95] M (f_X13_readPaper_87 M x1 x2 x3 x4 ) := by
  rw [f_X13_readPaper_87]
  refine offI ?_ ?_
  · refine offB (offR.wI (by decide)) (fun M21 oM21 => ?_)
    refine offB (oM21.wI (by decide)) (fun M23 oM23 => ?_)
    refine offB (oM23.wI (by decide)) (fun M25 oM25 => ?_)
    refine offB (oM25.wI (by decide)) (fun M27 oM27 => ?_)
    refine offB (oM27.wI (by decide)) (fun M29 oM29 => ?_)
    refine offB (oM29.wI (by decide)) (fun M31 oM31 => ?_)
    refine offB (oM31.wI (by decide)) (fun M33 oM33 => ?_)
    refine offB (oM33.wI (by decide)) (fun M35 oM35 => ?_)
    refine offB (oM35.wI (by decide)) (fun M37 oM37 => ?_)
    refine offB (oM37.wI (by decide)) (fun M39 oM39 => ?_)
    refine offB (oM39.wI (by decide)) (fun M41 oM41 => ?_)
    refine offB (oM41.tr ((o_X13_goOn M41).mono (by decide))) (fun M43 oM43 => ?_)
    exact oM43.tr (o_X13_readPaper_225 x1 (58 + (7 * x1)) FU M43)
  · exact offR
set_option maxRecDepth 100000 in
set_option maxHeartbeats 4000000 in
theorem t_X13_readPaper_87 {E : gE} {K : gM → Prop} {Q : Option Value → gM → Prop} (hK : ∀ z : gM, K z → Q none z) (M : gM) (x1 : Int32) (x2 : Int32) (x3 : Int32) (x4 : Int32)   (hs : s_X13_readPaper_87 M x1 x2 x3 x4 ) (hQ : K (f_X13_readPaper_87 M x1 x2 x3 x4 )) : gG E RX13 cX13_readPaper 6 none (rm 44) 87 [(0, .ref (gla E 226)), (1, .int x1), (2, .int x2), (3, .int x3), (4, .int x4)] [] M Q := by
  rw [s_X13_readPaper_87] at hs
  rw [f_X13_readPaper_87] at hQ
  refine g_aload_n 0 dX13_readPaper_87 rfl ?_
  refine g_getI 226 fd_X13_111 dF_Md rfl dX13_readPaper_88 ?_
  refine g_if_eq 95 dX13_readPaper_91 (by decide) (fun c19 => ?_) (fun c19 => ?_)
  · have hs := ifSt hs c19; have hQ := ifQt hQ c19
    refine g_bipush (v := 58) dX13_readPaper_95 (by decide) ?_
    refine g_bipush (v := 7) dX13_readPaper_97 (by decide) ?_
    refine g_iload_n 1 dX13_readPaper_99 rfl ?_
    refine g_imul dX13_readPaper_100 ?_
    refine g_iadd dX13_readPaper_101 ?_
    refine g_istore _ dX13_readPaper_102 (by decide) rfl ?_
    refine g_aload_n 1 dX13_readPaper_104 rfl ?_
    refine g_getR 226 229 fd_X13_16 dF_Md rfl rfl dX13_readPaper_105 ?_
    refine g_iload 0 dX13_readPaper_108 rfl ?_
    refine g_iconst (v := 0) dX13_readPaper_110 (by decide) ?_
    refine g_iadd dX13_readPaper_111 ?_
    refine g_iload_n 3 dX13_readPaper_112 rfl ?_
    have h20 := hs.1; have hs := hs.2
    refine g_iast 229 dF_Md_fresh h20 dX13_readPaper_113 (fun M21 hM21 => ?_)
    have hQ := bndQ hQ M21 hM21; have hs := bndS hs M21 hM21
    refine g_aload_n 1 dX13_readPaper_114 rfl ?_
    refine g_getR 226 229 fd_X13_16 dF_Md rfl rfl dX13_readPaper_115 ?_
    refine g_iload 0 dX13_readPaper_118 rfl ?_
    refine g_iconst (v := 1) dX13_readPaper_120 (by decide) ?_
    refine g_iadd dX13_readPaper_121 ?_
    refine g_iload_n 4 dX13_readPaper_122 rfl ?_
    have h22 := hs.1; have hs := hs.2
    refine g_iast 229 dF_Md_fresh h22 dX13_readPaper_123 (fun M23 hM23 => ?_)
    have hQ := bndQ hQ M23 hM23; have hs := bndS hs M23 hM23
    refine g_aload_n 1 dX13_readPaper_124 rfl ?_
    refine g_getR 226 229 fd_X13_16 dF_Md rfl rfl dX13_readPaper_125 ?_
    refine g_iload 0 dX13_readPaper_128 rfl ?_
    refine g_iconst (v := 2) dX13_readPaper_130 (by decide) ?_
    refine g_iadd dX13_readPaper_131 ?_
    refine g_iload 5 dX13_readPaper_132 rfl ?_
    have h24 := hs.1; have hs := hs.2
    refine g_iast 229 dF_Md_fresh h24 dX13_readPaper_134 (fun M25 hM25 => ?_)
    have hQ := bndQ hQ M25 hM25; have hs := bndS hs M25 hM25
    refine g_aload_n 1 dX13_readPaper_135 rfl ?_
    refine g_getR 226 229 fd_X13_16 dF_Md rfl rfl dX13_readPaper_136 ?_
    refine g_iload 0 dX13_readPaper_139 rfl ?_
    refine g_iconst (v := 3) dX13_readPaper_141 (by decide) ?_
    refine g_iadd dX13_readPaper_142 ?_
    refine g_aload_n 1 dX13_readPaper_143 rfl ?_
    refine g_getI 226 fd_X13_93 dF_Md rfl dX13_readPaper_144 ?_
    refine g_bipush (v := 11) dX13_readPaper_147 (by decide) ?_
    refine g_isub dX13_readPaper_149 ?_
    have h26 := hs.1; have hs := hs.2
    refine g_iast 229 dF_Md_fresh h26 dX13_readPaper_150 (fun M27 hM27 => ?_)
    have hQ := bndQ hQ M27 hM27; have hs := bndS hs M27 hM27
    refine g_aload_n 1 dX13_readPaper_151 rfl ?_
    refine g_getR 226 229 fd_X13_16 dF_Md rfl rfl dX13_readPaper_152 ?_
    refine g_iload 0 dX13_readPaper_155 rfl ?_
    refine g_iconst (v := 4) dX13_readPaper_157 (by decide) ?_
    refine g_iadd dX13_readPaper_158 ?_
    refine g_iconst (v := 0) dX13_readPaper_159 (by decide) ?_
    have h28 := hs.1; have hs := hs.2
    refine g_iast 229 dF_Md_fresh h28 dX13_readPaper_160 (fun M29 hM29 => ?_)
    have hQ := bndQ hQ M29 hM29; have hs := bndS hs M29 hM29
    refine g_aload_n 1 dX13_readPaper_161 rfl ?_
    refine g_getR 226 229 fd_X13_16 dF_Md rfl rfl dX13_readPaper_162 ?_
    refine g_iload 0 dX13_readPaper_165 rfl ?_
    refine g_iconst (v := 5) dX13_readPaper_167 (by decide) ?_
    refine g_iadd dX13_readPaper_168 ?_
    refine g_iconst (v := 0) dX13_readPaper_169 (by decide) ?_
    have h30 := hs.1; have hs := hs.2
    refine g_iast 229 dF_Md_fresh h30 dX13_readPaper_170 (fun M31 hM31 => ?_)
    have hQ := bndQ hQ M31 hM31; have hs := bndS hs M31 hM31
    refine g_aload_n 1 dX13_readPaper_171 rfl ?_
    refine g_getR 226 229 fd_X13_16 dF_Md rfl rfl dX13_readPaper_172 ?_
    refine g_iload 0 dX13_readPaper_175 rfl ?_
    refine g_bipush (v := 6) dX13_readPaper_177 (by decide) ?_
    refine g_iadd dX13_readPaper_179 ?_
    refine g_bipush (v := (-2)) dX13_readPaper_180 (by decide) ?_
    have h32 := hs.1; have hs := hs.2
    refine g_iast 229 dF_Md_fresh h32 dX13_readPaper_182 (fun M33 hM33 => ?_)
    have hQ := bndQ hQ M33 hM33; have hs := bndS hs M33 hM33
    refine g_aload_n 1 dX13_readPaper_183 rfl ?_
    refine g_getR 226 233 fd_X13_28 dF_Md rfl rfl dX13_readPaper_184 ?_
    refine g_bipush (v := 10) dX13_readPaper_187 (by decide) ?_
    refine g_iload_n 2 dX13_readPaper_189 rfl ?_
    refine g_iadd dX13_readPaper_190 ?_
    refine g_bipush (v := (-2)) dX13_readPaper_191 (by decide) ?_
    have h34 := hs.1; have hs := hs.2
    refine g_iast 233 dF_Md_newNow h34 dX13_readPaper_193 (fun M35 hM35 => ?_)
    have hQ := bndQ hQ M35 hM35; have hs := bndS hs M35 hM35
    refine g_aload_n 1 dX13_readPaper_194 rfl ?_
    refine g_getR 226 233 fd_X13_28 dF_Md rfl rfl dX13_readPaper_195 ?_
    refine g_bipush (v := 22) dX13_readPaper_198 (by decide) ?_
    refine g_iload_n 2 dX13_readPaper_200 rfl ?_
    refine g_iadd dX13_readPaper_201 ?_
    refine g_iconst (v := 0) dX13_readPaper_202 (by decide) ?_
    have h36 := hs.1; have hs := hs.2
    refine g_iast 233 dF_Md_newNow h36 dX13_readPaper_203 (fun M37 hM37 => ?_)
    have hQ := bndQ hQ M37 hM37; have hs := bndS hs M37 hM37
    refine g_aload_n 1 dX13_readPaper_204 rfl ?_
    refine g_getR 226 233 fd_X13_28 dF_Md rfl rfl dX13_readPaper_205 ?_
    refine g_bipush (v := 34) dX13_readPaper_208 (by decide) ?_
    refine g_iload_n 2 dX13_readPaper_210 rfl ?_
    refine g_iadd dX13_readPaper_211 ?_
    refine g_iconst (v := 0) dX13_readPaper_212 (by decide) ?_
    have h38 := hs.1; have hs := hs.2
    refine g_iast 233 dF_Md_newNow h38 dX13_readPaper_213 (fun M39 hM39 => ?_)
    have hQ := bndQ hQ M39 hM39; have hs := bndS hs M39 hM39
    refine g_aload_n 1 dX13_readPaper_214 rfl ?_
    refine g_getR 226 231 fd_X13_22 dF_Md rfl rfl dX13_readPaper_215 ?_
    refine g_iload_n 2 dX13_readPaper_218 rfl ?_
    refine g_iconst (v := 0) dX13_readPaper_219 (by decide) ?_
    have h40 := hs.1; have hs := hs.2
    refine g_iast 231 dF_Md_newStrikes h40 dX13_readPaper_220 (fun M41 hM41 => ?_)
    have hQ := bndQ hQ M41 hM41; have hs := bndS hs M41 hM41
    refine g_aload_n 1 dX13_readPaper_221 rfl ?_
    have h42 := hs.1; have hs := hs.2
    refine g_callV (As := []) (st := []) 226 (c_X13_goOn E M41 h42) mt_X13_goOn ml_X13_128 dF_Md rfl rfl sg_X13_goOn rfl (by decide) (Nat.le_of_ble_eq_true rfl) dX13_readPaper_222 ?_
    rintro _ M43 ⟨rfl, hM43⟩
    have hQ := bndQ hQ M43 hM43; have hs := bndS hs M43 hM43
    refine g_sub [1, 2, 0] _ rfl ?_
    exact t_X13_readPaper_225 hK x1 (58 + (7 * x1)) FU M43 hs hQ
  · have hs := ifSf hs c19; have hQ := ifQf hQ c19
    exact g_vret rfl dX13_readPaper_94 (hK _ hQ)
def f_X13_readPaper_82 (M : gM) (x1 : Int32) (x2 : Int32) (x3 : Int32) (x4 : Int32)  : gM :=
  bnd (f_X13_wrong M 1) fun M45 =>
  (f_X13_readPaper_87 M45 x1 x2 x3 x4)
def s_X13_readPaper_82 (M : gM) (x1 : Int32) (x2 : Int32) (x3 : Int32) (x4 : Int32)  : Prop :=
  (s_X13_wrong M 1) ∧
  (bndP (f_X13_wrong M 1) fun M45 =>
  (s_X13_readPaper_87 M45 x1 x2 x3 x4))
theorem o_X13_readPaper_82 (M : gM) (x1 : Int32) (x2 : Int32) (x3 : Int32) (x4 : Int32)  : offW [71, 72, 73, 74, 75, 76, 77, 89, 91, 93, 95] M (f_X13_readPaper_82 M x1 x2 x3 x4 ) := by
  rw [f_X13_readPaper_82]
  refine offB (offR.tr ((o_X13_wrong M 1).mono (by decide))) (fun M45 oM45 => ?_)
  exact oM45.tr (o_X13_readPaper_87 M45 x1 x2 x3 x4)
set_option maxRecDepth 100000 in
set_option maxHeartbeats 4000000 in
theorem t_X13_readPaper_82 {E : gE} {K : gM → Prop} {Q : Option Value → gM → Prop} (hK : ∀ z : gM, K z → Q none z) (M : gM) (x1 : Int32) (x2 : Int32) (x3 : Int32) (x4 : Int32)   (hs : s_X13_readPaper_82 M x1 x2 x3 x4 ) (hQ : K (f_X13_readPaper_82 M x1 x2 x3 x4 )) : gG E RX13 cX13_readPaper 6 none (rm 44) 82 [(0, .ref (gla E 226)), (1, .int x1), (2, .int x2), (3, .int x3), (4, .int x4)] [] M Q := by
  rw [s_X13_readPaper_82] at hs
  rw [f_X13_readPaper_82] at hQ
  refine g_aload_n 0 dX13_readPaper_82 rfl ?_
  refine g_iconst (v := 1) dX13_readPaper_83 (by decide) ?_
  have h44 := hs.1; have hs := hs.2
  refine g_callV (As := [.int 1]) (st := []) 226 (c_X13_wrong E M 1 h44) mt_X13_wrong ml_X13_120 dF_Md rfl rfl sg_X13_wrong rfl (by decide) (Nat.le_of_ble_eq_true rfl) dX13_readPaper_84 ?_
  rintro _ M45 ⟨rfl, hM45⟩
  have hQ := bndQ hQ M45 hM45; have hs := bndS hs M45 hM45
  exact t_X13_readPaper_87 hK M45 x1 x2 x3 x4 hs hQ
def f_X13_readPaper_18 (M : gM) (x1 : Int32)  : gM :=
  bnd (f_X13_goOn M) fun M6 =>
  (bnd (f_X13_newName M6 2) fun M8 =>
  (bnd (f_X13_told M8 0) fun z10 =>
  (bnd (f_X13_number z10.2 0 9999) fun z12 =>
  (bnd (f_X13_number z12.2 0 1) fun z14 =>
  (if (rdI z14.2 76 0 0 0) = 0 then
    (if (rdI z14.2 73 0 0 0) = 0 then
      (if (rdI z14.2 74 0 0 0) < 11 then
        (f_X13_readPaper_82 z14.2 x1 z10.1 z12.1 z14.1)
      else
        (if (rdI z14.2 74 0 0 0) ≤ 13 then
          (f_X13_readPaper_87 z14.2 x1 z10.1 z12.1 z14.1)
        else
          (f_X13_readPaper_82 z14.2 x1 z10.1 z12.1 z14.1)))
    else
      (f_X13_readPaper_82 z14.2 x1 z10.1 z12.1 z14.1))
  else
    (f_X13_readPaper_87 z14.2 x1 z10.1 z12.1 z14.1))))))
def s_X13_readPaper_18 (M : gM) (x1 : Int32)  : Prop :=
  (s_X13_goOn M) ∧
  (bndP (f_X13_goOn M) fun M6 =>
  ((s_X13_newName M6 2) ∧
  (bndP (f_X13_newName M6 2) fun M8 =>
  ((s_X13_told M8 0) ∧
  (bndP (f_X13_told M8 0) fun z10 =>
  ((s_X13_number z10.2 0 9999) ∧
  (bndP (f_X13_number z10.2 0 9999) fun z12 =>
  ((s_X13_number z12.2 0 1) ∧
  (bndP (f_X13_number z12.2 0 1) fun z14 =>
  (if (rdI z14.2 76 0 0 0) = 0 then
    (if (rdI z14.2 73 0 0 0) = 0 then
      (if (rdI z14.2 74 0 0 0) < 11 then
        (s_X13_readPaper_82 z14.2 x1 z10.1 z12.1 z14.1)
      else
        (if (rdI z14.2 74 0 0 0) ≤ 13 then
          (s_X13_readPaper_87 z14.2 x1 z10.1 z12.1 z14.1)
        else
          (s_X13_readPaper_82 z14.2 x1 z10.1 z12.1 z14.1)))
    else
      (s_X13_readPaper_82 z14.2 x1 z10.1 z12.1 z14.1))
  else
    (s_X13_readPaper_87 z14.2 x1 z10.1 z12.1 z14.1)))))))))))
theorem o_X13_readPaper_18 (M : gM) (x1 : Int32)  : offW [71, 72, 73, 74, 75, 76, 77, 89, 91, 93, 95] M (f_X13_readPaper_18 M x1 ) := by
  rw [f_X13_readPaper_18]
  refine offB (offR.tr ((o_X13_goOn M).mono (by decide))) (fun M6 oM6 => ?_)
  refine offB (oM6.tr ((o_X13_newName M6 2).mono (by decide))) (fun M8 oM8 => ?_)
  refine offZ (oM8.tr ((o_X13_told M8 0).mono (by decide))) (fun z10 oz10 => ?_)
  refine offZ (oz10.tr ((o_X13_number z10.2 0 9999).mono (by decide))) (fun z12 oz12 => ?_)
  refine offZ (oz12.tr ((o_X13_number z12.2 0 1).mono (by decide))) (fun z14 oz14 => ?_)
  refine offI ?_ ?_
  · refine offI ?_ ?_
    · refine offI ?_ ?_
      · exact oz14.tr (o_X13_readPaper_82 z14.2 x1 z10.1 z12.1 z14.1)
      · refine offI ?_ ?_
        · exact oz14.tr (o_X13_readPaper_87 z14.2 x1 z10.1 z12.1 z14.1)
        · exact oz14.tr (o_X13_readPaper_82 z14.2 x1 z10.1 z12.1 z14.1)
    · exact oz14.tr (o_X13_readPaper_82 z14.2 x1 z10.1 z12.1 z14.1)
  · exact oz14.tr (o_X13_readPaper_87 z14.2 x1 z10.1 z12.1 z14.1)
set_option maxRecDepth 100000 in
set_option maxHeartbeats 4000000 in
theorem t_X13_readPaper_18 {E : gE} {K : gM → Prop} {Q : Option Value → gM → Prop} (hK : ∀ z : gM, K z → Q none z) (M : gM) (x1 : Int32)   (hs : s_X13_readPaper_18 M x1 ) (hQ : K (f_X13_readPaper_18 M x1 )) : gG E RX13 cX13_readPaper 6 none (rm 44) 18 [(0, .ref (gla E 226)), (1, .int x1)] [] M Q := by
  rw [s_X13_readPaper_18] at hs
  rw [f_X13_readPaper_18] at hQ
  refine g_aload_n 0 dX13_readPaper_18 rfl ?_
  have h5 := hs.1; have hs := hs.2
  refine g_callV (As := []) (st := []) 226 (c_X13_goOn E M h5) mt_X13_goOn ml_X13_128 dF_Md rfl rfl sg_X13_goOn rfl (by decide) (Nat.le_of_ble_eq_true rfl) dX13_readPaper_19 ?_
  rintro _ M6 ⟨rfl, hM6⟩
  have hQ := bndQ hQ M6 hM6; have hs := bndS hs M6 hM6
  refine g_aload_n 0 dX13_readPaper_22 rfl ?_
  refine g_iconst (v := 2) dX13_readPaper_23 (by decide) ?_
  have h7 := hs.1; have hs := hs.2
  refine g_callV (As := [.int 2]) (st := []) 226 (c_X13_newName E M6 2 h7) mt_X13_newName ml_X13_148 dF_Md rfl rfl sg_X13_newName rfl (by decide) (Nat.le_of_ble_eq_true rfl) dX13_readPaper_24 ?_
  rintro _ M8 ⟨rfl, hM8⟩
  have hQ := bndQ hQ M8 hM8; have hs := bndS hs M8 hM8
  refine g_aload_n 0 dX13_readPaper_27 rfl ?_
  refine g_iconst (v := 0) dX13_readPaper_28 (by decide) ?_
  have h9 := hs.1; have hs := hs.2
  refine g_callV (As := [.int 0]) (st := []) 226 (c_X13_told E M8 0 h9) mt_X13_told ml_X13_151 dF_Md rfl rfl sg_X13_told rfl (by decide) (Nat.le_of_ble_eq_true rfl) dX13_readPaper_29 ?_
  rintro _ _ ⟨rfl, rfl⟩
  obtain ⟨z10, hz10⟩ : ∃ z, z = f_X13_told M8 0 := ⟨_, rfl⟩
  rw [← hz10]
  have hQ := bndQ hQ z10 hz10; have hs := bndS hs z10 hz10
  refine g_istore_n _ dX13_readPaper_32 (by decide) rfl ?_
  refine g_aload_n 1 dX13_readPaper_33 rfl ?_
  refine g_iconst (v := 0) dX13_readPaper_34 (by decide) ?_
  refine g_sipush (v := 9999) dX13_readPaper_35 (by decide) ?_
  have h11 := hs.1; have hs := hs.2
  refine g_callV (As := [.int 0, .int 9999]) (st := []) 226 (c_X13_number E z10.2 0 9999 h11) mt_X13_number ml_X13_142 dF_Md rfl rfl sg_X13_number rfl (by decide) (Nat.le_of_ble_eq_true rfl) dX13_readPaper_38 ?_
  rintro _ _ ⟨rfl, rfl⟩
  obtain ⟨z12, hz12⟩ : ∃ z, z = f_X13_number z10.2 0 9999 := ⟨_, rfl⟩
  rw [← hz12]
  have hQ := bndQ hQ z12 hz12; have hs := bndS hs z12 hz12
  refine g_istore_n _ dX13_readPaper_41 (by decide) rfl ?_
  refine g_aload_n 2 dX13_readPaper_42 rfl ?_
  refine g_iconst (v := 0) dX13_readPaper_43 (by decide) ?_
  refine g_iconst (v := 1) dX13_readPaper_44 (by decide) ?_
  have h13 := hs.1; have hs := hs.2
  refine g_callV (As := [.int 0, .int 1]) (st := []) 226 (c_X13_number E z12.2 0 1 h13) mt_X13_number ml_X13_142 dF_Md rfl rfl sg_X13_number rfl (by decide) (Nat.le_of_ble_eq_true rfl) dX13_readPaper_45 ?_
  rintro _ _ ⟨rfl, rfl⟩
  obtain ⟨z14, hz14⟩ : ∃ z, z = f_X13_number z12.2 0 1 := ⟨_, rfl⟩
  rw [← hz14]
  have hQ := bndQ hQ z14 hz14; have hs := bndS hs z14 hz14
  refine g_istore _ dX13_readPaper_48 (by decide) rfl ?_
  refine g_aload_n 3 dX13_readPaper_50 rfl ?_
  refine g_getI 226 fd_X13_111 dF_Md rfl dX13_readPaper_51 ?_
  refine g_if_ne 87 dX13_readPaper_54 (by decide) (fun c15 => ?_) (fun c15 => ?_)
  · have hs := ifSf hs c15; have hQ := ifQf hQ c15
    refine g_sub [3, 4, 2, 1, 0] _ rfl ?_
    exact t_X13_readPaper_87 hK z14.2 x1 z10.1 z12.1 z14.1 hs hQ
  · have hs := ifSt hs c15; have hQ := ifQt hQ c15
    refine g_aload_n 3 dX13_readPaper_57 rfl ?_
    refine g_getI 226 fd_X13_80 dF_Md rfl dX13_readPaper_58 ?_
    refine g_if_ne 82 dX13_readPaper_61 (by decide) (fun c16 => ?_) (fun c16 => ?_)
    · have hs := ifSf hs c16; have hQ := ifQf hQ c16
      refine g_sub [3, 4, 2, 1, 0] _ rfl ?_
      exact t_X13_readPaper_82 hK z14.2 x1 z10.1 z12.1 z14.1 hs hQ
    · have hs := ifSt hs c16; have hQ := ifQt hQ c16
      refine g_aload_n 3 dX13_readPaper_64 rfl ?_
      refine g_getI 226 fd_X13_93 dF_Md rfl dX13_readPaper_65 ?_
      refine g_bipush (v := 11) dX13_readPaper_68 (by decide) ?_
      refine g_icmp_lt 82 dX13_readPaper_70 (by decide) (fun c17 => ?_) (fun c17 => ?_)
      · have hs := ifSt hs c17; have hQ := ifQt hQ c17
        refine g_sub [3, 4, 2, 1, 0] _ rfl ?_
        exact t_X13_readPaper_82 hK z14.2 x1 z10.1 z12.1 z14.1 hs hQ
      · have hs := ifSf hs c17; have hQ := ifQf hQ c17
        refine g_aload_n 3 dX13_readPaper_73 rfl ?_
        refine g_getI 226 fd_X13_93 dF_Md rfl dX13_readPaper_74 ?_
        refine g_bipush (v := 13) dX13_readPaper_77 (by decide) ?_
        refine g_icmp_le 87 dX13_readPaper_79 (by decide) (fun c18 => ?_) (fun c18 => ?_)
        · have hs := ifSt hs c18; have hQ := ifQt hQ c18
          refine g_sub [3, 4, 2, 1, 0] _ rfl ?_
          exact t_X13_readPaper_87 hK z14.2 x1 z10.1 z12.1 z14.1 hs hQ
        · have hs := ifSf hs c18; have hQ := ifQf hQ c18
          refine g_sub [3, 4, 2, 1, 0] _ rfl ?_
          exact t_X13_readPaper_82 hK z14.2 x1 z10.1 z12.1 z14.1 hs hQ
def f_X13_readPaper (M : gM) : gM :=
  if (rdI M 89 0 0 (nn 2)) = 12 then
    (bnd (f_X13_wrong M 2) fun M4 =>
    (f_X13_readPaper_18 M4 (rdI M 89 0 0 (nn 2))))
  else
    (f_X13_readPaper_18 M (rdI M 89 0 0 (nn 2)))
def s_X13_readPaper (M : gM) : Prop :=
  (vp_in 2 502) ∧
  (if (rdI M 89 0 0 (nn 2)) = 12 then
    ((s_X13_wrong M 2) ∧
    (bndP (f_X13_wrong M 2) fun M4 =>
    (s_X13_readPaper_18 M4 (rdI M 89 0 0 (nn 2)))))
  else
    (s_X13_readPaper_18 M (rdI M 89 0 0 (nn 2))))
theorem o_X13_readPaper (M : gM) : offW [71, 72, 73, 74, 75, 76, 77, 89, 91, 93, 95] M (f_X13_readPaper M) := by
  rw [f_X13_readPaper]
  refine offI ?_ ?_
  · refine offB (offR.tr ((o_X13_wrong M 2).mono (by decide))) (fun M4 oM4 => ?_)
    exact oM4.tr (o_X13_readPaper_18 M4 (rdI M 89 0 0 (nn 2)))
  · exact (o_X13_readPaper_18 M (rdI M 89 0 0 (nn 2)))
set_option maxRecDepth 100000 in
set_option maxHeartbeats 4000000 in
theorem t_X13_readPaper {E : gE} {K : gM → Prop} {Q : Option Value → gM → Prop} (hK : ∀ z : gM, K z → Q none z) (M : gM)  (hs : s_X13_readPaper M) (hQ : K (f_X13_readPaper M)) : gG E RX13 cX13_readPaper 6 none (rm 44) 0 [(0, .ref (gla E 226))] [] M Q := by
  rw [s_X13_readPaper] at hs
  rw [f_X13_readPaper] at hQ
  refine g_aload_n 0 dX13_readPaper_0 rfl ?_
  refine g_getR 226 229 fd_X13_16 dF_Md rfl rfl dX13_readPaper_1 ?_
  refine g_iconst (v := 2) dX13_readPaper_4 (by decide) ?_
  have h1 := hs.1; have hs := hs.2
  refine g_iald 229 dF_Md_fresh h1 dX13_readPaper_5 ?_
  refine g_istore_n _ dX13_readPaper_6 (by decide) rfl ?_
  refine g_iload_n 0 dX13_readPaper_7 rfl ?_
  refine g_bipush (v := 12) dX13_readPaper_8 (by decide) ?_
  refine g_icmp_ne 18 dX13_readPaper_10 (by decide) (fun c2 => ?_) (fun c2 => ?_)
  · have hs := ifSf hs c2; have hQ := ifQf hQ c2
    refine g_sub [1, 0] _ rfl ?_
    exact t_X13_readPaper_18 hK M (rdI M 89 0 0 (nn 2)) hs hQ
  · have hs := ifSt hs c2; have hQ := ifQt hQ c2
    refine g_aload_n 1 dX13_readPaper_13 rfl ?_
    refine g_iconst (v := 2) dX13_readPaper_14 (by decide) ?_
    have h3 := hs.1; have hs := hs.2
    refine g_callV (As := [.int 2]) (st := []) 226 (c_X13_wrong E M 2 h3) mt_X13_wrong ml_X13_120 dF_Md rfl rfl sg_X13_wrong rfl (by decide) (Nat.le_of_ble_eq_true rfl) dX13_readPaper_15 ?_
    rintro _ M4 ⟨rfl, hM4⟩
    have hQ := bndQ hQ M4 hM4; have hs := bndS hs M4 hM4
    refine g_sub [1, 0] _ rfl ?_
    exact t_X13_readPaper_18 hK M4 (rdI M 89 0 0 (nn 2)) hs hQ
theorem c_X13_readPaper (E : gE) (M : gM)  (hs : s_X13_readPaper M) : gC E yX13_readPaper cX13_readPaper 6 none (rm 44) [.ref (gla E 226)] M (fun o N => o = none ∧ N = f_X13_readPaper M) :=
  gC.of (by decide +kernel) (Nat.le_of_ble_eq_true rfl) rfl (t_X13_readPaper (K := fun z => z = f_X13_readPaper M) (fun z hz => ⟨rfl, hz⟩) M hs rfl)
def f_X13_readLine_138 (M : gM)  : gM :=
  bnd (f_X13_goOn M) fun M33 =>
  (bnd (wrI M33 89 0 0 (nn 3) ((rdI M33 89 0 0 (nn 3)) + 1)) fun M36 =>
  (M36))
def s_X13_readLine_138 (M : gM)  : Prop :=
  (s_X13_goOn M) ∧
  (bndP (f_X13_goOn M) fun M33 =>
  ((vp_in 3 502) ∧
  ((vp_in 3 502) ∧
  (bndP (wrI M33 89 0 0 (nn 3) ((rdI M33 89 0 0 (nn 3)) + 1)) fun M36 =>
  (True)))))
theorem o_X13_readLine_138 (M : gM)  : offW [71, 72, 73, 74, 75, 76, 77, 89, 91, 93, 95, 96] M (f_X13_readLine_138 M ) := by
  rw [f_X13_readLine_138]
  refine offB (offR.tr ((o_X13_goOn M).mono (by decide))) (fun M33 oM33 => ?_)
  refine offB (oM33.wI (by decide)) (fun M36 oM36 => ?_)
  exact oM36
set_option maxRecDepth 100000 in
set_option maxHeartbeats 4000000 in
theorem t_X13_readLine_138 {E : gE} {K : gM → Prop} {Q : Option Value → gM → Prop} (hK : ∀ z : gM, K z → Q none z) (M : gM)   (hs : s_X13_readLine_138 M ) (hQ : K (f_X13_readLine_138 M )) : gG E RX13 cX13_readLine 2 none (rm 45) 138 [(0, .ref (gla E 226))] [] M Q := by
  rw [s_X13_readLine_138] at hs
  rw [f_X13_readLine_138] at hQ
  refine g_aload_n 0 dX13_readLine_138 rfl ?_
  have h32 := hs.1; have hs := hs.2
  refine g_callV (As := []) (st := []) 226 (c_X13_goOn E M h32) mt_X13_goOn ml_X13_128 dF_Md rfl rfl sg_X13_goOn rfl (by decide) (Nat.le_of_ble_eq_true rfl) dX13_readLine_139 ?_
  rintro _ M33 ⟨rfl, hM33⟩
  have hQ := bndQ hQ M33 hM33; have hs := bndS hs M33 hM33
  refine g_aload_n 0 dX13_readLine_142 rfl ?_
  refine g_getR 226 229 fd_X13_16 dF_Md rfl rfl dX13_readLine_143 ?_
  refine g_iconst (v := 3) dX13_readLine_146 (by decide) ?_
  refine g_dup2 dX13_readLine_147 rfl rfl ?_
  have h34 := hs.1; have hs := hs.2
  refine g_iald 229 dF_Md_fresh h34 dX13_readLine_148 ?_
  refine g_iconst (v := 1) dX13_readLine_149 (by decide) ?_
  refine g_iadd dX13_readLine_150 ?_
  have h35 := hs.1; have hs := hs.2
  refine g_iast 229 dF_Md_fresh h35 dX13_readLine_151 (fun M36 hM36 => ?_)
  have hQ := bndQ hQ M36 hM36; have hs := bndS hs M36 hM36
  exact g_vret rfl dX13_readLine_152 (hK _ hQ)
def f_X13_readLine_118 (M : gM)  : gM :=
  if (rdI M 76 0 0 0) = 0 then
    (if (rdI M 73 0 0 0) = 2 then
      (f_X13_readLine_138 M)
    else
      (bnd (f_X13_wrong M 1) fun M31 =>
      (f_X13_readLine_138 M31)))
  else
    (f_X13_readLine_138 M)
def s_X13_readLine_118 (M : gM)  : Prop :=
  if (rdI M 76 0 0 0) = 0 then
    (if (rdI M 73 0 0 0) = 2 then
      (s_X13_readLine_138 M)
    else
      ((s_X13_wrong M 1) ∧
      (bndP (f_X13_wrong M 1) fun M31 =>
      (s_X13_readLine_138 M31))))
  else
    (s_X13_readLine_138 M)
theorem o_X13_readLine_118 (M : gM)  : offW [71, 72, 73, 74, 75, 76, 77, 89, 91, 93, 95, 96] M (f_X13_readLine_118 M ) := by
  rw [f_X13_readLine_118]
  refine offI ?_ ?_
  · refine offI ?_ ?_
    · exact (o_X13_readLine_138 M)
    · refine offB (offR.tr ((o_X13_wrong M 1).mono (by decide))) (fun M31 oM31 => ?_)
      exact oM31.tr (o_X13_readLine_138 M31)
  · exact (o_X13_readLine_138 M)
set_option maxRecDepth 100000 in
set_option maxHeartbeats 4000000 in
theorem t_X13_readLine_118 {E : gE} {K : gM → Prop} {Q : Option Value → gM → Prop} (hK : ∀ z : gM, K z → Q none z) (M : gM)   (hs : s_X13_readLine_118 M ) (hQ : K (f_X13_readLine_118 M )) : gG E RX13 cX13_readLine 2 none (rm 45) 118 [(0, .ref (gla E 226))] [] M Q := by
  rw [s_X13_readLine_118] at hs
  rw [f_X13_readLine_118] at hQ
  refine g_aload_n 0 dX13_readLine_118 rfl ?_
  refine g_getI 226 fd_X13_111 dF_Md rfl dX13_readLine_119 ?_
  refine g_if_ne 138 dX13_readLine_122 (by decide) (fun c28 => ?_) (fun c28 => ?_)
  · have hs := ifSf hs c28; have hQ := ifQf hQ c28
    exact t_X13_readLine_138 hK M hs hQ
  · have hs := ifSt hs c28; have hQ := ifQt hQ c28
    refine g_aload_n 0 dX13_readLine_125 rfl ?_
    refine g_getI 226 fd_X13_80 dF_Md rfl dX13_readLine_126 ?_
    refine g_iconst (v := 2) dX13_readLine_129 (by decide) ?_
    refine g_icmp_eq 138 dX13_readLine_130 (by decide) (fun c29 => ?_) (fun c29 => ?_)
    · have hs := ifSt hs c29; have hQ := ifQt hQ c29
      exact t_X13_readLine_138 hK M hs hQ
    · have hs := ifSf hs c29; have hQ := ifQf hQ c29
      refine g_aload_n 0 dX13_readLine_133 rfl ?_
      refine g_iconst (v := 1) dX13_readLine_134 (by decide) ?_
      have h30 := hs.1; have hs := hs.2
      refine g_callV (As := [.int 1]) (st := []) 226 (c_X13_wrong E M 1 h30) mt_X13_wrong ml_X13_120 dF_Md rfl rfl sg_X13_wrong rfl (by decide) (Nat.le_of_ble_eq_true rfl) dX13_readLine_135 ?_
      rintro _ M31 ⟨rfl, hM31⟩
      have hQ := bndQ hQ M31 hM31; have hs := bndS hs M31 hM31
      exact t_X13_readLine_138 hK M31 hs hQ
def f_X13_readLine_15 (M : gM) (y0 : Int32)  : gM :=
  if y0 = 0 then
    (bnd (f_X13_readLand M) fun M27 =>
    (f_X13_readLine_118 M27))
  else
    (if y0 = 1 then
      (bnd (f_X13_readPerson M) fun M25 =>
      (f_X13_readLine_118 M25))
    else
      (if y0 = 2 then
        (bnd (f_X13_readChild M) fun M23 =>
        (f_X13_readLine_118 M23))
      else
        (if y0 = 3 then
          (bnd (f_X13_readWed M) fun M21 =>
          (f_X13_readLine_118 M21))
        else
          (if y0 = 4 then
            (bnd (f_X13_readThing M) fun M19 =>
            (f_X13_readLine_118 M19))
          else
            (if y0 = 5 then
              (bnd (f_X13_readPaper M) fun M17 =>
              (f_X13_readLine_118 M17))
            else
              (if y0 = 6 then
                (bnd (f_X13_readLost M) fun M15 =>
                (f_X13_readLine_118 M15))
              else
                (if y0 = 7 then
                  (bnd (f_X13_readDies M) fun M13 =>
                  (f_X13_readLine_118 M13))
                else
                  (bnd (f_X13_wrong M 1) fun M11 =>
                  (f_X13_readLine_118 M11)))))))))
def s_X13_readLine_15 (M : gM) (y0 : Int32)  : Prop :=
  if y0 = 0 then
    ((s_X13_readLand M) ∧
    (bndP (f_X13_readLand M) fun M27 =>
    (s_X13_readLine_118 M27)))
  else
    (if y0 = 1 then
      ((s_X13_readPerson M) ∧
      (bndP (f_X13_readPerson M) fun M25 =>
      (s_X13_readLine_118 M25)))
    else
      (if y0 = 2 then
        ((s_X13_readChild M) ∧
        (bndP (f_X13_readChild M) fun M23 =>
        (s_X13_readLine_118 M23)))
      else
        (if y0 = 3 then
          ((s_X13_readWed M) ∧
          (bndP (f_X13_readWed M) fun M21 =>
          (s_X13_readLine_118 M21)))
        else
          (if y0 = 4 then
            ((s_X13_readThing M) ∧
            (bndP (f_X13_readThing M) fun M19 =>
            (s_X13_readLine_118 M19)))
          else
            (if y0 = 5 then
              ((s_X13_readPaper M) ∧
              (bndP (f_X13_readPaper M) fun M17 =>
              (s_X13_readLine_118 M17)))
            else
              (if y0 = 6 then
                ((s_X13_readLost M) ∧
                (bndP (f_X13_readLost M) fun M15 =>
                (s_X13_readLine_118 M15)))
              else
                (if y0 = 7 then
                  ((s_X13_readDies M) ∧
                  (bndP (f_X13_readDies M) fun M13 =>
                  (s_X13_readLine_118 M13)))
                else
                  ((s_X13_wrong M 1) ∧
                  (bndP (f_X13_wrong M 1) fun M11 =>
                  (s_X13_readLine_118 M11))))))))))
theorem o_X13_readLine_15 (M : gM) (y0 : Int32)  : offW [71, 72, 73, 74, 75, 76, 77, 89, 91, 93, 95, 96] M (f_X13_readLine_15 M y0 ) := by
  rw [f_X13_readLine_15]
  refine offI ?_ ?_
  · refine offB (offR.tr ((o_X13_readLand M).mono (by decide))) (fun M27 oM27 => ?_)
    exact oM27.tr (o_X13_readLine_118 M27)
  · refine offI ?_ ?_
    · refine offB (offR.tr ((o_X13_readPerson M).mono (by decide))) (fun M25 oM25 => ?_)
      exact oM25.tr (o_X13_readLine_118 M25)
    · refine offI ?_ ?_
      · refine offB (offR.tr ((o_X13_readChild M).mono (by decide))) (fun M23 oM23 => ?_)
        exact oM23.tr (o_X13_readLine_118 M23)
      · refine offI ?_ ?_
        · refine offB (offR.tr ((o_X13_readWed M).mono (by decide))) (fun M21 oM21 => ?_)
          exact oM21.tr (o_X13_readLine_118 M21)
        · refine offI ?_ ?_
          · refine offB (offR.tr ((o_X13_readThing M).mono (by decide))) (fun M19 oM19 => ?_)
            exact oM19.tr (o_X13_readLine_118 M19)
          · refine offI ?_ ?_
            · refine offB (offR.tr ((o_X13_readPaper M).mono (by decide))) (fun M17 oM17 => ?_)
              exact oM17.tr (o_X13_readLine_118 M17)
            · refine offI ?_ ?_
              · refine offB (offR.tr ((o_X13_readLost M).mono (by decide))) (fun M15 oM15 => ?_)
                exact oM15.tr (o_X13_readLine_118 M15)
              · refine offI ?_ ?_
                · refine offB (offR.tr ((o_X13_readDies M).mono (by decide))) (fun M13 oM13 => ?_)
                  exact oM13.tr (o_X13_readLine_118 M13)
                · refine offB (offR.tr ((o_X13_wrong M 1).mono (by decide))) (fun M11 oM11 => ?_)
                  exact oM11.tr (o_X13_readLine_118 M11)
set_option maxRecDepth 100000 in
set_option maxHeartbeats 4000000 in
theorem t_X13_readLine_15 {E : gE} {K : gM → Prop} {Q : Option Value → gM → Prop} (hK : ∀ z : gM, K z → Q none z) (M : gM) (y0 : Int32)   (hs : s_X13_readLine_15 M y0 ) (hQ : K (f_X13_readLine_15 M y0 )) : gG E RX13 cX13_readLine 2 none (rm 45) 15 [(0, .ref (gla E 226))] [.int y0] M Q := by
  rw [s_X13_readLine_15] at hs
  rw [f_X13_readLine_15] at hQ
  refine g_istore_n _ dX13_readLine_15 (by decide) rfl ?_
  refine g_iload_n 0 dX13_readLine_16 rfl ?_
  refine g_if_ne 27 dX13_readLine_17 (by decide) (fun c2 => ?_) (fun c2 => ?_)
  · have hs := ifSf hs c2; have hQ := ifQf hQ c2
    refine g_iload_n 0 dX13_readLine_27 rfl ?_
    refine g_iconst (v := 1) dX13_readLine_28 (by decide) ?_
    refine g_icmp_ne 39 dX13_readLine_29 (by decide) (fun c3 => ?_) (fun c3 => ?_)
    · have hs := ifSf hs c3; have hQ := ifQf hQ c3
      refine g_iload_n 0 dX13_readLine_39 rfl ?_
      refine g_iconst (v := 2) dX13_readLine_40 (by decide) ?_
      refine g_icmp_ne 51 dX13_readLine_41 (by decide) (fun c4 => ?_) (fun c4 => ?_)
      · have hs := ifSf hs c4; have hQ := ifQf hQ c4
        refine g_iload_n 0 dX13_readLine_51 rfl ?_
        refine g_iconst (v := 3) dX13_readLine_52 (by decide) ?_
        refine g_icmp_ne 63 dX13_readLine_53 (by decide) (fun c5 => ?_) (fun c5 => ?_)
        · have hs := ifSf hs c5; have hQ := ifQf hQ c5
          refine g_iload_n 0 dX13_readLine_63 rfl ?_
          refine g_iconst (v := 4) dX13_readLine_64 (by decide) ?_
          refine g_icmp_ne 75 dX13_readLine_65 (by decide) (fun c6 => ?_) (fun c6 => ?_)
          · have hs := ifSf hs c6; have hQ := ifQf hQ c6
            refine g_iload_n 0 dX13_readLine_75 rfl ?_
            refine g_iconst (v := 5) dX13_readLine_76 (by decide) ?_
            refine g_icmp_ne 87 dX13_readLine_77 (by decide) (fun c7 => ?_) (fun c7 => ?_)
            · have hs := ifSf hs c7; have hQ := ifQf hQ c7
              refine g_iload_n 0 dX13_readLine_87 rfl ?_
              refine g_bipush (v := 6) dX13_readLine_88 (by decide) ?_
              refine g_icmp_ne 100 dX13_readLine_90 (by decide) (fun c8 => ?_) (fun c8 => ?_)
              · have hs := ifSf hs c8; have hQ := ifQf hQ c8
                refine g_iload_n 0 dX13_readLine_100 rfl ?_
                refine g_bipush (v := 7) dX13_readLine_101 (by decide) ?_
                refine g_icmp_ne 113 dX13_readLine_103 (by decide) (fun c9 => ?_) (fun c9 => ?_)
                · have hs := ifSf hs c9; have hQ := ifQf hQ c9
                  refine g_aload_n 1 dX13_readLine_113 rfl ?_
                  refine g_iconst (v := 1) dX13_readLine_114 (by decide) ?_
                  have h10 := hs.1; have hs := hs.2
                  refine g_callV (As := [.int 1]) (st := []) 226 (c_X13_wrong E M 1 h10) mt_X13_wrong ml_X13_120 dF_Md rfl rfl sg_X13_wrong rfl (by decide) (Nat.le_of_ble_eq_true rfl) dX13_readLine_115 ?_
                  rintro _ M11 ⟨rfl, hM11⟩
                  have hQ := bndQ hQ M11 hM11; have hs := bndS hs M11 hM11
                  refine g_sub [1] _ rfl ?_
                  exact t_X13_readLine_118 hK M11 hs hQ
                · have hs := ifSt hs c9; have hQ := ifQt hQ c9
                  refine g_aload_n 1 dX13_readLine_106 rfl ?_
                  have h12 := hs.1; have hs := hs.2
                  refine g_callV (As := []) (st := []) 226 (c_X13_readDies E M h12) mt_X13_readDies ml_X13_191 dF_Md rfl rfl sg_X13_readDies rfl (by decide) (Nat.le_of_ble_eq_true rfl) dX13_readLine_107 ?_
                  rintro _ M13 ⟨rfl, hM13⟩
                  have hQ := bndQ hQ M13 hM13; have hs := bndS hs M13 hM13
                  refine g_goto 118 dX13_readLine_110 (by decide) ?_
                  refine g_sub [1] _ rfl ?_
                  exact t_X13_readLine_118 hK M13 hs hQ
              · have hs := ifSt hs c8; have hQ := ifQt hQ c8
                refine g_aload_n 1 dX13_readLine_93 rfl ?_
                have h14 := hs.1; have hs := hs.2
                refine g_callV (As := []) (st := []) 226 (c_X13_readLost E M h14) mt_X13_readLost ml_X13_188 dF_Md rfl rfl sg_X13_readLost rfl (by decide) (Nat.le_of_ble_eq_true rfl) dX13_readLine_94 ?_
                rintro _ M15 ⟨rfl, hM15⟩
                have hQ := bndQ hQ M15 hM15; have hs := bndS hs M15 hM15
                refine g_goto 118 dX13_readLine_97 (by decide) ?_
                refine g_sub [1] _ rfl ?_
                exact t_X13_readLine_118 hK M15 hs hQ
            · have hs := ifSt hs c7; have hQ := ifQt hQ c7
              refine g_aload_n 1 dX13_readLine_80 rfl ?_
              have h16 := hs.1; have hs := hs.2
              refine g_callV (As := []) (st := []) 226 (c_X13_readPaper E M h16) mt_X13_readPaper ml_X13_185 dF_Md rfl rfl sg_X13_readPaper rfl (by decide) (Nat.le_of_ble_eq_true rfl) dX13_readLine_81 ?_
              rintro _ M17 ⟨rfl, hM17⟩
              have hQ := bndQ hQ M17 hM17; have hs := bndS hs M17 hM17
              refine g_goto 118 dX13_readLine_84 (by decide) ?_
              refine g_sub [1] _ rfl ?_
              exact t_X13_readLine_118 hK M17 hs hQ
          · have hs := ifSt hs c6; have hQ := ifQt hQ c6
            refine g_aload_n 1 dX13_readLine_68 rfl ?_
            have h18 := hs.1; have hs := hs.2
            refine g_callV (As := []) (st := []) 226 (c_X13_readThing E M h18) mt_X13_readThing ml_X13_182 dF_Md rfl rfl sg_X13_readThing rfl (by decide) (Nat.le_of_ble_eq_true rfl) dX13_readLine_69 ?_
            rintro _ M19 ⟨rfl, hM19⟩
            have hQ := bndQ hQ M19 hM19; have hs := bndS hs M19 hM19
            refine g_goto 118 dX13_readLine_72 (by decide) ?_
            refine g_sub [1] _ rfl ?_
            exact t_X13_readLine_118 hK M19 hs hQ
        · have hs := ifSt hs c5; have hQ := ifQt hQ c5
          refine g_aload_n 1 dX13_readLine_56 rfl ?_
          have h20 := hs.1; have hs := hs.2
          refine g_callV (As := []) (st := []) 226 (c_X13_readWed E M h20) mt_X13_readWed ml_X13_179 dF_Md rfl rfl sg_X13_readWed rfl (by decide) (Nat.le_of_ble_eq_true rfl) dX13_readLine_57 ?_
          rintro _ M21 ⟨rfl, hM21⟩
          have hQ := bndQ hQ M21 hM21; have hs := bndS hs M21 hM21
          refine g_goto 118 dX13_readLine_60 (by decide) ?_
          refine g_sub [1] _ rfl ?_
          exact t_X13_readLine_118 hK M21 hs hQ
      · have hs := ifSt hs c4; have hQ := ifQt hQ c4
        refine g_aload_n 1 dX13_readLine_44 rfl ?_
        have h22 := hs.1; have hs := hs.2
        refine g_callV (As := []) (st := []) 226 (c_X13_readChild E M h22) mt_X13_readChild ml_X13_176 dF_Md rfl rfl sg_X13_readChild rfl (by decide) (Nat.le_of_ble_eq_true rfl) dX13_readLine_45 ?_
        rintro _ M23 ⟨rfl, hM23⟩
        have hQ := bndQ hQ M23 hM23; have hs := bndS hs M23 hM23
        refine g_goto 118 dX13_readLine_48 (by decide) ?_
        refine g_sub [1] _ rfl ?_
        exact t_X13_readLine_118 hK M23 hs hQ
    · have hs := ifSt hs c3; have hQ := ifQt hQ c3
      refine g_aload_n 1 dX13_readLine_32 rfl ?_
      have h24 := hs.1; have hs := hs.2
      refine g_callV (As := []) (st := []) 226 (c_X13_readPerson E M h24) mt_X13_readPerson ml_X13_173 dF_Md rfl rfl sg_X13_readPerson rfl (by decide) (Nat.le_of_ble_eq_true rfl) dX13_readLine_33 ?_
      rintro _ M25 ⟨rfl, hM25⟩
      have hQ := bndQ hQ M25 hM25; have hs := bndS hs M25 hM25
      refine g_goto 118 dX13_readLine_36 (by decide) ?_
      refine g_sub [1] _ rfl ?_
      exact t_X13_readLine_118 hK M25 hs hQ
  · have hs := ifSt hs c2; have hQ := ifQt hQ c2
    refine g_aload_n 1 dX13_readLine_20 rfl ?_
    have h26 := hs.1; have hs := hs.2
    refine g_callV (As := []) (st := []) 226 (c_X13_readLand E M h26) mt_X13_readLand ml_X13_170 dF_Md rfl rfl sg_X13_readLand rfl (by decide) (Nat.le_of_ble_eq_true rfl) dX13_readLine_21 ?_
    rintro _ M27 ⟨rfl, hM27⟩
    have hQ := bndQ hQ M27 hM27; have hs := bndS hs M27 hM27
    refine g_goto 118 dX13_readLine_24 (by decide) ?_
    refine g_sub [1] _ rfl ?_
    exact t_X13_readLine_118 hK M27 hs hQ
def f_X13_readLine (M : gM) : gM :=
  if (rdI M 73 0 0 0) = 0 then
    (f_X13_readLine_15 M (rdI M 74 0 0 0))
  else
    (f_X13_readLine_15 M (-1))
def s_X13_readLine (M : gM) : Prop :=
  if (rdI M 73 0 0 0) = 0 then
    (s_X13_readLine_15 M (rdI M 74 0 0 0))
  else
    (s_X13_readLine_15 M (-1))
theorem o_X13_readLine (M : gM) : offW [71, 72, 73, 74, 75, 76, 77, 89, 91, 93, 95, 96] M (f_X13_readLine M) := by
  rw [f_X13_readLine]
  refine offI ?_ ?_
  · exact (o_X13_readLine_15 M (rdI M 74 0 0 0))
  · exact (o_X13_readLine_15 M (-1))
set_option maxRecDepth 100000 in
set_option maxHeartbeats 4000000 in
theorem t_X13_readLine {E : gE} {K : gM → Prop} {Q : Option Value → gM → Prop} (hK : ∀ z : gM, K z → Q none z) (M : gM)  (hs : s_X13_readLine M) (hQ : K (f_X13_readLine M)) : gG E RX13 cX13_readLine 2 none (rm 45) 0 [(0, .ref (gla E 226))] [] M Q := by
  rw [s_X13_readLine] at hs
  rw [f_X13_readLine] at hQ
  refine g_aload_n 0 dX13_readLine_0 rfl ?_
  refine g_getI 226 fd_X13_80 dF_Md rfl dX13_readLine_1 ?_
  refine g_if_ne 14 dX13_readLine_4 (by decide) (fun c1 => ?_) (fun c1 => ?_)
  · have hs := ifSf hs c1; have hQ := ifQf hQ c1
    refine g_iconst (v := (-1)) dX13_readLine_14 (by decide) ?_
    exact t_X13_readLine_15 hK M (-1) hs hQ
  · have hs := ifSt hs c1; have hQ := ifQt hQ c1
    refine g_aload_n 0 dX13_readLine_7 rfl ?_
    refine g_getI 226 fd_X13_93 dF_Md rfl dX13_readLine_8 ?_
    refine g_goto 15 dX13_readLine_11 (by decide) ?_
    exact t_X13_readLine_15 hK M (rdI M 74 0 0 0) hs hQ
theorem c_X13_readLine (E : gE) (M : gM)  (hs : s_X13_readLine M) : gC E yX13_readLine cX13_readLine 2 none (rm 45) [.ref (gla E 226)] M (fun o N => o = none ∧ N = f_X13_readLine M) :=
  gC.of (by decide +kernel) (Nat.le_of_ble_eq_true rfl) rfl (t_X13_readLine (K := fun z => z = f_X13_readLine M) (fun z hz => ⟨rfl, hz⟩) M hs rfl)
def f_X13_text_94 (M : gM) (y1 : Int32)  : Int32 × gM :=
  bnd (wrI M 79 0 0 0 y1) fun M18 =>
  (if (rdI M18 76 0 0 0) = 0 then
    (bnd (f_X13_becomes M18) fun M21 =>
    ((rdI M21 88 0 0 (nn 3), M21)))
  else
    (((-1), M18)))
def s_X13_text_94 (M : gM) (y1 : Int32)  : Prop :=
  bndP (wrI M 79 0 0 0 y1) fun M18 =>
  (if (rdI M18 76 0 0 0) = 0 then
    ((s_X13_becomes M18) ∧
    (bndP (f_X13_becomes M18) fun M21 =>
    ((vp_in 3 502) ∧
    (True))))
  else
    (True))
theorem o_X13_text_94 (M : gM) (y1 : Int32)  : offW [67, 68, 69, 70, 71, 72, 73, 74, 75, 76, 77, 78, 79, 88, 89, 90, 91, 92, 93, 95, 96] M (f_X13_text_94 M y1 ).2 := by
  rw [f_X13_text_94]
  refine offB2 (offR.wI (by decide)) (fun M18 oM18 => ?_)
  refine offI2 ?_ ?_
  · refine offB2 (oM18.tr ((o_X13_becomes M18).mono (by decide))) (fun M21 oM21 => ?_)
    exact oM21
  · exact oM18
set_option maxRecDepth 100000 in
set_option maxHeartbeats 4000000 in
theorem t_X13_text_94 {E : gE} {K : Int32 × gM → Prop} {Q : Option Value → gM → Prop} (hK : ∀ z : Int32 × gM, K z → Q (some (.int z.1)) z.2) (M : gM) (y1 : Int32)   (hs : s_X13_text_94 M y1 ) (hQ : K (f_X13_text_94 M y1 )) : gG E RX13 cX13_text 2 (some .int) (rm 46) 94 [(0, .ref (gla E 226))] [.int y1, .ref (gla E 226)] M Q := by
  rw [s_X13_text_94] at hs
  rw [f_X13_text_94] at hQ
  refine g_putI 226 fd_X13_37 dF_Md rfl dX13_text_94 (fun M18 hM18 => ?_)
  have hQ := bndQ hQ M18 hM18; have hs := bndS hs M18 hM18
  refine g_aload_n 0 dX13_text_97 rfl ?_
  refine g_getI 226 fd_X13_111 dF_Md rfl dX13_text_98 ?_
  refine g_if_eq 106 dX13_text_101 (by decide) (fun c19 => ?_) (fun c19 => ?_)
  · have hs := ifSt hs c19; have hQ := ifQt hQ c19
    refine g_aload_n 0 dX13_text_106 rfl ?_
    have h20 := hs.1; have hs := hs.2
    refine g_callV (As := []) (st := []) 226 (c_X13_becomes E M18 h20) mt_X13_becomes ml_X13_58 dF_Md rfl rfl sg_X13_becomes rfl (by decide) (Nat.le_of_ble_eq_true rfl) dX13_text_107 ?_
    rintro _ M21 ⟨rfl, hM21⟩
    have hQ := bndQ hQ M21 hM21; have hs := bndS hs M21 hM21
    refine g_aload_n 0 dX13_text_110 rfl ?_
    refine g_getR 226 228 fd_X13_13 dF_Md rfl rfl dX13_text_111 ?_
    refine g_iconst (v := 3) dX13_text_114 (by decide) ?_
    have h22 := hs.1; have hs := hs.2
    refine g_iald 228 dF_Md_world h22 dX13_text_115 ?_
    exact g_iret rfl dX13_text_116 (hK _ hQ)
  · have hs := ifSf hs c19; have hQ := ifQf hQ c19
    refine g_iconst (v := (-1)) dX13_text_104 (by decide) ?_
    exact g_iret rfl dX13_text_105 (hK _ hQ)
def f_X13_text_65 (M : gM)  : Int32 × gM :=
  bnd (wrI M 68 0 0 0 0) fun M15 =>
  (bnd (wrI M15 78 0 0 0 (rdI M15 76 0 0 0)) fun M16 =>
  (if (rdI M16 76 0 0 0) = 0 then
    (f_X13_text_94 M16 (-1))
  else
    (f_X13_text_94 M16 (rdI M16 77 0 0 0))))
def s_X13_text_65 (M : gM)  : Prop :=
  bndP (wrI M 68 0 0 0 0) fun M15 =>
  (bndP (wrI M15 78 0 0 0 (rdI M15 76 0 0 0)) fun M16 =>
  (if (rdI M16 76 0 0 0) = 0 then
    (s_X13_text_94 M16 (-1))
  else
    (s_X13_text_94 M16 (rdI M16 77 0 0 0))))
theorem o_X13_text_65 (M : gM)  : offW [67, 68, 69, 70, 71, 72, 73, 74, 75, 76, 77, 78, 79, 88, 89, 90, 91, 92, 93, 95, 96] M (f_X13_text_65 M ).2 := by
  rw [f_X13_text_65]
  refine offB2 (offR.wI (by decide)) (fun M15 oM15 => ?_)
  refine offB2 (oM15.wI (by decide)) (fun M16 oM16 => ?_)
  refine offI2 ?_ ?_
  · exact oM16.tr (o_X13_text_94 M16 (-1))
  · exact oM16.tr (o_X13_text_94 M16 (rdI M16 77 0 0 0))
set_option maxRecDepth 100000 in
set_option maxHeartbeats 4000000 in
theorem t_X13_text_65 {E : gE} {K : Int32 × gM → Prop} {Q : Option Value → gM → Prop} (hK : ∀ z : Int32 × gM, K z → Q (some (.int z.1)) z.2) (M : gM)   (hs : s_X13_text_65 M ) (hQ : K (f_X13_text_65 M )) : gG E RX13 cX13_text 2 (some .int) (rm 46) 65 [(0, .ref (gla E 226))] [] M Q := by
  rw [s_X13_text_65] at hs
  rw [f_X13_text_65] at hQ
  refine g_aload_n 0 dX13_text_65 rfl ?_
  refine g_iconst (v := 0) dX13_text_66 (by decide) ?_
  refine g_putI 226 fd_X13_64 dF_Md rfl dX13_text_67 (fun M15 hM15 => ?_)
  have hQ := bndQ hQ M15 hM15; have hs := bndS hs M15 hM15
  refine g_aload_n 0 dX13_text_70 rfl ?_
  refine g_aload_n 0 dX13_text_71 rfl ?_
  refine g_getI 226 fd_X13_111 dF_Md rfl dX13_text_72 ?_
  refine g_putI 226 fd_X13_200 dF_Md rfl dX13_text_75 (fun M16 hM16 => ?_)
  have hQ := bndQ hQ M16 hM16; have hs := bndS hs M16 hM16
  refine g_aload_n 0 dX13_text_78 rfl ?_
  refine g_aload_n 0 dX13_text_79 rfl ?_
  refine g_getI 226 fd_X13_111 dF_Md rfl dX13_text_80 ?_
  refine g_if_ne 90 dX13_text_83 (by decide) (fun c17 => ?_) (fun c17 => ?_)
  · have hs := ifSf hs c17; have hQ := ifQf hQ c17
    refine g_aload_n 0 dX13_text_90 rfl ?_
    refine g_getI 226 fd_X13_114 dF_Md rfl dX13_text_91 ?_
    exact t_X13_text_94 hK M16 (rdI M16 77 0 0 0) hs hQ
  · have hs := ifSt hs c17; have hQ := ifQt hQ c17
    refine g_iconst (v := (-1)) dX13_text_86 (by decide) ?_
    refine g_goto 94 dX13_text_87 (by decide) ?_
    exact t_X13_text_94 hK M16 (-1) hs hQ
def f_X13_text_43   : Nat → gM → Int32 × gM
  | 0, M => (0, M)
  | n + 1, M =>
    if (rdI M 76 0 0 0) = 0 then
      (if (rdI M 73 0 0 0) = 3 then
        (f_X13_text_65 M)
      else
        (bnd (f_X13_readLine M) fun M14 =>
        (f_X13_text_43 n M14)))
    else
      (f_X13_text_65 M)
def s_X13_text_43   : Nat → gM → Prop
  | 0, _ => False
  | n + 1, M =>
    if (rdI M 76 0 0 0) = 0 then
      (if (rdI M 73 0 0 0) = 3 then
        (s_X13_text_65 M)
      else
        ((s_X13_readLine M) ∧
        (bndP (f_X13_readLine M) fun M14 =>
        (s_X13_text_43 n M14))))
    else
      (s_X13_text_65 M)
theorem o_X13_text_43   : ∀ (n : Nat) (M : gM), offW [67, 68, 69, 70, 71, 72, 73, 74, 75, 76, 77, 78, 79, 88, 89, 90, 91, 92, 93, 95, 96] M (f_X13_text_43   n M).2 := by
  intro n
  induction n with
  | zero => intro M; exact offR
  | succ n ih =>
    intro M
    rw [f_X13_text_43]
    refine offI2 ?_ ?_
    · refine offI2 ?_ ?_
      · exact (o_X13_text_65 M)
      · refine offB2 (offR.tr ((o_X13_readLine M).mono (by decide))) (fun M14 oM14 => ?_)
        exact oM14.tr (ih M14)
    · exact (o_X13_text_65 M)
set_option maxRecDepth 100000 in
set_option maxHeartbeats 4000000 in
theorem t_X13_text_43 {E : gE} {K : Int32 × gM → Prop} {Q : Option Value → gM → Prop} (hK : ∀ z : Int32 × gM, K z → Q (some (.int z.1)) z.2)    : ∀ (n : Nat) (M : gM) , s_X13_text_43   n M → K (f_X13_text_43   n M) → gG E RX13 cX13_text 2 (some .int) (rm 46) 43 [(0, .ref (gla E 226))] [] M Q := by
  intro n
  induction n with
  | zero => intro M hs hQ; exact (hs : False).elim
  | succ n ih =>
    intro M hs hQ
    rw [s_X13_text_43] at hs
    rw [f_X13_text_43] at hQ
    refine g_aload_n 0 dX13_text_43 rfl ?_
    refine g_getI 226 fd_X13_111 dF_Md rfl dX13_text_44 ?_
    refine g_if_ne 65 dX13_text_47 (by decide) (fun c11 => ?_) (fun c11 => ?_)
    · have hs := ifSf hs c11; have hQ := ifQf hQ c11
      exact t_X13_text_65 hK M hs hQ
    · have hs := ifSt hs c11; have hQ := ifQt hQ c11
      refine g_aload_n 0 dX13_text_50 rfl ?_
      refine g_getI 226 fd_X13_80 dF_Md rfl dX13_text_51 ?_
      refine g_iconst (v := 3) dX13_text_54 (by decide) ?_
      refine g_icmp_eq 65 dX13_text_55 (by decide) (fun c12 => ?_) (fun c12 => ?_)
      · have hs := ifSt hs c12; have hQ := ifQt hQ c12
        exact t_X13_text_65 hK M hs hQ
      · have hs := ifSf hs c12; have hQ := ifQf hQ c12
        refine g_aload_n 0 dX13_text_58 rfl ?_
        have h13 := hs.1; have hs := hs.2
        refine g_callV (As := []) (st := []) 226 (c_X13_readLine E M h13) mt_X13_readLine ml_X13_197 dF_Md rfl rfl sg_X13_readLine rfl (by decide) (Nat.le_of_ble_eq_true rfl) dX13_text_59 ?_
        rintro _ M14 ⟨rfl, hM14⟩
        have hQ := bndQ hQ M14 hM14; have hs := bndS hs M14 hM14
        refine g_goto 43 dX13_text_62 (by decide) ?_
        exact ih M14 hs hQ
def f_X13_text (M : gM) (x1 : Int32) : Int32 × gM :=
  bnd (wrI M 67 0 0 0 0) fun M1 =>
  (if x1 < 0 then
    (((-2), M1))
  else
    (if x1 ≤ (rdI M1 68 0 0 0) then
      (bnd (f_X13_begins M1) fun M5 =>
      (bnd (wrI M5 70 0 0 0 x1) fun M6 =>
      (bnd (wrI M6 71 0 0 0 0) fun M7 =>
      (bnd (wrI M7 76 0 0 0 0) fun M8 =>
      (bnd (f_X13_token M8) fun M10 =>
      (f_X13_text_43 FU M10))))))
    else
      (((-2), M1))))
def s_X13_text (M : gM) (x1 : Int32) : Prop :=
  bndP (wrI M 67 0 0 0 0) fun M1 =>
  (if x1 < 0 then
    (True)
  else
    (if x1 ≤ (rdI M1 68 0 0 0) then
      ((s_X13_begins M1) ∧
      (bndP (f_X13_begins M1) fun M5 =>
      (bndP (wrI M5 70 0 0 0 x1) fun M6 =>
      (bndP (wrI M6 71 0 0 0 0) fun M7 =>
      (bndP (wrI M7 76 0 0 0 0) fun M8 =>
      ((s_X13_token M8) ∧
      (bndP (f_X13_token M8) fun M10 =>
      (s_X13_text_43 FU M10))))))))
    else
      (True)))
theorem o_X13_text (M : gM) (x1 : Int32) : offW [67, 68, 69, 70, 71, 72, 73, 74, 75, 76, 77, 78, 79, 88, 89, 90, 91, 92, 93, 95, 96] M (f_X13_text M x1).2 := by
  rw [f_X13_text]
  refine offB2 (offR.wI (by decide)) (fun M1 oM1 => ?_)
  refine offI2 ?_ ?_
  · exact oM1
  · refine offI2 ?_ ?_
    · refine offB2 (oM1.tr ((o_X13_begins M1).mono (by decide))) (fun M5 oM5 => ?_)
      refine offB2 (oM5.wI (by decide)) (fun M6 oM6 => ?_)
      refine offB2 (oM6.wI (by decide)) (fun M7 oM7 => ?_)
      refine offB2 (oM7.wI (by decide)) (fun M8 oM8 => ?_)
      refine offB2 (oM8.tr ((o_X13_token M8).mono (by decide))) (fun M10 oM10 => ?_)
      exact oM10.tr (o_X13_text_43  FU M10)
    · exact oM1
set_option maxRecDepth 100000 in
set_option maxHeartbeats 4000000 in
theorem t_X13_text {E : gE} {K : Int32 × gM → Prop} {Q : Option Value → gM → Prop} (hK : ∀ z : Int32 × gM, K z → Q (some (.int z.1)) z.2) (M : gM) (x1 : Int32)  (hs : s_X13_text M x1) (hQ : K (f_X13_text M x1)) : gG E RX13 cX13_text 2 (some .int) (rm 46) 0 [(0, .ref (gla E 226)), (1, .int x1)] [] M Q := by
  rw [s_X13_text] at hs
  rw [f_X13_text] at hQ
  refine g_aload_n 0 dX13_text_0 rfl ?_
  refine g_iconst (v := 0) dX13_text_1 (by decide) ?_
  refine g_putI 226 fd_X13_61 dF_Md rfl dX13_text_2 (fun M1 hM1 => ?_)
  have hQ := bndQ hQ M1 hM1; have hs := bndS hs M1 hM1
  refine g_iload_n 1 dX13_text_5 rfl ?_
  refine g_if_lt 17 dX13_text_6 (by decide) (fun c2 => ?_) (fun c2 => ?_)
  · have hs := ifSt hs c2; have hQ := ifQt hQ c2
    refine g_bipush (v := (-2)) dX13_text_17 (by decide) ?_
    exact g_iret rfl dX13_text_19 (hK _ hQ)
  · have hs := ifSf hs c2; have hQ := ifQf hQ c2
    refine g_iload_n 1 dX13_text_9 rfl ?_
    refine g_aload_n 0 dX13_text_10 rfl ?_
    refine g_getI 226 fd_X13_64 dF_Md rfl dX13_text_11 ?_
    refine g_icmp_le 20 dX13_text_14 (by decide) (fun c3 => ?_) (fun c3 => ?_)
    · have hs := ifSt hs c3; have hQ := ifQt hQ c3
      refine g_aload_n 0 dX13_text_20 rfl ?_
      have h4 := hs.1; have hs := hs.2
      refine g_callV (As := []) (st := []) 226 (c_X13_begins E M1 h4) mt_X13_begins ml_X13_55 dF_Md rfl rfl sg_X13_begins rfl (by decide) (Nat.le_of_ble_eq_true rfl) dX13_text_21 ?_
      rintro _ M5 ⟨rfl, hM5⟩
      have hQ := bndQ hQ M5 hM5; have hs := bndS hs M5 hM5
      refine g_aload_n 0 dX13_text_24 rfl ?_
      refine g_iload_n 1 dX13_text_25 rfl ?_
      refine g_putI 226 fd_X13_70 dF_Md rfl dX13_text_26 (fun M6 hM6 => ?_)
      have hQ := bndQ hQ M6 hM6; have hs := bndS hs M6 hM6
      refine g_aload_n 0 dX13_text_29 rfl ?_
      refine g_iconst (v := 0) dX13_text_30 (by decide) ?_
      refine g_putI 226 fd_X13_67 dF_Md rfl dX13_text_31 (fun M7 hM7 => ?_)
      have hQ := bndQ hQ M7 hM7; have hs := bndS hs M7 hM7
      refine g_aload_n 0 dX13_text_34 rfl ?_
      refine g_iconst (v := 0) dX13_text_35 (by decide) ?_
      refine g_putI 226 fd_X13_111 dF_Md rfl dX13_text_36 (fun M8 hM8 => ?_)
      have hQ := bndQ hQ M8 hM8; have hs := bndS hs M8 hM8
      refine g_aload_n 0 dX13_text_39 rfl ?_
      have h9 := hs.1; have hs := hs.2
      refine g_callV (As := []) (st := []) 226 (c_X13_token E M8 h9) mt_X13_token ml_X13_117 dF_Md rfl rfl sg_X13_token rfl (by decide) (Nat.le_of_ble_eq_true rfl) dX13_text_40 ?_
      rintro _ M10 ⟨rfl, hM10⟩
      have hQ := bndQ hQ M10 hM10; have hs := bndS hs M10 hM10
      refine g_sub [0] _ rfl ?_
      exact t_X13_text_43 hK FU M10 hs hQ
    · have hs := ifSf hs c3; have hQ := ifQf hQ c3
      refine g_bipush (v := (-2)) dX13_text_17 (by decide) ?_
      exact g_iret rfl dX13_text_19 (hK _ hQ)
theorem c_X13_text (E : gE) (M : gM) (x1 : Int32) (hs : s_X13_text M x1) : gC E yX13_text cX13_text 2 (some .int) (rm 46) [.ref (gla E 226), .int x1] M (fun o N => o = some (.int (f_X13_text M x1).1) ∧ N = (f_X13_text M x1).2) :=
  gC.of (by decide +kernel) (Nat.le_of_ble_eq_true rfl) rfl (t_X13_text (K := fun z => z = f_X13_text M x1) (fun z hz => by rw [hz]; exact ⟨rfl, rfl⟩) M x1 hs rfl)
end
