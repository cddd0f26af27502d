set_option linter.all false
noncomputable section
def f_X13_nextDeath_69 (M : gM) (x1 : Int32) (x2 : Int32) (x4 : Int32) (k5 : Int32 → Int32 → Int32) : Int32 :=
  k5 x4 (x4 + 1)
def s_X13_nextDeath_69 (M : gM) (x1 : Int32) (x2 : Int32) (x4 : Int32) (q5 : Int32 → Int32 → Prop) : Prop :=
  q5 x4 (x4 + 1)
set_option maxRecDepth 100000 in
set_option maxHeartbeats 4000000 in
theorem t_X13_nextDeath_69 {E : gE} {K : Int32 → Prop} {Q : Option Value → gM → Prop} {M : gM} (hK : ∀ z : Int32, K z → Q (some (.int z)) M) (x1 : Int32) (x2 : Int32) (x4 : Int32)  (k5 : Int32 → Int32 → Int32) (q5 : Int32 → Int32 → Prop) (hk5 : ∀ (x3 : Int32) (x4 : Int32) , q5 x3 x4 → K (k5 x3 x4) → gG E RX13 cX13_nextDeath 5 (some .int) (rm 1) 5 [(0, .ref (gla E 226)), (1, .int x1), (2, .int x2), (3, .int x3), (4, .int x4)] [] M Q) (hs : s_X13_nextDeath_69 M x1 x2 x4 q5) (hQ : K (f_X13_nextDeath_69 M x1 x2 x4 k5)) : gG E RX13 cX13_nextDeath 5 (some .int) (rm 1) 69 [(0, .ref (gla E 226)), (1, .int x1), (2, .int x2), (4, .int x4)] [] M Q := by
  rw [s_X13_nextDeath_69] at hs
  rw [f_X13_nextDeath_69] at hQ
  refine g_iload 3 dX13_nextDeath_69 rfl ?_
  refine g_istore_n _ dX13_nextDeath_71 (by decide) rfl ?_
  refine g_iinc 4 (v := x4 + 1) _ dX13_nextDeath_72 rfl rfl (by decide) rfl ?_
  refine g_goto 5 dX13_nextDeath_75 (by decide) ?_
  refine g_sub [2, 3, 4, 1, 0] _ rfl ?_
  exact hk5 x4 (x4 + 1) hs hQ
def f_X13_nextDeath_5 (M : gM) (x1 : Int32) (x2 : Int32)  : Nat → Int32 → Int32 → Int32
  | 0, _, _ => 0
  | n + 1, x3, x4 =>
    if (rdI M 88 0 0 (nn 0)) ≤ x4 then
      (x3)
    else
      (if ((x1 >>> (x4 &&& 31)) &&& 1) = 1 then
        (f_X13_nextDeath_5 M x1 x2 n x3 (x4 + 1))
      else
        (if (f_X13_diesOn M x4) = (-2) then
          (f_X13_nextDeath_5 M x1 x2 n x3 (x4 + 1))
        else
          (if (f_X13_diesOn M x4) ≤ x2 then
            (if x3 = (-1) then
              (f_X13_nextDeath_69 M x1 x2 x4 (f_X13_nextDeath_5 M x1 x2 n))
            else
              (if (f_X13_diesOn M x3) ≤ (f_X13_diesOn M x4) then
                (f_X13_nextDeath_5 M x1 x2 n x3 (x4 + 1))
              else
                (f_X13_nextDeath_69 M x1 x2 x4 (f_X13_nextDeath_5 M x1 x2 n))))
          else
            (f_X13_nextDeath_5 M x1 x2 n x3 (x4 + 1)))))
def s_X13_nextDeath_5 (M : gM) (x1 : Int32) (x2 : Int32)  : Nat → Int32 → Int32 → Prop
  | 0, _, _ => False
  | n + 1, x3, x4 =>
    (vp_in 0 502) ∧
    (if (rdI M 88 0 0 (nn 0)) ≤ x4 then
      (True)
    else
      (if ((x1 >>> (x4 &&& 31)) &&& 1) = 1 then
        (s_X13_nextDeath_5 M x1 x2 n x3 (x4 + 1))
      else
        ((s_X13_diesOn M x4) ∧
        (if (f_X13_diesOn M x4) = (-2) then
          (s_X13_nextDeath_5 M x1 x2 n x3 (x4 + 1))
        else
          ((s_X13_diesOn M x4) ∧
          (if (f_X13_diesOn M x4) ≤ x2 then
            (if x3 = (-1) then
              (s_X13_nextDeath_69 M x1 x2 x4 (s_X13_nextDeath_5 M x1 x2 n))
            else
              ((s_X13_diesOn M x4) ∧
              ((s_X13_diesOn M x3) ∧
              (if (f_X13_diesOn M x3) ≤ (f_X13_diesOn M x4) then
                (s_X13_nextDeath_5 M x1 x2 n x3 (x4 + 1))
              else
                (s_X13_nextDeath_69 M x1 x2 x4 (s_X13_nextDeath_5 M x1 x2 n))))))
          else
            (s_X13_nextDeath_5 M x1 x2 n x3 (x4 + 1))))))))
set_option maxRecDepth 100000 in
set_option maxHeartbeats 4000000 in
theorem t_X13_nextDeath_5 {E : gE} {K : Int32 → Prop} {Q : Option Value → gM → Prop} {M : gM} (hK : ∀ z : Int32, K z → Q (some (.int z)) M) (x1 : Int32) (x2 : Int32)   : ∀ (n : Nat) (x3 : Int32) (x4 : Int32) , s_X13_nextDeath_5 M x1 x2  n x3 x4 → K (f_X13_nextDeath_5 M x1 x2  n x3 x4) → gG E RX13 cX13_nextDeath 5 (some .int) (rm 1) 5 [(0, .ref (gla E 226)), (1, .int x1), (2, .int x2), (3, .int x3), (4, .int x4)] [] M Q := by
  intro n
  induction n with
  | zero => intro x3 x4 hs hQ; exact (hs : False).elim
  | succ n ih =>
    intro x3 x4 hs hQ
    rw [s_X13_nextDeath_5] at hs
    rw [f_X13_nextDeath_5] at hQ
    refine g_iload 4 dX13_nextDeath_5 rfl ?_
    refine g_aload_n 0 dX13_nextDeath_7 rfl ?_
    refine g_getR 226 228 fd_X13_13 dF_Md rfl rfl dX13_nextDeath_8 ?_
    refine g_iconst (v := 0) dX13_nextDeath_11 (by decide) ?_
    have h1 := hs.1; have hs := hs.2
    refine g_iald 228 dF_Md_world h1 dX13_nextDeath_12 ?_
    refine g_icmp_ge 78 dX13_nextDeath_13 (by decide) (fun c2 => ?_) (fun c2 => ?_)
    · have hs := ifSt hs c2; have hQ := ifQt hQ c2
      refine g_iload_n 3 dX13_nextDeath_78 rfl ?_
      exact g_iret rfl dX13_nextDeath_79 (hK _ hQ)
    · have hs := ifSf hs c2; have hQ := ifQf hQ c2
      refine g_iload_n 1 dX13_nextDeath_16 rfl ?_
      refine g_iload 4 dX13_nextDeath_17 rfl ?_
      refine g_ishr dX13_nextDeath_19 ?_
      refine g_iconst (v := 1) dX13_nextDeath_20 (by decide) ?_
      refine g_iand dX13_nextDeath_21 ?_
      refine g_iconst (v := 1) dX13_nextDeath_22 (by decide) ?_
      refine g_icmp_eq 72 dX13_nextDeath_23 (by decide) (fun c3 => ?_) (fun c3 => ?_)
      · have hs := ifSt hs c3; have hQ := ifQt hQ c3
        refine g_iinc 4 (v := x4 + 1) _ dX13_nextDeath_72 rfl rfl (by decide) rfl ?_
        refine g_goto 5 dX13_nextDeath_75 (by decide) ?_
        refine g_sub [1, 2, 3, 4, 0] _ rfl ?_
        exact ih x3 (x4 + 1) hs hQ
      · have hs := ifSf hs c3; have hQ := ifQf hQ c3
        refine g_aload_n 0 dX13_nextDeath_26 rfl ?_
        refine g_iload 4 dX13_nextDeath_27 rfl ?_
        have h4 := hs.1; have hs := hs.2
        refine g_callV (As := [.int x4]) (st := []) 226 (c_X13_diesOn E M x4 h4) mt_X13_diesOn ml_X13_203 dF_Md rfl rfl sg_X13_diesOn rfl (by decide) (Nat.le_of_ble_eq_true rfl) dX13_nextDeath_29 ?_
        rintro _ _ ⟨q1, q2⟩; rw [q1, q2]; clear q1 q2
        refine g_bipush (v := (-2)) dX13_nextDeath_32 (by decide) ?_
        refine g_icmp_eq 72 dX13_nextDeath_34 (by decide) (fun c5 => ?_) (fun c5 => ?_)
        · have hs := ifSt hs c5; have hQ := ifQt hQ c5
          refine g_iinc 4 (v := x4 + 1) _ dX13_nextDeath_72 rfl rfl (by decide) rfl ?_
          refine g_goto 5 dX13_nextDeath_75 (by decide) ?_
          refine g_sub [1, 2, 3, 4, 0] _ rfl ?_
          exact ih x3 (x4 + 1) hs hQ
        · have hs := ifSf hs c5; have hQ := ifQf hQ c5
          refine g_aload_n 0 dX13_nextDeath_37 rfl ?_
          refine g_iload 4 dX13_nextDeath_38 rfl ?_
          have h6 := hs.1; have hs := hs.2
          refine g_callV (As := [.int x4]) (st := []) 226 (c_X13_diesOn E M x4 h6) mt_X13_diesOn ml_X13_203 dF_Md rfl rfl sg_X13_diesOn rfl (by decide) (Nat.le_of_ble_eq_true rfl) dX13_nextDeath_40 ?_
          rintro _ _ ⟨q1, q2⟩; rw [q1, q2]; clear q1 q2
          refine g_iload_n 2 dX13_nextDeath_43 rfl ?_
          refine g_icmp_le 50 dX13_nextDeath_44 (by decide) (fun c7 => ?_) (fun c7 => ?_)
          · have hs := ifSt hs c7; have hQ := ifQt hQ c7
            refine g_iload_n 3 dX13_nextDeath_50 rfl ?_
            refine g_iconst (v := (-1)) dX13_nextDeath_51 (by decide) ?_
            refine g_icmp_eq 69 dX13_nextDeath_52 (by decide) (fun c8 => ?_) (fun c8 => ?_)
            · have hs := ifSt hs c8; have hQ := ifQt hQ c8
              refine g_sub [0, 1, 2, 4] _ rfl ?_
              exact t_X13_nextDeath_69 hK x1 x2 x4 (f_X13_nextDeath_5 M x1 x2 n) (s_X13_nextDeath_5 M x1 x2 n) ih hs hQ
            · have hs := ifSf hs c8; have hQ := ifQf hQ c8
              refine g_aload_n 0 dX13_nextDeath_55 rfl ?_
              refine g_iload 4 dX13_nextDeath_56 rfl ?_
              have h9 := hs.1; have hs := hs.2
              refine g_callV (As := [.int x4]) (st := []) 226 (c_X13_diesOn E M x4 h9) mt_X13_diesOn ml_X13_203 dF_Md rfl rfl sg_X13_diesOn rfl (by decide) (Nat.le_of_ble_eq_true rfl) dX13_nextDeath_58 ?_
              rintro _ _ ⟨q1, q2⟩; rw [q1, q2]; clear q1 q2
              refine g_aload_n 0 dX13_nextDeath_61 rfl ?_
              refine g_iload_n 3 dX13_nextDeath_62 rfl ?_
              have h10 := hs.1; have hs := hs.2
              refine g_callV (As := [.int x3]) (st := [.int (f_X13_diesOn M x4)]) 226 (c_X13_diesOn E M x3 h10) mt_X13_diesOn ml_X13_203 dF_Md rfl rfl sg_X13_diesOn rfl (by decide) (Nat.le_of_ble_eq_true rfl) dX13_nextDeath_63 ?_
              rintro _ _ ⟨q1, q2⟩; rw [q1, q2]; clear q1 q2
              refine g_icmp_ge 72 dX13_nextDeath_66 (by decide) (fun c11 => ?_) (fun c11 => ?_)
              · have hs := ifSt hs c11; have hQ := ifQt hQ c11
                refine g_iinc 4 (v := x4 + 1) _ dX13_nextDeath_72 rfl rfl (by decide) rfl ?_
                refine g_goto 5 dX13_nextDeath_75 (by decide) ?_
                refine g_sub [1, 2, 3, 4, 0] _ rfl ?_
                exact ih x3 (x4 + 1) hs hQ
              · have hs := ifSf hs c11; have hQ := ifQf hQ c11
                refine g_sub [0, 1, 2, 4] _ rfl ?_
                exact t_X13_nextDeath_69 hK x1 x2 x4 (f_X13_nextDeath_5 M x1 x2 n) (s_X13_nextDeath_5 M x1 x2 n) ih hs hQ
          · have hs := ifSf hs c7; have hQ := ifQf hQ c7
            refine g_goto 72 dX13_nextDeath_47 (by decide) ?_
            refine g_iinc 4 (v := x4 + 1) _ dX13_nextDeath_72 rfl rfl (by decide) rfl ?_
            refine g_goto 5 dX13_nextDeath_75 (by decide) ?_
            refine g_sub [1, 2, 3, 4, 0] _ rfl ?_
            exact ih x3 (x4 + 1) hs hQ
def f_X13_nextDeath (M : gM) (x1 : Int32) (x2 : Int32) : Int32 :=
  f_X13_nextDeath_5 M x1 x2 FU (-1) 0
def s_X13_nextDeath (M : gM) (x1 : Int32) (x2 : Int32) : Prop :=
  s_X13_nextDeath_5 M x1 x2 FU (-1) 0
set_option maxRecDepth 100000 in
set_option maxHeartbeats 4000000 in
theorem t_X13_nextDeath {E : gE} {K : Int32 → Prop} {Q : Option Value → gM → Prop} {M : gM} (hK : ∀ z : Int32, K z → Q (some (.int z)) M)  (x1 : Int32) (x2 : Int32)  (hs : s_X13_nextDeath M x1 x2) (hQ : K (f_X13_nextDeath M x1 x2)) : gG E RX13 cX13_nextDeath 5 (some .int) (rm 1) 0 [(0, .ref (gla E 226)), (1, .int x1), (2, .int x2)] [] M Q := by
  rw [s_X13_nextDeath] at hs
  rw [f_X13_nextDeath] at hQ
  refine g_iconst (v := (-1)) dX13_nextDeath_0 (by decide) ?_
  refine g_istore_n _ dX13_nextDeath_1 (by decide) rfl ?_
  refine g_iconst (v := 0) dX13_nextDeath_2 (by decide) ?_
  refine g_istore _ dX13_nextDeath_3 (by decide) rfl ?_
  refine g_sub [2, 3, 4, 1, 0] _ rfl ?_
  exact t_X13_nextDeath_5 hK x1 x2 FU (-1) 0 hs hQ
theorem c_X13_nextDeath (E : gE) (M : gM) (x1 : Int32) (x2 : Int32) (hs : s_X13_nextDeath M x1 x2) : gC E yX13_nextDeath cX13_nextDeath 5 (some .int) (rm 1) [.ref (gla E 226), .int x1, .int x2] M (fun o N => o = some (.int (f_X13_nextDeath M x1 x2)) ∧ N = M) :=
  gC.of (by decide +kernel) (Nat.le_of_ble_eq_true rfl) rfl (t_X13_nextDeath (K := fun z => z = f_X13_nextDeath M x1 x2) (fun z hz => by rw [hz]; exact ⟨rfl, rfl⟩) x1 x2 hs rfl)
def f_X13_nextKin_4 (M : gM) (x1 : Int32)  : Nat → Int32 → Int32 → Int32
  | 0, _, _ => 0
  | n + 1, x2, x3 =>
    if (rdI M 88 0 0 (nn 0)) ≤ x3 then
      (x2 ||| x1)
    else
      (if ((x1 >>> (x3 &&& 31)) &&& 1) = 1 then
        (bnd (x2 ||| ((rdI M 88 0 0 (nn (24 + x3))) ||| (f_X13_childrenOf M x3))) fun v6 =>
        (f_X13_nextKin_4 M x1 n v6 (x3 + 1)))
      else
        (f_X13_nextKin_4 M x1 n x2 (x3 + 1)))
def s_X13_nextKin_4 (M : gM) (x1 : Int32)  : Nat → Int32 → Int32 → Prop
  | 0, _, _ => False
  | n + 1, x2, x3 =>
    (vp_in 0 502) ∧
    (if (rdI M 88 0 0 (nn 0)) ≤ x3 then
      (True)
    else
      (if ((x1 >>> (x3 &&& 31)) &&& 1) = 1 then
        ((vp_in (24 + x3) 502) ∧
        ((s_X13_childrenOf M x3) ∧
        (bndP (x2 ||| ((rdI M 88 0 0 (nn (24 + x3))) ||| (f_X13_childrenOf M x3))) fun v6 =>
        (s_X13_nextKin_4 M x1 n v6 (x3 + 1)))))
      else
        (s_X13_nextKin_4 M x1 n x2 (x3 + 1))))
set_option maxRecDepth 100000 in
set_option maxHeartbeats 4000000 in
theorem t_X13_nextKin_4 {E : gE} {K : Int32 → Prop} {Q : Option Value → gM → Prop} {M : gM} (hK : ∀ z : Int32, K z → Q (some (.int z)) M) (x1 : Int32)   : ∀ (n : Nat) (x2 : Int32) (x3 : Int32) , s_X13_nextKin_4 M x1  n x2 x3 → K (f_X13_nextKin_4 M x1  n x2 x3) → gG E RX13 cX13_nextKin 4 (some .int) (rm 1) 4 [(0, .ref (gla E 226)), (1, .int x1), (2, .int x2), (3, .int x3)] [] M Q := by
  intro n
  induction n with
  | zero => intro x2 x3 hs hQ; exact (hs : False).elim
  | succ n ih =>
    intro x2 x3 hs hQ
    rw [s_X13_nextKin_4] at hs
    rw [f_X13_nextKin_4] at hQ
    refine g_iload_n 3 dX13_nextKin_4 rfl ?_
    refine g_aload_n 0 dX13_nextKin_5 rfl ?_
    refine g_getR 226 228 fd_X13_13 dF_Md rfl rfl dX13_nextKin_6 ?_
    refine g_iconst (v := 0) dX13_nextKin_9 (by decide) ?_
    have h1 := hs.1; have hs := hs.2
    refine g_iald 228 dF_Md_world h1 dX13_nextKin_10 ?_
    refine g_icmp_ge 47 dX13_nextKin_11 (by decide) (fun c2 => ?_) (fun c2 => ?_)
    · have hs := ifSt hs c2; have hQ := ifQt hQ c2
      refine g_iload_n 2 dX13_nextKin_47 rfl ?_
      refine g_iload_n 1 dX13_nextKin_48 rfl ?_
      refine g_ior dX13_nextKin_49 ?_
      exact g_iret rfl dX13_nextKin_50 (hK _ hQ)
    · have hs := ifSf hs c2; have hQ := ifQf hQ c2
      refine g_iload_n 1 dX13_nextKin_14 rfl ?_
      refine g_iload_n 3 dX13_nextKin_15 rfl ?_
      refine g_ishr dX13_nextKin_16 ?_
      refine g_iconst (v := 1) dX13_nextKin_17 (by decide) ?_
      refine g_iand dX13_nextKin_18 ?_
      refine g_iconst (v := 1) dX13_nextKin_19 (by decide) ?_
      refine g_icmp_ne 41 dX13_nextKin_20 (by decide) (fun c3 => ?_) (fun c3 => ?_)
      · have hs := ifSf hs c3; have hQ := ifQf hQ c3
        refine g_iinc 3 (v := x3 + 1) _ dX13_nextKin_41 rfl rfl (by decide) rfl ?_
        refine g_goto 4 dX13_nextKin_44 (by decide) ?_
        refine g_sub [1, 2, 3, 0] _ rfl ?_
        exact ih x2 (x3 + 1) hs hQ
      · have hs := ifSt hs c3; have hQ := ifQt hQ c3
        refine g_iload_n 2 dX13_nextKin_23 rfl ?_
        refine g_aload_n 0 dX13_nextKin_24 rfl ?_
        refine g_getR 226 228 fd_X13_13 dF_Md rfl rfl dX13_nextKin_25 ?_
        refine g_bipush (v := 24) dX13_nextKin_28 (by decide) ?_
        refine g_iload_n 3 dX13_nextKin_30 rfl ?_
        refine g_iadd dX13_nextKin_31 ?_
        have h4 := hs.1; have hs := hs.2
        refine g_iald 228 dF_Md_world h4 dX13_nextKin_32 ?_
        refine g_aload_n 0 dX13_nextKin_33 rfl ?_
        refine g_iload_n 3 dX13_nextKin_34 rfl ?_
        have h5 := hs.1; have hs := hs.2
        refine g_callV (As := [.int x3]) (st := [.int (rdI M 88 0 0 (nn (24 + x3))), .int x2]) 226 (c_X13_childrenOf E M x3 h5) mt_X13_childrenOf ml_X13_209 dF_Md rfl rfl sg_X13_childrenOf rfl (by decide) (Nat.le_of_ble_eq_true rfl) dX13_nextKin_35 ?_
        rintro _ _ ⟨q1, q2⟩; rw [q1, q2]; clear q1 q2
        refine g_ior dX13_nextKin_38 ?_
        refine g_ior dX13_nextKin_39 ?_
        refine g_topI (fun v6 hv6 => ?_)
        have hQ := bndQ hQ v6 hv6; have hs := bndS hs v6 hv6
        refine g_istore_n _ dX13_nextKin_40 (by decide) rfl ?_
        refine g_iinc 3 (v := x3 + 1) _ dX13_nextKin_41 rfl rfl (by decide) rfl ?_
        refine g_goto 4 dX13_nextKin_44 (by decide) ?_
        refine g_sub [2, 3, 1, 0] _ rfl ?_
        exact ih v6 (x3 + 1) hs hQ
def f_X13_nextKin (M : gM) (x1 : Int32) : Int32 :=
  f_X13_nextKin_4 M x1 FU 0 0
def s_X13_nextKin (M : gM) (x1 : Int32) : Prop :=
  s_X13_nextKin_4 M x1 FU 0 0
set_option maxRecDepth 100000 in
set_option maxHeartbeats 4000000 in
theorem t_X13_nextKin {E : gE} {K : Int32 → Prop} {Q : Option Value → gM → Prop} {M : gM} (hK : ∀ z : Int32, K z → Q (some (.int z)) M)  (x1 : Int32)  (hs : s_X13_nextKin M x1) (hQ : K (f_X13_nextKin M x1)) : gG E RX13 cX13_nextKin 4 (some .int) (rm 1) 0 [(0, .ref (gla E 226)), (1, .int x1)] [] M Q := by
  rw [s_X13_nextKin] at hs
  rw [f_X13_nextKin] at hQ
  refine g_iconst (v := 0) dX13_nextKin_0 (by decide) ?_
  refine g_istore_n _ dX13_nextKin_1 (by decide) rfl ?_
  refine g_iconst (v := 0) dX13_nextKin_2 (by decide) ?_
  refine g_istore_n _ dX13_nextKin_3 (by decide) rfl ?_
  refine g_sub [2, 3, 1, 0] _ rfl ?_
  exact t_X13_nextKin_4 hK x1 FU 0 0 hs hQ
theorem c_X13_nextKin (E : gE) (M : gM) (x1 : Int32) (hs : s_X13_nextKin M x1) : gC E yX13_nextKin cX13_nextKin 4 (some .int) (rm 1) [.ref (gla E 226), .int x1] M (fun o N => o = some (.int (f_X13_nextKin M x1)) ∧ N = M) :=
  gC.of (by decide +kernel) (Nat.le_of_ble_eq_true rfl) rfl (t_X13_nextKin (K := fun z => z = f_X13_nextKin M x1) (fun z hz => by rw [hz]; exact ⟨rfl, rfl⟩) x1 hs rfl)
def f_X13_laysDays_107   : Nat → gM → Int32 → gM
  | 0, M, _ => M
  | n + 1, M, x1 =>
    if (rdI M 88 0 0 (nn 0)) ≤ x1 then
      (M)
    else
      (bnd (f_X13_laysDay M (f_X13_diesOn M x1)) fun M24 =>
      (if (f_X13_diesOn M24 x1) = (-2) then
        (bnd (f_X13_laysDay M24 (-2)) fun M31 =>
        (f_X13_laysDays_107 n M31 (x1 + 1)))
      else
        (bnd (f_X13_laysDay M24 ((f_X13_diesOn M24 x1) + 1)) fun M29 =>
        (f_X13_laysDays_107 n M29 (x1 + 1)))))
def s_X13_laysDays_107   : Nat → gM → Int32 → Prop
  | 0, _, _ => False
  | n + 1, M, x1 =>
    (vp_in 0 502) ∧
    (if (rdI M 88 0 0 (nn 0)) ≤ x1 then
      (True)
    else
      ((s_X13_diesOn M x1) ∧
      ((s_X13_laysDay M (f_X13_diesOn M x1)) ∧
      (bndP (f_X13_laysDay M (f_X13_diesOn M x1)) fun M24 =>
      ((s_X13_diesOn M24 x1) ∧
      (if (f_X13_diesOn M24 x1) = (-2) then
        ((s_X13_laysDay M24 (-2)) ∧
        (bndP (f_X13_laysDay M24 (-2)) fun M31 =>
        (s_X13_laysDays_107 n M31 (x1 + 1))))
      else
        ((s_X13_diesOn M24 x1) ∧
        ((s_X13_laysDay M24 ((f_X13_diesOn M24 x1) + 1)) ∧
        (bndP (f_X13_laysDay M24 ((f_X13_diesOn M24 x1) + 1)) fun M29 =>
        (s_X13_laysDays_107 n M29 (x1 + 1)))))))))))
theorem o_X13_laysDays_107   : ∀ (n : Nat) (M : gM) (x1 : Int32), offW [86, 99] M (f_X13_laysDays_107   n M x1) := by
  intro n
  induction n with
  | zero => intro M x1; exact offR
  | succ n ih =>
    intro M x1
    rw [f_X13_laysDays_107]
    refine offI ?_ ?_
    · exact offR
    · refine offB (offR.tr ((o_X13_laysDay M (f_X13_diesOn M x1)).mono (by decide))) (fun M24 oM24 => ?_)
      refine offI ?_ ?_
      · refine offB (oM24.tr ((o_X13_laysDay M24 (-2)).mono (by decide))) (fun M31 oM31 => ?_)
        exact oM31.tr (ih M31 (x1 + 1))
      · refine offB (oM24.tr ((o_X13_laysDay M24 ((f_X13_diesOn M24 x1) + 1)).mono (by decide))) (fun M29 oM29 => ?_)
        exact oM29.tr (ih M29 (x1 + 1))
set_option maxRecDepth 100000 in
set_option maxHeartbeats 4000000 in
theorem t_X13_laysDays_107 {E : gE} {K : gM → Prop} {Q : Option Value → gM → Prop} (hK : ∀ z : gM, K z → Q none z)    : ∀ (n : Nat) (M : gM) (x1 : Int32) , s_X13_laysDays_107   n M x1 → K (f_X13_laysDays_107   n M x1) → gG E RX13 cX13_laysDays 2 none (rm 1) 107 [(0, .ref (gla E 226)), (1, .int x1)] [] M Q := by
  intro n
  induction n with
  | zero => intro M x1 hs hQ; exact (hs : False).elim
  | succ n ih =>
    intro M x1 hs hQ
    rw [s_X13_laysDays_107] at hs
    rw [f_X13_laysDays_107] at hQ
    refine g_iload_n 1 dX13_laysDays_107 rfl ?_
    refine g_aload_n 0 dX13_laysDays_108 rfl ?_
    refine g_getR 226 228 fd_X13_13 dF_Md rfl rfl dX13_laysDays_109 ?_
    refine g_iconst (v := 0) dX13_laysDays_112 (by decide) ?_
    have h20 := hs.1; have hs := hs.2
    refine g_iald 228 dF_Md_world h20 dX13_laysDays_113 ?_
    refine g_icmp_ge 158 dX13_laysDays_114 (by decide) (fun c21 => ?_) (fun c21 => ?_)
    · have hs := ifSt hs c21; have hQ := ifQt hQ c21
      exact g_vret rfl dX13_laysDays_158 (hK _ hQ)
    · have hs := ifSf hs c21; have hQ := ifQf hQ c21
      refine g_aload_n 0 dX13_laysDays_117 rfl ?_
      refine g_aload_n 0 dX13_laysDays_118 rfl ?_
      refine g_iload_n 1 dX13_laysDays_119 rfl ?_
      have h22 := hs.1; have hs := hs.2
      refine g_callV (As := [.int x1]) (st := [.ref (gla E 226)]) 226 (c_X13_diesOn E M x1 h22) mt_X13_diesOn ml_X13_203 dF_Md rfl rfl sg_X13_diesOn rfl (by decide) (Nat.le_of_ble_eq_true rfl) dX13_laysDays_120 ?_
      rintro _ _ ⟨q1, q2⟩; rw [q1, q2]; clear q1 q2
      have h23 := hs.1; have hs := hs.2
      refine g_callV (As := [.int (f_X13_diesOn M x1)]) (st := []) 226 (c_X13_laysDay E M (f_X13_diesOn M x1) h23) mt_X13_laysDay ml_X13_359 dF_Md rfl rfl sg_X13_laysDay rfl (by decide) (Nat.le_of_ble_eq_true rfl) dX13_laysDays_123 ?_
      rintro _ M24 ⟨rfl, hM24⟩
      have hQ := bndQ hQ M24 hM24; have hs := bndS hs M24 hM24
      refine g_aload_n 0 dX13_laysDays_126 rfl ?_
      refine g_aload_n 0 dX13_laysDays_127 rfl ?_
      refine g_iload_n 1 dX13_laysDays_128 rfl ?_
      have h25 := hs.1; have hs := hs.2
      refine g_callV (As := [.int x1]) (st := [.ref (gla E 226)]) 226 (c_X13_diesOn E M24 x1 h25) mt_X13_diesOn ml_X13_203 dF_Md rfl rfl sg_X13_diesOn rfl (by decide) (Nat.le_of_ble_eq_true rfl) dX13_laysDays_129 ?_
      rintro _ _ ⟨q1, q2⟩; rw [q1, q2]; clear q1 q2
      refine g_bipush (v := (-2)) dX13_laysDays_132 (by decide) ?_
      refine g_icmp_ne 142 dX13_laysDays_134 (by decide) (fun c26 => ?_) (fun c26 => ?_)
      · have hs := ifSf hs c26; have hQ := ifQf hQ c26
        refine g_aload_n 0 dX13_laysDays_142 rfl ?_
        refine g_iload_n 1 dX13_laysDays_143 rfl ?_
        have h27 := hs.1; have hs := hs.2
        refine g_callV (As := [.int x1]) (st := [.ref (gla E 226)]) 226 (c_X13_diesOn E M24 x1 h27) mt_X13_diesOn ml_X13_203 dF_Md rfl rfl sg_X13_diesOn rfl (by decide) (Nat.le_of_ble_eq_true rfl) dX13_laysDays_144 ?_
        rintro _ _ ⟨q1, q2⟩; rw [q1, q2]; clear q1 q2
        refine g_iconst (v := 1) dX13_laysDays_147 (by decide) ?_
        refine g_iadd dX13_laysDays_148 ?_
        have h28 := hs.1; have hs := hs.2
        refine g_callV (As := [.int ((f_X13_diesOn M24 x1) + 1)]) (st := []) 226 (c_X13_laysDay E M24 ((f_X13_diesOn M24 x1) + 1) h28) mt_X13_laysDay ml_X13_359 dF_Md rfl rfl sg_X13_laysDay rfl (by decide) (Nat.le_of_ble_eq_true rfl) dX13_laysDays_149 ?_
        rintro _ M29 ⟨rfl, hM29⟩
        have hQ := bndQ hQ M29 hM29; have hs := bndS hs M29 hM29
        refine g_iinc 1 (v := x1 + 1) _ dX13_laysDays_152 rfl rfl (by decide) rfl ?_
        refine g_goto 107 dX13_laysDays_155 (by decide) ?_
        refine g_sub [1, 0] _ rfl ?_
        exact ih M29 (x1 + 1) hs hQ
      · have hs := ifSt hs c26; have hQ := ifQt hQ c26
        refine g_bipush (v := (-2)) dX13_laysDays_137 (by decide) ?_
        refine g_goto 149 dX13_laysDays_139 (by decide) ?_
        have h30 := hs.1; have hs := hs.2
        refine g_callV (As := [.int (-2)]) (st := []) 226 (c_X13_laysDay E M24 (-2) h30) mt_X13_laysDay ml_X13_359 dF_Md rfl rfl sg_X13_laysDay rfl (by decide) (Nat.le_of_ble_eq_true rfl) dX13_laysDays_149 ?_
        rintro _ M31 ⟨rfl, hM31⟩
        have hQ := bndQ hQ M31 hM31; have hs := bndS hs M31 hM31
        refine g_iinc 1 (v := x1 + 1) _ dX13_laysDays_152 rfl rfl (by decide) rfl ?_
        refine g_goto 107 dX13_laysDays_155 (by decide) ?_
        refine g_sub [1, 0] _ rfl ?_
        exact ih M31 (x1 + 1) hs hQ
def f_X13_laysDays_52   : Nat → gM → Int32 → gM
  | 0, M, _ => M
  | n + 1, M, x1 =>
    if (rdI M 92 0 0 (nn 64)) ≤ x1 then
      (f_X13_laysDays_107 FU M 0)
    else
      (bnd (f_X13_laysDay M (rdI M 92 0 0 (nn ((46 + (3 * x1)) + 2)))) fun M16 =>
      (bnd (f_X13_laysDay M16 ((rdI M16 92 0 0 (nn ((46 + (3 * x1)) + 2))) + 1)) fun M19 =>
      (f_X13_laysDays_52 n M19 (x1 + 1))))
def s_X13_laysDays_52   : Nat → gM → Int32 → Prop
  | 0, _, _ => False
  | n + 1, M, x1 =>
    (vp_in 64 65) ∧
    (if (rdI M 92 0 0 (nn 64)) ≤ x1 then
      (s_X13_laysDays_107 FU M 0)
    else
      ((vp_in ((46 + (3 * x1)) + 2) 65) ∧
      ((s_X13_laysDay M (rdI M 92 0 0 (nn ((46 + (3 * x1)) + 2)))) ∧
      (bndP (f_X13_laysDay M (rdI M 92 0 0 (nn ((46 + (3 * x1)) + 2)))) fun M16 =>
      ((vp_in ((46 + (3 * x1)) + 2) 65) ∧
      ((s_X13_laysDay M16 ((rdI M16 92 0 0 (nn ((46 + (3 * x1)) + 2))) + 1)) ∧
      (bndP (f_X13_laysDay M16 ((rdI M16 92 0 0 (nn ((46 + (3 * x1)) + 2))) + 1)) fun M19 =>
      (s_X13_laysDays_52 n M19 (x1 + 1)))))))))
theorem o_X13_laysDays_52   : ∀ (n : Nat) (M : gM) (x1 : Int32), offW [86, 99] M (f_X13_laysDays_52   n M x1) := by
  intro n
  induction n with
  | zero => intro M x1; exact offR
  | succ n ih =>
    intro M x1
    rw [f_X13_laysDays_52]
    refine offI ?_ ?_
    · exact (o_X13_laysDays_107  FU M 0)
    · refine offB (offR.tr ((o_X13_laysDay M (rdI M 92 0 0 (nn ((46 + (3 * x1)) + 2)))).mono (by decide))) (fun M16 oM16 => ?_)
      refine offB (oM16.tr ((o_X13_laysDay M16 ((rdI M16 92 0 0 (nn ((46 + (3 * x1)) + 2))) + 1)).mono (by decide))) (fun M19 oM19 => ?_)
      exact oM19.tr (ih M19 (x1 + 1))
set_option maxRecDepth 100000 in
set_option maxHeartbeats 4000000 in
theorem t_X13_laysDays_52 {E : gE} {K : gM → Prop} {Q : Option Value → gM → Prop} (hK : ∀ z : gM, K z → Q none z)    : ∀ (n : Nat) (M : gM) (x1 : Int32) , s_X13_laysDays_52   n M x1 → K (f_X13_laysDays_52   n M x1) → gG E RX13 cX13_laysDays 2 none (rm 1) 52 [(0, .ref (gla E 226)), (1, .int x1)] [] M Q := by
  intro n
  induction n with
  | zero => intro M x1 hs hQ; exact (hs : False).elim
  | succ n ih =>
    intro M x1 hs hQ
    rw [s_X13_laysDays_52] at hs
    rw [f_X13_laysDays_52] at hQ
    refine g_iload_n 1 dX13_laysDays_52 rfl ?_
    refine g_aload_n 0 dX13_laysDays_53 rfl ?_
    refine g_getR 226 232 fd_X13_25 dF_Md rfl rfl dX13_laysDays_54 ?_
    refine g_bipush (v := 64) dX13_laysDays_57 (by decide) ?_
    have h12 := hs.1; have hs := hs.2
    refine g_iald 232 dF_Md_now h12 dX13_laysDays_59 ?_
    refine g_icmp_ge 105 dX13_laysDays_60 (by decide) (fun c13 => ?_) (fun c13 => ?_)
    · have hs := ifSt hs c13; have hQ := ifQt hQ c13
      refine g_iconst (v := 0) dX13_laysDays_105 (by decide) ?_
      refine g_istore_n _ dX13_laysDays_106 (by decide) rfl ?_
      refine g_sub [1, 0] _ rfl ?_
      exact t_X13_laysDays_107 hK FU M 0 hs hQ
    · have hs := ifSf hs c13; have hQ := ifQf hQ c13
      refine g_aload_n 0 dX13_laysDays_63 rfl ?_
      refine g_aload_n 0 dX13_laysDays_64 rfl ?_
      refine g_getR 226 232 fd_X13_25 dF_Md rfl rfl dX13_laysDays_65 ?_
      refine g_bipush (v := 46) dX13_laysDays_68 (by decide) ?_
      refine g_iconst (v := 3) dX13_laysDays_70 (by decide) ?_
      refine g_iload_n 1 dX13_laysDays_71 rfl ?_
      refine g_imul dX13_laysDays_72 ?_
      refine g_iadd dX13_laysDays_73 ?_
      refine g_iconst (v := 2) dX13_laysDays_74 (by decide) ?_
      refine g_iadd dX13_laysDays_75 ?_
      have h14 := hs.1; have hs := hs.2
      refine g_iald 232 dF_Md_now h14 dX13_laysDays_76 ?_
      have h15 := hs.1; have hs := hs.2
      refine g_callV (As := [.int (rdI M 92 0 0 (nn ((46 + (3 * x1)) + 2)))]) (st := []) 226 (c_X13_laysDay E M (rdI M 92 0 0 (nn ((46 + (3 * x1)) + 2))) h15) mt_X13_laysDay ml_X13_359 dF_Md rfl rfl sg_X13_laysDay rfl (by decide) (Nat.le_of_ble_eq_true rfl) dX13_laysDays_77 ?_
      rintro _ M16 ⟨rfl, hM16⟩
      have hQ := bndQ hQ M16 hM16; have hs := bndS hs M16 hM16
      refine g_aload_n 0 dX13_laysDays_80 rfl ?_
      refine g_aload_n 0 dX13_laysDays_81 rfl ?_
      refine g_getR 226 232 fd_X13_25 dF_Md rfl rfl dX13_laysDays_82 ?_
      refine g_bipush (v := 46) dX13_laysDays_85 (by decide) ?_
      refine g_iconst (v := 3) dX13_laysDays_87 (by decide) ?_
      refine g_iload_n 1 dX13_laysDays_88 rfl ?_
      refine g_imul dX13_laysDays_89 ?_
      refine g_iadd dX13_laysDays_90 ?_
      refine g_iconst (v := 2) dX13_laysDays_91 (by decide) ?_
      refine g_iadd dX13_laysDays_92 ?_
      have h17 := hs.1; have hs := hs.2
      refine g_iald 232 dF_Md_now h17 dX13_laysDays_93 ?_
      refine g_iconst (v := 1) dX13_laysDays_94 (by decide) ?_
      refine g_iadd dX13_laysDays_95 ?_
      have h18 := hs.1; have hs := hs.2
      refine g_callV (As := [.int ((rdI M16 92 0 0 (nn ((46 + (3 * x1)) + 2))) + 1)]) (st := []) 226 (c_X13_laysDay E M16 ((rdI M16 92 0 0 (nn ((46 + (3 * x1)) + 2))) + 1) h18) mt_X13_laysDay ml_X13_359 dF_Md rfl rfl sg_X13_laysDay rfl (by decide) (Nat.le_of_ble_eq_true rfl) dX13_laysDays_96 ?_
      rintro _ M19 ⟨rfl, hM19⟩
      have hQ := bndQ hQ M19 hM19; have hs := bndS hs M19 hM19
      refine g_iinc 1 (v := x1 + 1) _ dX13_laysDays_99 rfl rfl (by decide) rfl ?_
      refine g_goto 52 dX13_laysDays_102 (by decide) ?_
      refine g_sub [1, 0] _ rfl ?_
      exact ih M19 (x1 + 1) hs hQ
def f_X13_laysDays_12   : Nat → gM → Int32 → gM
  | 0, M, _ => M
  | n + 1, M, x1 =>
    if (rdI M 88 0 0 (nn 2)) ≤ x1 then
      (f_X13_laysDays_52 FU M 0)
    else
      (bnd (f_X13_laysDay M (f_X13_of M x1 1)) fun M8 =>
      (bnd (f_X13_laysDay M8 ((f_X13_of M8 x1 1) + 1)) fun M11 =>
      (f_X13_laysDays_12 n M11 (x1 + 1))))
def s_X13_laysDays_12   : Nat → gM → Int32 → Prop
  | 0, _, _ => False
  | n + 1, M, x1 =>
    (vp_in 2 502) ∧
    (if (rdI M 88 0 0 (nn 2)) ≤ x1 then
      (s_X13_laysDays_52 FU M 0)
    else
      ((s_X13_of M x1 1) ∧
      ((s_X13_laysDay M (f_X13_of M x1 1)) ∧
      (bndP (f_X13_laysDay M (f_X13_of M x1 1)) fun M8 =>
      ((s_X13_of M8 x1 1) ∧
      ((s_X13_laysDay M8 ((f_X13_of M8 x1 1) + 1)) ∧
      (bndP (f_X13_laysDay M8 ((f_X13_of M8 x1 1) + 1)) fun M11 =>
      (s_X13_laysDays_12 n M11 (x1 + 1)))))))))
theorem o_X13_laysDays_12   : ∀ (n : Nat) (M : gM) (x1 : Int32), offW [86, 99] M (f_X13_laysDays_12   n M x1) := by
  intro n
  induction n with
  | zero => intro M x1; exact offR
  | succ n ih =>
    intro M x1
    rw [f_X13_laysDays_12]
    refine offI ?_ ?_
    · exact (o_X13_laysDays_52  FU M 0)
    · refine offB (offR.tr ((o_X13_laysDay M (f_X13_of M x1 1)).mono (by decide))) (fun M8 oM8 => ?_)
      refine offB (oM8.tr ((o_X13_laysDay M8 ((f_X13_of M8 x1 1) + 1)).mono (by decide))) (fun M11 oM11 => ?_)
      exact oM11.tr (ih M11 (x1 + 1))
set_option maxRecDepth 100000 in
set_option maxHeartbeats 4000000 in
theorem t_X13_laysDays_12 {E : gE} {K : gM → Prop} {Q : Option Value → gM → Prop} (hK : ∀ z : gM, K z → Q none z)    : ∀ (n : Nat) (M : gM) (x1 : Int32) , s_X13_laysDays_12   n M x1 → K (f_X13_laysDays_12   n M x1) → gG E RX13 cX13_laysDays 2 none (rm 1) 12 [(0, .ref (gla E 226)), (1, .int x1)] [] M Q := by
  intro n
  induction n with
  | zero => intro M x1 hs hQ; exact (hs : False).elim
  | succ n ih =>
    intro M x1 hs hQ
    rw [s_X13_laysDays_12] at hs
    rw [f_X13_laysDays_12] at hQ
    refine g_iload_n 1 dX13_laysDays_12 rfl ?_
    refine g_aload_n 0 dX13_laysDays_13 rfl ?_
    refine g_getR 226 228 fd_X13_13 dF_Md rfl rfl dX13_laysDays_14 ?_
    refine g_iconst (v := 2) dX13_laysDays_17 (by decide) ?_
    have h4 := hs.1; have hs := hs.2
    refine g_iald 228 dF_Md_world h4 dX13_laysDays_18 ?_
    refine g_icmp_ge 50 dX13_laysDays_19 (by decide) (fun c5 => ?_) (fun c5 => ?_)
    · have hs := ifSt hs c5; have hQ := ifQt hQ c5
      refine g_iconst (v := 0) dX13_laysDays_50 (by decide) ?_
      refine g_istore_n _ dX13_laysDays_51 (by decide) rfl ?_
      refine g_sub [1, 0] _ rfl ?_
      exact t_X13_laysDays_52 hK FU M 0 hs hQ
    · have hs := ifSf hs c5; have hQ := ifQf hQ c5
      refine g_aload_n 0 dX13_laysDays_22 rfl ?_
      refine g_aload_n 0 dX13_laysDays_23 rfl ?_
      refine g_iload_n 1 dX13_laysDays_24 rfl ?_
      refine g_iconst (v := 1) dX13_laysDays_25 (by decide) ?_
      have h6 := hs.1; have hs := hs.2
      refine g_callV (As := [.int x1, .int 1]) (st := [.ref (gla E 226)]) 226 (c_X13_of E M x1 1 h6) mt_X13_of ml_X13_218 dF_Md rfl rfl sg_X13_of rfl (by decide) (Nat.le_of_ble_eq_true rfl) dX13_laysDays_26 ?_
      rintro _ _ ⟨q1, q2⟩; rw [q1, q2]; clear q1 q2
      have h7 := hs.1; have hs := hs.2
      refine g_callV (As := [.int (f_X13_of M x1 1)]) (st := []) 226 (c_X13_laysDay E M (f_X13_of M x1 1) h7) mt_X13_laysDay ml_X13_359 dF_Md rfl rfl sg_X13_laysDay rfl (by decide) (Nat.le_of_ble_eq_true rfl) dX13_laysDays_29 ?_
      rintro _ M8 ⟨rfl, hM8⟩
      have hQ := bndQ hQ M8 hM8; have hs := bndS hs M8 hM8
      refine g_aload_n 0 dX13_laysDays_32 rfl ?_
      refine g_aload_n 0 dX13_laysDays_33 rfl ?_
      refine g_iload_n 1 dX13_laysDays_34 rfl ?_
      refine g_iconst (v := 1) dX13_laysDays_35 (by decide) ?_
      have h9 := hs.1; have hs := hs.2
      refine g_callV (As := [.int x1, .int 1]) (st := [.ref (gla E 226)]) 226 (c_X13_of E M8 x1 1 h9) mt_X13_of ml_X13_218 dF_Md rfl rfl sg_X13_of rfl (by decide) (Nat.le_of_ble_eq_true rfl) dX13_laysDays_36 ?_
      rintro _ _ ⟨q1, q2⟩; rw [q1, q2]; clear q1 q2
      refine g_iconst (v := 1) dX13_laysDays_39 (by decide) ?_
      refine g_iadd dX13_laysDays_40 ?_
      have h10 := hs.1; have hs := hs.2
      refine g_callV (As := [.int ((f_X13_of M8 x1 1) + 1)]) (st := []) 226 (c_X13_laysDay E M8 ((f_X13_of M8 x1 1) + 1) h10) mt_X13_laysDay ml_X13_359 dF_Md rfl rfl sg_X13_laysDay rfl (by decide) (Nat.le_of_ble_eq_true rfl) dX13_laysDays_41 ?_
      rintro _ M11 ⟨rfl, hM11⟩
      have hQ := bndQ hQ M11 hM11; have hs := bndS hs M11 hM11
      refine g_iinc 1 (v := x1 + 1) _ dX13_laysDays_44 rfl rfl (by decide) rfl ?_
      refine g_goto 12 dX13_laysDays_47 (by decide) ?_
      refine g_sub [1, 0] _ rfl ?_
      exact ih M11 (x1 + 1) hs hQ
def f_X13_laysDays (M : gM) : gM :=
  bnd (wrI M 86 0 0 0 0) fun M1 =>
  (bnd (f_X13_laysDay M1 0) fun M3 =>
  (f_X13_laysDays_12 FU M3 0))
def s_X13_laysDays (M : gM) : Prop :=
  bndP (wrI M 86 0 0 0 0) fun M1 =>
  ((s_X13_laysDay M1 0) ∧
  (bndP (f_X13_laysDay M1 0) fun M3 =>
  (s_X13_laysDays_12 FU M3 0)))
theorem o_X13_laysDays (M : gM) : offW [86, 99] M (f_X13_laysDays M) := by
  rw [f_X13_laysDays]
  refine offB (offR.wI (by decide)) (fun M1 oM1 => ?_)
  refine offB (oM1.tr ((o_X13_laysDay M1 0).mono (by decide))) (fun M3 oM3 => ?_)
  exact oM3.tr (o_X13_laysDays_12  FU M3 0)
set_option maxRecDepth 100000 in
set_option maxHeartbeats 4000000 in
theorem t_X13_laysDays {E : gE} {K : gM → Prop} {Q : Option Value → gM → Prop} (hK : ∀ z : gM, K z → Q none z) (M : gM)  (hs : s_X13_laysDays M) (hQ : K (f_X13_laysDays M)) : gG E RX13 cX13_laysDays 2 none (rm 1) 0 [(0, .ref (gla E 226))] [] M Q := by
  rw [s_X13_laysDays] at hs
  rw [f_X13_laysDays] at hQ
  refine g_aload_n 0 dX13_laysDays_0 rfl ?_
  refine g_iconst (v := 0) dX13_laysDays_1 (by decide) ?_
  refine g_putI 226 fd_X13_356 dF_Md rfl dX13_laysDays_2 (fun M1 hM1 => ?_)
  have hQ := bndQ hQ M1 hM1; have hs := bndS hs M1 hM1
  refine g_aload_n 0 dX13_laysDays_5 rfl ?_
  refine g_iconst (v := 0) dX13_laysDays_6 (by decide) ?_
  have h2 := hs.1; have hs := hs.2
  refine g_callV (As := [.int 0]) (st := []) 226 (c_X13_laysDay E M1 0 h2) mt_X13_laysDay ml_X13_359 dF_Md rfl rfl sg_X13_laysDay rfl (by decide) (Nat.le_of_ble_eq_true rfl) dX13_laysDays_7 ?_
  rintro _ M3 ⟨rfl, hM3⟩
  have hQ := bndQ hQ M3 hM3; have hs := bndS hs M3 hM3
  refine g_iconst (v := 0) dX13_laysDays_10 (by decide) ?_
  refine g_istore_n _ dX13_laysDays_11 (by decide) rfl ?_
  refine g_sub [1, 0] _ rfl ?_
  exact t_X13_laysDays_12 hK FU M3 0 hs hQ
theorem c_X13_laysDays (E : gE) (M : gM)  (hs : s_X13_laysDays M) : gC E yX13_laysDays cX13_laysDays 2 none (rm 1) [.ref (gla E 226)] M (fun o N => o = none ∧ N = f_X13_laysDays M) :=
  gC.of (by decide +kernel) (Nat.le_of_ble_eq_true rfl) rfl (t_X13_laysDays (K := fun z => z = f_X13_laysDays M) (fun z hz => ⟨rfl, hz⟩) M hs rfl)
def f_X13_namedIn_28 (M : gM) (x1 : Int32)  : Nat → Int32 → Int32 → Int32
  | 0, _, _ => 0
  | n + 1, x2, x3 =>
    if (f_X13_of M x1 5) ≤ x3 then
      (x2)
    else
      (bnd (142 + (5 * ((6 * x1) + x3))) fun v7 =>
      (bnd (x2 ||| (1 <<< ((rdI M 88 0 0 (nn (v7 + 1))) &&& 31))) fun v9 =>
      (if (rdI M 88 0 0 (nn (v7 + 4))) = (-2) then
        (f_X13_namedIn_28 M x1 n (v9 ||| 0) (x3 + 1))
      else
        (bnd (v9 ||| (1 <<< ((rdI M 88 0 0 (nn (v7 + 4))) &&& 31))) fun v13 =>
        (f_X13_namedIn_28 M x1 n v13 (x3 + 1))))))
def s_X13_namedIn_28 (M : gM) (x1 : Int32)  : Nat → Int32 → Int32 → Prop
  | 0, _, _ => False
  | n + 1, x2, x3 =>
    (s_X13_of M x1 5) ∧
    (if (f_X13_of M x1 5) ≤ x3 then
      (True)
    else
      (bndP (142 + (5 * ((6 * x1) + x3))) fun v7 =>
      ((vp_in (v7 + 1) 502) ∧
      (bndP (x2 ||| (1 <<< ((rdI M 88 0 0 (nn (v7 + 1))) &&& 31))) fun v9 =>
      ((vp_in (v7 + 4) 502) ∧
      (if (rdI M 88 0 0 (nn (v7 + 4))) = (-2) then
        (s_X13_namedIn_28 M x1 n (v9 ||| 0) (x3 + 1))
      else
        ((vp_in (v7 + 4) 502) ∧
        (bndP (v9 ||| (1 <<< ((rdI M 88 0 0 (nn (v7 + 4))) &&& 31))) fun v13 =>
        (s_X13_namedIn_28 M x1 n v13 (x3 + 1))))))))))
set_option maxRecDepth 100000 in
set_option maxHeartbeats 4000000 in
theorem t_X13_namedIn_28 {E : gE} {K : Int32 → Prop} {Q : Option Value → gM → Prop} {M : gM} (hK : ∀ z : Int32, K z → Q (some (.int z)) M) (x1 : Int32)   : ∀ (n : Nat) (x2 : Int32) (x3 : Int32) , s_X13_namedIn_28 M x1  n x2 x3 → K (f_X13_namedIn_28 M x1  n x2 x3) → gG E RX13 cX13_namedIn 5 (some .int) (rm 1) 28 [(0, .ref (gla E 226)), (1, .int x1), (2, .int x2), (3, .int x3)] [] M Q := by
  intro n
  induction n with
  | zero => intro x2 x3 hs hQ; exact (hs : False).elim
  | succ n ih =>
    intro x2 x3 hs hQ
    rw [s_X13_namedIn_28] at hs
    rw [f_X13_namedIn_28] at hQ
    refine g_iload_n 3 dX13_namedIn_28 rfl ?_
    refine g_aload_n 0 dX13_namedIn_29 rfl ?_
    refine g_iload_n 1 dX13_namedIn_30 rfl ?_
    refine g_iconst (v := 5) dX13_namedIn_31 (by decide) ?_
    have h5 := hs.1; have hs := hs.2
    refine g_callV (As := [.int x1, .int 5]) (st := [.int x3]) 226 (c_X13_of E M x1 5 h5) mt_X13_of ml_X13_218 dF_Md rfl rfl sg_X13_of rfl (by decide) (Nat.le_of_ble_eq_true rfl) dX13_namedIn_32 ?_
    rintro _ _ ⟨q1, q2⟩; rw [q1, q2]; clear q1 q2
    refine g_icmp_ge 104 dX13_namedIn_35 (by decide) (fun c6 => ?_) (fun c6 => ?_)
    · have hs := ifSt hs c6; have hQ := ifQt hQ c6
      refine g_iload_n 2 dX13_namedIn_104 rfl ?_
      exact g_iret rfl dX13_namedIn_105 (hK _ hQ)
    · have hs := ifSf hs c6; have hQ := ifQf hQ c6
      refine g_sipush (v := 142) dX13_namedIn_38 (by decide) ?_
      refine g_iconst (v := 5) dX13_namedIn_41 (by decide) ?_
      refine g_bipush (v := 6) dX13_namedIn_42 (by decide) ?_
      refine g_iload_n 1 dX13_namedIn_44 rfl ?_
      refine g_imul dX13_namedIn_45 ?_
      refine g_iload_n 3 dX13_namedIn_46 rfl ?_
      refine g_iadd dX13_namedIn_47 ?_
      refine g_imul dX13_namedIn_48 ?_
      refine g_iadd dX13_namedIn_49 ?_
      refine g_topI (fun v7 hv7 => ?_)
      have hQ := bndQ hQ v7 hv7; have hs := bndS hs v7 hv7
      refine g_istore _ dX13_namedIn_50 (by decide) rfl ?_
      refine g_iload_n 3 dX13_namedIn_52 rfl ?_
      refine g_iconst (v := 1) dX13_namedIn_53 (by decide) ?_
      refine g_aload_n 1 dX13_namedIn_54 rfl ?_
      refine g_getR 226 228 fd_X13_13 dF_Md rfl rfl dX13_namedIn_55 ?_
      refine g_iload 0 dX13_namedIn_58 rfl ?_
      refine g_iconst (v := 1) dX13_namedIn_60 (by decide) ?_
      refine g_iadd dX13_namedIn_61 ?_
      have h8 := hs.1; have hs := hs.2
      refine g_iald 228 dF_Md_world h8 dX13_namedIn_62 ?_
      refine g_ishl dX13_namedIn_63 ?_
      refine g_ior dX13_namedIn_64 ?_
      refine g_topI (fun v9 hv9 => ?_)
      have hQ := bndQ hQ v9 hv9; have hs := bndS hs v9 hv9
      refine g_istore_n _ dX13_namedIn_65 (by decide) rfl ?_
      refine g_iload_n 0 dX13_namedIn_66 rfl ?_
      refine g_aload_n 2 dX13_namedIn_67 rfl ?_
      refine g_getR 226 228 fd_X13_13 dF_Md rfl rfl dX13_namedIn_68 ?_
      refine g_iload 1 dX13_namedIn_71 rfl ?_
      refine g_iconst (v := 4) dX13_namedIn_73 (by decide) ?_
      refine g_iadd dX13_namedIn_74 ?_
      have h10 := hs.1; have hs := hs.2
      refine g_iald 228 dF_Md_world h10 dX13_namedIn_75 ?_
      refine g_bipush (v := (-2)) dX13_namedIn_76 (by decide) ?_
      refine g_icmp_ne 85 dX13_namedIn_78 (by decide) (fun c11 => ?_) (fun c11 => ?_)
      · have hs := ifSf hs c11; have hQ := ifQf hQ c11
        refine g_iconst (v := 1) dX13_namedIn_85 (by decide) ?_
        refine g_aload_n 2 dX13_namedIn_86 rfl ?_
        refine g_getR 226 228 fd_X13_13 dF_Md rfl rfl dX13_namedIn_87 ?_
        refine g_iload 1 dX13_namedIn_90 rfl ?_
        refine g_iconst (v := 4) dX13_namedIn_92 (by decide) ?_
        refine g_iadd dX13_namedIn_93 ?_
        have h12 := hs.1; have hs := hs.2
        refine g_iald 228 dF_Md_world h12 dX13_namedIn_94 ?_
        refine g_ishl dX13_namedIn_95 ?_
        refine g_ior dX13_namedIn_96 ?_
        refine g_topI (fun v13 hv13 => ?_)
        have hQ := bndQ hQ v13 hv13; have hs := bndS hs v13 hv13
        refine g_istore_n _ dX13_namedIn_97 (by decide) rfl ?_
        refine g_iinc 4 (v := x3 + 1) _ dX13_namedIn_98 rfl rfl (by decide) rfl ?_
        refine g_goto 28 dX13_namedIn_101 (by decide) ?_
        refine g_sub [3, 4, 1, 0] _ rfl ?_
        exact ih v13 (x3 + 1) hs hQ
      · have hs := ifSt hs c11; have hQ := ifQt hQ c11
        refine g_iconst (v := 0) dX13_namedIn_81 (by decide) ?_
        refine g_goto 96 dX13_namedIn_82 (by decide) ?_
        refine g_ior dX13_namedIn_96 ?_
        refine g_istore_n _ dX13_namedIn_97 (by decide) rfl ?_
        refine g_iinc 4 (v := x3 + 1) _ dX13_namedIn_98 rfl rfl (by decide) rfl ?_
        refine g_goto 28 dX13_namedIn_101 (by decide) ?_
        refine g_sub [3, 4, 1, 0] _ rfl ?_
        exact ih (v9 ||| 0) (x3 + 1) hs hQ
def f_X13_namedIn (M : gM) (x1 : Int32) : Int32 :=
  if (f_X13_of M x1 6) = (-2) then
    (f_X13_namedIn_28 M x1 FU 0 0)
  else
    (bnd (1 <<< ((f_X13_of M x1 6) &&& 31)) fun v4 =>
    (f_X13_namedIn_28 M x1 FU v4 0))
def s_X13_namedIn (M : gM) (x1 : Int32) : Prop :=
  (s_X13_of M x1 6) ∧
  (if (f_X13_of M x1 6) = (-2) then
    (s_X13_namedIn_28 M x1 FU 0 0)
  else
    ((s_X13_of M x1 6) ∧
    (bndP (1 <<< ((f_X13_of M x1 6) &&& 31)) fun v4 =>
    (s_X13_namedIn_28 M x1 FU v4 0))))
set_option maxRecDepth 100000 in
set_option maxHeartbeats 4000000 in
theorem t_X13_namedIn {E : gE} {K : Int32 → Prop} {Q : Option Value → gM → Prop} {M : gM} (hK : ∀ z : Int32, K z → Q (some (.int z)) M)  (x1 : Int32)  (hs : s_X13_namedIn M x1) (hQ : K (f_X13_namedIn M x1)) : gG E RX13 cX13_namedIn 5 (some .int) (rm 1) 0 [(0, .ref (gla E 226)), (1, .int x1)] [] M Q := by
  rw [s_X13_namedIn] at hs
  rw [f_X13_namedIn] at hQ
  refine g_aload_n 0 dX13_namedIn_0 rfl ?_
  refine g_iload_n 1 dX13_namedIn_1 rfl ?_
  refine g_bipush (v := 6) dX13_namedIn_2 (by decide) ?_
  have h1 := hs.1; have hs := hs.2
  refine g_callV (As := [.int x1, .int 6]) (st := []) 226 (c_X13_of E M x1 6 h1) mt_X13_of ml_X13_218 dF_Md rfl rfl sg_X13_of rfl (by decide) (Nat.le_of_ble_eq_true rfl) dX13_namedIn_4 ?_
  rintro _ _ ⟨q1, q2⟩; rw [q1, q2]; clear q1 q2
  refine g_bipush (v := (-2)) dX13_namedIn_7 (by decide) ?_
  refine g_icmp_ne 16 dX13_namedIn_9 (by decide) (fun c2 => ?_) (fun c2 => ?_)
  · have hs := ifSf hs c2; have hQ := ifQf hQ c2
    refine g_iconst (v := 1) dX13_namedIn_16 (by decide) ?_
    refine g_aload_n 0 dX13_namedIn_17 rfl ?_
    refine g_iload_n 1 dX13_namedIn_18 rfl ?_
    refine g_bipush (v := 6) dX13_namedIn_19 (by decide) ?_
    have h3 := hs.1; have hs := hs.2
    refine g_callV (As := [.int x1, .int 6]) (st := [.int 1]) 226 (c_X13_of E M x1 6 h3) mt_X13_of ml_X13_218 dF_Md rfl rfl sg_X13_of rfl (by decide) (Nat.le_of_ble_eq_true rfl) dX13_namedIn_21 ?_
    rintro _ _ ⟨q1, q2⟩; rw [q1, q2]; clear q1 q2
    refine g_ishl dX13_namedIn_24 ?_
    refine g_topI (fun v4 hv4 => ?_)
    have hQ := bndQ hQ v4 hv4; have hs := bndS hs v4 hv4
    refine g_istore_n _ dX13_namedIn_25 (by decide) rfl ?_
    refine g_iconst (v := 0) dX13_namedIn_26 (by decide) ?_
    refine g_istore_n _ dX13_namedIn_27 (by decide) rfl ?_
    refine g_sub [2, 3, 1, 0] _ rfl ?_
    exact t_X13_namedIn_28 hK x1 FU v4 0 hs hQ
  · have hs := ifSt hs c2; have hQ := ifQt hQ c2
    refine g_iconst (v := 0) dX13_namedIn_12 (by decide) ?_
    refine g_goto 25 dX13_namedIn_13 (by decide) ?_
    refine g_istore_n _ dX13_namedIn_25 (by decide) rfl ?_
    refine g_iconst (v := 0) dX13_namedIn_26 (by decide) ?_
    refine g_istore_n _ dX13_namedIn_27 (by decide) rfl ?_
    refine g_sub [2, 3, 1, 0] _ rfl ?_
    exact t_X13_namedIn_28 hK x1 FU 0 0 hs hQ
theorem c_X13_namedIn (E : gE) (M : gM) (x1 : Int32) (hs : s_X13_namedIn M x1) : gC E yX13_namedIn cX13_namedIn 5 (some .int) (rm 1) [.ref (gla E 226), .int x1] M (fun o N => o = some (.int (f_X13_namedIn M x1)) ∧ N = M) :=
  gC.of (by decide +kernel) (Nat.le_of_ble_eq_true rfl) rfl (t_X13_namedIn (K := fun z => z = f_X13_namedIn M x1) (fun z hz => by rw [hz]; exact ⟨rfl, rfl⟩) x1 hs rfl)
def f_X13_manyDie_4 (M : gM)  : Nat → Int32 → Int32 → Int32
  | 0, _, _ => 0
  | n + 1, x1, x2 =>
    if (rdI M 88 0 0 (nn 0)) ≤ x2 then
      (x1)
    else
      (if (f_X13_diesOn M x2) = (-2) then
        (f_X13_manyDie_4 M n (x1 + 0) (x2 + 1))
      else
        (f_X13_manyDie_4 M n (x1 + 1) (x2 + 1)))
def s_X13_manyDie_4 (M : gM)  : Nat → Int32 → Int32 → Prop
  | 0, _, _ => False
  | n + 1, x1, x2 =>
    (vp_in 0 502) ∧
    (if (rdI M 88 0 0 (nn 0)) ≤ x2 then
      (True)
    else
      ((s_X13_diesOn M x2) ∧
      (if (f_X13_diesOn M x2) = (-2) then
        (s_X13_manyDie_4 M n (x1 + 0) (x2 + 1))
      else
        (s_X13_manyDie_4 M n (x1 + 1) (x2 + 1)))))
set_option maxRecDepth 100000 in
set_option maxHeartbeats 4000000 in
theorem t_X13_manyDie_4 {E : gE} {K : Int32 → Prop} {Q : Option Value → gM → Prop} {M : gM} (hK : ∀ z : Int32, K z → Q (some (.int z)) M)    : ∀ (n : Nat) (x1 : Int32) (x2 : Int32) , s_X13_manyDie_4 M  n x1 x2 → K (f_X13_manyDie_4 M  n x1 x2) → gG E RX13 cX13_manyDie 3 (some .int) (rm 1) 4 [(0, .ref (gla E 226)), (1, .int x1), (2, .int x2)] [] M Q := by
  intro n
  induction n with
  | zero => intro x1 x2 hs hQ; exact (hs : False).elim
  | succ n ih =>
    intro x1 x2 hs hQ
    rw [s_X13_manyDie_4] at hs
    rw [f_X13_manyDie_4] at hQ
    refine g_iload_n 2 dX13_manyDie_4 rfl ?_
    refine g_aload_n 0 dX13_manyDie_5 rfl ?_
    refine g_getR 226 228 fd_X13_13 dF_Md rfl rfl dX13_manyDie_6 ?_
    refine g_iconst (v := 0) dX13_manyDie_9 (by decide) ?_
    have h1 := hs.1; have hs := hs.2
    refine g_iald 228 dF_Md_world h1 dX13_manyDie_10 ?_
    refine g_icmp_ge 38 dX13_manyDie_11 (by decide) (fun c2 => ?_) (fun c2 => ?_)
    · have hs := ifSt hs c2; have hQ := ifQt hQ c2
      refine g_iload_n 1 dX13_manyDie_38 rfl ?_
      exact g_iret rfl dX13_manyDie_39 (hK _ hQ)
    · have hs := ifSf hs c2; have hQ := ifQf hQ c2
      refine g_iload_n 1 dX13_manyDie_14 rfl ?_
      refine g_aload_n 0 dX13_manyDie_15 rfl ?_
      refine g_iload_n 2 dX13_manyDie_16 rfl ?_
      have h3 := hs.1; have hs := hs.2
      refine g_callV (As := [.int x2]) (st := [.int x1]) 226 (c_X13_diesOn E M x2 h3) mt_X13_diesOn ml_X13_203 dF_Md rfl rfl sg_X13_diesOn rfl (by decide) (Nat.le_of_ble_eq_true rfl) dX13_manyDie_17 ?_
      rintro _ _ ⟨q1, q2⟩; rw [q1, q2]; clear q1 q2
      refine g_bipush (v := (-2)) dX13_manyDie_20 (by decide) ?_
      refine g_icmp_ne 29 dX13_manyDie_22 (by decide) (fun c4 => ?_) (fun c4 => ?_)
      · have hs := ifSf hs c4; have hQ := ifQf hQ c4
        refine g_iconst (v := 1) dX13_manyDie_29 (by decide) ?_
        refine g_iadd dX13_manyDie_30 ?_
        refine g_istore_n _ dX13_manyDie_31 (by decide) rfl ?_
        refine g_iinc 2 (v := x2 + 1) _ dX13_manyDie_32 rfl rfl (by decide) rfl ?_
        refine g_goto 4 dX13_manyDie_35 (by decide) ?_
        refine g_sub [2, 1, 0] _ rfl ?_
        exact ih (x1 + 1) (x2 + 1) hs hQ
      · have hs := ifSt hs c4; have hQ := ifQt hQ c4
        refine g_iconst (v := 0) dX13_manyDie_25 (by decide) ?_
        refine g_goto 30 dX13_manyDie_26 (by decide) ?_
        refine g_iadd dX13_manyDie_30 ?_
        refine g_istore_n _ dX13_manyDie_31 (by decide) rfl ?_
        refine g_iinc 2 (v := x2 + 1) _ dX13_manyDie_32 rfl rfl (by decide) rfl ?_
        refine g_goto 4 dX13_manyDie_35 (by decide) ?_
        refine g_sub [2, 1, 0] _ rfl ?_
        exact ih (x1 + 0) (x2 + 1) hs hQ
def f_X13_manyDie (M : gM) : Int32 :=
  f_X13_manyDie_4 M FU 0 0
def s_X13_manyDie (M : gM) : Prop :=
  s_X13_manyDie_4 M FU 0 0
set_option maxRecDepth 100000 in
set_option maxHeartbeats 4000000 in
theorem t_X13_manyDie {E : gE} {K : Int32 → Prop} {Q : Option Value → gM → Prop} {M : gM} (hK : ∀ z : Int32, K z → Q (some (.int z)) M)   (hs : s_X13_manyDie M) (hQ : K (f_X13_manyDie M)) : gG E RX13 cX13_manyDie 3 (some .int) (rm 1) 0 [(0, .ref (gla E 226))] [] M Q := by
  rw [s_X13_manyDie] at hs
  rw [f_X13_manyDie] at hQ
  refine g_iconst (v := 0) dX13_manyDie_0 (by decide) ?_
  refine g_istore_n _ dX13_manyDie_1 (by decide) rfl ?_
  refine g_iconst (v := 0) dX13_manyDie_2 (by decide) ?_
  refine g_istore_n _ dX13_manyDie_3 (by decide) rfl ?_
  refine g_sub [2, 1, 0] _ rfl ?_
  exact t_X13_manyDie_4 hK FU 0 0 hs hQ
theorem c_X13_manyDie (E : gE) (M : gM)  (hs : s_X13_manyDie M) : gC E yX13_manyDie cX13_manyDie 3 (some .int) (rm 1) [.ref (gla E 226)] M (fun o N => o = some (.int (f_X13_manyDie M)) ∧ N = M) :=
  gC.of (by decide +kernel) (Nat.le_of_ble_eq_true rfl) rfl (t_X13_manyDie (K := fun z => z = f_X13_manyDie M) (fun z hz => by rw [hz]; exact ⟨rfl, rfl⟩)  hs rfl)
def f_X13_lose_38 (M : gM)  : Int32 × gM :=
  (0, M)
def s_X13_lose_38 (M : gM)  : Prop :=
  True
theorem o_X13_lose_38 (M : gM)  : offW [67, 69, 92, 94] M (f_X13_lose_38 M ).2 := by
  rw [f_X13_lose_38]
  exact offR
set_option maxRecDepth 100000 in
set_option maxHeartbeats 4000000 in
theorem t_X13_lose_38 {E : gE} {K : Int32 × gM → Prop} {Q : Option Value → gM → Prop} (hK : ∀ z : Int32 × gM, K z → Q (some (.int z.1)) z.2) (M : gM)   (hs : s_X13_lose_38 M ) (hQ : K (f_X13_lose_38 M )) : gG E RX13 cX13_lose 3 (some .boolean) (rm 2) 38 [] [] M Q := by
  rw [s_X13_lose_38] at hs
  rw [f_X13_lose_38] at hQ
  refine g_iconst (v := 0) dX13_lose_38 (by decide) ?_
  exact g_zret rfl (Or.inl rfl) dX13_lose_39 (hK _ hQ)
def f_X13_lose (M : gM) (x1 : Int32) (x2 : Int32) : Int32 × gM :=
  bnd (wrI M 67 0 0 0 0) fun M1 =>
  (if (f_X13_isPaper M1 x1) = 0 then
    (f_X13_lose_38 M1)
  else
    (if x2 < 0 then
      (f_X13_lose_38 M1)
    else
      (if 3 < x2 then
        (f_X13_lose_38 M1)
      else
        (bnd (f_X13_puts M1 (10 + x1) x2) fun z7 =>
        (if z7.1 = 0 then
          (f_X13_lose_38 z7.2)
        else
          ((1, z7.2)))))))
def s_X13_lose (M : gM) (x1 : Int32) (x2 : Int32) : Prop :=
  bndP (wrI M 67 0 0 0 0) fun M1 =>
  ((s_X13_isPaper M1 x1) ∧
  (if (f_X13_isPaper M1 x1) = 0 then
    (s_X13_lose_38 M1)
  else
    (if x2 < 0 then
      (s_X13_lose_38 M1)
    else
      (if 3 < x2 then
        (s_X13_lose_38 M1)
      else
        ((s_X13_puts M1 (10 + x1) x2) ∧
        (bndP (f_X13_puts M1 (10 + x1) x2) fun z7 =>
        (if z7.1 = 0 then
          (s_X13_lose_38 z7.2)
        else
          (True))))))))
theorem o_X13_lose (M : gM) (x1 : Int32) (x2 : Int32) : offW [67, 69, 92, 94] M (f_X13_lose M x1 x2).2 := by
  rw [f_X13_lose]
  refine offB2 (offR.wI (by decide)) (fun M1 oM1 => ?_)
  refine offI2 ?_ ?_
  · exact oM1.tr (o_X13_lose_38 M1)
  · refine offI2 ?_ ?_
    · exact oM1.tr (o_X13_lose_38 M1)
    · refine offI2 ?_ ?_
      · exact oM1.tr (o_X13_lose_38 M1)
      · refine offZ2 (oM1.tr ((o_X13_puts M1 (10 + x1) x2).mono (by decide))) (fun z7 oz7 => ?_)
        refine offI2 ?_ ?_
        · exact oz7.tr (o_X13_lose_38 z7.2)
        · exact oz7
set_option maxRecDepth 100000 in
set_option maxHeartbeats 4000000 in
theorem t_X13_lose {E : gE} {K : Int32 × gM → Prop} {Q : Option Value → gM → Prop} (hK : ∀ z : Int32 × gM, K z → Q (some (.int z.1)) z.2) (M : gM) (x1 : Int32) (x2 : Int32)  (hs : s_X13_lose M x1 x2) (hQ : K (f_X13_lose M x1 x2)) : gG E RX13 cX13_lose 3 (some .boolean) (rm 2) 0 [(0, .ref (gla E 226)), (1, .int x1), (2, .int x2)] [] M Q := by
  rw [s_X13_lose] at hs
  rw [f_X13_lose] at hQ
  refine g_aload_n 0 dX13_lose_0 rfl ?_
  refine g_iconst (v := 0) dX13_lose_1 (by decide) ?_
  refine g_putI 226 fd_X13_61 dF_Md rfl dX13_lose_2 (fun M1 hM1 => ?_)
  have hQ := bndQ hQ M1 hM1; have hs := bndS hs M1 hM1
  refine g_aload_n 0 dX13_lose_5 rfl ?_
  refine g_iload_n 1 dX13_lose_6 rfl ?_
  have h2 := hs.1; have hs := hs.2
  refine g_callV (As := [.int x1]) (st := []) 226 (c_X13_isPaper E M1 x1 h2) mt_X13_isPaper ml_X13_215 dF_Md rfl rfl sg_X13_isPaper rfl (by decide) (Nat.le_of_ble_eq_true rfl) dX13_lose_7 ?_
  rintro _ _ ⟨q1, q2⟩; rw [q1, q2]; clear q1 q2
  refine g_if_eq 38 dX13_lose_10 (by decide) (fun c3 => ?_) (fun c3 => ?_)
  · have hs := ifSt hs c3; have hQ := ifQt hQ c3
    refine g_sub [] _ rfl ?_
    exact t_X13_lose_38 hK M1 hs hQ
  · have hs := ifSf hs c3; have hQ := ifQf hQ c3
    refine g_iload_n 2 dX13_lose_13 rfl ?_
    refine g_if_lt 38 dX13_lose_14 (by decide) (fun c4 => ?_) (fun c4 => ?_)
    · have hs := ifSt hs c4; have hQ := ifQt hQ c4
      refine g_sub [] _ rfl ?_
      exact t_X13_lose_38 hK M1 hs hQ
    · have hs := ifSf hs c4; have hQ := ifQf hQ c4
      refine g_iload_n 2 dX13_lose_17 rfl ?_
      refine g_iconst (v := 3) dX13_lose_18 (by decide) ?_
      refine g_icmp_gt 38 dX13_lose_19 (by decide) (fun c5 => ?_) (fun c5 => ?_)
      · have hs := ifSt hs c5; have hQ := ifQt hQ c5
        refine g_sub [] _ rfl ?_
        exact t_X13_lose_38 hK M1 hs hQ
      · have hs := ifSf hs c5; have hQ := ifQf hQ c5
        refine g_aload_n 0 dX13_lose_22 rfl ?_
        refine g_bipush (v := 10) dX13_lose_23 (by decide) ?_
        refine g_iload_n 1 dX13_lose_25 rfl ?_
        refine g_iadd dX13_lose_26 ?_
        refine g_iload_n 2 dX13_lose_27 rfl ?_
        have h6 := hs.1; have hs := hs.2
        refine g_callV (As := [.int (10 + x1), .int x2]) (st := []) 226 (c_X13_puts E M1 (10 + x1) x2 h6) mt_X13_puts ml_X13_227 dF_Md rfl rfl sg_X13_puts rfl (by decide) (Nat.le_of_ble_eq_true rfl) dX13_lose_28 ?_
        rintro _ _ ⟨rfl, rfl⟩
        obtain ⟨z7, hz7⟩ : ∃ z, z = f_X13_puts M1 (10 + x1) x2 := ⟨_, rfl⟩
        rw [← hz7]
        have hQ := bndQ hQ z7 hz7; have hs := bndS hs z7 hz7
        refine g_if_eq 38 dX13_lose_31 (by decide) (fun c8 => ?_) (fun c8 => ?_)
        · have hs := ifSt hs c8; have hQ := ifQt hQ c8
          refine g_sub [] _ rfl ?_
          exact t_X13_lose_38 hK z7.2 hs hQ
        · have hs := ifSf hs c8; have hQ := ifQf hQ c8
          refine g_iconst (v := 1) dX13_lose_34 (by decide) ?_
          refine g_goto 39 dX13_lose_35 (by decide) ?_
          exact g_zret rfl (Or.inr rfl) dX13_lose_39 (hK _ hQ)
theorem c_X13_lose (E : gE) (M : gM) (x1 : Int32) (x2 : Int32) (hs : s_X13_lose M x1 x2) : gC E yX13_lose cX13_lose 3 (some .boolean) (rm 2) [.ref (gla E 226), .int x1, .int x2] M (fun o N => o = some (.int (f_X13_lose M x1 x2).1) ∧ N = (f_X13_lose M x1 x2).2) :=
  gC.of (by decide +kernel) (Nat.le_of_ble_eq_true rfl) rfl (t_X13_lose (K := fun z => z = f_X13_lose M x1 x2) (fun z hz => by rw [hz]; exact ⟨rfl, rfl⟩) M x1 x2 hs rfl)
def f_X13_find_30 (M : gM)  : Int32 × gM :=
  (0, M)
def s_X13_find_30 (M : gM)  : Prop :=
  True
theorem o_X13_find_30 (M : gM)  : offW [67, 69, 92, 94] M (f_X13_find_30 M ).2 := by
  rw [f_X13_find_30]
  exact offR
set_option maxRecDepth 100000 in
set_option maxHeartbeats 4000000 in
theorem t_X13_find_30 {E : gE} {K : Int32 × gM → Prop} {Q : Option Value → gM → Prop} (hK : ∀ z : Int32 × gM, K z → Q (some (.int z.1)) z.2) (M : gM)   (hs : s_X13_find_30 M ) (hQ : K (f_X13_find_30 M )) : gG E RX13 cX13_find 2 (some .boolean) (rm 2) 30 [] [] M Q := by
  rw [s_X13_find_30] at hs
  rw [f_X13_find_30] at hQ
  refine g_iconst (v := 0) dX13_find_30 (by decide) ?_
  exact g_zret rfl (Or.inl rfl) dX13_find_31 (hK _ hQ)
def f_X13_find (M : gM) (x1 : Int32) : Int32 × gM :=
  bnd (wrI M 67 0 0 0 0) fun M1 =>
  (if (f_X13_isPaper M1 x1) = 0 then
    (f_X13_find_30 M1)
  else
    (bnd (f_X13_puts M1 (10 + x1) (-2)) fun z5 =>
    (if z5.1 = 0 then
      (f_X13_find_30 z5.2)
    else
      ((1, z5.2)))))
def s_X13_find (M : gM) (x1 : Int32) : Prop :=
  bndP (wrI M 67 0 0 0 0) fun M1 =>
  ((s_X13_isPaper M1 x1) ∧
  (if (f_X13_isPaper M1 x1) = 0 then
    (s_X13_find_30 M1)
  else
    ((s_X13_puts M1 (10 + x1) (-2)) ∧
    (bndP (f_X13_puts M1 (10 + x1) (-2)) fun z5 =>
    (if z5.1 = 0 then
      (s_X13_find_30 z5.2)
    else
      (True))))))
theorem o_X13_find (M : gM) (x1 : Int32) : offW [67, 69, 92, 94] M (f_X13_find M x1).2 := by
  rw [f_X13_find]
  refine offB2 (offR.wI (by decide)) (fun M1 oM1 => ?_)
  refine offI2 ?_ ?_
  · exact oM1.tr (o_X13_find_30 M1)
  · refine offZ2 (oM1.tr ((o_X13_puts M1 (10 + x1) (-2)).mono (by decide))) (fun z5 oz5 => ?_)
    refine offI2 ?_ ?_
    · exact oz5.tr (o_X13_find_30 z5.2)
    · exact oz5
set_option maxRecDepth 100000 in
set_option maxHeartbeats 4000000 in
theorem t_X13_find {E : gE} {K : Int32 × gM → Prop} {Q : Option Value → gM → Prop} (hK : ∀ z : Int32 × gM, K z → Q (some (.int z.1)) z.2) (M : gM) (x1 : Int32)  (hs : s_X13_find M x1) (hQ : K (f_X13_find M x1)) : gG E RX13 cX13_find 2 (some .boolean) (rm 2) 0 [(0, .ref (gla E 226)), (1, .int x1)] [] M Q := by
  rw [s_X13_find] at hs
  rw [f_X13_find] at hQ
  refine g_aload_n 0 dX13_find_0 rfl ?_
  refine g_iconst (v := 0) dX13_find_1 (by decide) ?_
  refine g_putI 226 fd_X13_61 dF_Md rfl dX13_find_2 (fun M1 hM1 => ?_)
  have hQ := bndQ hQ M1 hM1; have hs := bndS hs M1 hM1
  refine g_aload_n 0 dX13_find_5 rfl ?_
  refine g_iload_n 1 dX13_find_6 rfl ?_
  have h2 := hs.1; have hs := hs.2
  refine g_callV (As := [.int x1]) (st := []) 226 (c_X13_isPaper E M1 x1 h2) mt_X13_isPaper ml_X13_215 dF_Md rfl rfl sg_X13_isPaper rfl (by decide) (Nat.le_of_ble_eq_true rfl) dX13_find_7 ?_
  rintro _ _ ⟨q1, q2⟩; rw [q1, q2]; clear q1 q2
  refine g_if_eq 30 dX13_find_10 (by decide) (fun c3 => ?_) (fun c3 => ?_)
  · have hs := ifSt hs c3; have hQ := ifQt hQ c3
    refine g_sub [] _ rfl ?_
    exact t_X13_find_30 hK M1 hs hQ
  · have hs := ifSf hs c3; have hQ := ifQf hQ c3
    refine g_aload_n 0 dX13_find_13 rfl ?_
    refine g_bipush (v := 10) dX13_find_14 (by decide) ?_
    refine g_iload_n 1 dX13_find_16 rfl ?_
    refine g_iadd dX13_find_17 ?_
    refine g_bipush (v := (-2)) dX13_find_18 (by decide) ?_
    have h4 := hs.1; have hs := hs.2
    refine g_callV (As := [.int (10 + x1), .int (-2)]) (st := []) 226 (c_X13_puts E M1 (10 + x1) (-2) h4) mt_X13_puts ml_X13_227 dF_Md rfl rfl sg_X13_puts rfl (by decide) (Nat.le_of_ble_eq_true rfl) dX13_find_20 ?_
    rintro _ _ ⟨rfl, rfl⟩
    obtain ⟨z5, hz5⟩ : ∃ z, z = f_X13_puts M1 (10 + x1) (-2) := ⟨_, rfl⟩
    rw [← hz5]
    have hQ := bndQ hQ z5 hz5; have hs := bndS hs z5 hz5
    refine g_if_eq 30 dX13_find_23 (by decide) (fun c6 => ?_) (fun c6 => ?_)
    · have hs := ifSt hs c6; have hQ := ifQt hQ c6
      refine g_sub [] _ rfl ?_
      exact t_X13_find_30 hK z5.2 hs hQ
    · have hs := ifSf hs c6; have hQ := ifQf hQ c6
      refine g_iconst (v := 1) dX13_find_26 (by decide) ?_
      refine g_goto 31 dX13_find_27 (by decide) ?_
      exact g_zret rfl (Or.inr rfl) dX13_find_31 (hK _ hQ)
theorem c_X13_find (E : gE) (M : gM) (x1 : Int32) (hs : s_X13_find M x1) : gC E yX13_find cX13_find 2 (some .boolean) (rm 2) [.ref (gla E 226), .int x1] M (fun o N => o = some (.int (f_X13_find M x1).1) ∧ N = (f_X13_find M x1).2) :=
  gC.of (by decide +kernel) (Nat.le_of_ble_eq_true rfl) rfl (t_X13_find (K := fun z => z = f_X13_find M x1) (fun z hz => by rw [hz]; exact ⟨rfl, rfl⟩) M x1 hs rfl)
def f_X13_copy (M : gM) (x1 : Int32) : Int32 × gM :=
  bnd (wrI M 67 0 0 0 0) fun M1 =>
  (if (f_X13_isPaper M1 x1) = 0 then
    (((-1), M1))
  else
    (if (rdI M1 92 0 0 (nn (10 + x1))) = (-2) then
      (((-2), M1))
    else
      (if (rdI M1 92 0 0 (nn (10 + x1))) = 3 then
        (((-2), M1))
      else
        (bnd (f_X13_puts M1 (10 + x1) ((rdI M1 92 0 0 (nn (10 + x1))) + 1)) fun z10 =>
        ((rdI z10.2 92 0 0 (nn (10 + x1)), z10.2))))))
def s_X13_copy (M : gM) (x1 : Int32) : Prop :=
  bndP (wrI M 67 0 0 0 0) fun M1 =>
  ((s_X13_isPaper M1 x1) ∧
  (if (f_X13_isPaper M1 x1) = 0 then
    (True)
  else
    ((vp_in (10 + x1) 65) ∧
    (if (rdI M1 92 0 0 (nn (10 + x1))) = (-2) then
      (True)
    else
      ((vp_in (10 + x1) 65) ∧
      (if (rdI M1 92 0 0 (nn (10 + x1))) = 3 then
        (True)
      else
        ((vp_in (10 + x1) 65) ∧
        ((s_X13_puts M1 (10 + x1) ((rdI M1 92 0 0 (nn (10 + x1))) + 1)) ∧
        (bndP (f_X13_puts M1 (10 + x1) ((rdI M1 92 0 0 (nn (10 + x1))) + 1)) fun z10 =>
        ((vp_in (10 + x1) 65) ∧
        (True)))))))))))
theorem o_X13_copy (M : gM) (x1 : Int32) : offW [67, 69, 92, 94] M (f_X13_copy M x1).2 := by
  rw [f_X13_copy]
  refine offB2 (offR.wI (by decide)) (fun M1 oM1 => ?_)
  refine offI2 ?_ ?_
  · exact oM1
  · refine offI2 ?_ ?_
    · exact oM1
    · refine offI2 ?_ ?_
      · exact oM1
      · refine offZ2 (oM1.tr ((o_X13_puts M1 (10 + x1) ((rdI M1 92 0 0 (nn (10 + x1))) + 1)).mono (by decide))) (fun z10 oz10 => ?_)
        exact oz10
set_option maxRecDepth 100000 in
set_option maxHeartbeats 4000000 in
theorem t_X13_copy {E : gE} {K : Int32 × gM → Prop} {Q : Option Value → gM → Prop} (hK : ∀ z : Int32 × gM, K z → Q (some (.int z.1)) z.2) (M : gM) (x1 : Int32)  (hs : s_X13_copy M x1) (hQ : K (f_X13_copy M x1)) : gG E RX13 cX13_copy 2 (some .int) (rm 2) 0 [(0, .ref (gla E 226)), (1, .int x1)] [] M Q := by
  rw [s_X13_copy] at hs
  rw [f_X13_copy] at hQ
  refine g_aload_n 0 dX13_copy_0 rfl ?_
  refine g_iconst (v := 0) dX13_copy_1 (by decide) ?_
  refine g_putI 226 fd_X13_61 dF_Md rfl dX13_copy_2 (fun M1 hM1 => ?_)
  have hQ := bndQ hQ M1 hM1; have hs := bndS hs M1 hM1
  refine g_aload_n 0 dX13_copy_5 rfl ?_
  refine g_iload_n 1 dX13_copy_6 rfl ?_
  have h2 := hs.1; have hs := hs.2
  refine g_callV (As := [.int x1]) (st := []) 226 (c_X13_isPaper E M1 x1 h2) mt_X13_isPaper ml_X13_215 dF_Md rfl rfl sg_X13_isPaper rfl (by decide) (Nat.le_of_ble_eq_true rfl) dX13_copy_7 ?_
  rintro _ _ ⟨q1, q2⟩; rw [q1, q2]; clear q1 q2
  refine g_if_ne 15 dX13_copy_10 (by decide) (fun c3 => ?_) (fun c3 => ?_)
  · have hs := ifSf hs c3; have hQ := ifQf hQ c3
    refine g_aload_n 0 dX13_copy_15 rfl ?_
    refine g_getR 226 232 fd_X13_25 dF_Md rfl rfl dX13_copy_16 ?_
    refine g_bipush (v := 10) dX13_copy_19 (by decide) ?_
    refine g_iload_n 1 dX13_copy_21 rfl ?_
    refine g_iadd dX13_copy_22 ?_
    have h4 := hs.1; have hs := hs.2
    refine g_iald 232 dF_Md_now h4 dX13_copy_23 ?_
    refine g_bipush (v := (-2)) dX13_copy_24 (by decide) ?_
    refine g_icmp_eq 42 dX13_copy_26 (by decide) (fun c5 => ?_) (fun c5 => ?_)
    · have hs := ifSt hs c5; have hQ := ifQt hQ c5
      refine g_bipush (v := (-2)) dX13_copy_42 (by decide) ?_
      exact g_iret rfl dX13_copy_44 (hK _ hQ)
    · have hs := ifSf hs c5; have hQ := ifQf hQ c5
      refine g_aload_n 0 dX13_copy_29 rfl ?_
      refine g_getR 226 232 fd_X13_25 dF_Md rfl rfl dX13_copy_30 ?_
      refine g_bipush (v := 10) dX13_copy_33 (by decide) ?_
      refine g_iload_n 1 dX13_copy_35 rfl ?_
      refine g_iadd dX13_copy_36 ?_
      have h6 := hs.1; have hs := hs.2
      refine g_iald 232 dF_Md_now h6 dX13_copy_37 ?_
      refine g_iconst (v := 3) dX13_copy_38 (by decide) ?_
      refine g_icmp_ne 45 dX13_copy_39 (by decide) (fun c7 => ?_) (fun c7 => ?_)
      · have hs := ifSf hs c7; have hQ := ifQf hQ c7
        refine g_aload_n 0 dX13_copy_45 rfl ?_
        refine g_bipush (v := 10) dX13_copy_46 (by decide) ?_
        refine g_iload_n 1 dX13_copy_48 rfl ?_
        refine g_iadd dX13_copy_49 ?_
        refine g_aload_n 0 dX13_copy_50 rfl ?_
        refine g_getR 226 232 fd_X13_25 dF_Md rfl rfl dX13_copy_51 ?_
        refine g_bipush (v := 10) dX13_copy_54 (by decide) ?_
        refine g_iload_n 1 dX13_copy_56 rfl ?_
        refine g_iadd dX13_copy_57 ?_
        have h8 := hs.1; have hs := hs.2
        refine g_iald 232 dF_Md_now h8 dX13_copy_58 ?_
        refine g_iconst (v := 1) dX13_copy_59 (by decide) ?_
        refine g_iadd dX13_copy_60 ?_
        have h9 := hs.1; have hs := hs.2
        refine g_callV (As := [.int (10 + x1), .int ((rdI M1 92 0 0 (nn (10 + x1))) + 1)]) (st := []) 226 (c_X13_puts E M1 (10 + x1) ((rdI M1 92 0 0 (nn (10 + x1))) + 1) h9) mt_X13_puts ml_X13_227 dF_Md rfl rfl sg_X13_puts rfl (by decide) (Nat.le_of_ble_eq_true rfl) dX13_copy_61 ?_
        rintro _ _ ⟨rfl, rfl⟩
        obtain ⟨z10, hz10⟩ : ∃ z, z = f_X13_puts M1 (10 + x1) ((rdI M1 92 0 0 (nn (10 + x1))) + 1) := ⟨_, rfl⟩
        rw [← hz10]
        have hQ := bndQ hQ z10 hz10; have hs := bndS hs z10 hz10
        refine g_pop dX13_copy_64 rfl ?_
        refine g_aload_n 0 dX13_copy_65 rfl ?_
        refine g_getR 226 232 fd_X13_25 dF_Md rfl rfl dX13_copy_66 ?_
        refine g_bipush (v := 10) dX13_copy_69 (by decide) ?_
        refine g_iload_n 1 dX13_copy_71 rfl ?_
        refine g_iadd dX13_copy_72 ?_
        have h11 := hs.1; have hs := hs.2
        refine g_iald 232 dF_Md_now h11 dX13_copy_73 ?_
        exact g_iret rfl dX13_copy_74 (hK _ hQ)
      · have hs := ifSt hs c7; have hQ := ifQt hQ c7
        refine g_bipush (v := (-2)) dX13_copy_42 (by decide) ?_
        exact g_iret rfl dX13_copy_44 (hK _ hQ)
  · have hs := ifSt hs c3; have hQ := ifQt hQ c3
    refine g_iconst (v := (-1)) dX13_copy_13 (by decide) ?_
    exact g_iret rfl dX13_copy_14 (hK _ hQ)
theorem c_X13_copy (E : gE) (M : gM) (x1 : Int32) (hs : s_X13_copy M x1) : gC E yX13_copy cX13_copy 2 (some .int) (rm 2) [.ref (gla E 226), .int x1] M (fun o N => o = some (.int (f_X13_copy M x1).1) ∧ N = (f_X13_copy M x1).2) :=
  gC.of (by decide +kernel) (Nat.le_of_ble_eq_true rfl) rfl (t_X13_copy (K := fun z => z = f_X13_copy M x1) (fun z hz => by rw [hz]; exact ⟨rfl, rfl⟩) M x1 hs rfl)
def f_X13_witness (M : gM) (x1 : Int32) (x2 : Int32) : Int32 × gM :=
  bnd (wrI M 67 0 0 0 0) fun M1 =>
  (if (f_X13_isPaper M1 x1) = 0 then
    (((-1), M1))
  else
    (if (f_X13_isPerson M1 x2) = 0 then
      (((-1), M1))
    else
      (bnd (rdI M1 92 0 0 (nn (22 + x1))) fun v7 =>
      (if (f_J6_bitCount_0f7a4 M1 v7) = 4 then
        (((-2), M1))
      else
        (if ((v7 >>> (x2 &&& 31)) &&& 1) = 1 then
          (((-2), M1))
        else
          (if (f_X13_of M1 x1 0) = x2 then
            (((-2), M1))
          else
            (bnd (f_X13_puts M1 (22 + x1) (v7 ||| (1 <<< (x2 &&& 31)))) fun z14 =>
            ((f_J6_bitCount_0f7a4 z14.2 (rdI z14.2 92 0 0 (nn (22 + x1))), z14.2)))))))))
def s_X13_witness (M : gM) (x1 : Int32) (x2 : Int32) : Prop :=
  bndP (wrI M 67 0 0 0 0) fun M1 =>
  ((s_X13_isPaper M1 x1) ∧
  (if (f_X13_isPaper M1 x1) = 0 then
    (True)
  else
    ((s_X13_isPerson M1 x2) ∧
    (if (f_X13_isPerson M1 x2) = 0 then
      (True)
    else
      ((vp_in (22 + x1) 65) ∧
      (bndP (rdI M1 92 0 0 (nn (22 + x1))) fun v7 =>
      ((s_J6_bitCount_0f7a4 M1 v7) ∧
      (if (f_J6_bitCount_0f7a4 M1 v7) = 4 then
        (True)
      else
        (if ((v7 >>> (x2 &&& 31)) &&& 1) = 1 then
          (True)
        else
          ((s_X13_of M1 x1 0) ∧
          (if (f_X13_of M1 x1 0) = x2 then
            (True)
          else
            ((s_X13_puts M1 (22 + x1) (v7 ||| (1 <<< (x2 &&& 31)))) ∧
            (bndP (f_X13_puts M1 (22 + x1) (v7 ||| (1 <<< (x2 &&& 31)))) fun z14 =>
            ((vp_in (22 + x1) 65) ∧
            ((s_J6_bitCount_0f7a4 z14.2 (rdI z14.2 92 0 0 (nn (22 + x1)))) ∧
            (True))))))))))))))))
theorem o_X13_witness (M : gM) (x1 : Int32) (x2 : Int32) : offW [67, 69, 92, 94] M (f_X13_witness M x1 x2).2 := by
  rw [f_X13_witness]
  refine offB2 (offR.wI (by decide)) (fun M1 oM1 => ?_)
  refine offI2 ?_ ?_
  · exact oM1
  · refine offI2 ?_ ?_
    · exact oM1
    · refine offV2 (fun v7 => ?_)
      refine offI2 ?_ ?_
      · exact oM1
      · refine offI2 ?_ ?_
        · exact oM1
        · refine offI2 ?_ ?_
          · exact oM1
          · refine offZ2 (oM1.tr ((o_X13_puts M1 (22 + x1) (v7 ||| (1 <<< (x2 &&& 31)))).mono (by decide))) (fun z14 oz14 => ?_)
            exact oz14
set_option maxRecDepth 100000 in
set_option maxHeartbeats 4000000 in
theorem t_X13_witness {E : gE} {K : Int32 × gM → Prop} {Q : Option Value → gM → Prop} (hK : ∀ z : Int32 × gM, K z → Q (some (.int z.1)) z.2) (M : gM) (x1 : Int32) (x2 : Int32)  (hs : s_X13_witness M x1 x2) (hQ : K (f_X13_witness M x1 x2)) : gG E RX13 cX13_witness 4 (some .int) (rm 2) 0 [(0, .ref (gla E 226)), (1, .int x1), (2, .int x2)] [] M Q := by
  rw [s_X13_witness] at hs
  rw [f_X13_witness] at hQ
  refine g_aload_n 0 dX13_witness_0 rfl ?_
  refine g_iconst (v := 0) dX13_witness_1 (by decide) ?_
  refine g_putI 226 fd_X13_61 dF_Md rfl dX13_witness_2 (fun M1 hM1 => ?_)
  have hQ := bndQ hQ M1 hM1; have hs := bndS hs M1 hM1
  refine g_aload_n 0 dX13_witness_5 rfl ?_
  refine g_iload_n 1 dX13_witness_6 rfl ?_
  have h2 := hs.1; have hs := hs.2
  refine g_callV (As := [.int x1]) (st := []) 226 (c_X13_isPaper E M1 x1 h2) mt_X13_isPaper ml_X13_215 dF_Md rfl rfl sg_X13_isPaper rfl (by decide) (Nat.le_of_ble_eq_true rfl) dX13_witness_7 ?_
  rintro _ _ ⟨q1, q2⟩; rw [q1, q2]; clear q1 q2
  refine g_if_eq 21 dX13_witness_10 (by decide) (fun c3 => ?_) (fun c3 => ?_)
  · have hs := ifSt hs c3; have hQ := ifQt hQ c3
    refine g_iconst (v := (-1)) dX13_witness_21 (by decide) ?_
    exact g_iret rfl dX13_witness_22 (hK _ hQ)
  · have hs := ifSf hs c3; have hQ := ifQf hQ c3
    refine g_aload_n 0 dX13_witness_13 rfl ?_
    refine g_iload_n 2 dX13_witness_14 rfl ?_
    have h4 := hs.1; have hs := hs.2
    refine g_callV (As := [.int x2]) (st := []) 226 (c_X13_isPerson E M1 x2 h4) mt_X13_isPerson ml_X13_206 dF_Md rfl rfl sg_X13_isPerson rfl (by decide) (Nat.le_of_ble_eq_true rfl) dX13_witness_15 ?_
    rintro _ _ ⟨q1, q2⟩; rw [q1, q2]; clear q1 q2
    refine g_if_ne 23 dX13_witness_18 (by decide) (fun c5 => ?_) (fun c5 => ?_)
    · have hs := ifSf hs c5; have hQ := ifQf hQ c5
      refine g_aload_n 0 dX13_witness_23 rfl ?_
      refine g_getR 226 232 fd_X13_25 dF_Md rfl rfl dX13_witness_24 ?_
      refine g_bipush (v := 22) dX13_witness_27 (by decide) ?_
      refine g_iload_n 1 dX13_witness_29 rfl ?_
      refine g_iadd dX13_witness_30 ?_
      have h6 := hs.1; have hs := hs.2
      refine g_iald 232 dF_Md_now h6 dX13_witness_31 ?_
      refine g_topI (fun v7 hv7 => ?_)
      have hQ := bndQ hQ v7 hv7; have hs := bndS hs v7 hv7
      refine g_istore_n _ dX13_witness_32 (by decide) rfl ?_
      refine g_iload_n 0 dX13_witness_33 rfl ?_
      have h8 := hs.1; have hs := hs.2
      refine g_callS (As := [.int v7]) (st := []) (c_J6_bitCount_0f7a4 E M1 v7 h8) mt_J6_bitCount_0f7a4 ml_X13_154 sg_J6_bitCount_0f7a4 rfl (by decide) (Nat.le_of_ble_eq_true rfl) dX13_witness_34 ?_
      rintro _ _ ⟨q1, q2⟩; rw [q1, q2]; clear q1 q2
      refine g_iconst (v := 4) dX13_witness_37 (by decide) ?_
      refine g_icmp_eq 60 dX13_witness_38 (by decide) (fun c9 => ?_) (fun c9 => ?_)
      · have hs := ifSt hs c9; have hQ := ifQt hQ c9
        refine g_bipush (v := (-2)) dX13_witness_60 (by decide) ?_
        exact g_iret rfl dX13_witness_62 (hK _ hQ)
      · have hs := ifSf hs c9; have hQ := ifQf hQ c9
        refine g_iload_n 0 dX13_witness_41 rfl ?_
        refine g_iload_n 3 dX13_witness_42 rfl ?_
        refine g_ishr dX13_witness_43 ?_
        refine g_iconst (v := 1) dX13_witness_44 (by decide) ?_
        refine g_iand dX13_witness_45 ?_
        refine g_iconst (v := 1) dX13_witness_46 (by decide) ?_
        refine g_icmp_eq 60 dX13_witness_47 (by decide) (fun c10 => ?_) (fun c10 => ?_)
        · have hs := ifSt hs c10; have hQ := ifQt hQ c10
          refine g_bipush (v := (-2)) dX13_witness_60 (by decide) ?_
          exact g_iret rfl dX13_witness_62 (hK _ hQ)
        · have hs := ifSf hs c10; have hQ := ifQf hQ c10
          refine g_aload_n 1 dX13_witness_50 rfl ?_
          refine g_iload_n 2 dX13_witness_51 rfl ?_
          refine g_iconst (v := 0) dX13_witness_52 (by decide) ?_
          have h11 := hs.1; have hs := hs.2
          refine g_callV (As := [.int x1, .int 0]) (st := []) 226 (c_X13_of E M1 x1 0 h11) mt_X13_of ml_X13_218 dF_Md rfl rfl sg_X13_of rfl (by decide) (Nat.le_of_ble_eq_true rfl) dX13_witness_53 ?_
          rintro _ _ ⟨q1, q2⟩; rw [q1, q2]; clear q1 q2
          refine g_iload_n 3 dX13_witness_56 rfl ?_
          refine g_icmp_ne 63 dX13_witness_57 (by decide) (fun c12 => ?_) (fun c12 => ?_)
          · have hs := ifSf hs c12; have hQ := ifQf hQ c12
            refine g_aload_n 1 dX13_witness_63 rfl ?_
            refine g_bipush (v := 22) dX13_witness_64 (by decide) ?_
            refine g_iload_n 2 dX13_witness_66 rfl ?_
            refine g_iadd dX13_witness_67 ?_
            refine g_iload_n 0 dX13_witness_68 rfl ?_
            refine g_iconst (v := 1) dX13_witness_69 (by decide) ?_
            refine g_iload_n 3 dX13_witness_70 rfl ?_
            refine g_ishl dX13_witness_71 ?_
            refine g_ior dX13_witness_72 ?_
            have h13 := hs.1; have hs := hs.2
            refine g_callV (As := [.int (22 + x1), .int (v7 ||| (1 <<< (x2 &&& 31)))]) (st := []) 226 (c_X13_puts E M1 (22 + x1) (v7 ||| (1 <<< (x2 &&& 31))) h13) mt_X13_puts ml_X13_227 dF_Md rfl rfl sg_X13_puts rfl (by decide) (Nat.le_of_ble_eq_true rfl) dX13_witness_73 ?_
            rintro _ _ ⟨rfl, rfl⟩
            obtain ⟨z14, hz14⟩ : ∃ z, z = f_X13_puts M1 (22 + x1) (v7 ||| (1 <<< (x2 &&& 31))) := ⟨_, rfl⟩
            rw [← hz14]
            have hQ := bndQ hQ z14 hz14; have hs := bndS hs z14 hz14
            refine g_pop dX13_witness_76 rfl ?_
            refine g_aload_n 1 dX13_witness_77 rfl ?_
            refine g_getR 226 232 fd_X13_25 dF_Md rfl rfl dX13_witness_78 ?_
            refine g_bipush (v := 22) dX13_witness_81 (by decide) ?_
            refine g_iload_n 2 dX13_witness_83 rfl ?_
            refine g_iadd dX13_witness_84 ?_
            have h15 := hs.1; have hs := hs.2
            refine g_iald 232 dF_Md_now h15 dX13_witness_85 ?_
            have h16 := hs.1; have hs := hs.2
            refine g_callS (As := [.int (rdI z14.2 92 0 0 (nn (22 + x1)))]) (st := []) (c_J6_bitCount_0f7a4 E z14.2 (rdI z14.2 92 0 0 (nn (22 + x1))) h16) mt_J6_bitCount_0f7a4 ml_X13_154 sg_J6_bitCount_0f7a4 rfl (by decide) (Nat.le_of_ble_eq_true rfl) dX13_witness_86 ?_
            rintro _ _ ⟨q1, q2⟩; rw [q1, q2]; clear q1 q2
            exact g_iret rfl dX13_witness_89 (hK _ hQ)
          · have hs := ifSt hs c12; have hQ := ifQt hQ c12
            refine g_bipush (v := (-2)) dX13_witness_60 (by decide) ?_
            exact g_iret rfl dX13_witness_62 (hK _ hQ)
    · have hs := ifSt hs c5; have hQ := ifQt hQ c5
      refine g_iconst (v := (-1)) dX13_witness_21 (by decide) ?_
      exact g_iret rfl dX13_witness_22 (hK _ hQ)
theorem c_X13_witness (E : gE) (M : gM) (x1 : Int32) (x2 : Int32) (hs : s_X13_witness M x1 x2) : gC E yX13_witness cX13_witness 4 (some .int) (rm 2) [.ref (gla E 226), .int x1, .int x2] M (fun o N => o = some (.int (f_X13_witness M x1 x2).1) ∧ N = (f_X13_witness M x1 x2).2) :=
  gC.of (by decide +kernel) (Nat.le_of_ble_eq_true rfl) rfl (t_X13_witness (K := fun z => z = f_X13_witness M x1 x2) (fun z hz => by rw [hz]; exact ⟨rfl, rfl⟩) M x1 x2 hs rfl)
def f_X13_dies_50 (M : gM)  : Int32 × gM :=
  (0, M)
def s_X13_dies_50 (M : gM)  : Prop :=
  True
theorem o_X13_dies_50 (M : gM)  : offW [67, 69, 92, 94] M (f_X13_dies_50 M ).2 := by
  rw [f_X13_dies_50]
  exact offR
set_option maxRecDepth 100000 in
set_option maxHeartbeats 4000000 in
theorem t_X13_dies_50 {E : gE} {K : Int32 × gM → Prop} {Q : Option Value → gM → Prop} (hK : ∀ z : Int32 × gM, K z → Q (some (.int z.1)) z.2) (M : gM)   (hs : s_X13_dies_50 M ) (hQ : K (f_X13_dies_50 M )) : gG E RX13 cX13_dies 3 (some .boolean) (rm 2) 50 [] [] M Q := by
  rw [s_X13_dies_50] at hs
  rw [f_X13_dies_50] at hQ
  refine g_iconst (v := 0) dX13_dies_50 (by decide) ?_
  exact g_zret rfl (Or.inl rfl) dX13_dies_51 (hK _ hQ)
def f_X13_dies_40 (M : gM) (y1 : Int32) (y2 : Int32)  : Int32 × gM :=
  bnd (f_X13_puts M y1 y2) fun z9 =>
  (if z9.1 = 0 then
    (f_X13_dies_50 z9.2)
  else
    ((1, z9.2)))
def s_X13_dies_40 (M : gM) (y1 : Int32) (y2 : Int32)  : Prop :=
  (s_X13_puts M y1 y2) ∧
  (bndP (f_X13_puts M y1 y2) fun z9 =>
  (if z9.1 = 0 then
    (s_X13_dies_50 z9.2)
  else
    (True)))
theorem o_X13_dies_40 (M : gM) (y1 : Int32) (y2 : Int32)  : offW [67, 69, 92, 94] M (f_X13_dies_40 M y1 y2 ).2 := by
  rw [f_X13_dies_40]
  refine offZ2 (offR.tr ((o_X13_puts M y1 y2).mono (by decide))) (fun z9 oz9 => ?_)
  refine offI2 ?_ ?_
  · exact oz9.tr (o_X13_dies_50 z9.2)
  · exact oz9
set_option maxRecDepth 100000 in
set_option maxHeartbeats 4000000 in
theorem t_X13_dies_40 {E : gE} {K : Int32 × gM → Prop} {Q : Option Value → gM → Prop} (hK : ∀ z : Int32 × gM, K z → Q (some (.int z.1)) z.2) (M : gM) (y1 : Int32) (y2 : Int32)   (hs : s_X13_dies_40 M y1 y2 ) (hQ : K (f_X13_dies_40 M y1 y2 )) : gG E RX13 cX13_dies 3 (some .boolean) (rm 2) 40 [] [.int y2, .int y1, .ref (gla E 226)] M Q := by
  rw [s_X13_dies_40] at hs
  rw [f_X13_dies_40] at hQ
  have h8 := hs.1; have hs := hs.2
  refine g_callV (As := [.int y1, .int y2]) (st := []) 226 (c_X13_puts E M y1 y2 h8) mt_X13_puts ml_X13_227 dF_Md rfl rfl sg_X13_puts rfl (by decide) (Nat.le_of_ble_eq_true rfl) dX13_dies_40 ?_
  rintro _ _ ⟨rfl, rfl⟩
  obtain ⟨z9, hz9⟩ : ∃ z, z = f_X13_puts M y1 y2 := ⟨_, rfl⟩
  rw [← hz9]
  have hQ := bndQ hQ z9 hz9; have hs := bndS hs z9 hz9
  refine g_if_eq 50 dX13_dies_43 (by decide) (fun c10 => ?_) (fun c10 => ?_)
  · have hs := ifSt hs c10; have hQ := ifQt hQ c10
    exact t_X13_dies_50 hK z9.2 hs hQ
  · have hs := ifSf hs c10; have hQ := ifQf hQ c10
    refine g_iconst (v := 1) dX13_dies_46 (by decide) ?_
    refine g_goto 51 dX13_dies_47 (by decide) ?_
    exact g_zret rfl (Or.inr rfl) dX13_dies_51 (hK _ hQ)
def f_X13_dies_25 (M : gM) (x1 : Int32) (x2 : Int32)  : Int32 × gM :=
  if x2 = (-1) then
    (f_X13_dies_40 M (0 + x1) (-2))
  else
    (f_X13_dies_40 M (0 + x1) x2)
def s_X13_dies_25 (M : gM) (x1 : Int32) (x2 : Int32)  : Prop :=
  if x2 = (-1) then
    (s_X13_dies_40 M (0 + x1) (-2))
  else
    (s_X13_dies_40 M (0 + x1) x2)
theorem o_X13_dies_25 (M : gM) (x1 : Int32) (x2 : Int32)  : offW [67, 69, 92, 94] M (f_X13_dies_25 M x1 x2 ).2 := by
  rw [f_X13_dies_25]
  refine offI2 ?_ ?_
  · exact (o_X13_dies_40 M (0 + x1) (-2))
  · exact (o_X13_dies_40 M (0 + x1) x2)
set_option maxRecDepth 100000 in
set_option maxHeartbeats 4000000 in
theorem t_X13_dies_25 {E : gE} {K : Int32 × gM → Prop} {Q : Option Value → gM → Prop} (hK : ∀ z : Int32 × gM, K z → Q (some (.int z.1)) z.2) (M : gM) (x1 : Int32) (x2 : Int32)   (hs : s_X13_dies_25 M x1 x2 ) (hQ : K (f_X13_dies_25 M x1 x2 )) : gG E RX13 cX13_dies 3 (some .boolean) (rm 2) 25 [(0, .ref (gla E 226)), (1, .int x1), (2, .int x2)] [] M Q := by
  rw [s_X13_dies_25] at hs
  rw [f_X13_dies_25] at hQ
  refine g_aload_n 0 dX13_dies_25 rfl ?_
  refine g_iconst (v := 0) dX13_dies_26 (by decide) ?_
  refine g_iload_n 1 dX13_dies_27 rfl ?_
  refine g_iadd dX13_dies_28 ?_
  refine g_iload_n 2 dX13_dies_29 rfl ?_
  refine g_iconst (v := (-1)) dX13_dies_30 (by decide) ?_
  refine g_icmp_ne 39 dX13_dies_31 (by decide) (fun c7 => ?_) (fun c7 => ?_)
  · have hs := ifSf hs c7; have hQ := ifQf hQ c7
    refine g_iload_n 2 dX13_dies_39 rfl ?_
    refine g_sub [] _ rfl ?_
    exact t_X13_dies_40 hK M (0 + x1) x2 hs hQ
  · have hs := ifSt hs c7; have hQ := ifQt hQ c7
    refine g_bipush (v := (-2)) dX13_dies_34 (by decide) ?_
    refine g_goto 40 dX13_dies_36 (by decide) ?_
    refine g_sub [] _ rfl ?_
    exact t_X13_dies_40 hK M (0 + x1) (-2) hs hQ
def f_X13_dies (M : gM) (x1 : Int32) (x2 : Int32) : Int32 × gM :=
  bnd (wrI M 67 0 0 0 0) fun M1 =>
  (if (f_X13_isPerson M1 x1) = 0 then
    (f_X13_dies_50 M1)
  else
    (if x2 = (-1) then
      (f_X13_dies_25 M1 x1 x2)
    else
      (if (f_X13_isDay M1 x2) = 0 then
        (f_X13_dies_50 M1)
      else
        (f_X13_dies_25 M1 x1 x2))))
def s_X13_dies (M : gM) (x1 : Int32) (x2 : Int32) : Prop :=
  bndP (wrI M 67 0 0 0 0) fun M1 =>
  ((s_X13_isPerson M1 x1) ∧
  (if (f_X13_isPerson M1 x1) = 0 then
    (s_X13_dies_50 M1)
  else
    (if x2 = (-1) then
      (s_X13_dies_25 M1 x1 x2)
    else
      ((s_X13_isDay M1 x2) ∧
      (if (f_X13_isDay M1 x2) = 0 then
        (s_X13_dies_50 M1)
      else
        (s_X13_dies_25 M1 x1 x2))))))
theorem o_X13_dies (M : gM) (x1 : Int32) (x2 : Int32) : offW [67, 69, 92, 94] M (f_X13_dies M x1 x2).2 := by
  rw [f_X13_dies]
  refine offB2 (offR.wI (by decide)) (fun M1 oM1 => ?_)
  refine offI2 ?_ ?_
  · exact oM1.tr (o_X13_dies_50 M1)
  · refine offI2 ?_ ?_
    · exact oM1.tr (o_X13_dies_25 M1 x1 x2)
    · refine offI2 ?_ ?_
      · exact oM1.tr (o_X13_dies_50 M1)
      · exact oM1.tr (o_X13_dies_25 M1 x1 x2)
set_option maxRecDepth 100000 in
set_option maxHeartbeats 4000000 in
theorem t_X13_dies {E : gE} {K : Int32 × gM → Prop} {Q : Option Value → gM → Prop} (hK : ∀ z : Int32 × gM, K z → Q (some (.int z.1)) z.2) (M : gM) (x1 : Int32) (x2 : Int32)  (hs : s_X13_dies M x1 x2) (hQ : K (f_X13_dies M x1 x2)) : gG E RX13 cX13_dies 3 (some .boolean) (rm 2) 0 [(0, .ref (gla E 226)), (1, .int x1), (2, .int x2)] [] M Q := by
  rw [s_X13_dies] at hs
  rw [f_X13_dies] at hQ
  refine g_aload_n 0 dX13_dies_0 rfl ?_
  refine g_iconst (v := 0) dX13_dies_1 (by decide) ?_
  refine g_putI 226 fd_X13_61 dF_Md rfl dX13_dies_2 (fun M1 hM1 => ?_)
  have hQ := bndQ hQ M1 hM1; have hs := bndS hs M1 hM1
  refine g_aload_n 0 dX13_dies_5 rfl ?_
  refine g_iload_n 1 dX13_dies_6 rfl ?_
  have h2 := hs.1; have hs := hs.2
  refine g_callV (As := [.int x1]) (st := []) 226 (c_X13_isPerson E M1 x1 h2) mt_X13_isPerson ml_X13_206 dF_Md rfl rfl sg_X13_isPerson rfl (by decide) (Nat.le_of_ble_eq_true rfl) dX13_dies_7 ?_
  rintro _ _ ⟨q1, q2⟩; rw [q1, q2]; clear q1 q2
  refine g_if_eq 50 dX13_dies_10 (by decide) (fun c3 => ?_) (fun c3 => ?_)
  · have hs := ifSt hs c3; have hQ := ifQt hQ c3
    refine g_sub [] _ rfl ?_
    exact t_X13_dies_50 hK M1 hs hQ
  · have hs := ifSf hs c3; have hQ := ifQf hQ c3
    refine g_iload_n 2 dX13_dies_13 rfl ?_
    refine g_iconst (v := (-1)) dX13_dies_14 (by decide) ?_
    refine g_icmp_eq 25 dX13_dies_15 (by decide) (fun c4 => ?_) (fun c4 => ?_)
    · have hs := ifSt hs c4; have hQ := ifQt hQ c4
      exact t_X13_dies_25 hK M1 x1 x2 hs hQ
    · have hs := ifSf hs c4; have hQ := ifQf hQ c4
      refine g_iload_n 2 dX13_dies_18 rfl ?_
      have h5 := hs.1; have hs := hs.2
      refine g_callS (As := [.int x2]) (st := []) (c_X13_isDay E M1 x2 h5) mt_X13_isDay ml_X13_230 sg_X13_isDay rfl (by decide) (Nat.le_of_ble_eq_true rfl) dX13_dies_19 ?_
      rintro _ _ ⟨q1, q2⟩; rw [q1, q2]; clear q1 q2
      refine g_if_eq 50 dX13_dies_22 (by decide) (fun c6 => ?_) (fun c6 => ?_)
      · have hs := ifSt hs c6; have hQ := ifQt hQ c6
        refine g_sub [] _ rfl ?_
        exact t_X13_dies_50 hK M1 hs hQ
      · have hs := ifSf hs c6; have hQ := ifQf hQ c6
        exact t_X13_dies_25 hK M1 x1 x2 hs hQ
theorem c_X13_dies (E : gE) (M : gM) (x1 : Int32) (x2 : Int32) (hs : s_X13_dies M x1 x2) : gC E yX13_dies cX13_dies 3 (some .boolean) (rm 2) [.ref (gla E 226), .int x1, .int x2] M (fun o N => o = some (.int (f_X13_dies M x1 x2).1) ∧ N = (f_X13_dies M x1 x2).2) :=
  gC.of (by decide +kernel) (Nat.le_of_ble_eq_true rfl) rfl (t_X13_dies (K := fun z => z = f_X13_dies M x1 x2) (fun z hz => by rw [hz]; exact ⟨rfl, rfl⟩) M x1 x2 hs rfl)
def f_X13_takeBack_29 (M : gM)  : Int32 × gM :=
  (0, M)
def s_X13_takeBack_29 (M : gM)  : Prop :=
  True
theorem o_X13_takeBack_29 (M : gM)  : offW [67, 69, 92, 94] M (f_X13_takeBack_29 M ).2 := by
  rw [f_X13_takeBack_29]
  exact offR
set_option maxRecDepth 100000 in
set_option maxHeartbeats 4000000 in
theorem t_X13_takeBack_29 {E : gE} {K : Int32 × gM → Prop} {Q : Option Value → gM → Prop} (hK : ∀ z : Int32 × gM, K z → Q (some (.int z.1)) z.2) (M : gM)   (hs : s_X13_takeBack_29 M ) (hQ : K (f_X13_takeBack_29 M )) : gG E RX13 cX13_takeBack 2 (some .boolean) (rm 2) 29 [] [] M Q := by
  rw [s_X13_takeBack_29] at hs
  rw [f_X13_takeBack_29] at hQ
  refine g_iconst (v := 0) dX13_takeBack_29 (by decide) ?_
  exact g_zret rfl (Or.inl rfl) dX13_takeBack_30 (hK _ hQ)
def f_X13_takeBack (M : gM) (x1 : Int32) : Int32 × gM :=
  bnd (wrI M 67 0 0 0 0) fun M1 =>
  (if (f_X13_isPaper M1 x1) = 0 then
    (f_X13_takeBack_29 M1)
  else
    (bnd (f_X13_puts M1 (34 + x1) 1) fun z5 =>
    (if z5.1 = 0 then
      (f_X13_takeBack_29 z5.2)
    else
      ((1, z5.2)))))
def s_X13_takeBack (M : gM) (x1 : Int32) : Prop :=
  bndP (wrI M 67 0 0 0 0) fun M1 =>
  ((s_X13_isPaper M1 x1) ∧
  (if (f_X13_isPaper M1 x1) = 0 then
    (s_X13_takeBack_29 M1)
  else
    ((s_X13_puts M1 (34 + x1) 1) ∧
    (bndP (f_X13_puts M1 (34 + x1) 1) fun z5 =>
    (if z5.1 = 0 then
      (s_X13_takeBack_29 z5.2)
    else
      (True))))))
theorem o_X13_takeBack (M : gM) (x1 : Int32) : offW [67, 69, 92, 94] M (f_X13_takeBack M x1).2 := by
  rw [f_X13_takeBack]
  refine offB2 (offR.wI (by decide)) (fun M1 oM1 => ?_)
  refine offI2 ?_ ?_
  · exact oM1.tr (o_X13_takeBack_29 M1)
  · refine offZ2 (oM1.tr ((o_X13_puts M1 (34 + x1) 1).mono (by decide))) (fun z5 oz5 => ?_)
    refine offI2 ?_ ?_
    · exact oz5.tr (o_X13_takeBack_29 z5.2)
    · exact oz5
set_option maxRecDepth 100000 in
set_option maxHeartbeats 4000000 in
theorem t_X13_takeBack {E : gE} {K : Int32 × gM → Prop} {Q : Option Value → gM → Prop} (hK : ∀ z : Int32 × gM, K z → Q (some (.int z.1)) z.2) (M : gM) (x1 : Int32)  (hs : s_X13_takeBack M x1) (hQ : K (f_X13_takeBack M x1)) : gG E RX13 cX13_takeBack 2 (some .boolean) (rm 2) 0 [(0, .ref (gla E 226)), (1, .int x1)] [] M Q := by
  rw [s_X13_takeBack] at hs
  rw [f_X13_takeBack] at hQ
  refine g_aload_n 0 dX13_takeBack_0 rfl ?_
  refine g_iconst (v := 0) dX13_takeBack_1 (by decide) ?_
  refine g_putI 226 fd_X13_61 dF_Md rfl dX13_takeBack_2 (fun M1 hM1 => ?_)
  have hQ := bndQ hQ M1 hM1; have hs := bndS hs M1 hM1
  refine g_aload_n 0 dX13_takeBack_5 rfl ?_
  refine g_iload_n 1 dX13_takeBack_6 rfl ?_
  have h2 := hs.1; have hs := hs.2
  refine g_callV (As := [.int x1]) (st := []) 226 (c_X13_isPaper E M1 x1 h2) mt_X13_isPaper ml_X13_215 dF_Md rfl rfl sg_X13_isPaper rfl (by decide) (Nat.le_of_ble_eq_true rfl) dX13_takeBack_7 ?_
  rintro _ _ ⟨q1, q2⟩; rw [q1, q2]; clear q1 q2
  refine g_if_eq 29 dX13_takeBack_10 (by decide) (fun c3 => ?_) (fun c3 => ?_)
  · have hs := ifSt hs c3; have hQ := ifQt hQ c3
    refine g_sub [] _ rfl ?_
    exact t_X13_takeBack_29 hK M1 hs hQ
  · have hs := ifSf hs c3; have hQ := ifQf hQ c3
    refine g_aload_n 0 dX13_takeBack_13 rfl ?_
    refine g_bipush (v := 34) dX13_takeBack_14 (by decide) ?_
    refine g_iload_n 1 dX13_takeBack_16 rfl ?_
    refine g_iadd dX13_takeBack_17 ?_
    refine g_iconst (v := 1) dX13_takeBack_18 (by decide) ?_
    have h4 := hs.1; have hs := hs.2
    refine g_callV (As := [.int (34 + x1), .int 1]) (st := []) 226 (c_X13_puts E M1 (34 + x1) 1 h4) mt_X13_puts ml_X13_227 dF_Md rfl rfl sg_X13_puts rfl (by decide) (Nat.le_of_ble_eq_true rfl) dX13_takeBack_19 ?_
    rintro _ _ ⟨rfl, rfl⟩
    obtain ⟨z5, hz5⟩ : ∃ z, z = f_X13_puts M1 (34 + x1) 1 := ⟨_, rfl⟩
    rw [← hz5]
    have hQ := bndQ hQ z5 hz5; have hs := bndS hs z5 hz5
    refine g_if_eq 29 dX13_takeBack_22 (by decide) (fun c6 => ?_) (fun c6 => ?_)
    · have hs := ifSt hs c6; have hQ := ifQt hQ c6
      refine g_sub [] _ rfl ?_
      exact t_X13_takeBack_29 hK z5.2 hs hQ
    · have hs := ifSf hs c6; have hQ := ifQf hQ c6
      refine g_iconst (v := 1) dX13_takeBack_25 (by decide) ?_
      refine g_goto 30 dX13_takeBack_26 (by decide) ?_
      exact g_zret rfl (Or.inr rfl) dX13_takeBack_30 (hK _ hQ)
theorem c_X13_takeBack (E : gE) (M : gM) (x1 : Int32) (hs : s_X13_takeBack M x1) : gC E yX13_takeBack cX13_takeBack 2 (some .boolean) (rm 2) [.ref (gla E 226), .int x1] M (fun o N => o = some (.int (f_X13_takeBack M x1).1) ∧ N = (f_X13_takeBack M x1).2) :=
  gC.of (by decide +kernel) (Nat.le_of_ble_eq_true rfl) rfl (t_X13_takeBack (K := fun z => z = f_X13_takeBack M x1) (fun z hz => by rw [hz]; exact ⟨rfl, rfl⟩) M x1 hs rfl)
def f_X13_living_50 (M : gM) (x1 : Int32) (x3 : Int32) (y0 : Int32) (k4 : Int32 → Int32 → Int32) : Int32 :=
  k4 (y0 + 0) (x3 + 1)
def s_X13_living_50 (M : gM) (x1 : Int32) (x3 : Int32) (y0 : Int32) (q4 : Int32 → Int32 → Prop) : Prop :=
  q4 (y0 + 0) (x3 + 1)
set_option maxRecDepth 100000 in
set_option maxHeartbeats 4000000 in
theorem t_X13_living_50 {E : gE} {K : Int32 → Prop} {Q : Option Value → gM → Prop} {M : gM} (hK : ∀ z : Int32, K z → Q (some (.int z)) M) (x1 : Int32) (x3 : Int32) (y0 : Int32)  (k4 : Int32 → Int32 → Int32) (q4 : Int32 → Int32 → Prop) (hk4 : ∀ (x2 : Int32) (x3 : Int32) , q4 x2 x3 → K (k4 x2 x3) → gG E RX13 cX13_living 4 (some .int) (rm 2) 4 [(0, .ref (gla E 226)), (1, .int x1), (2, .int x2), (3, .int x3)] [] M Q) (hs : s_X13_living_50 M x1 x3 y0 q4) (hQ : K (f_X13_living_50 M x1 x3 y0 k4)) : gG E RX13 cX13_living 4 (some .int) (rm 2) 50 [(0, .ref (gla E 226)), (1, .int x1), (3, .int x3)] [.int y0] M Q := by
  rw [s_X13_living_50] at hs
  rw [f_X13_living_50] at hQ
  refine g_iconst (v := 0) dX13_living_50 (by decide) ?_
  refine g_iadd dX13_living_51 ?_
  refine g_istore_n _ dX13_living_52 (by decide) rfl ?_
  refine g_iinc 3 (v := x3 + 1) _ dX13_living_53 rfl rfl (by decide) rfl ?_
  refine g_goto 4 dX13_living_56 (by decide) ?_
  refine g_sub [2, 3, 1, 0] _ rfl ?_
  exact hk4 (y0 + 0) (x3 + 1) hs hQ
def f_X13_living_4 (M : gM) (x1 : Int32)  : Nat → Int32 → Int32 → Int32
  | 0, _, _ => 0
  | n + 1, x2, x3 =>
    if (rdI M 88 0 0 (nn 0)) ≤ x3 then
      (x2)
    else
      (if (((rdI M 92 0 0 (nn (22 + x1))) >>> (x3 &&& 31)) &&& 1) = 1 then
        (if (f_X13_lives M x3 (f_X13_of M x1 1)) = 0 then
          (f_X13_living_50 M x1 x3 x2 (f_X13_living_4 M x1 n))
        else
          (f_X13_living_4 M x1 n (x2 + 1) (x3 + 1)))
      else
        (f_X13_living_50 M x1 x3 x2 (f_X13_living_4 M x1 n)))
def s_X13_living_4 (M : gM) (x1 : Int32)  : Nat → Int32 → Int32 → Prop
  | 0, _, _ => False
  | n + 1, x2, x3 =>
    (vp_in 0 502) ∧
    (if (rdI M 88 0 0 (nn 0)) ≤ x3 then
      (True)
    else
      ((vp_in (22 + x1) 65) ∧
      (if (((rdI M 92 0 0 (nn (22 + x1))) >>> (x3 &&& 31)) &&& 1) = 1 then
        ((s_X13_of M x1 1) ∧
        ((s_X13_lives M x3 (f_X13_of M x1 1)) ∧
        (if (f_X13_lives M x3 (f_X13_of M x1 1)) = 0 then
          (s_X13_living_50 M x1 x3 x2 (s_X13_living_4 M x1 n))
        else
          (s_X13_living_4 M x1 n (x2 + 1) (x3 + 1)))))
      else
        (s_X13_living_50 M x1 x3 x2 (s_X13_living_4 M x1 n)))))
set_option maxRecDepth 100000 in
set_option maxHeartbeats 4000000 in
theorem t_X13_living_4 {E : gE} {K : Int32 → Prop} {Q : Option Value → gM → Prop} {M : gM} (hK : ∀ z : Int32, K z → Q (some (.int z)) M) (x1 : Int32)   : ∀ (n : Nat) (x2 : Int32) (x3 : Int32) , s_X13_living_4 M x1  n x2 x3 → K (f_X13_living_4 M x1  n x2 x3) → gG E RX13 cX13_living 4 (some .int) (rm 2) 4 [(0, .ref (gla E 226)), (1, .int x1), (2, .int x2), (3, .int x3)] [] M Q := by
  intro n
  induction n with
  | zero => intro x2 x3 hs hQ; exact (hs : False).elim
  | succ n ih =>
    intro x2 x3 hs hQ
    rw [s_X13_living_4] at hs
    rw [f_X13_living_4] at hQ
    refine g_iload_n 3 dX13_living_4 rfl ?_
    refine g_aload_n 0 dX13_living_5 rfl ?_
    refine g_getR 226 228 fd_X13_13 dF_Md rfl rfl dX13_living_6 ?_
    refine g_iconst (v := 0) dX13_living_9 (by decide) ?_
    have h1 := hs.1; have hs := hs.2
    refine g_iald 228 dF_Md_world h1 dX13_living_10 ?_
    refine g_icmp_ge 59 dX13_living_11 (by decide) (fun c2 => ?_) (fun c2 => ?_)
    · have hs := ifSt hs c2; have hQ := ifQt hQ c2
      refine g_iload_n 2 dX13_living_59 rfl ?_
      exact g_iret rfl dX13_living_60 (hK _ hQ)
    · have hs := ifSf hs c2; have hQ := ifQf hQ c2
      refine g_iload_n 2 dX13_living_14 rfl ?_
      refine g_aload_n 0 dX13_living_15 rfl ?_
      refine g_getR 226 232 fd_X13_25 dF_Md rfl rfl dX13_living_16 ?_
      refine g_bipush (v := 22) dX13_living_19 (by decide) ?_
      refine g_iload_n 1 dX13_living_21 rfl ?_
      refine g_iadd dX13_living_22 ?_
      have h3 := hs.1; have hs := hs.2
      refine g_iald 232 dF_Md_now h3 dX13_living_23 ?_
      refine g_iload_n 3 dX13_living_24 rfl ?_
      refine g_ishr dX13_living_25 ?_
      refine g_iconst (v := 1) dX13_living_26 (by decide) ?_
      refine g_iand dX13_living_27 ?_
      refine g_iconst (v := 1) dX13_living_28 (by decide) ?_
      refine g_icmp_ne 50 dX13_living_29 (by decide) (fun c4 => ?_) (fun c4 => ?_)
      · have hs := ifSf hs c4; have hQ := ifQf hQ c4
        refine g_sub [0, 1, 3] _ rfl ?_
        exact t_X13_living_50 hK x1 x3 x2 (f_X13_living_4 M x1 n) (s_X13_living_4 M x1 n) ih hs hQ
      · have hs := ifSt hs c4; have hQ := ifQt hQ c4
        refine g_aload_n 0 dX13_living_32 rfl ?_
        refine g_iload_n 3 dX13_living_33 rfl ?_
        refine g_aload_n 0 dX13_living_34 rfl ?_
        refine g_iload_n 1 dX13_living_35 rfl ?_
        refine g_iconst (v := 1) dX13_living_36 (by decide) ?_
        have h5 := hs.1; have hs := hs.2
        refine g_callV (As := [.int x1, .int 1]) (st := [.int x3, .ref (gla E 226), .int x2]) 226 (c_X13_of E M x1 1 h5) mt_X13_of ml_X13_218 dF_Md rfl rfl sg_X13_of rfl (by decide) (Nat.le_of_ble_eq_true rfl) dX13_living_37 ?_
        rintro _ _ ⟨q1, q2⟩; rw [q1, q2]; clear q1 q2
        have h6 := hs.1; have hs := hs.2
        refine g_callV (As := [.int x3, .int (f_X13_of M x1 1)]) (st := [.int x2]) 226 (c_X13_lives E M x3 (f_X13_of M x1 1) h6) mt_X13_lives ml_X13_233 dF_Md rfl rfl sg_X13_lives rfl (by decide) (Nat.le_of_ble_eq_true rfl) dX13_living_40 ?_
        rintro _ _ ⟨q1, q2⟩; rw [q1, q2]; clear q1 q2
        refine g_if_eq 50 dX13_living_43 (by decide) (fun c7 => ?_) (fun c7 => ?_)
        · have hs := ifSt hs c7; have hQ := ifQt hQ c7
          refine g_sub [0, 1, 3] _ rfl ?_
          exact t_X13_living_50 hK x1 x3 x2 (f_X13_living_4 M x1 n) (s_X13_living_4 M x1 n) ih hs hQ
        · have hs := ifSf hs c7; have hQ := ifQf hQ c7
          refine g_iconst (v := 1) dX13_living_46 (by decide) ?_
          refine g_goto 51 dX13_living_47 (by decide) ?_
          refine g_iadd dX13_living_51 ?_
          refine g_istore_n _ dX13_living_52 (by decide) rfl ?_
          refine g_iinc 3 (v := x3 + 1) _ dX13_living_53 rfl rfl (by decide) rfl ?_
          refine g_goto 4 dX13_living_56 (by decide) ?_
          refine g_sub [2, 3, 1, 0] _ rfl ?_
          exact ih (x2 + 1) (x3 + 1) hs hQ
def f_X13_living (M : gM) (x1 : Int32) : Int32 :=
  f_X13_living_4 M x1 FU 0 0
def s_X13_living (M : gM) (x1 : Int32) : Prop :=
  s_X13_living_4 M x1 FU 0 0
set_option maxRecDepth 100000 in
set_option maxHeartbeats 4000000 in
theorem t_X13_living {E : gE} {K : Int32 → Prop} {Q : Option Value → gM → Prop} {M : gM} (hK : ∀ z : Int32, K z → Q (some (.int z)) M)  (x1 : Int32)  (hs : s_X13_living M x1) (hQ : K (f_X13_living M x1)) : gG E RX13 cX13_living 4 (some .int) (rm 2) 0 [(0, .ref (gla E 226)), (1, .int x1)] [] M Q := by
  rw [s_X13_living] at hs
  rw [f_X13_living] at hQ
  refine g_iconst (v := 0) dX13_living_0 (by decide) ?_
  refine g_istore_n _ dX13_living_1 (by decide) rfl ?_
  refine g_iconst (v := 0) dX13_living_2 (by decide) ?_
  refine g_istore_n _ dX13_living_3 (by decide) rfl ?_
  refine g_sub [2, 3, 1, 0] _ rfl ?_
  exact t_X13_living_4 hK x1 FU 0 0 hs hQ
theorem c_X13_living (E : gE) (M : gM) (x1 : Int32) (hs : s_X13_living M x1) : gC E yX13_living cX13_living 4 (some .int) (rm 2) [.ref (gla E 226), .int x1] M (fun o N => o = some (.int (f_X13_living M x1)) ∧ N = M) :=
  gC.of (by decide +kernel) (Nat.le_of_ble_eq_true rfl) rfl (t_X13_living (K := fun z => z = f_X13_living M x1) (fun z hz => by rw [hz]; exact ⟨rfl, rfl⟩) x1 hs rfl)
def f_X13_mayTake_83 (M : gM)  : Int32 :=
  1
def s_X13_mayTake_83 (M : gM)  : Prop :=
  True
set_option maxRecDepth 100000 in
set_option maxHeartbeats 4000000 in
theorem t_X13_mayTake_83 {E : gE} {K : Int32 → Prop} {Q : Option Value → gM → Prop} {M : gM} (hK : ∀ z : Int32, K z → Q (some (.int z)) M)    (hs : s_X13_mayTake_83 M ) (hQ : K (f_X13_mayTake_83 M )) : gG E RX13 cX13_mayTake 6 (some .boolean) (rm 2) 83 [] [] M Q := by
  rw [s_X13_mayTake_83] at hs
  rw [f_X13_mayTake_83] at hQ
  refine g_iconst (v := 1) dX13_mayTake_83 (by decide) ?_
  refine g_goto 88 dX13_mayTake_84 (by decide) ?_
  exact g_zret rfl (Or.inr rfl) dX13_mayTake_88 (hK _ hQ)
def f_X13_mayTake_60 (M : gM) (x1 : Int32) (x3 : Int32) (y0 : Int32)  : Int32 :=
  if (((rdI M 92 0 0 (nn (22 + x1))) >>> (x3 &&& 31)) &&& 1) = 0 then
    (f_X13_mayTake_83 M)
  else
    (if y0 = 0 then
      (0)
    else
      (f_X13_mayTake_83 M))
def s_X13_mayTake_60 (M : gM) (x1 : Int32) (x3 : Int32) (y0 : Int32)  : Prop :=
  (vp_in (22 + x1) 65) ∧
  (if (((rdI M 92 0 0 (nn (22 + x1))) >>> (x3 &&& 31)) &&& 1) = 0 then
    (s_X13_mayTake_83 M)
  else
    (if y0 = 0 then
      (True)
    else
      (s_X13_mayTake_83 M)))
set_option maxRecDepth 100000 in
set_option maxHeartbeats 4000000 in
theorem t_X13_mayTake_60 {E : gE} {K : Int32 → Prop} {Q : Option Value → gM → Prop} {M : gM} (hK : ∀ z : Int32, K z → Q (some (.int z)) M) (x1 : Int32) (x3 : Int32) (y0 : Int32)   (hs : s_X13_mayTake_60 M x1 x3 y0 ) (hQ : K (f_X13_mayTake_60 M x1 x3 y0 )) : gG E RX13 cX13_mayTake 6 (some .boolean) (rm 2) 60 [(0, .ref (gla E 226)), (1, .int x1), (3, .int x3)] [.int y0] M Q := by
  rw [s_X13_mayTake_60] at hs
  rw [f_X13_mayTake_60] at hQ
  refine g_istore _ dX13_mayTake_60 (by decide) rfl ?_
  refine g_aload_n 1 dX13_mayTake_62 rfl ?_
  refine g_getR 226 232 fd_X13_25 dF_Md rfl rfl dX13_mayTake_63 ?_
  refine g_bipush (v := 22) dX13_mayTake_66 (by decide) ?_
  refine g_iload_n 2 dX13_mayTake_68 rfl ?_
  refine g_iadd dX13_mayTake_69 ?_
  have h12 := hs.1; have hs := hs.2
  refine g_iald 232 dF_Md_now h12 dX13_mayTake_70 ?_
  refine g_iload_n 3 dX13_mayTake_71 rfl ?_
  refine g_ishr dX13_mayTake_72 ?_
  refine g_iconst (v := 1) dX13_mayTake_73 (by decide) ?_
  refine g_iand dX13_mayTake_74 ?_
  refine g_if_eq 83 dX13_mayTake_75 (by decide) (fun c13 => ?_) (fun c13 => ?_)
  · have hs := ifSt hs c13; have hQ := ifQt hQ c13
    refine g_sub [] _ rfl ?_
    exact t_X13_mayTake_83 hK hs hQ
  · have hs := ifSf hs c13; have hQ := ifQf hQ c13
    refine g_iload 0 dX13_mayTake_78 rfl ?_
    refine g_if_eq 87 dX13_mayTake_80 (by decide) (fun c14 => ?_) (fun c14 => ?_)
    · have hs := ifSt hs c14; have hQ := ifQt hQ c14
      refine g_iconst (v := 0) dX13_mayTake_87 (by decide) ?_
      exact g_zret rfl (Or.inl rfl) dX13_mayTake_88 (hK _ hQ)
    · have hs := ifSf hs c14; have hQ := ifQf hQ c14
      refine g_sub [] _ rfl ?_
      exact t_X13_mayTake_83 hK hs hQ
def f_X13_mayTake_55 (M : gM) (x1 : Int32) (x3 : Int32)  : Int32 :=
  f_X13_mayTake_60 M x1 x3 1
def s_X13_mayTake_55 (M : gM) (x1 : Int32) (x3 : Int32)  : Prop :=
  s_X13_mayTake_60 M x1 x3 1
set_option maxRecDepth 100000 in
set_option maxHeartbeats 4000000 in
theorem t_X13_mayTake_55 {E : gE} {K : Int32 → Prop} {Q : Option Value → gM → Prop} {M : gM} (hK : ∀ z : Int32, K z → Q (some (.int z)) M) (x1 : Int32) (x3 : Int32)   (hs : s_X13_mayTake_55 M x1 x3 ) (hQ : K (f_X13_mayTake_55 M x1 x3 )) : gG E RX13 cX13_mayTake 6 (some .boolean) (rm 2) 55 [(0, .ref (gla E 226)), (1, .int x1), (3, .int x3)] [] M Q := by
  rw [s_X13_mayTake_55] at hs
  rw [f_X13_mayTake_55] at hQ
  refine g_iconst (v := 1) dX13_mayTake_55 (by decide) ?_
  refine g_goto 60 dX13_mayTake_56 (by decide) ?_
  exact t_X13_mayTake_60 hK x1 x3 1 hs hQ
def f_X13_mayTake_59 (M : gM) (x1 : Int32) (x3 : Int32)  : Int32 :=
  f_X13_mayTake_60 M x1 x3 0
def s_X13_mayTake_59 (M : gM) (x1 : Int32) (x3 : Int32)  : Prop :=
  s_X13_mayTake_60 M x1 x3 0
set_option maxRecDepth 100000 in
set_option maxHeartbeats 4000000 in
theorem t_X13_mayTake_59 {E : gE} {K : Int32 → Prop} {Q : Option Value → gM → Prop} {M : gM} (hK : ∀ z : Int32, K z → Q (some (.int z)) M) (x1 : Int32) (x3 : Int32)   (hs : s_X13_mayTake_59 M x1 x3 ) (hQ : K (f_X13_mayTake_59 M x1 x3 )) : gG E RX13 cX13_mayTake 6 (some .boolean) (rm 2) 59 [(0, .ref (gla E 226)), (1, .int x1), (3, .int x3)] [] M Q := by
  rw [s_X13_mayTake_59] at hs
  rw [f_X13_mayTake_59] at hQ
  refine g_iconst (v := 0) dX13_mayTake_59 (by decide) ?_
  exact t_X13_mayTake_60 hK x1 x3 0 hs hQ
def f_X13_mayTake (M : gM) (x1 : Int32) (x2 : Int32) (x3 : Int32) (x4 : Int32) : Int32 :=
  if x3 = (-2) then
    (0)
  else
    (if (f_X13_lives M x3 x4) = 0 then
      (0)
    else
      (if (f_X13_of M x1 4) = 1 then
        (if (f_X13_has M (f_X13_of M x1 2) 1) = 0 then
          (if (f_X13_has M (f_X13_landOf M x2) 1) = 0 then
            (f_X13_mayTake_59 M x1 x3)
          else
            (f_X13_mayTake_55 M x1 x3))
        else
          (f_X13_mayTake_55 M x1 x3))
      else
        (f_X13_mayTake_59 M x1 x3)))
def s_X13_mayTake (M : gM) (x1 : Int32) (x2 : Int32) (x3 : Int32) (x4 : Int32) : Prop :=
  if x3 = (-2) then
    (True)
  else
    ((s_X13_lives M x3 x4) ∧
    (if (f_X13_lives M x3 x4) = 0 then
      (True)
    else
      ((s_X13_of M x1 4) ∧
      (if (f_X13_of M x1 4) = 1 then
        ((s_X13_of M x1 2) ∧
        ((s_X13_has M (f_X13_of M x1 2) 1) ∧
        (if (f_X13_has M (f_X13_of M x1 2) 1) = 0 then
          ((s_X13_landOf M x2) ∧
          ((s_X13_has M (f_X13_landOf M x2) 1) ∧
          (if (f_X13_has M (f_X13_landOf M x2) 1) = 0 then
            (s_X13_mayTake_59 M x1 x3)
          else
            (s_X13_mayTake_55 M x1 x3))))
        else
          (s_X13_mayTake_55 M x1 x3))))
      else
        (s_X13_mayTake_59 M x1 x3)))))
set_option maxRecDepth 100000 in
set_option maxHeartbeats 4000000 in
theorem t_X13_mayTake {E : gE} {K : Int32 → Prop} {Q : Option Value → gM → Prop} {M : gM} (hK : ∀ z : Int32, K z → Q (some (.int z)) M)  (x1 : Int32) (x2 : Int32) (x3 : Int32) (x4 : Int32)  (hs : s_X13_mayTake M x1 x2 x3 x4) (hQ : K (f_X13_mayTake M x1 x2 x3 x4)) : gG E RX13 cX13_mayTake 6 (some .boolean) (rm 2) 0 [(0, .ref (gla E 226)), (1, .int x1), (2, .int x2), (3, .int x3), (4, .int x4)] [] M Q := by
  rw [s_X13_mayTake] at hs
  rw [f_X13_mayTake] at hQ
  refine g_iload_n 3 dX13_mayTake_0 rfl ?_
  refine g_bipush (v := (-2)) dX13_mayTake_1 (by decide) ?_
  refine g_icmp_eq 16 dX13_mayTake_3 (by decide) (fun c1 => ?_) (fun c1 => ?_)
  · have hs := ifSt hs c1; have hQ := ifQt hQ c1
    refine g_iconst (v := 0) dX13_mayTake_16 (by decide) ?_
    exact g_zret rfl (Or.inl rfl) dX13_mayTake_17 (hK _ hQ)
  · have hs := ifSf hs c1; have hQ := ifQf hQ c1
    refine g_aload_n 0 dX13_mayTake_6 rfl ?_
    refine g_iload_n 3 dX13_mayTake_7 rfl ?_
    refine g_iload 4 dX13_mayTake_8 rfl ?_
    have h2 := hs.1; have hs := hs.2
    refine g_callV (As := [.int x3, .int x4]) (st := []) 226 (c_X13_lives E M x3 x4 h2) mt_X13_lives ml_X13_233 dF_Md rfl rfl sg_X13_lives rfl (by decide) (Nat.le_of_ble_eq_true rfl) dX13_mayTake_10 ?_
    rintro _ _ ⟨q1, q2⟩; rw [q1, q2]; clear q1 q2
    refine g_if_ne 18 dX13_mayTake_13 (by decide) (fun c3 => ?_) (fun c3 => ?_)
    · have hs := ifSf hs c3; have hQ := ifQf hQ c3
      refine g_aload_n 0 dX13_mayTake_18 rfl ?_
      refine g_iload_n 1 dX13_mayTake_19 rfl ?_
      refine g_iconst (v := 4) dX13_mayTake_20 (by decide) ?_
      have h4 := hs.1; have hs := hs.2
      refine g_callV (As := [.int x1, .int 4]) (st := []) 226 (c_X13_of E M x1 4 h4) mt_X13_of ml_X13_218 dF_Md rfl rfl sg_X13_of rfl (by decide) (Nat.le_of_ble_eq_true rfl) dX13_mayTake_21 ?_
      rintro _ _ ⟨q1, q2⟩; rw [q1, q2]; clear q1 q2
      refine g_iconst (v := 1) dX13_mayTake_24 (by decide) ?_
      refine g_icmp_ne 59 dX13_mayTake_25 (by decide) (fun c5 => ?_) (fun c5 => ?_)
      · have hs := ifSf hs c5; have hQ := ifQf hQ c5
        refine g_sub [0, 1, 3] _ rfl ?_
        exact t_X13_mayTake_59 hK x1 x3 hs hQ
      · have hs := ifSt hs c5; have hQ := ifQt hQ c5
        refine g_aload_n 0 dX13_mayTake_28 rfl ?_
        refine g_aload_n 0 dX13_mayTake_29 rfl ?_
        refine g_iload_n 1 dX13_mayTake_30 rfl ?_
        refine g_iconst (v := 2) dX13_mayTake_31 (by decide) ?_
        have h6 := hs.1; have hs := hs.2
        refine g_callV (As := [.int x1, .int 2]) (st := [.ref (gla E 226)]) 226 (c_X13_of E M x1 2 h6) mt_X13_of ml_X13_218 dF_Md rfl rfl sg_X13_of rfl (by decide) (Nat.le_of_ble_eq_true rfl) dX13_mayTake_32 ?_
        rintro _ _ ⟨q1, q2⟩; rw [q1, q2]; clear q1 q2
        refine g_iconst (v := 1) dX13_mayTake_35 (by decide) ?_
        have h7 := hs.1; have hs := hs.2
        refine g_callV (As := [.int (f_X13_of M x1 2), .int 1]) (st := []) 226 (c_X13_has E M (f_X13_of M x1 2) 1 h7) mt_X13_has ml_X13_239 dF_Md rfl rfl sg_X13_has rfl (by decide) (Nat.le_of_ble_eq_true rfl) dX13_mayTake_36 ?_
        rintro _ _ ⟨q1, q2⟩; rw [q1, q2]; clear q1 q2
        refine g_if_ne 55 dX13_mayTake_39 (by decide) (fun c8 => ?_) (fun c8 => ?_)
        · have hs := ifSf hs c8; have hQ := ifQf hQ c8
          refine g_sub [0, 1, 3] _ rfl ?_
          exact t_X13_mayTake_55 hK x1 x3 hs hQ
        · have hs := ifSt hs c8; have hQ := ifQt hQ c8
          refine g_aload_n 0 dX13_mayTake_42 rfl ?_
          refine g_aload_n 0 dX13_mayTake_43 rfl ?_
          refine g_iload_n 2 dX13_mayTake_44 rfl ?_
          have h9 := hs.1; have hs := hs.2
          refine g_callV (As := [.int x2]) (st := [.ref (gla E 226)]) 226 (c_X13_landOf E M x2 h9) mt_X13_landOf ml_X13_248 dF_Md rfl rfl sg_X13_landOf rfl (by decide) (Nat.le_of_ble_eq_true rfl) dX13_mayTake_45 ?_
          rintro _ _ ⟨q1, q2⟩; rw [q1, q2]; clear q1 q2
          refine g_iconst (v := 1) dX13_mayTake_48 (by decide) ?_
          have h10 := hs.1; have hs := hs.2
          refine g_callV (As := [.int (f_X13_landOf M x2), .int 1]) (st := []) 226 (c_X13_has E M (f_X13_landOf M x2) 1 h10) mt_X13_has ml_X13_239 dF_Md rfl rfl sg_X13_has rfl (by decide) (Nat.le_of_ble_eq_true rfl) dX13_mayTake_49 ?_
          rintro _ _ ⟨q1, q2⟩; rw [q1, q2]; clear q1 q2
          refine g_if_eq 59 dX13_mayTake_52 (by decide) (fun c11 => ?_) (fun c11 => ?_)
          · have hs := ifSt hs c11; have hQ := ifQt hQ c11
            refine g_sub [0, 1, 3] _ rfl ?_
            exact t_X13_mayTake_59 hK x1 x3 hs hQ
          · have hs := ifSf hs c11; have hQ := ifQf hQ c11
            refine g_sub [0, 1, 3] _ rfl ?_
            exact t_X13_mayTake_55 hK x1 x3 hs hQ
    · have hs := ifSt hs c3; have hQ := ifQt hQ c3
      refine g_iconst (v := 0) dX13_mayTake_16 (by decide) ?_
      exact g_zret rfl (Or.inl rfl) dX13_mayTake_17 (hK _ hQ)
theorem c_X13_mayTake (E : gE) (M : gM) (x1 : Int32) (x2 : Int32) (x3 : Int32) (x4 : Int32) (hs : s_X13_mayTake M x1 x2 x3 x4) : gC E yX13_mayTake cX13_mayTake 6 (some .boolean) (rm 2) [.ref (gla E 226), .int x1, .int x2, .int x3, .int x4] M (fun o N => o = some (.int (f_X13_mayTake M x1 x2 x3 x4)) ∧ N = M) :=
  gC.of (by decide +kernel) (Nat.le_of_ble_eq_true rfl) rfl (t_X13_mayTake (K := fun z => z = f_X13_mayTake M x1 x2 x3 x4) (fun z hz => by rw [hz]; exact ⟨rfl, rfl⟩) x1 x2 x3 x4 hs rfl)
def f_X13_living__46 (M : gM) (x1 : Int32) (x2 : Int32) (x5 : Int32) (y0 : Int32) (k6 : Int32 → Int32 → Int32) : Int32 :=
  k6 (y0 ||| 0) (x5 + 1)
def s_X13_living__46 (M : gM) (x1 : Int32) (x2 : Int32) (x5 : Int32) (y0 : Int32) (q6 : Int32 → Int32 → Prop) : Prop :=
  q6 (y0 ||| 0) (x5 + 1)
set_option maxRecDepth 100000 in
set_option maxHeartbeats 4000000 in
theorem t_X13_living__46 {E : gE} {K : Int32 → Prop} {Q : Option Value → gM → Prop} {M : gM} (hK : ∀ z : Int32, K z → Q (some (.int z)) M) (x1 : Int32) (x2 : Int32) (x5 : Int32) (y0 : Int32)  (k6 : Int32 → Int32 → Int32) (q6 : Int32 → Int32 → Prop) (hk6 : ∀ (x4 : Int32) (x5 : Int32) , q6 x4 x5 → K (k6 x4 x5) → gG E RX13 cX13_living_ 6 (some .int) (rm 2) 6 [(0, .ref (gla E 226)), (1, .int x1), (2, .int x2), (4, .int x4), (5, .int x5)] [] M Q) (hs : s_X13_living__46 M x1 x2 x5 y0 q6) (hQ : K (f_X13_living__46 M x1 x2 x5 y0 k6)) : gG E RX13 cX13_living_ 6 (some .int) (rm 2) 46 [(0, .ref (gla E 226)), (1, .int x1), (2, .int x2), (5, .int x5)] [.int y0] M Q := by
  rw [s_X13_living__46] at hs
  rw [f_X13_living__46] at hQ
  refine g_iconst (v := 0) dX13_living__46 (by decide) ?_
  refine g_ior dX13_living__47 ?_
  refine g_istore _ dX13_living__48 (by decide) rfl ?_
  refine g_iinc 4 (v := x5 + 1) _ dX13_living__50 rfl rfl (by decide) rfl ?_
  refine g_goto 6 dX13_living__53 (by decide) ?_
  refine g_sub [2, 3, 4, 1, 0] _ rfl ?_
  exact hk6 (y0 ||| 0) (x5 + 1) hs hQ
def f_X13_living__6 (M : gM) (x1 : Int32) (x2 : Int32)  : Nat → Int32 → Int32 → Int32
  | 0, _, _ => 0
  | n + 1, x4, x5 =>
    if (rdI M 88 0 0 (nn 0)) ≤ x5 then
      (x4)
    else
      (if ((x1 >>> (x5 &&& 31)) &&& 1) = 1 then
        (if (f_X13_lives M x5 x2) = 0 then
          (f_X13_living__46 M x1 x2 x5 x4 (f_X13_living__6 M x1 x2 n))
        else
          (bnd (x4 ||| (1 <<< (x5 &&& 31))) fun v6 =>
          (f_X13_living__6 M x1 x2 n v6 (x5 + 1))))
      else
        (f_X13_living__46 M x1 x2 x5 x4 (f_X13_living__6 M x1 x2 n)))
def s_X13_living__6 (M : gM) (x1 : Int32) (x2 : Int32)  : Nat → Int32 → Int32 → Prop
  | 0, _, _ => False
  | n + 1, x4, x5 =>
    (vp_in 0 502) ∧
    (if (rdI M 88 0 0 (nn 0)) ≤ x5 then
      (True)
    else
      (if ((x1 >>> (x5 &&& 31)) &&& 1) = 1 then
        ((s_X13_lives M x5 x2) ∧
        (if (f_X13_lives M x5 x2) = 0 then
          (s_X13_living__46 M x1 x2 x5 x4 (s_X13_living__6 M x1 x2 n))
        else
          (bndP (x4 ||| (1 <<< (x5 &&& 31))) fun v6 =>
          (s_X13_living__6 M x1 x2 n v6 (x5 + 1)))))
      else
        (s_X13_living__46 M x1 x2 x5 x4 (s_X13_living__6 M x1 x2 n))))
set_option maxRecDepth 100000 in
set_option maxHeartbeats 4000000 in
theorem t_X13_living__6 {E : gE} {K : Int32 → Prop} {Q : Option Value → gM → Prop} {M : gM} (hK : ∀ z : Int32, K z → Q (some (.int z)) M) (x1 : Int32) (x2 : Int32)   : ∀ (n : Nat) (x4 : Int32) (x5 : Int32) , s_X13_living__6 M x1 x2  n x4 x5 → K (f_X13_living__6 M x1 x2  n x4 x5) → gG E RX13 cX13_living_ 6 (some .int) (rm 2) 6 [(0, .ref (gla E 226)), (1, .int x1), (2, .int x2), (4, .int x4), (5, .int x5)] [] M Q := by
  intro n
  induction n with
  | zero => intro x4 x5 hs hQ; exact (hs : False).elim
  | succ n ih =>
    intro x4 x5 hs hQ
    rw [s_X13_living__6] at hs
    rw [f_X13_living__6] at hQ
    refine g_iload 4 dX13_living__6 rfl ?_
    refine g_aload_n 0 dX13_living__8 rfl ?_
    refine g_getR 226 228 fd_X13_13 dF_Md rfl rfl dX13_living__9 ?_
    refine g_iconst (v := 0) dX13_living__12 (by decide) ?_
    have h1 := hs.1; have hs := hs.2
    refine g_iald 228 dF_Md_world h1 dX13_living__13 ?_
    refine g_icmp_ge 56 dX13_living__14 (by decide) (fun c2 => ?_) (fun c2 => ?_)
    · have hs := ifSt hs c2; have hQ := ifQt hQ c2
      refine g_iload 3 dX13_living__56 rfl ?_
      exact g_iret rfl dX13_living__58 (hK _ hQ)
    · have hs := ifSf hs c2; have hQ := ifQf hQ c2
      refine g_iload 3 dX13_living__17 rfl ?_
      refine g_iload_n 1 dX13_living__19 rfl ?_
      refine g_iload 4 dX13_living__20 rfl ?_
      refine g_ishr dX13_living__22 ?_
      refine g_iconst (v := 1) dX13_living__23 (by decide) ?_
      refine g_iand dX13_living__24 ?_
      refine g_iconst (v := 1) dX13_living__25 (by decide) ?_
      refine g_icmp_ne 46 dX13_living__26 (by decide) (fun c3 => ?_) (fun c3 => ?_)
      · have hs := ifSf hs c3; have hQ := ifQf hQ c3
        refine g_sub [0, 1, 2, 4] _ rfl ?_
        exact t_X13_living__46 hK x1 x2 x5 x4 (f_X13_living__6 M x1 x2 n) (s_X13_living__6 M x1 x2 n) ih hs hQ
      · have hs := ifSt hs c3; have hQ := ifQt hQ c3
        refine g_aload_n 0 dX13_living__29 rfl ?_
        refine g_iload 4 dX13_living__30 rfl ?_
        refine g_iload_n 2 dX13_living__32 rfl ?_
        have h4 := hs.1; have hs := hs.2
        refine g_callV (As := [.int x5, .int x2]) (st := [.int x4]) 226 (c_X13_lives E M x5 x2 h4) mt_X13_lives ml_X13_233 dF_Md rfl rfl sg_X13_lives rfl (by decide) (Nat.le_of_ble_eq_true rfl) dX13_living__33 ?_
        rintro _ _ ⟨q1, q2⟩; rw [q1, q2]; clear q1 q2
        refine g_if_eq 46 dX13_living__36 (by decide) (fun c5 => ?_) (fun c5 => ?_)
        · have hs := ifSt hs c5; have hQ := ifQt hQ c5
          refine g_sub [0, 1, 2, 4] _ rfl ?_
          exact t_X13_living__46 hK x1 x2 x5 x4 (f_X13_living__6 M x1 x2 n) (s_X13_living__6 M x1 x2 n) ih hs hQ
        · have hs := ifSf hs c5; have hQ := ifQf hQ c5
          refine g_iconst (v := 1) dX13_living__39 (by decide) ?_
          refine g_iload 4 dX13_living__40 rfl ?_
          refine g_ishl dX13_living__42 ?_
          refine g_goto 47 dX13_living__43 (by decide) ?_
          refine g_ior dX13_living__47 ?_
          refine g_topI (fun v6 hv6 => ?_)
          have hQ := bndQ hQ v6 hv6; have hs := bndS hs v6 hv6
          refine g_istore _ dX13_living__48 (by decide) rfl ?_
          refine g_iinc 4 (v := x5 + 1) _ dX13_living__50 rfl rfl (by decide) rfl ?_
          refine g_goto 6 dX13_living__53 (by decide) ?_
          refine g_sub [2, 3, 4, 1, 0] _ rfl ?_
          exact ih v6 (x5 + 1) hs hQ
def f_X13_living_ (M : gM) (x1 : Int32) (x2 : Int32) (x3 : Int32) : Int32 :=
  f_X13_living__6 M x1 x2 FU x3 0
def s_X13_living_ (M : gM) (x1 : Int32) (x2 : Int32) (x3 : Int32) : Prop :=
  s_X13_living__6 M x1 x2 FU x3 0
set_option maxRecDepth 100000 in
set_option maxHeartbeats 4000000 in
theorem t_X13_living_ {E : gE} {K : Int32 → Prop} {Q : Option Value → gM → Prop} {M : gM} (hK : ∀ z : Int32, K z → Q (some (.int z)) M)  (x1 : Int32) (x2 : Int32) (x3 : Int32)  (hs : s_X13_living_ M x1 x2 x3) (hQ : K (f_X13_living_ M x1 x2 x3)) : gG E RX13 cX13_living_ 6 (some .int) (rm 2) 0 [(0, .ref (gla E 226)), (1, .int x1), (2, .int x2), (3, .int x3)] [] M Q := by
  rw [s_X13_living_] at hs
  rw [f_X13_living_] at hQ
  refine g_iload_n 3 dX13_living__0 rfl ?_
  refine g_istore _ dX13_living__1 (by decide) rfl ?_
  refine g_iconst (v := 0) dX13_living__3 (by decide) ?_
  refine g_istore _ dX13_living__4 (by decide) rfl ?_
  refine g_sub [2, 3, 4, 1, 0] _ rfl ?_
  exact t_X13_living__6 hK x1 x2 FU x3 0 hs hQ
theorem c_X13_living_ (E : gE) (M : gM) (x1 : Int32) (x2 : Int32) (x3 : Int32) (hs : s_X13_living_ M x1 x2 x3) : gC E yX13_living_ cX13_living_ 6 (some .int) (rm 2) [.ref (gla E 226), .int x1, .int x2, .int x3] M (fun o N => o = some (.int (f_X13_living_ M x1 x2 x3)) ∧ N = M) :=
  gC.of (by decide +kernel) (Nat.le_of_ble_eq_true rfl) rfl (t_X13_living_ (K := fun z => z = f_X13_living_ M x1 x2 x3) (fun z hz => by rw [hz]; exact ⟨rfl, rfl⟩) x1 x2 x3 hs rfl)
def f_X13_alike_23 (x1 : Int32) (x2 : Int64) (x4 : Int64) (x6 : Int32)  : Nat → gM → Int32 → gM
  | 0, M, _ => M
  | n + 1, M, x7 =>
    if 10 ≤ x7 then
      (M)
    else
      (if ((x1 >>> (x7 &&& 31)) &&& 1) = 1 then
        (bnd (f_X13_comes M x7 x2 (x4 * (Int32.toInt64 x6))) fun M8 =>
        (f_X13_alike_23 x1 x2 x4 x6 n M8 (x7 + 1)))
      else
        (f_X13_alike_23 x1 x2 x4 x6 n M (x7 + 1)))
def s_X13_alike_23 (x1 : Int32) (x2 : Int64) (x4 : Int64) (x6 : Int32)  : Nat → gM → Int32 → Prop
  | 0, _, _ => False
  | n + 1, M, x7 =>
    if 10 ≤ x7 then
      (True)
    else
      (if ((x1 >>> (x7 &&& 31)) &&& 1) = 1 then
        ((s_X13_comes M x7 x2 (x4 * (Int32.toInt64 x6))) ∧
        (bndP (f_X13_comes M x7 x2 (x4 * (Int32.toInt64 x6))) fun M8 =>
        (s_X13_alike_23 x1 x2 x4 x6 n M8 (x7 + 1))))
      else
        (s_X13_alike_23 x1 x2 x4 x6 n M (x7 + 1)))
theorem o_X13_alike_23 (x1 : Int32) (x2 : Int64) (x4 : Int64) (x6 : Int32)  : ∀ (n : Nat) (M : gM) (x7 : Int32), offW [97, 98] M (f_X13_alike_23 x1 x2 x4 x6  n M x7) := by
  intro n
  induction n with
  | zero => intro M x7; exact offR
  | succ n ih =>
    intro M x7
    rw [f_X13_alike_23]
    refine offI ?_ ?_
    · exact offR
    · refine offI ?_ ?_
      · refine offB (offR.tr ((o_X13_comes M x7 x2 (x4 * (Int32.toInt64 x6))).mono (by decide))) (fun M8 oM8 => ?_)
        exact oM8.tr (ih M8 (x7 + 1))
      · exact (ih M (x7 + 1))
set_option maxRecDepth 100000 in
set_option maxHeartbeats 4000000 in
theorem t_X13_alike_23 {E : gE} {K : gM → Prop} {Q : Option Value → gM → Prop} (hK : ∀ z : gM, K z → Q none z) (x1 : Int32) (x2 : Int64) (x4 : Int64) (x6 : Int32)   : ∀ (n : Nat) (M : gM) (x7 : Int32) , s_X13_alike_23 x1 x2 x4 x6  n M x7 → K (f_X13_alike_23 x1 x2 x4 x6  n M x7) → gG E RX13 cX13_alike 8 none (rm 2) 23 [(0, .ref (gla E 226)), (1, .int x1), (2, .long x2), (4, .long x4), (6, .int x6), (7, .int x7)] [] M Q := by
  intro n
  induction n with
  | zero => intro M x7 hs hQ; exact (hs : False).elim
  | succ n ih =>
    intro M x7 hs hQ
    rw [s_X13_alike_23] at hs
    rw [f_X13_alike_23] at hQ
    refine g_iload 5 dX13_alike_23 rfl ?_
    refine g_bipush (v := 10) dX13_alike_25 (by decide) ?_
    refine g_icmp_ge 59 dX13_alike_27 (by decide) (fun c5 => ?_) (fun c5 => ?_)
    · have hs := ifSt hs c5; have hQ := ifQt hQ c5
      exact g_vret rfl dX13_alike_59 (hK _ hQ)
    · have hs := ifSf hs c5; have hQ := ifQf hQ c5
      refine g_iload_n 1 dX13_alike_30 rfl ?_
      refine g_iload 5 dX13_alike_31 rfl ?_
      refine g_ishr dX13_alike_33 ?_
      refine g_iconst (v := 1) dX13_alike_34 (by decide) ?_
      refine g_iand dX13_alike_35 ?_
      refine g_iconst (v := 1) dX13_alike_36 (by decide) ?_
      refine g_icmp_ne 53 dX13_alike_37 (by decide) (fun c6 => ?_) (fun c6 => ?_)
      · have hs := ifSf hs c6; have hQ := ifQf hQ c6
        refine g_iinc 5 (v := x7 + 1) _ dX13_alike_53 rfl rfl (by decide) rfl ?_
        refine g_goto 23 dX13_alike_56 (by decide) ?_
        refine g_sub [1, 2, 3, 4, 5, 0] _ rfl ?_
        exact ih M (x7 + 1) hs hQ
      · have hs := ifSt hs c6; have hQ := ifQt hQ c6
        refine g_aload_n 0 dX13_alike_40 rfl ?_
        refine g_iload 5 dX13_alike_41 rfl ?_
        refine g_lload_n 2 dX13_alike_43 rfl ?_
        refine g_lload 3 dX13_alike_44 rfl ?_
        refine g_iload 4 dX13_alike_46 rfl ?_
        refine g_i2l dX13_alike_48 ?_
        refine g_lmul dX13_alike_49 ?_
        have h7 := hs.1; have hs := hs.2
        refine g_callV (As := [.int x7, .long x2, .long (x4 * (Int32.toInt64 x6))]) (st := []) 226 (c_X13_comes E M x7 x2 (x4 * (Int32.toInt64 x6)) h7) mt_X13_comes ml_X13_297 dF_Md rfl rfl sg_X13_comes rfl (by decide) (Nat.le_of_ble_eq_true rfl) dX13_alike_50 ?_
        rintro _ M8 ⟨rfl, hM8⟩
        have hQ := bndQ hQ M8 hM8; have hs := bndS hs M8 hM8
        refine g_iinc 5 (v := x7 + 1) _ dX13_alike_53 rfl rfl (by decide) rfl ?_
        refine g_goto 23 dX13_alike_56 (by decide) ?_
        refine g_sub [1, 2, 3, 4, 5, 0] _ rfl ?_
        exact ih M8 (x7 + 1) hs hQ
def f_X13_alike (M : gM) (x1 : Int32) (x2 : Int64) (x4 : Int64) : gM :=
  if (f_J6_bitCount_0f7a4 M x1) = 0 then
    (bnd (f_X13_comes M 10 x2 x4) fun M4 =>
    (f_X13_alike_23 x1 x2 x4 (f_J6_bitCount_0f7a4 M x1) FU M4 0))
  else
    (f_X13_alike_23 x1 x2 x4 (f_J6_bitCount_0f7a4 M x1) FU M 0)
def s_X13_alike (M : gM) (x1 : Int32) (x2 : Int64) (x4 : Int64) : Prop :=
  (s_J6_bitCount_0f7a4 M x1) ∧
  (if (f_J6_bitCount_0f7a4 M x1) = 0 then
    ((s_X13_comes M 10 x2 x4) ∧
    (bndP (f_X13_comes M 10 x2 x4) fun M4 =>
    (s_X13_alike_23 x1 x2 x4 (f_J6_bitCount_0f7a4 M x1) FU M4 0)))
  else
    (s_X13_alike_23 x1 x2 x4 (f_J6_bitCount_0f7a4 M x1) FU M 0))
theorem o_X13_alike (M : gM) (x1 : Int32) (x2 : Int64) (x4 : Int64) : offW [97, 98] M (f_X13_alike M x1 x2 x4) := by
  rw [f_X13_alike]
  refine offI ?_ ?_
  · refine offB (offR.tr ((o_X13_comes M 10 x2 x4).mono (by decide))) (fun M4 oM4 => ?_)
    exact oM4.tr (o_X13_alike_23 x1 x2 x4 (f_J6_bitCount_0f7a4 M x1) FU M4 0)
  · exact (o_X13_alike_23 x1 x2 x4 (f_J6_bitCount_0f7a4 M x1) FU M 0)
set_option maxRecDepth 100000 in
set_option maxHeartbeats 4000000 in
theorem t_X13_alike {E : gE} {K : gM → Prop} {Q : Option Value → gM → Prop} (hK : ∀ z : gM, K z → Q none z) (M : gM) (x1 : Int32) (x2 : Int64) (x4 : Int64)  (hs : s_X13_alike M x1 x2 x4) (hQ : K (f_X13_alike M x1 x2 x4)) : gG E RX13 cX13_alike 8 none (rm 2) 0 [(0, .ref (gla E 226)), (1, .int x1), (2, .long x2), (4, .long x4)] [] M Q := by
  rw [s_X13_alike] at hs
  rw [f_X13_alike] at hQ
  refine g_iload_n 1 dX13_alike_0 rfl ?_
  have h1 := hs.1; have hs := hs.2
  refine g_callS (As := [.int x1]) (st := []) (c_J6_bitCount_0f7a4 E M x1 h1) mt_J6_bitCount_0f7a4 ml_X13_154 sg_J6_bitCount_0f7a4 rfl (by decide) (Nat.le_of_ble_eq_true rfl) dX13_alike_1 ?_
  rintro _ _ ⟨q1, q2⟩; rw [q1, q2]; clear q1 q2
  refine g_istore _ dX13_alike_4 (by decide) rfl ?_
  refine g_iload 0 dX13_alike_6 rfl ?_
  refine g_if_ne 20 dX13_alike_8 (by decide) (fun c2 => ?_) (fun c2 => ?_)
  · have hs := ifSf hs c2; have hQ := ifQf hQ c2
    refine g_iconst (v := 0) dX13_alike_20 (by decide) ?_
    refine g_istore _ dX13_alike_21 (by decide) rfl ?_
    refine g_sub [2, 3, 4, 5, 1, 0] _ rfl ?_
    exact t_X13_alike_23 hK x1 x2 x4 (f_J6_bitCount_0f7a4 M x1) FU M 0 hs hQ
  · have hs := ifSt hs c2; have hQ := ifQt hQ c2
    refine g_aload_n 1 dX13_alike_11 rfl ?_
    refine g_bipush (v := 10) dX13_alike_12 (by decide) ?_
    refine g_lload_n 3 dX13_alike_14 rfl ?_
    refine g_lload 4 dX13_alike_15 rfl ?_
    have h3 := hs.1; have hs := hs.2
    refine g_callV (As := [.int 10, .long x2, .long x4]) (st := []) 226 (c_X13_comes E M 10 x2 x4 h3) mt_X13_comes ml_X13_297 dF_Md rfl rfl sg_X13_comes rfl (by decide) (Nat.le_of_ble_eq_true rfl) dX13_alike_17 ?_
    rintro _ M4 ⟨rfl, hM4⟩
    have hQ := bndQ hQ M4 hM4; have hs := bndS hs M4 hM4
    refine g_iconst (v := 0) dX13_alike_20 (by decide) ?_
    refine g_istore _ dX13_alike_21 (by decide) rfl ?_
    refine g_sub [2, 3, 4, 5, 1, 0] _ rfl ?_
    exact t_X13_alike_23 hK x1 x2 x4 (f_J6_bitCount_0f7a4 M x1) FU M4 0 hs hQ
theorem c_X13_alike (E : gE) (M : gM) (x1 : Int32) (x2 : Int64) (x4 : Int64) (hs : s_X13_alike M x1 x2 x4) : gC E yX13_alike cX13_alike 8 none (rm 2) [.ref (gla E 226), .int x1, .long x2, .long x4] M (fun o N => o = none ∧ N = f_X13_alike M x1 x2 x4) :=
  gC.of (by decide +kernel) (Nat.le_of_ble_eq_true rfl) rfl (t_X13_alike (K := fun z => z = f_X13_alike M x1 x2 x4) (fun z hz => ⟨rfl, hz⟩) M x1 x2 x4 hs rfl)
def f_X13_kin_30 (M : gM) (x2 : Int32)  : Nat → Int32 → Int32 → Int32 × gM
  | 0, _, _ => (0, M)
  | n + 1, x3, x4 =>
    if 10 < x4 then
      (((-2), M))
    else
      (if ((x3 >>> (x2 &&& 31)) &&& 1) = 1 then
        ((x4, M))
      else
        (f_X13_kin_30 M x2 n (f_X13_nextKin M x3) (x4 + 1)))
def s_X13_kin_30 (M : gM) (x2 : Int32)  : Nat → Int32 → Int32 → Prop
  | 0, _, _ => False
  | n + 1, x3, x4 =>
    if 10 < x4 then
      (True)
    else
      (if ((x3 >>> (x2 &&& 31)) &&& 1) = 1 then
        (True)
      else
        ((s_X13_nextKin M x3) ∧
        (s_X13_kin_30 M x2 n (f_X13_nextKin M x3) (x4 + 1))))
theorem o_X13_kin_30 (M : gM) (x2 : Int32)  : ∀ (n : Nat) (x3 : Int32) (x4 : Int32), offW [67] M (f_X13_kin_30 M x2  n x3 x4).2 := by
  intro n
  induction n with
  | zero => intro x3 x4; exact offR
  | succ n ih =>
    intro x3 x4
    rw [f_X13_kin_30]
    refine offI2 ?_ ?_
    · exact offR
    · refine offI2 ?_ ?_
      · exact offR
      · exact (ih (f_X13_nextKin M x3) (x4 + 1))
set_option maxRecDepth 100000 in
set_option maxHeartbeats 4000000 in
theorem t_X13_kin_30 {E : gE} {K : Int32 × gM → Prop} {Q : Option Value → gM → Prop} (hK : ∀ z : Int32 × gM, K z → Q (some (.int z.1)) z.2) (M : gM) (x2 : Int32)   : ∀ (n : Nat) (x3 : Int32) (x4 : Int32) , s_X13_kin_30 M x2  n x3 x4 → K (f_X13_kin_30 M x2  n x3 x4) → gG E RX13 cX13_kin 5 (some .int) (rm 2) 30 [(0, .ref (gla E 226)), (2, .int x2), (3, .int x3), (4, .int x4)] [] M Q := by
  intro n
  induction n with
  | zero => intro x3 x4 hs hQ; exact (hs : False).elim
  | succ n ih =>
    intro x3 x4 hs hQ
    rw [s_X13_kin_30] at hs
    rw [f_X13_kin_30] at hQ
    refine g_iload 3 dX13_kin_30 rfl ?_
    refine g_bipush (v := 10) dX13_kin_32 (by decide) ?_
    refine g_icmp_gt 61 dX13_kin_34 (by decide) (fun c6 => ?_) (fun c6 => ?_)
    · have hs := ifSt hs c6; have hQ := ifQt hQ c6
      refine g_bipush (v := (-2)) dX13_kin_61 (by decide) ?_
      exact g_iret rfl dX13_kin_63 (hK _ hQ)
    · have hs := ifSf hs c6; have hQ := ifQf hQ c6
      refine g_iload_n 2 dX13_kin_37 rfl ?_
      refine g_iload_n 1 dX13_kin_38 rfl ?_
      refine g_ishr dX13_kin_39 ?_
      refine g_iconst (v := 1) dX13_kin_40 (by decide) ?_
      refine g_iand dX13_kin_41 ?_
      refine g_iconst (v := 1) dX13_kin_42 (by decide) ?_
      refine g_icmp_ne 49 dX13_kin_43 (by decide) (fun c7 => ?_) (fun c7 => ?_)
      · have hs := ifSf hs c7; have hQ := ifQf hQ c7
        refine g_aload_n 0 dX13_kin_49 rfl ?_
        refine g_iload_n 2 dX13_kin_50 rfl ?_
        have h8 := hs.1; have hs := hs.2
        refine g_callV (As := [.int x3]) (st := []) 226 (c_X13_nextKin E M x3 h8) mt_X13_nextKin ml_X13_340 dF_Md rfl rfl sg_X13_nextKin rfl (by decide) (Nat.le_of_ble_eq_true rfl) dX13_kin_51 ?_
        rintro _ _ ⟨q1, q2⟩; rw [q1, q2]; clear q1 q2
        refine g_istore_n _ dX13_kin_54 (by decide) rfl ?_
        refine g_iinc 3 (v := x4 + 1) _ dX13_kin_55 rfl rfl (by decide) rfl ?_
        refine g_goto 30 dX13_kin_58 (by decide) ?_
        refine g_sub [2, 3, 1, 0] _ rfl ?_
        exact ih (f_X13_nextKin M x3) (x4 + 1) hs hQ
      · have hs := ifSt hs c7; have hQ := ifQt hQ c7
        refine g_iload 3 dX13_kin_46 rfl ?_
        exact g_iret rfl dX13_kin_48 (hK _ hQ)
def f_X13_kin (M : gM) (x1 : Int32) (x2 : Int32) : Int32 × gM :=
  bnd (wrI M 67 0 0 0 0) fun M1 =>
  (if (f_X13_isPerson M1 x1) = 0 then
    (((-1), M1))
  else
    (if (f_X13_isPerson M1 x2) = 0 then
      (((-1), M1))
    else
      (f_X13_kin_30 M1 x2 FU (1 <<< (x1 &&& 31)) 0)))
def s_X13_kin (M : gM) (x1 : Int32) (x2 : Int32) : Prop :=
  bndP (wrI M 67 0 0 0 0) fun M1 =>
  ((s_X13_isPerson M1 x1) ∧
  (if (f_X13_isPerson M1 x1) = 0 then
    (True)
  else
    ((s_X13_isPerson M1 x2) ∧
    (if (f_X13_isPerson M1 x2) = 0 then
      (True)
    else
      (s_X13_kin_30 M1 x2 FU (1 <<< (x1 &&& 31)) 0)))))
theorem o_X13_kin (M : gM) (x1 : Int32) (x2 : Int32) : offW [67] M (f_X13_kin M x1 x2).2 := by
  rw [f_X13_kin]
  refine offB2 (offR.wI (by decide)) (fun M1 oM1 => ?_)
  refine offI2 ?_ ?_
  · exact oM1
  · refine offI2 ?_ ?_
    · exact oM1
    · exact oM1.tr (o_X13_kin_30 M1 x2 FU (1 <<< (x1 &&& 31)) 0)
set_option maxRecDepth 100000 in
set_option maxHeartbeats 4000000 in
theorem t_X13_kin {E : gE} {K : Int32 × gM → Prop} {Q : Option Value → gM → Prop} (hK : ∀ z : Int32 × gM, K z → Q (some (.int z.1)) z.2) (M : gM) (x1 : Int32) (x2 : Int32)  (hs : s_X13_kin M x1 x2) (hQ : K (f_X13_kin M x1 x2)) : gG E RX13 cX13_kin 5 (some .int) (rm 2) 0 [(0, .ref (gla E 226)), (1, .int x1), (2, .int x2)] [] M Q := by
  rw [s_X13_kin] at hs
  rw [f_X13_kin] at hQ
  refine g_aload_n 0 dX13_kin_0 rfl ?_
  refine g_iconst (v := 0) dX13_kin_1 (by decide) ?_
  refine g_putI 226 fd_X13_61 dF_Md rfl dX13_kin_2 (fun M1 hM1 => ?_)
  have hQ := bndQ hQ M1 hM1; have hs := bndS hs M1 hM1
  refine g_aload_n 0 dX13_kin_5 rfl ?_
  refine g_iload_n 1 dX13_kin_6 rfl ?_
  have h2 := hs.1; have hs := hs.2
  refine g_callV (As := [.int x1]) (st := []) 226 (c_X13_isPerson E M1 x1 h2) mt_X13_isPerson ml_X13_206 dF_Md rfl rfl sg_X13_isPerson rfl (by decide) (Nat.le_of_ble_eq_true rfl) dX13_kin_7 ?_
  rintro _ _ ⟨q1, q2⟩; rw [q1, q2]; clear q1 q2
  refine g_if_eq 21 dX13_kin_10 (by decide) (fun c3 => ?_) (fun c3 => ?_)
  · have hs := ifSt hs c3; have hQ := ifQt hQ c3
    refine g_iconst (v := (-1)) dX13_kin_21 (by decide) ?_
    exact g_iret rfl dX13_kin_22 (hK _ hQ)
  · have hs := ifSf hs c3; have hQ := ifQf hQ c3
    refine g_aload_n 0 dX13_kin_13 rfl ?_
    refine g_iload_n 2 dX13_kin_14 rfl ?_
    have h4 := hs.1; have hs := hs.2
    refine g_callV (As := [.int x2]) (st := []) 226 (c_X13_isPerson E M1 x2 h4) mt_X13_isPerson ml_X13_206 dF_Md rfl rfl sg_X13_isPerson rfl (by decide) (Nat.le_of_ble_eq_true rfl) dX13_kin_15 ?_
    rintro _ _ ⟨q1, q2⟩; rw [q1, q2]; clear q1 q2
    refine g_if_ne 23 dX13_kin_18 (by decide) (fun c5 => ?_) (fun c5 => ?_)
    · have hs := ifSf hs c5; have hQ := ifQf hQ c5
      refine g_iconst (v := 1) dX13_kin_23 (by decide) ?_
      refine g_iload_n 1 dX13_kin_24 rfl ?_
      refine g_ishl dX13_kin_25 ?_
      refine g_istore_n _ dX13_kin_26 (by decide) rfl ?_
      refine g_iconst (v := 0) dX13_kin_27 (by decide) ?_
      refine g_istore _ dX13_kin_28 (by decide) rfl ?_
      refine g_sub [2, 4, 1, 0] _ rfl ?_
      exact t_X13_kin_30 hK M1 x2 FU (1 <<< (x1 &&& 31)) 0 hs hQ
    · have hs := ifSt hs c5; have hQ := ifQt hQ c5
      refine g_iconst (v := (-1)) dX13_kin_21 (by decide) ?_
      exact g_iret rfl dX13_kin_22 (hK _ hQ)
theorem c_X13_kin (E : gE) (M : gM) (x1 : Int32) (x2 : Int32) (hs : s_X13_kin M x1 x2) : gC E yX13_kin cX13_kin 5 (some .int) (rm 2) [.ref (gla E 226), .int x1, .int x2] M (fun o N => o = some (.int (f_X13_kin M x1 x2).1) ∧ N = (f_X13_kin M x1 x2).2) :=
  gC.of (by decide +kernel) (Nat.le_of_ble_eq_true rfl) rfl (t_X13_kin (K := fun z => z = f_X13_kin M x1 x2) (fun z hz => by rw [hz]; exact ⟨rfl, rfl⟩) M x1 x2 hs rfl)
def f_X13_naming_28 (M : gM) (x1 : Int32) (x2 : Int32)  : Nat → Int32 → Int32 → Int32 × gM
  | 0, _, _ => (0, M)
  | n + 1, x3, x4 =>
    if (rdI M 88 0 0 (nn 2)) ≤ x4 then
      ((x3, M))
    else
      (if (f_X13_of M x4 0) = x1 then
        (bnd (x3 ||| ((((f_X13_namedIn M x4) >>> (x2 &&& 31)) &&& 1) <<< (x4 &&& 31))) fun v11 =>
        (f_X13_naming_28 M x1 x2 n v11 (x4 + 1)))
      else
        (f_X13_naming_28 M x1 x2 n x3 (x4 + 1)))
def s_X13_naming_28 (M : gM) (x1 : Int32) (x2 : Int32)  : Nat → Int32 → Int32 → Prop
  | 0, _, _ => False
  | n + 1, x3, x4 =>
    (vp_in 2 502) ∧
    (if (rdI M 88 0 0 (nn 2)) ≤ x4 then
      (True)
    else
      ((s_X13_of M x4 0) ∧
      (if (f_X13_of M x4 0) = x1 then
        ((s_X13_namedIn M x4) ∧
        (bndP (x3 ||| ((((f_X13_namedIn M x4) >>> (x2 &&& 31)) &&& 1) <<< (x4 &&& 31))) fun v11 =>
        (s_X13_naming_28 M x1 x2 n v11 (x4 + 1))))
      else
        (s_X13_naming_28 M x1 x2 n x3 (x4 + 1)))))
theorem o_X13_naming_28 (M : gM) (x1 : Int32) (x2 : Int32)  : ∀ (n : Nat) (x3 : Int32) (x4 : Int32), offW [67] M (f_X13_naming_28 M x1 x2  n x3 x4).2 := by
  intro n
  induction n with
  | zero => intro x3 x4; exact offR
  | succ n ih =>
    intro x3 x4
    rw [f_X13_naming_28]
    refine offI2 ?_ ?_
    · exact offR
    · refine offI2 ?_ ?_
      · refine offV2 (fun v11 => ?_)
        exact (ih v11 (x4 + 1))
      · exact (ih x3 (x4 + 1))
set_option maxRecDepth 100000 in
set_option maxHeartbeats 4000000 in
theorem t_X13_naming_28 {E : gE} {K : Int32 × gM → Prop} {Q : Option Value → gM → Prop} (hK : ∀ z : Int32 × gM, K z → Q (some (.int z.1)) z.2) (M : gM) (x1 : Int32) (x2 : Int32)   : ∀ (n : Nat) (x3 : Int32) (x4 : Int32) , s_X13_naming_28 M x1 x2  n x3 x4 → K (f_X13_naming_28 M x1 x2  n x3 x4) → gG E RX13 cX13_naming 5 (some .int) (rm 2) 28 [(0, .ref (gla E 226)), (1, .int x1), (2, .int x2), (3, .int x3), (4, .int x4)] [] M Q := by
  intro n
  induction n with
  | zero => intro x3 x4 hs hQ; exact (hs : False).elim
  | succ n ih =>
    intro x3 x4 hs hQ
    rw [s_X13_naming_28] at hs
    rw [f_X13_naming_28] at hQ
    refine g_iload 4 dX13_naming_28 rfl ?_
    refine g_aload_n 0 dX13_naming_30 rfl ?_
    refine g_getR 226 228 fd_X13_13 dF_Md rfl rfl dX13_naming_31 ?_
    refine g_iconst (v := 2) dX13_naming_34 (by decide) ?_
    have h6 := hs.1; have hs := hs.2
    refine g_iald 228 dF_Md_world h6 dX13_naming_35 ?_
    refine g_icmp_ge 72 dX13_naming_36 (by decide) (fun c7 => ?_) (fun c7 => ?_)
    · have hs := ifSt hs c7; have hQ := ifQt hQ c7
      refine g_iload_n 3 dX13_naming_72 rfl ?_
      exact g_iret rfl dX13_naming_73 (hK _ hQ)
    · have hs := ifSf hs c7; have hQ := ifQf hQ c7
      refine g_aload_n 0 dX13_naming_39 rfl ?_
      refine g_iload 4 dX13_naming_40 rfl ?_
      refine g_iconst (v := 0) dX13_naming_42 (by decide) ?_
      have h8 := hs.1; have hs := hs.2
      refine g_callV (As := [.int x4, .int 0]) (st := []) 226 (c_X13_of E M x4 0 h8) mt_X13_of ml_X13_218 dF_Md rfl rfl sg_X13_of rfl (by decide) (Nat.le_of_ble_eq_true rfl) dX13_naming_43 ?_
      rintro _ _ ⟨q1, q2⟩; rw [q1, q2]; clear q1 q2
      refine g_iload_n 1 dX13_naming_46 rfl ?_
      refine g_icmp_ne 66 dX13_naming_47 (by decide) (fun c9 => ?_) (fun c9 => ?_)
      · have hs := ifSf hs c9; have hQ := ifQf hQ c9
        refine g_iinc 4 (v := x4 + 1) _ dX13_naming_66 rfl rfl (by decide) rfl ?_
        refine g_goto 28 dX13_naming_69 (by decide) ?_
        refine g_sub [1, 2, 3, 4, 0] _ rfl ?_
        exact ih x3 (x4 + 1) hs hQ
      · have hs := ifSt hs c9; have hQ := ifQt hQ c9
        refine g_iload_n 3 dX13_naming_50 rfl ?_
        refine g_aload_n 0 dX13_naming_51 rfl ?_
        refine g_iload 4 dX13_naming_52 rfl ?_
        have h10 := hs.1; have hs := hs.2
        refine g_callV (As := [.int x4]) (st := [.int x3]) 226 (c_X13_namedIn E M x4 h10) mt_X13_namedIn ml_X13_343 dF_Md rfl rfl sg_X13_namedIn rfl (by decide) (Nat.le_of_ble_eq_true rfl) dX13_naming_54 ?_
        rintro _ _ ⟨q1, q2⟩; rw [q1, q2]; clear q1 q2
        refine g_iload_n 2 dX13_naming_57 rfl ?_
        refine g_ishr dX13_naming_58 ?_
        refine g_iconst (v := 1) dX13_naming_59 (by decide) ?_
        refine g_iand dX13_naming_60 ?_
        refine g_iload 4 dX13_naming_61 rfl ?_
        refine g_ishl dX13_naming_63 ?_
        refine g_ior dX13_naming_64 ?_
        refine g_topI (fun v11 hv11 => ?_)
        have hQ := bndQ hQ v11 hv11; have hs := bndS hs v11 hv11
        refine g_istore_n _ dX13_naming_65 (by decide) rfl ?_
        refine g_iinc 4 (v := x4 + 1) _ dX13_naming_66 rfl rfl (by decide) rfl ?_
        refine g_goto 28 dX13_naming_69 (by decide) ?_
        refine g_sub [2, 3, 4, 1, 0] _ rfl ?_
        exact ih v11 (x4 + 1) hs hQ
def f_X13_naming (M : gM) (x1 : Int32) (x2 : Int32) : Int32 × gM :=
  bnd (wrI M 67 0 0 0 0) fun M1 =>
  (if (f_X13_isPerson M1 x1) = 0 then
    (((-1), M1))
  else
    (if (f_X13_isPerson M1 x2) = 0 then
      (((-1), M1))
    else
      (f_X13_naming_28 M1 x1 x2 FU 0 0)))
def s_X13_naming (M : gM) (x1 : Int32) (x2 : Int32) : Prop :=
  bndP (wrI M 67 0 0 0 0) fun M1 =>
  ((s_X13_isPerson M1 x1) ∧
  (if (f_X13_isPerson M1 x1) = 0 then
    (True)
  else
    ((s_X13_isPerson M1 x2) ∧
    (if (f_X13_isPerson M1 x2) = 0 then
      (True)
    else
      (s_X13_naming_28 M1 x1 x2 FU 0 0)))))
theorem o_X13_naming (M : gM) (x1 : Int32) (x2 : Int32) : offW [67] M (f_X13_naming M x1 x2).2 := by
  rw [f_X13_naming]
  refine offB2 (offR.wI (by decide)) (fun M1 oM1 => ?_)
  refine offI2 ?_ ?_
  · exact oM1
  · refine offI2 ?_ ?_
    · exact oM1
    · exact oM1.tr (o_X13_naming_28 M1 x1 x2 FU 0 0)
set_option maxRecDepth 100000 in
set_option maxHeartbeats 4000000 in
theorem t_X13_naming {E : gE} {K : Int32 × gM → Prop} {Q : Option Value → gM → Prop} (hK : ∀ z : Int32 × gM, K z → Q (some (.int z.1)) z.2) (M : gM) (x1 : Int32) (x2 : Int32)  (hs : s_X13_naming M x1 x2) (hQ : K (f_X13_naming M x1 x2)) : gG E RX13 cX13_naming 5 (some .int) (rm 2) 0 [(0, .ref (gla E 226)), (1, .int x1), (2, .int x2)] [] M Q := by
  rw [s_X13_naming] at hs
  rw [f_X13_naming] at hQ
  refine g_aload_n 0 dX13_naming_0 rfl ?_
  refine g_iconst (v := 0) dX13_naming_1 (by decide) ?_
  refine g_putI 226 fd_X13_61 dF_Md rfl dX13_naming_2 (fun M1 hM1 => ?_)
  have hQ := bndQ hQ M1 hM1; have hs := bndS hs M1 hM1
  refine g_aload_n 0 dX13_naming_5 rfl ?_
  refine g_iload_n 1 dX13_naming_6 rfl ?_
  have h2 := hs.1; have hs := hs.2
  refine g_callV (As := [.int x1]) (st := []) 226 (c_X13_isPerson E M1 x1 h2) mt_X13_isPerson ml_X13_206 dF_Md rfl rfl sg_X13_isPerson rfl (by decide) (Nat.le_of_ble_eq_true rfl) dX13_naming_7 ?_
  rintro _ _ ⟨q1, q2⟩; rw [q1, q2]; clear q1 q2
  refine g_if_eq 21 dX13_naming_10 (by decide) (fun c3 => ?_) (fun c3 => ?_)
  · have hs := ifSt hs c3; have hQ := ifQt hQ c3
    refine g_iconst (v := (-1)) dX13_naming_21 (by decide) ?_
    exact g_iret rfl dX13_naming_22 (hK _ hQ)
  · have hs := ifSf hs c3; have hQ := ifQf hQ c3
    refine g_aload_n 0 dX13_naming_13 rfl ?_
    refine g_iload_n 2 dX13_naming_14 rfl ?_
    have h4 := hs.1; have hs := hs.2
    refine g_callV (As := [.int x2]) (st := []) 226 (c_X13_isPerson E M1 x2 h4) mt_X13_isPerson ml_X13_206 dF_Md rfl rfl sg_X13_isPerson rfl (by decide) (Nat.le_of_ble_eq_true rfl) dX13_naming_15 ?_
    rintro _ _ ⟨q1, q2⟩; rw [q1, q2]; clear q1 q2
    refine g_if_ne 23 dX13_naming_18 (by decide) (fun c5 => ?_) (fun c5 => ?_)
    · have hs := ifSf hs c5; have hQ := ifQf hQ c5
      refine g_iconst (v := 0) dX13_naming_23 (by decide) ?_
      refine g_istore_n _ dX13_naming_24 (by decide) rfl ?_
      refine g_iconst (v := 0) dX13_naming_25 (by decide) ?_
      refine g_istore _ dX13_naming_26 (by decide) rfl ?_
      refine g_sub [2, 3, 4, 1, 0] _ rfl ?_
      exact t_X13_naming_28 hK M1 x1 x2 FU 0 0 hs hQ
    · have hs := ifSt hs c5; have hQ := ifQt hQ c5
      refine g_iconst (v := (-1)) dX13_naming_21 (by decide) ?_
      exact g_iret rfl dX13_naming_22 (hK _ hQ)
theorem c_X13_naming (E : gE) (M : gM) (x1 : Int32) (x2 : Int32) (hs : s_X13_naming M x1 x2) : gC E yX13_naming cX13_naming 5 (some .int) (rm 2) [.ref (gla E 226), .int x1, .int x2] M (fun o N => o = some (.int (f_X13_naming M x1 x2).1) ∧ N = (f_X13_naming M x1 x2).2) :=
  gC.of (by decide +kernel) (Nat.le_of_ble_eq_true rfl) rfl (t_X13_naming (K := fun z => z = f_X13_naming M x1 x2) (fun z hz => by rw [hz]; exact ⟨rfl, rfl⟩) M x1 x2 hs rfl)
def f_X13_count (M : gM) (x1 : Int32) : Int32 × gM :=
  bnd (wrI M 67 0 0 0 0) fun M1 =>
  (if x1 = 0 then
    ((rdI M1 88 0 0 (nn 3), M1))
  else
    (if x1 = 1 then
      ((rdI M1 88 0 0 (nn 0), M1))
    else
      (if x1 = 2 then
        ((rdI M1 88 0 0 (nn 1), M1))
      else
        (if x1 = 3 then
          ((rdI M1 88 0 0 (nn 2), M1))
        else
          (if x1 = 4 then
            ((rdI M1 92 0 0 (nn 64), M1))
          else
            (if x1 = 5 then
              ((f_X13_manyLost M1, M1))
            else
              (if x1 = 6 then
                ((f_X13_manyDie M1, M1))
              else
                (if x1 = 7 then
                  ((rdI M1 69 0 0 0, M1))
                else
                  (if x1 = 8 then
                    ((rdI M1 68 0 0 0, M1))
                  else
                    (((-1), M1)))))))))))
def s_X13_count (M : gM) (x1 : Int32) : Prop :=
  bndP (wrI M 67 0 0 0 0) fun M1 =>
  (if x1 = 0 then
    ((vp_in 3 502) ∧
    (True))
  else
    (if x1 = 1 then
      ((vp_in 0 502) ∧
      (True))
    else
      (if x1 = 2 then
        ((vp_in 1 502) ∧
        (True))
      else
        (if x1 = 3 then
          ((vp_in 2 502) ∧
          (True))
        else
          (if x1 = 4 then
            ((vp_in 64 65) ∧
            (True))
          else
            (if x1 = 5 then
              ((s_X13_manyLost M1) ∧
              (True))
            else
              (if x1 = 6 then
                ((s_X13_manyDie M1) ∧
                (True))
              else
                (if x1 = 7 then
                  (True)
                else
                  (if x1 = 8 then
                    (True)
                  else
                    (True))))))))))
theorem o_X13_count (M : gM) (x1 : Int32) : offW [67] M (f_X13_count M x1).2 := by
  rw [f_X13_count]
  refine offB2 (offR.wI (by decide)) (fun M1 oM1 => ?_)
  refine offI2 ?_ ?_
  · exact oM1
  refine offI2 ?_ ?_
  · exact oM1
  refine offI2 ?_ ?_
  · exact oM1
  refine offI2 ?_ ?_
  · exact oM1
  refine offI2 ?_ ?_
  · exact oM1
  refine offI2 ?_ ?_
  · exact oM1
  refine offI2 ?_ ?_
  · exact oM1
  refine offI2 ?_ ?_
  · exact oM1
  refine offI2 ?_ ?_
  · exact oM1
  exact oM1
set_option maxRecDepth 100000 in
set_option maxHeartbeats 4000000 in
theorem t_X13_count {E : gE} {K : Int32 × gM → Prop} {Q : Option Value → gM → Prop} (hK : ∀ z : Int32 × gM, K z → Q (some (.int z.1)) z.2) (M : gM) (x1 : Int32)  (hs : s_X13_count M x1) (hQ : K (f_X13_count M x1)) : gG E RX13 cX13_count 2 (some .int) (rm 2) 0 [(0, .ref (gla E 226)), (1, .int x1)] [] M Q := by
  rw [s_X13_count] at hs
  rw [f_X13_count] at hQ
  refine g_aload_n 0 dX13_count_0 rfl ?_
  refine g_iconst (v := 0) dX13_count_1 (by decide) ?_
  refine g_putI 226 fd_X13_61 dF_Md rfl dX13_count_2 (fun M1 hM1 => ?_)
  have hQ := bndQ hQ M1 hM1; have hs := bndS hs M1 hM1
  refine g_iload_n 1 dX13_count_5 rfl ?_
  by_cases c9 : x1 = 0
  · have hs := ifSt hs c9; have hQ := ifQt hQ c9
    refine g_tin 56 (k := 0) (z := 0) (off := 50) c9 dX13_count_6 (by decide) (by decide) (by decide) rfl (by decide) ?_
    refine g_aload_n 0 dX13_count_56 rfl ?_
    refine g_getR 226 228 fd_X13_13 dF_Md rfl rfl dX13_count_57 ?_
    refine g_iconst (v := 3) dX13_count_60 (by decide) ?_
    have h2 := hs.1; have hs := hs.2
    refine g_iald 228 dF_Md_world h2 dX13_count_61 ?_
    exact g_iret rfl dX13_count_62 (hK _ hQ)
  have hs := ifSf hs c9; have hQ := ifQf hQ c9
  by_cases c10 : x1 = 1
  · have hs := ifSt hs c10; have hQ := ifQt hQ c10
    refine g_tin 63 (k := 1) (z := 1) (off := 57) c10 dX13_count_6 (by decide) (by decide) (by decide) rfl (by decide) ?_
    refine g_aload_n 0 dX13_count_63 rfl ?_
    refine g_getR 226 228 fd_X13_13 dF_Md rfl rfl dX13_count_64 ?_
    refine g_iconst (v := 0) dX13_count_67 (by decide) ?_
    have h3 := hs.1; have hs := hs.2
    refine g_iald 228 dF_Md_world h3 dX13_count_68 ?_
    exact g_iret rfl dX13_count_69 (hK _ hQ)
  have hs := ifSf hs c10; have hQ := ifQf hQ c10
  by_cases c11 : x1 = 2
  · have hs := ifSt hs c11; have hQ := ifQt hQ c11
    refine g_tin 70 (k := 2) (z := 2) (off := 64) c11 dX13_count_6 (by decide) (by decide) (by decide) rfl (by decide) ?_
    refine g_aload_n 0 dX13_count_70 rfl ?_
    refine g_getR 226 228 fd_X13_13 dF_Md rfl rfl dX13_count_71 ?_
    refine g_iconst (v := 1) dX13_count_74 (by decide) ?_
    have h4 := hs.1; have hs := hs.2
    refine g_iald 228 dF_Md_world h4 dX13_count_75 ?_
    exact g_iret rfl dX13_count_76 (hK _ hQ)
  have hs := ifSf hs c11; have hQ := ifQf hQ c11
  by_cases c12 : x1 = 3
  · have hs := ifSt hs c12; have hQ := ifQt hQ c12
    refine g_tin 77 (k := 3) (z := 3) (off := 71) c12 dX13_count_6 (by decide) (by decide) (by decide) rfl (by decide) ?_
    refine g_aload_n 0 dX13_count_77 rfl ?_
    refine g_getR 226 228 fd_X13_13 dF_Md rfl rfl dX13_count_78 ?_
    refine g_iconst (v := 2) dX13_count_81 (by decide) ?_
    have h5 := hs.1; have hs := hs.2
    refine g_iald 228 dF_Md_world h5 dX13_count_82 ?_
    exact g_iret rfl dX13_count_83 (hK _ hQ)
  have hs := ifSf hs c12; have hQ := ifQf hQ c12
  by_cases c13 : x1 = 4
  · have hs := ifSt hs c13; have hQ := ifQt hQ c13
    refine g_tin 84 (k := 4) (z := 4) (off := 78) c13 dX13_count_6 (by decide) (by decide) (by decide) rfl (by decide) ?_
    refine g_aload_n 0 dX13_count_84 rfl ?_
    refine g_getR 226 232 fd_X13_25 dF_Md rfl rfl dX13_count_85 ?_
    refine g_bipush (v := 64) dX13_count_88 (by decide) ?_
    have h6 := hs.1; have hs := hs.2
    refine g_iald 232 dF_Md_now h6 dX13_count_90 ?_
    exact g_iret rfl dX13_count_91 (hK _ hQ)
  have hs := ifSf hs c13; have hQ := ifQf hQ c13
  by_cases c14 : x1 = 5
  · have hs := ifSt hs c14; have hQ := ifQt hQ c14
    refine g_tin 92 (k := 5) (z := 5) (off := 86) c14 dX13_count_6 (by decide) (by decide) (by decide) rfl (by decide) ?_
    refine g_aload_n 0 dX13_count_92 rfl ?_
    have h7 := hs.1; have hs := hs.2
    refine g_callV (As := []) (st := []) 226 (c_X13_manyLost E M1 h7) mt_X13_manyLost ml_X13_370 dF_Md rfl rfl sg_X13_manyLost rfl (by decide) (Nat.le_of_ble_eq_true rfl) dX13_count_93 ?_
    rintro _ _ ⟨q1, q2⟩; rw [q1, q2]; clear q1 q2
    exact g_iret rfl dX13_count_96 (hK _ hQ)
  have hs := ifSf hs c14; have hQ := ifQf hQ c14
  by_cases c15 : x1 = 6
  · have hs := ifSt hs c15; have hQ := ifQt hQ c15
    refine g_tin 97 (k := 6) (z := 6) (off := 91) c15 dX13_count_6 (by decide) (by decide) (by decide) rfl (by decide) ?_
    refine g_aload_n 0 dX13_count_97 rfl ?_
    have h8 := hs.1; have hs := hs.2
    refine g_callV (As := []) (st := []) 226 (c_X13_manyDie E M1 h8) mt_X13_manyDie ml_X13_373 dF_Md rfl rfl sg_X13_manyDie rfl (by decide) (Nat.le_of_ble_eq_true rfl) dX13_count_98 ?_
    rintro _ _ ⟨q1, q2⟩; rw [q1, q2]; clear q1 q2
    exact g_iret rfl dX13_count_101 (hK _ hQ)
  have hs := ifSf hs c15; have hQ := ifQf hQ c15
  by_cases c16 : x1 = 7
  · have hs := ifSt hs c16; have hQ := ifQt hQ c16
    refine g_tin 102 (k := 7) (z := 7) (off := 96) c16 dX13_count_6 (by decide) (by decide) (by decide) rfl (by decide) ?_
    refine g_aload_n 0 dX13_count_102 rfl ?_
    refine g_getI 226 fd_X13_194 dF_Md rfl dX13_count_103 ?_
    exact g_iret rfl dX13_count_106 (hK _ hQ)
  have hs := ifSf hs c16; have hQ := ifQf hQ c16
  by_cases c17 : x1 = 8
  · have hs := ifSt hs c17; have hQ := ifQt hQ c17
    refine g_tin 107 (k := 8) (z := 8) (off := 101) c17 dX13_count_6 (by decide) (by decide) (by decide) rfl (by decide) ?_
    refine g_aload_n 0 dX13_count_107 rfl ?_
    refine g_getI 226 fd_X13_64 dF_Md rfl dX13_count_108 ?_
    exact g_iret rfl dX13_count_111 (hK _ hQ)
  have hs := ifSf hs c17; have hQ := ifQf hQ c17
  refine g_tdf 112 dX13_count_6 (fun h1 h2 => by have ec9 : ¬ Int32.toInt x1 = 0 := ne_ti c9 (by decide); have ec10 : ¬ Int32.toInt x1 = 1 := ne_ti c10 (by decide); have ec11 : ¬ Int32.toInt x1 = 2 := ne_ti c11 (by decide); have ec12 : ¬ Int32.toInt x1 = 3 := ne_ti c12 (by decide); have ec13 : ¬ Int32.toInt x1 = 4 := ne_ti c13 (by decide); have ec14 : ¬ Int32.toInt x1 = 5 := ne_ti c14 (by decide); have ec15 : ¬ Int32.toInt x1 = 6 := ne_ti c15 (by decide); have ec16 : ¬ Int32.toInt x1 = 7 := ne_ti c16 (by decide); have ec17 : ¬ Int32.toInt x1 = 8 := ne_ti c17 (by decide); exfalso; omega) (by decide) ?_
  refine g_iconst (v := (-1)) dX13_count_112 (by decide) ?_
  exact g_iret rfl dX13_count_113 (hK _ hQ)
theorem c_X13_count (E : gE) (M : gM) (x1 : Int32) (hs : s_X13_count M x1) : gC E yX13_count cX13_count 2 (some .int) (rm 2) [.ref (gla E 226), .int x1] M (fun o N => o = some (.int (f_X13_count M x1).1) ∧ N = (f_X13_count M x1).2) :=
  gC.of (by decide +kernel) (Nat.le_of_ble_eq_true rfl) rfl (t_X13_count (K := fun z => z = f_X13_count M x1) (fun z hz => by rw [hz]; exact ⟨rfl, rfl⟩) M x1 hs rfl)
def f_X13_hasForm_37 (M : gM)  : Int32 :=
  1
def s_X13_hasForm_37 (M : gM)  : Prop :=
  True
set_option maxRecDepth 100000 in
set_option maxHeartbeats 4000000 in
theorem t_X13_hasForm_37 {E : gE} {K : Int32 → Prop} {Q : Option Value → gM → Prop} {M : gM} (hK : ∀ z : Int32, K z → Q (some (.int z)) M)    (hs : s_X13_hasForm_37 M ) (hQ : K (f_X13_hasForm_37 M )) : gG E RX13 cX13_hasForm 3 (some .boolean) (rm 3) 37 [] [] M Q := by
  rw [s_X13_hasForm_37] at hs
  rw [f_X13_hasForm_37] at hQ
  refine g_iconst (v := 1) dX13_hasForm_37 (by decide) ?_
  refine g_goto 42 dX13_hasForm_38 (by decide) ?_
  exact g_zret rfl (Or.inr rfl) dX13_hasForm_42 (hK _ hQ)
def f_X13_hasForm_41 (M : gM)  : Int32 :=
  0
def s_X13_hasForm_41 (M : gM)  : Prop :=
  True
set_option maxRecDepth 100000 in
set_option maxHeartbeats 4000000 in
theorem t_X13_hasForm_41 {E : gE} {K : Int32 → Prop} {Q : Option Value → gM → Prop} {M : gM} (hK : ∀ z : Int32, K z → Q (some (.int z)) M)    (hs : s_X13_hasForm_41 M ) (hQ : K (f_X13_hasForm_41 M )) : gG E RX13 cX13_hasForm 3 (some .boolean) (rm 3) 41 [] [] M Q := by
  rw [s_X13_hasForm_41] at hs
  rw [f_X13_hasForm_41] at hQ
  refine g_iconst (v := 0) dX13_hasForm_41 (by decide) ?_
  exact g_zret rfl (Or.inl rfl) dX13_hasForm_42 (hK _ hQ)
def f_X13_hasForm (M : gM) (x1 : Int32) (x2 : Int32) : Int32 :=
  if (rdI M 88 0 0 (nn (4 + (5 * x2)))) ≤ (f_X13_living M x1) then
    (f_X13_hasForm_37 M)
  else
    (if (f_X13_of M x1 4) = 1 then
      (if (f_X13_has M x2 1) = 0 then
        (f_X13_hasForm_41 M)
      else
        (f_X13_hasForm_37 M))
    else
      (f_X13_hasForm_41 M))
def s_X13_hasForm (M : gM) (x1 : Int32) (x2 : Int32) : Prop :=
  (s_X13_living M x1) ∧
  ((vp_in (4 + (5 * x2)) 502) ∧
  (if (rdI M 88 0 0 (nn (4 + (5 * x2)))) ≤ (f_X13_living M x1) then
    (s_X13_hasForm_37 M)
  else
    ((s_X13_of M x1 4) ∧
    (if (f_X13_of M x1 4) = 1 then
      ((s_X13_has M x2 1) ∧
      (if (f_X13_has M x2 1) = 0 then
        (s_X13_hasForm_41 M)
      else
        (s_X13_hasForm_37 M)))
    else
      (s_X13_hasForm_41 M)))))
set_option maxRecDepth 100000 in
set_option maxHeartbeats 4000000 in
theorem t_X13_hasForm {E : gE} {K : Int32 → Prop} {Q : Option Value → gM → Prop} {M : gM} (hK : ∀ z : Int32, K z → Q (some (.int z)) M)  (x1 : Int32) (x2 : Int32)  (hs : s_X13_hasForm M x1 x2) (hQ : K (f_X13_hasForm M x1 x2)) : gG E RX13 cX13_hasForm 3 (some .boolean) (rm 3) 0 [(0, .ref (gla E 226)), (1, .int x1), (2, .int x2)] [] M Q := by
  rw [s_X13_hasForm] at hs
  rw [f_X13_hasForm] at hQ
  refine g_aload_n 0 dX13_hasForm_0 rfl ?_
  refine g_iload_n 1 dX13_hasForm_1 rfl ?_
  have h1 := hs.1; have hs := hs.2
  refine g_callV (As := [.int x1]) (st := []) 226 (c_X13_living E M x1 h1) mt_X13_living ml_X13_236 dF_Md rfl rfl sg_X13_living rfl (by decide) (Nat.le_of_ble_eq_true rfl) dX13_hasForm_2 ?_
  rintro _ _ ⟨q1, q2⟩; rw [q1, q2]; clear q1 q2
  refine g_aload_n 0 dX13_hasForm_5 rfl ?_
  refine g_getR 226 228 fd_X13_13 dF_Md rfl rfl dX13_hasForm_6 ?_
  refine g_iconst (v := 4) dX13_hasForm_9 (by decide) ?_
  refine g_iconst (v := 5) dX13_hasForm_10 (by decide) ?_
  refine g_iload_n 2 dX13_hasForm_11 rfl ?_
  refine g_imul dX13_hasForm_12 ?_
  refine g_iadd dX13_hasForm_13 ?_
  have h2 := hs.1; have hs := hs.2
  refine g_iald 228 dF_Md_world h2 dX13_hasForm_14 ?_
  refine g_icmp_ge 37 dX13_hasForm_15 (by decide) (fun c3 => ?_) (fun c3 => ?_)
  · have hs := ifSt hs c3; have hQ := ifQt hQ c3
    refine g_sub [] _ rfl ?_
    exact t_X13_hasForm_37 hK hs hQ
  · have hs := ifSf hs c3; have hQ := ifQf hQ c3
    refine g_aload_n 0 dX13_hasForm_18 rfl ?_
    refine g_iload_n 1 dX13_hasForm_19 rfl ?_
    refine g_iconst (v := 4) dX13_hasForm_20 (by decide) ?_
    have h4 := hs.1; have hs := hs.2
    refine g_callV (As := [.int x1, .int 4]) (st := []) 226 (c_X13_of E M x1 4 h4) mt_X13_of ml_X13_218 dF_Md rfl rfl sg_X13_of rfl (by decide) (Nat.le_of_ble_eq_true rfl) dX13_hasForm_21 ?_
    rintro _ _ ⟨q1, q2⟩; rw [q1, q2]; clear q1 q2
    refine g_iconst (v := 1) dX13_hasForm_24 (by decide) ?_
    refine g_icmp_ne 41 dX13_hasForm_25 (by decide) (fun c5 => ?_) (fun c5 => ?_)
    · have hs := ifSf hs c5; have hQ := ifQf hQ c5
      refine g_sub [] _ rfl ?_
      exact t_X13_hasForm_41 hK hs hQ
    · have hs := ifSt hs c5; have hQ := ifQt hQ c5
      refine g_aload_n 0 dX13_hasForm_28 rfl ?_
      refine g_iload_n 2 dX13_hasForm_29 rfl ?_
      refine g_iconst (v := 1) dX13_hasForm_30 (by decide) ?_
      have h6 := hs.1; have hs := hs.2
      refine g_callV (As := [.int x2, .int 1]) (st := []) 226 (c_X13_has E M x2 1 h6) mt_X13_has ml_X13_239 dF_Md rfl rfl sg_X13_has rfl (by decide) (Nat.le_of_ble_eq_true rfl) dX13_hasForm_31 ?_
      rintro _ _ ⟨q1, q2⟩; rw [q1, q2]; clear q1 q2
      refine g_if_eq 41 dX13_hasForm_34 (by decide) (fun c7 => ?_) (fun c7 => ?_)
      · have hs := ifSt hs c7; have hQ := ifQt hQ c7
        refine g_sub [] _ rfl ?_
        exact t_X13_hasForm_41 hK hs hQ
      · have hs := ifSf hs c7; have hQ := ifQf hQ c7
        refine g_sub [] _ rfl ?_
        exact t_X13_hasForm_37 hK hs hQ
theorem c_X13_hasForm (E : gE) (M : gM) (x1 : Int32) (x2 : Int32) (hs : s_X13_hasForm M x1 x2) : gC E yX13_hasForm cX13_hasForm 3 (some .boolean) (rm 3) [.ref (gla E 226), .int x1, .int x2] M (fun o N => o = some (.int (f_X13_hasForm M x1 x2)) ∧ N = M) :=
  gC.of (by decide +kernel) (Nat.le_of_ble_eq_true rfl) rfl (t_X13_hasForm (K := fun z => z = f_X13_hasForm M x1 x2) (fun z hz => by rw [hz]; exact ⟨rfl, rfl⟩) x1 x2 hs rfl)
def f_X13_takerBy_90 (M : gM) (x1 : Int32) (x2 : Int32) (x3 : Int32) (x4 : Int32) (x5 : Int32) (x6 : Int32) (k3 : Int32 → Int32) : Int32 :=
  if (f_X13_mayTake M x1 x2 (rdI M 88 0 0 (nn (x6 + 1))) x3) = 0 then
    (if (f_X13_mayTake M x1 x2 (rdI M 88 0 0 (nn (x6 + 4))) x3) = 0 then
      (k3 (x5 + 1))
    else
      (rdI M 88 0 0 (nn (x6 + 4))))
  else
    (rdI M 88 0 0 (nn (x6 + 1)))
def s_X13_takerBy_90 (M : gM) (x1 : Int32) (x2 : Int32) (x3 : Int32) (x4 : Int32) (x5 : Int32) (x6 : Int32) (q3 : Int32 → Prop) : Prop :=
  (vp_in (x6 + 1) 502) ∧
  ((s_X13_mayTake M x1 x2 (rdI M 88 0 0 (nn (x6 + 1))) x3) ∧
  (if (f_X13_mayTake M x1 x2 (rdI M 88 0 0 (nn (x6 + 1))) x3) = 0 then
    ((vp_in (x6 + 4) 502) ∧
    ((s_X13_mayTake M x1 x2 (rdI M 88 0 0 (nn (x6 + 4))) x3) ∧
    (if (f_X13_mayTake M x1 x2 (rdI M 88 0 0 (nn (x6 + 4))) x3) = 0 then
      (q3 (x5 + 1))
    else
      ((vp_in (x6 + 4) 502) ∧
      (True)))))
  else
    ((vp_in (x6 + 1) 502) ∧
    (True))))
set_option maxRecDepth 100000 in
set_option maxHeartbeats 4000000 in
theorem t_X13_takerBy_90 {E : gE} {K : Int32 → Prop} {Q : Option Value → gM → Prop} {M : gM} (hK : ∀ z : Int32, K z → Q (some (.int z)) M) (x1 : Int32) (x2 : Int32) (x3 : Int32) (x4 : Int32) (x5 : Int32) (x6 : Int32)  (k3 : Int32 → Int32) (q3 : Int32 → Prop) (hk3 : ∀ (x5 : Int32) , q3 x5 → K (k3 x5) → gG E RX13 cX13_takerBy 8 (some .int) (rm 3) 3 [(0, .ref (gla E 226)), (1, .int x1), (2, .int x2), (3, .int x3), (4, .int x4), (5, .int x5)] [] M Q) (hs : s_X13_takerBy_90 M x1 x2 x3 x4 x5 x6 q3) (hQ : K (f_X13_takerBy_90 M x1 x2 x3 x4 x5 x6 k3)) : gG E RX13 cX13_takerBy 8 (some .int) (rm 3) 90 [(0, .ref (gla E 226)), (1, .int x1), (2, .int x2), (3, .int x3), (4, .int x4), (5, .int x5), (6, .int x6)] [] M Q := by
  rw [s_X13_takerBy_90] at hs
  rw [f_X13_takerBy_90] at hQ
  refine g_aload_n 0 dX13_takerBy_90 rfl ?_
  refine g_iload_n 1 dX13_takerBy_91 rfl ?_
  refine g_iload_n 2 dX13_takerBy_92 rfl ?_
  refine g_aload_n 0 dX13_takerBy_93 rfl ?_
  refine g_getR 226 228 fd_X13_13 dF_Md rfl rfl dX13_takerBy_94 ?_
  refine g_iload 6 dX13_takerBy_97 rfl ?_
  refine g_iconst (v := 1) dX13_takerBy_99 (by decide) ?_
  refine g_iadd dX13_takerBy_100 ?_
  have h12 := hs.1; have hs := hs.2
  refine g_iald 228 dF_Md_world h12 dX13_takerBy_101 ?_
  refine g_iload_n 3 dX13_takerBy_102 rfl ?_
  have h13 := hs.1; have hs := hs.2
  refine g_callV (As := [.int x1, .int x2, .int (rdI M 88 0 0 (nn (x6 + 1))), .int x3]) (st := []) 226 (c_X13_mayTake E M x1 x2 (rdI M 88 0 0 (nn (x6 + 1))) x3 h13) mt_X13_mayTake ml_X13_270 dF_Md rfl rfl sg_X13_mayTake rfl (by decide) (Nat.le_of_ble_eq_true rfl) dX13_takerBy_103 ?_
  rintro _ _ ⟨q1, q2⟩; rw [q1, q2]; clear q1 q2
  refine g_if_eq 119 dX13_takerBy_106 (by decide) (fun c14 => ?_) (fun c14 => ?_)
  · have hs := ifSt hs c14; have hQ := ifQt hQ c14
    refine g_aload_n 0 dX13_takerBy_119 rfl ?_
    refine g_iload_n 1 dX13_takerBy_120 rfl ?_
    refine g_iload_n 2 dX13_takerBy_121 rfl ?_
    refine g_aload_n 0 dX13_takerBy_122 rfl ?_
    refine g_getR 226 228 fd_X13_13 dF_Md rfl rfl dX13_takerBy_123 ?_
    refine g_iload 6 dX13_takerBy_126 rfl ?_
    refine g_iconst (v := 4) dX13_takerBy_128 (by decide) ?_
    refine g_iadd dX13_takerBy_129 ?_
    have h15 := hs.1; have hs := hs.2
    refine g_iald 228 dF_Md_world h15 dX13_takerBy_130 ?_
    refine g_iload_n 3 dX13_takerBy_131 rfl ?_
    have h16 := hs.1; have hs := hs.2
    refine g_callV (As := [.int x1, .int x2, .int (rdI M 88 0 0 (nn (x6 + 4))), .int x3]) (st := []) 226 (c_X13_mayTake E M x1 x2 (rdI M 88 0 0 (nn (x6 + 4))) x3 h16) mt_X13_mayTake ml_X13_270 dF_Md rfl rfl sg_X13_mayTake rfl (by decide) (Nat.le_of_ble_eq_true rfl) dX13_takerBy_132 ?_
    rintro _ _ ⟨q1, q2⟩; rw [q1, q2]; clear q1 q2
    refine g_if_eq 148 dX13_takerBy_135 (by decide) (fun c17 => ?_) (fun c17 => ?_)
    · have hs := ifSt hs c17; have hQ := ifQt hQ c17
      refine g_iinc 5 (v := x5 + 1) _ dX13_takerBy_148 rfl rfl (by decide) rfl ?_
      refine g_goto 3 dX13_takerBy_151 (by decide) ?_
      refine g_sub [1, 2, 3, 4, 5, 0] _ rfl ?_
      exact hk3 (x5 + 1) hs hQ
    · have hs := ifSf hs c17; have hQ := ifQf hQ c17
      refine g_aload_n 0 dX13_takerBy_138 rfl ?_
      refine g_getR 226 228 fd_X13_13 dF_Md rfl rfl dX13_takerBy_139 ?_
      refine g_iload 6 dX13_takerBy_142 rfl ?_
      refine g_iconst (v := 4) dX13_takerBy_144 (by decide) ?_
      refine g_iadd dX13_takerBy_145 ?_
      have h18 := hs.1; have hs := hs.2
      refine g_iald 228 dF_Md_world h18 dX13_takerBy_146 ?_
      exact g_iret rfl dX13_takerBy_147 (hK _ hQ)
  · have hs := ifSf hs c14; have hQ := ifQf hQ c14
    refine g_aload_n 0 dX13_takerBy_109 rfl ?_
    refine g_getR 226 228 fd_X13_13 dF_Md rfl rfl dX13_takerBy_110 ?_
    refine g_iload 6 dX13_takerBy_113 rfl ?_
    refine g_iconst (v := 1) dX13_takerBy_115 (by decide) ?_
    refine g_iadd dX13_takerBy_116 ?_
    have h19 := hs.1; have hs := hs.2
    refine g_iald 228 dF_Md_world h19 dX13_takerBy_117 ?_
    exact g_iret rfl dX13_takerBy_118 (hK _ hQ)
def f_X13_takerBy_84 (M : gM) (x1 : Int32) (x2 : Int32) (x3 : Int32) (x4 : Int32) (x5 : Int32) (x6 : Int32) (y0 : Int32) (y1 : Int32) (k3 : Int32 → Int32) : Int32 :=
  if y0 = y1 then
    (f_X13_takerBy_90 M x1 x2 x3 x4 x5 x6 k3)
  else
    (k3 (x5 + 1))
def s_X13_takerBy_84 (M : gM) (x1 : Int32) (x2 : Int32) (x3 : Int32) (x4 : Int32) (x5 : Int32) (x6 : Int32) (y0 : Int32) (y1 : Int32) (q3 : Int32 → Prop) : Prop :=
  if y0 = y1 then
    (s_X13_takerBy_90 M x1 x2 x3 x4 x5 x6 q3)
  else
    (q3 (x5 + 1))
set_option maxRecDepth 100000 in
set_option maxHeartbeats 4000000 in
theorem t_X13_takerBy_84 {E : gE} {K : Int32 → Prop} {Q : Option Value → gM → Prop} {M : gM} (hK : ∀ z : Int32, K z → Q (some (.int z)) M) (x1 : Int32) (x2 : Int32) (x3 : Int32) (x4 : Int32) (x5 : Int32) (x6 : Int32) (y0 : Int32) (y1 : Int32)  (k3 : Int32 → Int32) (q3 : Int32 → Prop) (hk3 : ∀ (x5 : Int32) , q3 x5 → K (k3 x5) → gG E RX13 cX13_takerBy 8 (some .int) (rm 3) 3 [(0, .ref (gla E 226)), (1, .int x1), (2, .int x2), (3, .int x3), (4, .int x4), (5, .int x5)] [] M Q) (hs : s_X13_takerBy_84 M x1 x2 x3 x4 x5 x6 y0 y1 q3) (hQ : K (f_X13_takerBy_84 M x1 x2 x3 x4 x5 x6 y0 y1 k3)) : gG E RX13 cX13_takerBy 8 (some .int) (rm 3) 84 [(0, .ref (gla E 226)), (1, .int x1), (2, .int x2), (3, .int x3), (4, .int x4), (5, .int x5), (6, .int x6)] [.int y1, .int y0] M Q := by
  rw [s_X13_takerBy_84] at hs
  rw [f_X13_takerBy_84] at hQ
  refine g_icmp_eq 90 dX13_takerBy_84 (by decide) (fun c20 => ?_) (fun c20 => ?_)
  · have hs := ifSt hs c20; have hQ := ifQt hQ c20
    exact t_X13_takerBy_90 hK x1 x2 x3 x4 x5 x6 k3 q3 hk3 hs hQ
  · have hs := ifSf hs c20; have hQ := ifQf hQ c20
    refine g_goto 148 dX13_takerBy_87 (by decide) ?_
    refine g_iinc 5 (v := x5 + 1) _ dX13_takerBy_148 rfl rfl (by decide) rfl ?_
    refine g_goto 3 dX13_takerBy_151 (by decide) ?_
    refine g_sub [1, 2, 3, 4, 5, 0] _ rfl ?_
    exact hk3 (x5 + 1) hs hQ
def f_X13_takerBy_3 (M : gM) (x1 : Int32) (x2 : Int32) (x3 : Int32) (x4 : Int32)  : Nat → Int32 → Int32
  | 0, _ => 0
  | n + 1, x5 =>
    if (f_X13_of M x1 5) ≤ x5 then
      (x4)
    else
      (bnd (142 + (5 * ((6 * x1) + x5))) fun v3 =>
      (if (rdI M 88 0 0 (nn v3)) = x2 then
        (bnd (rdI M 88 0 0 (nn (v3 + 2))) fun v7 =>
        (if v7 ≤ 0 then
          (f_X13_takerBy_90 M x1 x2 x3 x4 x5 v3 (f_X13_takerBy_3 M x1 x2 x3 x4 n))
        else
          (if v7 = 1 then
            (f_X13_takerBy_84 M x1 x2 x3 x4 x5 v3 (f_X13_lives M (rdI M 88 0 0 (nn (v3 + 3))) x3) 1 (f_X13_takerBy_3 M x1 x2 x3 x4 n))
          else
            (f_X13_takerBy_84 M x1 x2 x3 x4 x5 v3 (f_X13_lives M (rdI M 88 0 0 (nn (v3 + 3))) x3) 0 (f_X13_takerBy_3 M x1 x2 x3 x4 n)))))
      else
        (f_X13_takerBy_3 M x1 x2 x3 x4 n (x5 + 1))))
def s_X13_takerBy_3 (M : gM) (x1 : Int32) (x2 : Int32) (x3 : Int32) (x4 : Int32)  : Nat → Int32 → Prop
  | 0, _ => False
  | n + 1, x5 =>
    (s_X13_of M x1 5) ∧
    (if (f_X13_of M x1 5) ≤ x5 then
      (True)
    else
      (bndP (142 + (5 * ((6 * x1) + x5))) fun v3 =>
      ((vp_in v3 502) ∧
      (if (rdI M 88 0 0 (nn v3)) = x2 then
        ((vp_in (v3 + 2) 502) ∧
        (bndP (rdI M 88 0 0 (nn (v3 + 2))) fun v7 =>
        (if v7 ≤ 0 then
          (s_X13_takerBy_90 M x1 x2 x3 x4 x5 v3 (s_X13_takerBy_3 M x1 x2 x3 x4 n))
        else
          ((vp_in (v3 + 3) 502) ∧
          ((s_X13_lives M (rdI M 88 0 0 (nn (v3 + 3))) x3) ∧
          (if v7 = 1 then
            (s_X13_takerBy_84 M x1 x2 x3 x4 x5 v3 (f_X13_lives M (rdI M 88 0 0 (nn (v3 + 3))) x3) 1 (s_X13_takerBy_3 M x1 x2 x3 x4 n))
          else
            (s_X13_takerBy_84 M x1 x2 x3 x4 x5 v3 (f_X13_lives M (rdI M 88 0 0 (nn (v3 + 3))) x3) 0 (s_X13_takerBy_3 M x1 x2 x3 x4 n))))))))
      else
        (s_X13_takerBy_3 M x1 x2 x3 x4 n (x5 + 1))))))
set_option maxRecDepth 100000 in
set_option maxHeartbeats 4000000 in
theorem t_X13_takerBy_3 {E : gE} {K : Int32 → Prop} {Q : Option Value → gM → Prop} {M : gM} (hK : ∀ z : Int32, K z → Q (some (.int z)) M) (x1 : Int32) (x2 : Int32) (x3 : Int32) (x4 : Int32)   : ∀ (n : Nat) (x5 : Int32) , s_X13_takerBy_3 M x1 x2 x3 x4  n x5 → K (f_X13_takerBy_3 M x1 x2 x3 x4  n x5) → gG E RX13 cX13_takerBy 8 (some .int) (rm 3) 3 [(0, .ref (gla E 226)), (1, .int x1), (2, .int x2), (3, .int x3), (4, .int x4), (5, .int x5)] [] M Q := by
  intro n
  induction n with
  | zero => intro x5 hs hQ; exact (hs : False).elim
  | succ n ih =>
    intro x5 hs hQ
    rw [s_X13_takerBy_3] at hs
    rw [f_X13_takerBy_3] at hQ
    refine g_iload 5 dX13_takerBy_3 rfl ?_
    refine g_aload_n 0 dX13_takerBy_5 rfl ?_
    refine g_iload_n 1 dX13_takerBy_6 rfl ?_
    refine g_iconst (v := 5) dX13_takerBy_7 (by decide) ?_
    have h1 := hs.1; have hs := hs.2
    refine g_callV (As := [.int x1, .int 5]) (st := [.int x5]) 226 (c_X13_of E M x1 5 h1) mt_X13_of ml_X13_218 dF_Md rfl rfl sg_X13_of rfl (by decide) (Nat.le_of_ble_eq_true rfl) dX13_takerBy_8 ?_
    rintro _ _ ⟨q1, q2⟩; rw [q1, q2]; clear q1 q2
    refine g_icmp_ge 154 dX13_takerBy_11 (by decide) (fun c2 => ?_) (fun c2 => ?_)
    · have hs := ifSt hs c2; have hQ := ifQt hQ c2
      refine g_iload 4 dX13_takerBy_154 rfl ?_
      exact g_iret rfl dX13_takerBy_156 (hK _ hQ)
    · have hs := ifSf hs c2; have hQ := ifQf hQ c2
      refine g_sipush (v := 142) dX13_takerBy_14 (by decide) ?_
      refine g_iconst (v := 5) dX13_takerBy_17 (by decide) ?_
      refine g_bipush (v := 6) dX13_takerBy_18 (by decide) ?_
      refine g_iload_n 1 dX13_takerBy_20 rfl ?_
      refine g_imul dX13_takerBy_21 ?_
      refine g_iload 5 dX13_takerBy_22 rfl ?_
      refine g_iadd dX13_takerBy_24 ?_
      refine g_imul dX13_takerBy_25 ?_
      refine g_iadd dX13_takerBy_26 ?_
      refine g_topI (fun v3 hv3 => ?_)
      have hQ := bndQ hQ v3 hv3; have hs := bndS hs v3 hv3
      refine g_istore _ dX13_takerBy_27 (by decide) rfl ?_
      refine g_aload_n 1 dX13_takerBy_29 rfl ?_
      refine g_getR 226 228 fd_X13_13 dF_Md rfl rfl dX13_takerBy_30 ?_
      refine g_iload 0 dX13_takerBy_33 rfl ?_
      have h4 := hs.1; have hs := hs.2
      refine g_iald 228 dF_Md_world h4 dX13_takerBy_35 ?_
      refine g_iload_n 3 dX13_takerBy_36 rfl ?_
      refine g_icmp_eq 43 dX13_takerBy_37 (by decide) (fun c5 => ?_) (fun c5 => ?_)
      · have hs := ifSt hs c5; have hQ := ifQt hQ c5
        refine g_aload_n 1 dX13_takerBy_43 rfl ?_
        refine g_getR 226 228 fd_X13_13 dF_Md rfl rfl dX13_takerBy_44 ?_
        refine g_iload 0 dX13_takerBy_47 rfl ?_
        refine g_iconst (v := 2) dX13_takerBy_49 (by decide) ?_
        refine g_iadd dX13_takerBy_50 ?_
        have h6 := hs.1; have hs := hs.2
        refine g_iald 228 dF_Md_world h6 dX13_takerBy_51 ?_
        refine g_topI (fun v7 hv7 => ?_)
        have hQ := bndQ hQ v7 hv7; have hs := bndS hs v7 hv7
        refine g_istore _ dX13_takerBy_52 (by decide) rfl ?_
        refine g_iload 0 dX13_takerBy_54 rfl ?_
        refine g_if_le 90 dX13_takerBy_56 (by decide) (fun c8 => ?_) (fun c8 => ?_)
        · have hs := ifSt hs c8; have hQ := ifQt hQ c8
          refine g_sub [2, 3, 4, 5, 6, 7, 1] _ rfl ?_
          exact t_X13_takerBy_90 hK x1 x2 x3 x4 x5 v3 (f_X13_takerBy_3 M x1 x2 x3 x4 n) (s_X13_takerBy_3 M x1 x2 x3 x4 n) ih hs hQ
        · have hs := ifSf hs c8; have hQ := ifQf hQ c8
          refine g_aload_n 2 dX13_takerBy_59 rfl ?_
          refine g_aload_n 2 dX13_takerBy_60 rfl ?_
          refine g_getR 226 228 fd_X13_13 dF_Md rfl rfl dX13_takerBy_61 ?_
          refine g_iload 1 dX13_takerBy_64 rfl ?_
          refine g_iconst (v := 3) dX13_takerBy_66 (by decide) ?_
          refine g_iadd dX13_takerBy_67 ?_
          have h9 := hs.1; have hs := hs.2
          refine g_iald 228 dF_Md_world h9 dX13_takerBy_68 ?_
          refine g_iload_n 5 dX13_takerBy_69 rfl ?_
          have h10 := hs.1; have hs := hs.2
          refine g_callV (As := [.int (rdI M 88 0 0 (nn (v3 + 3))), .int x3]) (st := []) 226 (c_X13_lives E M (rdI M 88 0 0 (nn (v3 + 3))) x3 h10) mt_X13_lives ml_X13_233 dF_Md rfl rfl sg_X13_lives rfl (by decide) (Nat.le_of_ble_eq_true rfl) dX13_takerBy_70 ?_
          rintro _ _ ⟨q1, q2⟩; rw [q1, q2]; clear q1 q2
          refine g_iload 0 dX13_takerBy_73 rfl ?_
          refine g_iconst (v := 1) dX13_takerBy_75 (by decide) ?_
          refine g_icmp_ne 83 dX13_takerBy_76 (by decide) (fun c11 => ?_) (fun c11 => ?_)
          · have hs := ifSf hs c11; have hQ := ifQf hQ c11
            refine g_iconst (v := 0) dX13_takerBy_83 (by decide) ?_
            refine g_sub [2, 3, 4, 5, 6, 7, 1] _ rfl ?_
            exact t_X13_takerBy_84 hK x1 x2 x3 x4 x5 v3 (f_X13_lives M (rdI M 88 0 0 (nn (v3 + 3))) x3) 0 (f_X13_takerBy_3 M x1 x2 x3 x4 n) (s_X13_takerBy_3 M x1 x2 x3 x4 n) ih hs hQ
          · have hs := ifSt hs c11; have hQ := ifQt hQ c11
            refine g_iconst (v := 1) dX13_takerBy_79 (by decide) ?_
            refine g_goto 84 dX13_takerBy_80 (by decide) ?_
            refine g_sub [2, 3, 4, 5, 6, 7, 1] _ rfl ?_
            exact t_X13_takerBy_84 hK x1 x2 x3 x4 x5 v3 (f_X13_lives M (rdI M 88 0 0 (nn (v3 + 3))) x3) 1 (f_X13_takerBy_3 M x1 x2 x3 x4 n) (s_X13_takerBy_3 M x1 x2 x3 x4 n) ih hs hQ
      · have hs := ifSf hs c5; have hQ := ifQf hQ c5
        refine g_goto 148 dX13_takerBy_40 (by decide) ?_
        refine g_iinc 6 (v := x5 + 1) _ dX13_takerBy_148 rfl rfl (by decide) rfl ?_
        refine g_goto 3 dX13_takerBy_151 (by decide) ?_
        refine g_sub [2, 3, 4, 5, 6, 0] _ rfl ?_
        exact ih (x5 + 1) hs hQ
def f_X13_takerBy (M : gM) (x1 : Int32) (x2 : Int32) (x3 : Int32) (x4 : Int32) : Int32 :=
  f_X13_takerBy_3 M x1 x2 x3 x4 FU 0
def s_X13_takerBy (M : gM) (x1 : Int32) (x2 : Int32) (x3 : Int32) (x4 : Int32) : Prop :=
  s_X13_takerBy_3 M x1 x2 x3 x4 FU 0
set_option maxRecDepth 100000 in
set_option maxHeartbeats 4000000 in
theorem t_X13_takerBy {E : gE} {K : Int32 → Prop} {Q : Option Value → gM → Prop} {M : gM} (hK : ∀ z : Int32, K z → Q (some (.int z)) M)  (x1 : Int32) (x2 : Int32) (x3 : Int32) (x4 : Int32)  (hs : s_X13_takerBy M x1 x2 x3 x4) (hQ : K (f_X13_takerBy M x1 x2 x3 x4)) : gG E RX13 cX13_takerBy 8 (some .int) (rm 3) 0 [(0, .ref (gla E 226)), (1, .int x1), (2, .int x2), (3, .int x3), (4, .int x4)] [] M Q := by
  rw [s_X13_takerBy] at hs
  rw [f_X13_takerBy] at hQ
  refine g_iconst (v := 0) dX13_takerBy_0 (by decide) ?_
  refine g_istore _ dX13_takerBy_1 (by decide) rfl ?_
  refine g_sub [1, 2, 3, 4, 5, 0] _ rfl ?_
  exact t_X13_takerBy_3 hK x1 x2 x3 x4 FU 0 hs hQ
theorem c_X13_takerBy (E : gE) (M : gM) (x1 : Int32) (x2 : Int32) (x3 : Int32) (x4 : Int32) (hs : s_X13_takerBy M x1 x2 x3 x4) : gC E yX13_takerBy cX13_takerBy 8 (some .int) (rm 3) [.ref (gla E 226), .int x1, .int x2, .int x3, .int x4] M (fun o N => o = some (.int (f_X13_takerBy M x1 x2 x3 x4)) ∧ N = M) :=
  gC.of (by decide +kernel) (Nat.le_of_ble_eq_true rfl) rfl (t_X13_takerBy (K := fun z => z = f_X13_takerBy M x1 x2 x3 x4) (fun z hz => by rw [hz]; exact ⟨rfl, rfl⟩) x1 x2 x3 x4 hs rfl)
def f_X13_heirsOf_54 (M : gM) (x1 : Int32) (x2 : Int32)  : Int32 :=
  f_X13_living_ M (rdI M 88 0 0 (nn (24 + x1))) x2 0
def s_X13_heirsOf_54 (M : gM) (x1 : Int32) (x2 : Int32)  : Prop :=
  (vp_in (24 + x1) 502) ∧
  ((s_X13_living_ M (rdI M 88 0 0 (nn (24 + x1))) x2 0) ∧
  (True))
set_option maxRecDepth 100000 in
set_option maxHeartbeats 4000000 in
theorem t_X13_heirsOf_54 {E : gE} {K : Int32 → Prop} {Q : Option Value → gM → Prop} {M : gM} (hK : ∀ z : Int32, K z → Q (some (.int z)) M) (x1 : Int32) (x2 : Int32)   (hs : s_X13_heirsOf_54 M x1 x2 ) (hQ : K (f_X13_heirsOf_54 M x1 x2 )) : gG E RX13 cX13_heirsOf 5 (some .int) (rm 3) 54 [(0, .ref (gla E 226)), (1, .int x1), (2, .int x2)] [] M Q := by
  rw [s_X13_heirsOf_54] at hs
  rw [f_X13_heirsOf_54] at hQ
  refine g_aload_n 0 dX13_heirsOf_54 rfl ?_
  refine g_aload_n 0 dX13_heirsOf_55 rfl ?_
  refine g_getR 226 228 fd_X13_13 dF_Md rfl rfl dX13_heirsOf_56 ?_
  refine g_bipush (v := 24) dX13_heirsOf_59 (by decide) ?_
  refine g_iload_n 1 dX13_heirsOf_61 rfl ?_
  refine g_iadd dX13_heirsOf_62 ?_
  have h11 := hs.1; have hs := hs.2
  refine g_iald 228 dF_Md_world h11 dX13_heirsOf_63 ?_
  refine g_iload_n 2 dX13_heirsOf_64 rfl ?_
  refine g_iconst (v := 0) dX13_heirsOf_65 (by decide) ?_
  have h12 := hs.1; have hs := hs.2
  refine g_callV (As := [.int (rdI M 88 0 0 (nn (24 + x1))), .int x2, .int 0]) (st := []) 226 (c_X13_living_ E M (rdI M 88 0 0 (nn (24 + x1))) x2 0 h12) mt_X13_living_ ml_X13_288 dF_Md rfl rfl sg_X13_living_ rfl (by decide) (Nat.le_of_ble_eq_true rfl) dX13_heirsOf_66 ?_
  rintro _ _ ⟨q1, q2⟩; rw [q1, q2]; clear q1 q2
  exact g_iret rfl dX13_heirsOf_69 (hK _ hQ)
def f_X13_heirsOf (M : gM) (x1 : Int32) : Int32 :=
  bnd (f_X13_living_ M (f_X13_childrenOf M x1) (f_X13_diesOn M x1) 0) fun v4 =>
  (if v4 = 0 then
    (bnd (f_X13_wedTo M x1 (f_X13_diesOn M x1)) fun v7 =>
    (if v7 = (-2) then
      (f_X13_heirsOf_54 M x1 (f_X13_diesOn M x1))
    else
      (if (f_X13_lives M v7 (f_X13_diesOn M x1)) = 0 then
        (f_X13_heirsOf_54 M x1 (f_X13_diesOn M x1))
      else
        (1 <<< (v7 &&& 31)))))
  else
    (v4))
def s_X13_heirsOf (M : gM) (x1 : Int32) : Prop :=
  (s_X13_diesOn M x1) ∧
  ((s_X13_childrenOf M x1) ∧
  ((s_X13_living_ M (f_X13_childrenOf M x1) (f_X13_diesOn M x1) 0) ∧
  (bndP (f_X13_living_ M (f_X13_childrenOf M x1) (f_X13_diesOn M x1) 0) fun v4 =>
  (if v4 = 0 then
    ((s_X13_wedTo M x1 (f_X13_diesOn M x1)) ∧
    (bndP (f_X13_wedTo M x1 (f_X13_diesOn M x1)) fun v7 =>
    (if v7 = (-2) then
      (s_X13_heirsOf_54 M x1 (f_X13_diesOn M x1))
    else
      ((s_X13_lives M v7 (f_X13_diesOn M x1)) ∧
      (if (f_X13_lives M v7 (f_X13_diesOn M x1)) = 0 then
        (s_X13_heirsOf_54 M x1 (f_X13_diesOn M x1))
      else
        (True))))))
  else
    (True)))))
set_option maxRecDepth 100000 in
set_option maxHeartbeats 4000000 in
theorem t_X13_heirsOf {E : gE} {K : Int32 → Prop} {Q : Option Value → gM → Prop} {M : gM} (hK : ∀ z : Int32, K z → Q (some (.int z)) M)  (x1 : Int32)  (hs : s_X13_heirsOf M x1) (hQ : K (f_X13_heirsOf M x1)) : gG E RX13 cX13_heirsOf 5 (some .int) (rm 3) 0 [(0, .ref (gla E 226)), (1, .int x1)] [] M Q := by
  rw [s_X13_heirsOf] at hs
  rw [f_X13_heirsOf] at hQ
  refine g_aload_n 0 dX13_heirsOf_0 rfl ?_
  refine g_iload_n 1 dX13_heirsOf_1 rfl ?_
  have h1 := hs.1; have hs := hs.2
  refine g_callV (As := [.int x1]) (st := []) 226 (c_X13_diesOn E M x1 h1) mt_X13_diesOn ml_X13_203 dF_Md rfl rfl sg_X13_diesOn rfl (by decide) (Nat.le_of_ble_eq_true rfl) dX13_heirsOf_2 ?_
  rintro _ _ ⟨q1, q2⟩; rw [q1, q2]; clear q1 q2
  refine g_istore_n _ dX13_heirsOf_5 (by decide) rfl ?_
  refine g_aload_n 1 dX13_heirsOf_6 rfl ?_
  refine g_aload_n 1 dX13_heirsOf_7 rfl ?_
  refine g_iload_n 2 dX13_heirsOf_8 rfl ?_
  have h2 := hs.1; have hs := hs.2
  refine g_callV (As := [.int x1]) (st := [.ref (gla E 226)]) 226 (c_X13_childrenOf E M x1 h2) mt_X13_childrenOf ml_X13_209 dF_Md rfl rfl sg_X13_childrenOf rfl (by decide) (Nat.le_of_ble_eq_true rfl) dX13_heirsOf_9 ?_
  rintro _ _ ⟨q1, q2⟩; rw [q1, q2]; clear q1 q2
  refine g_iload_n 0 dX13_heirsOf_12 rfl ?_
  refine g_iconst (v := 0) dX13_heirsOf_13 (by decide) ?_
  have h3 := hs.1; have hs := hs.2
  refine g_callV (As := [.int (f_X13_childrenOf M x1), .int (f_X13_diesOn M x1), .int 0]) (st := []) 226 (c_X13_living_ E M (f_X13_childrenOf M x1) (f_X13_diesOn M x1) 0 h3) mt_X13_living_ ml_X13_288 dF_Md rfl rfl sg_X13_living_ rfl (by decide) (Nat.le_of_ble_eq_true rfl) dX13_heirsOf_14 ?_
  rintro _ _ ⟨q1, q2⟩; rw [q1, q2]; clear q1 q2
  refine g_topI (fun v4 hv4 => ?_)
  have hQ := bndQ hQ v4 hv4; have hs := bndS hs v4 hv4
  refine g_istore_n _ dX13_heirsOf_17 (by decide) rfl ?_
  refine g_iload_n 0 dX13_heirsOf_18 rfl ?_
  refine g_if_eq 24 dX13_heirsOf_19 (by decide) (fun c5 => ?_) (fun c5 => ?_)
  · have hs := ifSt hs c5; have hQ := ifQt hQ c5
    refine g_aload_n 2 dX13_heirsOf_24 rfl ?_
    refine g_iload_n 3 dX13_heirsOf_25 rfl ?_
    refine g_iload_n 1 dX13_heirsOf_26 rfl ?_
    have h6 := hs.1; have hs := hs.2
    refine g_callV (As := [.int x1, .int (f_X13_diesOn M x1)]) (st := []) 226 (c_X13_wedTo E M x1 (f_X13_diesOn M x1) h6) mt_X13_wedTo ml_X13_212 dF_Md rfl rfl sg_X13_wedTo rfl (by decide) (Nat.le_of_ble_eq_true rfl) dX13_heirsOf_27 ?_
    rintro _ _ ⟨q1, q2⟩; rw [q1, q2]; clear q1 q2
    refine g_topI (fun v7 hv7 => ?_)
    have hQ := bndQ hQ v7 hv7; have hs := bndS hs v7 hv7
    refine g_istore _ dX13_heirsOf_30 (by decide) rfl ?_
    refine g_iload 0 dX13_heirsOf_32 rfl ?_
    refine g_bipush (v := (-2)) dX13_heirsOf_34 (by decide) ?_
    refine g_icmp_eq 54 dX13_heirsOf_36 (by decide) (fun c8 => ?_) (fun c8 => ?_)
    · have hs := ifSt hs c8; have hQ := ifQt hQ c8
      refine g_sub [3, 4, 2] _ rfl ?_
      exact t_X13_heirsOf_54 hK x1 (f_X13_diesOn M x1) hs hQ
    · have hs := ifSf hs c8; have hQ := ifQf hQ c8
      refine g_aload_n 3 dX13_heirsOf_39 rfl ?_
      refine g_iload 0 dX13_heirsOf_40 rfl ?_
      refine g_iload_n 2 dX13_heirsOf_42 rfl ?_
      have h9 := hs.1; have hs := hs.2
      refine g_callV (As := [.int v7, .int (f_X13_diesOn M x1)]) (st := []) 226 (c_X13_lives E M v7 (f_X13_diesOn M x1) h9) mt_X13_lives ml_X13_233 dF_Md rfl rfl sg_X13_lives rfl (by decide) (Nat.le_of_ble_eq_true rfl) dX13_heirsOf_43 ?_
      rintro _ _ ⟨q1, q2⟩; rw [q1, q2]; clear q1 q2
      refine g_if_eq 54 dX13_heirsOf_46 (by decide) (fun c10 => ?_) (fun c10 => ?_)
      · have hs := ifSt hs c10; have hQ := ifQt hQ c10
        refine g_sub [3, 4, 2] _ rfl ?_
        exact t_X13_heirsOf_54 hK x1 (f_X13_diesOn M x1) hs hQ
      · have hs := ifSf hs c10; have hQ := ifQf hQ c10
        refine g_iconst (v := 1) dX13_heirsOf_49 (by decide) ?_
        refine g_iload 0 dX13_heirsOf_50 rfl ?_
        refine g_ishl dX13_heirsOf_52 ?_
        exact g_iret rfl dX13_heirsOf_53 (hK _ hQ)
  · have hs := ifSf hs c5; have hQ := ifQf hQ c5
    refine g_iload_n 0 dX13_heirsOf_22 rfl ?_
    exact g_iret rfl dX13_heirsOf_23 (hK _ hQ)
theorem c_X13_heirsOf (E : gE) (M : gM) (x1 : Int32) (hs : s_X13_heirsOf M x1) : gC E yX13_heirsOf cX13_heirsOf 5 (some .int) (rm 3) [.ref (gla E 226), .int x1] M (fun o N => o = some (.int (f_X13_heirsOf M x1)) ∧ N = M) :=
  gC.of (by decide +kernel) (Nat.le_of_ble_eq_true rfl) rfl (t_X13_heirsOf (K := fun z => z = f_X13_heirsOf M x1) (fun z hz => by rw [hz]; exact ⟨rfl, rfl⟩) x1 hs rfl)
def f_X13_form (M : gM) (x1 : Int32) (x2 : Int32) : Int32 × gM :=
  bnd (wrI M 67 0 0 0 0) fun M1 =>
  (if (f_X13_isPaper M1 x1) = 0 then
    (((-1), M1))
  else
    (if x2 < 0 then
      (((-1), M1))
    else
      (if x2 ≤ 1 then
        (if (f_X13_hasForm M1 x1 x2) = 0 then
          ((0, M1))
        else
          ((1, M1)))
      else
        (((-1), M1)))))
def s_X13_form (M : gM) (x1 : Int32) (x2 : Int32) : Prop :=
  bndP (wrI M 67 0 0 0 0) fun M1 =>
  ((s_X13_isPaper M1 x1) ∧
  (if (f_X13_isPaper M1 x1) = 0 then
    (True)
  else
    (if x2 < 0 then
      (True)
    else
      (if x2 ≤ 1 then
        ((s_X13_hasForm M1 x1 x2) ∧
        (if (f_X13_hasForm M1 x1 x2) = 0 then
          (True)
        else
          (True)))
      else
        (True)))))
theorem o_X13_form (M : gM) (x1 : Int32) (x2 : Int32) : offW [67] M (f_X13_form M x1 x2).2 := by
  rw [f_X13_form]
  refine offB2 (offR.wI (by decide)) (fun M1 oM1 => ?_)
  refine offI2 ?_ ?_
  · exact oM1
  · refine offI2 ?_ ?_
    · exact oM1
    · refine offI2 ?_ ?_
      · refine offI2 ?_ ?_
        · exact oM1
        · exact oM1
      · exact oM1
set_option maxRecDepth 100000 in
set_option maxHeartbeats 4000000 in
theorem t_X13_form {E : gE} {K : Int32 × gM → Prop} {Q : Option Value → gM → Prop} (hK : ∀ z : Int32 × gM, K z → Q (some (.int z.1)) z.2) (M : gM) (x1 : Int32) (x2 : Int32)  (hs : s_X13_form M x1 x2) (hQ : K (f_X13_form M x1 x2)) : gG E RX13 cX13_form 3 (some .int) (rm 4) 0 [(0, .ref (gla E 226)), (1, .int x1), (2, .int x2)] [] M Q := by
  rw [s_X13_form] at hs
  rw [f_X13_form] at hQ
  refine g_aload_n 0 dX13_form_0 rfl ?_
  refine g_iconst (v := 0) dX13_form_1 (by decide) ?_
  refine g_putI 226 fd_X13_61 dF_Md rfl dX13_form_2 (fun M1 hM1 => ?_)
  have hQ := bndQ hQ M1 hM1; have hs := bndS hs M1 hM1
  refine g_aload_n 0 dX13_form_5 rfl ?_
  refine g_iload_n 1 dX13_form_6 rfl ?_
  have h2 := hs.1; have hs := hs.2
  refine g_callV (As := [.int x1]) (st := []) 226 (c_X13_isPaper E M1 x1 h2) mt_X13_isPaper ml_X13_215 dF_Md rfl rfl sg_X13_isPaper rfl (by decide) (Nat.le_of_ble_eq_true rfl) dX13_form_7 ?_
  rintro _ _ ⟨q1, q2⟩; rw [q1, q2]; clear q1 q2
  refine g_if_eq 22 dX13_form_10 (by decide) (fun c3 => ?_) (fun c3 => ?_)
  · have hs := ifSt hs c3; have hQ := ifQt hQ c3
    refine g_iconst (v := (-1)) dX13_form_22 (by decide) ?_
    exact g_iret rfl dX13_form_23 (hK _ hQ)
  · have hs := ifSf hs c3; have hQ := ifQf hQ c3
    refine g_iload_n 2 dX13_form_13 rfl ?_
    refine g_if_lt 22 dX13_form_14 (by decide) (fun c4 => ?_) (fun c4 => ?_)
    · have hs := ifSt hs c4; have hQ := ifQt hQ c4
      refine g_iconst (v := (-1)) dX13_form_22 (by decide) ?_
      exact g_iret rfl dX13_form_23 (hK _ hQ)
    · have hs := ifSf hs c4; have hQ := ifQf hQ c4
      refine g_iload_n 2 dX13_form_17 rfl ?_
      refine g_iconst (v := 1) dX13_form_18 (by decide) ?_
      refine g_icmp_le 24 dX13_form_19 (by decide) (fun c5 => ?_) (fun c5 => ?_)
      · have hs := ifSt hs c5; have hQ := ifQt hQ c5
        refine g_aload_n 0 dX13_form_24 rfl ?_
        refine g_iload_n 1 dX13_form_25 rfl ?_
        refine g_iload_n 2 dX13_form_26 rfl ?_
        have h6 := hs.1; have hs := hs.2
        refine g_callV (As := [.int x1, .int x2]) (st := []) 226 (c_X13_hasForm E M1 x1 x2 h6) mt_X13_hasForm ml_X13_242 dF_Md rfl rfl sg_X13_hasForm rfl (by decide) (Nat.le_of_ble_eq_true rfl) dX13_form_27 ?_
        rintro _ _ ⟨q1, q2⟩; rw [q1, q2]; clear q1 q2
        refine g_if_eq 37 dX13_form_30 (by decide) (fun c7 => ?_) (fun c7 => ?_)
        · have hs := ifSt hs c7; have hQ := ifQt hQ c7
          refine g_iconst (v := 0) dX13_form_37 (by decide) ?_
          exact g_iret rfl dX13_form_38 (hK _ hQ)
        · have hs := ifSf hs c7; have hQ := ifQf hQ c7
          refine g_iconst (v := 1) dX13_form_33 (by decide) ?_
          refine g_goto 38 dX13_form_34 (by decide) ?_
          exact g_iret rfl dX13_form_38 (hK _ hQ)
      · have hs := ifSf hs c5; have hQ := ifQf hQ c5
        refine g_iconst (v := (-1)) dX13_form_22 (by decide) ?_
        exact g_iret rfl dX13_form_23 (hK _ hQ)
theorem c_X13_form (E : gE) (M : gM) (x1 : Int32) (x2 : Int32) (hs : s_X13_form M x1 x2) : gC E yX13_form cX13_form 3 (some .int) (rm 4) [.ref (gla E 226), .int x1, .int x2] M (fun o N => o = some (.int (f_X13_form M x1 x2).1) ∧ N = (f_X13_form M x1 x2).2) :=
  gC.of (by decide +kernel) (Nat.le_of_ble_eq_true rfl) rfl (t_X13_form (K := fun z => z = f_X13_form M x1 x2) (fun z hz => by rw [hz]; exact ⟨rfl, rfl⟩) M x1 x2 hs rfl)
def f_X13_lacks_84 (M : gM)  : Int32 :=
  0
def s_X13_lacks_84 (M : gM)  : Prop :=
  True
set_option maxRecDepth 100000 in
set_option maxHeartbeats 4000000 in
theorem t_X13_lacks_84 {E : gE} {K : Int32 → Prop} {Q : Option Value → gM → Prop} {M : gM} (hK : ∀ z : Int32, K z → Q (some (.int z)) M)    (hs : s_X13_lacks_84 M ) (hQ : K (f_X13_lacks_84 M )) : gG E RX13 cX13_lacks 4 (some .int) (rm 4) 84 [] [] M Q := by
  rw [s_X13_lacks_84] at hs
  rw [f_X13_lacks_84] at hQ
  refine g_iconst (v := 0) dX13_lacks_84 (by decide) ?_
  refine g_goto 89 dX13_lacks_85 (by decide) ?_
  exact g_iret rfl dX13_lacks_89 (hK _ hQ)
def f_X13_lacks (M : gM) (x1 : Int32) (x2 : Int32) : Int32 :=
  if (rdI M 92 0 0 (nn (34 + x1))) = 1 then
    (7)
  else
    (bnd (f_X13_diesOn M (f_X13_of M x1 0)) fun v5 =>
    (if v5 = (-2) then
      (1)
    else
      (if (f_X13_of M x1 1) < v5 then
        (if (f_X13_isProved M x1) = 0 then
          (3)
        else
          (if (f_X13_hasForm M x1 (f_X13_of M x1 2)) = 0 then
            (if (f_X13_hasForm M x1 (f_X13_landOf M x2)) = 0 then
              (4)
            else
              (f_X13_lacks_84 M))
          else
            (f_X13_lacks_84 M)))
      else
        (2))))
def s_X13_lacks (M : gM) (x1 : Int32) (x2 : Int32) : Prop :=
  (vp_in (34 + x1) 65) ∧
  (if (rdI M 92 0 0 (nn (34 + x1))) = 1 then
    (True)
  else
    ((s_X13_of M x1 0) ∧
    ((s_X13_diesOn M (f_X13_of M x1 0)) ∧
    (bndP (f_X13_diesOn M (f_X13_of M x1 0)) fun v5 =>
    (if v5 = (-2) then
      (True)
    else
      ((s_X13_of M x1 1) ∧
      (if (f_X13_of M x1 1) < v5 then
        ((s_X13_isProved M x1) ∧
        (if (f_X13_isProved M x1) = 0 then
          (True)
        else
          ((s_X13_of M x1 2) ∧
          ((s_X13_hasForm M x1 (f_X13_of M x1 2)) ∧
          (if (f_X13_hasForm M x1 (f_X13_of M x1 2)) = 0 then
            ((s_X13_landOf M x2) ∧
            ((s_X13_hasForm M x1 (f_X13_landOf M x2)) ∧
            (if (f_X13_hasForm M x1 (f_X13_landOf M x2)) = 0 then
              (True)
            else
              (s_X13_lacks_84 M))))
          else
            (s_X13_lacks_84 M))))))
      else
        (True))))))))
set_option maxRecDepth 100000 in
set_option maxHeartbeats 4000000 in
theorem t_X13_lacks {E : gE} {K : Int32 → Prop} {Q : Option Value → gM → Prop} {M : gM} (hK : ∀ z : Int32, K z → Q (some (.int z)) M)  (x1 : Int32) (x2 : Int32)  (hs : s_X13_lacks M x1 x2) (hQ : K (f_X13_lacks M x1 x2)) : gG E RX13 cX13_lacks 4 (some .int) (rm 4) 0 [(0, .ref (gla E 226)), (1, .int x1), (2, .int x2)] [] M Q := by
  rw [s_X13_lacks] at hs
  rw [f_X13_lacks] at hQ
  refine g_aload_n 0 dX13_lacks_0 rfl ?_
  refine g_getR 226 232 fd_X13_25 dF_Md rfl rfl dX13_lacks_1 ?_
  refine g_bipush (v := 34) dX13_lacks_4 (by decide) ?_
  refine g_iload_n 1 dX13_lacks_6 rfl ?_
  refine g_iadd dX13_lacks_7 ?_
  have h1 := hs.1; have hs := hs.2
  refine g_iald 232 dF_Md_now h1 dX13_lacks_8 ?_
  refine g_iconst (v := 1) dX13_lacks_9 (by decide) ?_
  refine g_icmp_ne 16 dX13_lacks_10 (by decide) (fun c2 => ?_) (fun c2 => ?_)
  · have hs := ifSf hs c2; have hQ := ifQf hQ c2
    refine g_aload_n 0 dX13_lacks_16 rfl ?_
    refine g_aload_n 0 dX13_lacks_17 rfl ?_
    refine g_iload_n 1 dX13_lacks_18 rfl ?_
    refine g_iconst (v := 0) dX13_lacks_19 (by decide) ?_
    have h3 := hs.1; have hs := hs.2
    refine g_callV (As := [.int x1, .int 0]) (st := [.ref (gla E 226)]) 226 (c_X13_of E M x1 0 h3) mt_X13_of ml_X13_218 dF_Md rfl rfl sg_X13_of rfl (by decide) (Nat.le_of_ble_eq_true rfl) dX13_lacks_20 ?_
    rintro _ _ ⟨q1, q2⟩; rw [q1, q2]; clear q1 q2
    have h4 := hs.1; have hs := hs.2
    refine g_callV (As := [.int (f_X13_of M x1 0)]) (st := []) 226 (c_X13_diesOn E M (f_X13_of M x1 0) h4) mt_X13_diesOn ml_X13_203 dF_Md rfl rfl sg_X13_diesOn rfl (by decide) (Nat.le_of_ble_eq_true rfl) dX13_lacks_23 ?_
    rintro _ _ ⟨q1, q2⟩; rw [q1, q2]; clear q1 q2
    refine g_topI (fun v5 hv5 => ?_)
    have hQ := bndQ hQ v5 hv5; have hs := bndS hs v5 hv5
    refine g_istore_n _ dX13_lacks_26 (by decide) rfl ?_
    refine g_iload_n 0 dX13_lacks_27 rfl ?_
    refine g_bipush (v := (-2)) dX13_lacks_28 (by decide) ?_
    refine g_icmp_ne 35 dX13_lacks_30 (by decide) (fun c6 => ?_) (fun c6 => ?_)
    · have hs := ifSf hs c6; have hQ := ifQf hQ c6
      refine g_aload_n 1 dX13_lacks_35 rfl ?_
      refine g_iload_n 2 dX13_lacks_36 rfl ?_
      refine g_iconst (v := 1) dX13_lacks_37 (by decide) ?_
      have h7 := hs.1; have hs := hs.2
      refine g_callV (As := [.int x1, .int 1]) (st := []) 226 (c_X13_of E M x1 1 h7) mt_X13_of ml_X13_218 dF_Md rfl rfl sg_X13_of rfl (by decide) (Nat.le_of_ble_eq_true rfl) dX13_lacks_38 ?_
      rintro _ _ ⟨q1, q2⟩; rw [q1, q2]; clear q1 q2
      refine g_iload_n 0 dX13_lacks_41 rfl ?_
      refine g_icmp_lt 47 dX13_lacks_42 (by decide) (fun c8 => ?_) (fun c8 => ?_)
      · have hs := ifSt hs c8; have hQ := ifQt hQ c8
        refine g_aload_n 1 dX13_lacks_47 rfl ?_
        refine g_iload_n 2 dX13_lacks_48 rfl ?_
        have h9 := hs.1; have hs := hs.2
        refine g_callV (As := [.int x1]) (st := []) 226 (c_X13_isProved E M x1 h9) mt_X13_isProved ml_X13_245 dF_Md rfl rfl sg_X13_isProved rfl (by decide) (Nat.le_of_ble_eq_true rfl) dX13_lacks_49 ?_
        rintro _ _ ⟨q1, q2⟩; rw [q1, q2]; clear q1 q2
        refine g_if_ne 57 dX13_lacks_52 (by decide) (fun c10 => ?_) (fun c10 => ?_)
        · have hs := ifSf hs c10; have hQ := ifQf hQ c10
          refine g_aload_n 1 dX13_lacks_57 rfl ?_
          refine g_iload_n 2 dX13_lacks_58 rfl ?_
          refine g_aload_n 1 dX13_lacks_59 rfl ?_
          refine g_iload_n 2 dX13_lacks_60 rfl ?_
          refine g_iconst (v := 2) dX13_lacks_61 (by decide) ?_
          have h11 := hs.1; have hs := hs.2
          refine g_callV (As := [.int x1, .int 2]) (st := [.int x1, .ref (gla E 226)]) 226 (c_X13_of E M x1 2 h11) mt_X13_of ml_X13_218 dF_Md rfl rfl sg_X13_of rfl (by decide) (Nat.le_of_ble_eq_true rfl) dX13_lacks_62 ?_
          rintro _ _ ⟨q1, q2⟩; rw [q1, q2]; clear q1 q2
          have h12 := hs.1; have hs := hs.2
          refine g_callV (As := [.int x1, .int (f_X13_of M x1 2)]) (st := []) 226 (c_X13_hasForm E M x1 (f_X13_of M x1 2) h12) mt_X13_hasForm ml_X13_242 dF_Md rfl rfl sg_X13_hasForm rfl (by decide) (Nat.le_of_ble_eq_true rfl) dX13_lacks_65 ?_
          rintro _ _ ⟨q1, q2⟩; rw [q1, q2]; clear q1 q2
          refine g_if_ne 84 dX13_lacks_68 (by decide) (fun c13 => ?_) (fun c13 => ?_)
          · have hs := ifSf hs c13; have hQ := ifQf hQ c13
            refine g_sub [] _ rfl ?_
            exact t_X13_lacks_84 hK hs hQ
          · have hs := ifSt hs c13; have hQ := ifQt hQ c13
            refine g_aload_n 1 dX13_lacks_71 rfl ?_
            refine g_iload_n 2 dX13_lacks_72 rfl ?_
            refine g_aload_n 1 dX13_lacks_73 rfl ?_
            refine g_iload_n 3 dX13_lacks_74 rfl ?_
            have h14 := hs.1; have hs := hs.2
            refine g_callV (As := [.int x2]) (st := [.int x1, .ref (gla E 226)]) 226 (c_X13_landOf E M x2 h14) mt_X13_landOf ml_X13_248 dF_Md rfl rfl sg_X13_landOf rfl (by decide) (Nat.le_of_ble_eq_true rfl) dX13_lacks_75 ?_
            rintro _ _ ⟨q1, q2⟩; rw [q1, q2]; clear q1 q2
            have h15 := hs.1; have hs := hs.2
            refine g_callV (As := [.int x1, .int (f_X13_landOf M x2)]) (st := []) 226 (c_X13_hasForm E M x1 (f_X13_landOf M x2) h15) mt_X13_hasForm ml_X13_242 dF_Md rfl rfl sg_X13_hasForm rfl (by decide) (Nat.le_of_ble_eq_true rfl) dX13_lacks_78 ?_
            rintro _ _ ⟨q1, q2⟩; rw [q1, q2]; clear q1 q2
            refine g_if_eq 88 dX13_lacks_81 (by decide) (fun c16 => ?_) (fun c16 => ?_)
            · have hs := ifSt hs c16; have hQ := ifQt hQ c16
              refine g_iconst (v := 4) dX13_lacks_88 (by decide) ?_
              exact g_iret rfl dX13_lacks_89 (hK _ hQ)
            · have hs := ifSf hs c16; have hQ := ifQf hQ c16
              refine g_sub [] _ rfl ?_
              exact t_X13_lacks_84 hK hs hQ
        · have hs := ifSt hs c10; have hQ := ifQt hQ c10
          refine g_iconst (v := 3) dX13_lacks_55 (by decide) ?_
          exact g_iret rfl dX13_lacks_56 (hK _ hQ)
      · have hs := ifSf hs c8; have hQ := ifQf hQ c8
        refine g_iconst (v := 2) dX13_lacks_45 (by decide) ?_
        exact g_iret rfl dX13_lacks_46 (hK _ hQ)
    · have hs := ifSt hs c6; have hQ := ifQt hQ c6
      refine g_iconst (v := 1) dX13_lacks_33 (by decide) ?_
      exact g_iret rfl dX13_lacks_34 (hK _ hQ)
  · have hs := ifSt hs c2; have hQ := ifQt hQ c2
    refine g_bipush (v := 7) dX13_lacks_13 (by decide) ?_
    exact g_iret rfl dX13_lacks_15 (hK _ hQ)
theorem c_X13_lacks (E : gE) (M : gM) (x1 : Int32) (x2 : Int32) (hs : s_X13_lacks M x1 x2) : gC E yX13_lacks cX13_lacks 4 (some .int) (rm 4) [.ref (gla E 226), .int x1, .int x2] M (fun o N => o = some (.int (f_X13_lacks M x1 x2)) ∧ N = M) :=
  gC.of (by decide +kernel) (Nat.le_of_ble_eq_true rfl) rfl (t_X13_lacks (K := fun z => z = f_X13_lacks M x1 x2) (fun z hz => by rw [hz]; exact ⟨rfl, rfl⟩) x1 x2 hs rfl)
def f_X13_heirs (M : gM) (x1 : Int32) : Int32 × gM :=
  bnd (wrI M 67 0 0 0 0) fun M1 =>
  (if (f_X13_isPerson M1 x1) = 0 then
    (((-1), M1))
  else
    (if (f_X13_diesOn M1 x1) = (-2) then
      (((-3), M1))
    else
      ((f_X13_heirsOf M1 x1, M1))))
def s_X13_heirs (M : gM) (x1 : Int32) : Prop :=
  bndP (wrI M 67 0 0 0 0) fun M1 =>
  ((s_X13_isPerson M1 x1) ∧
  (if (f_X13_isPerson M1 x1) = 0 then
    (True)
  else
    ((s_X13_diesOn M1 x1) ∧
    (if (f_X13_diesOn M1 x1) = (-2) then
      (True)
    else
      ((s_X13_heirsOf M1 x1) ∧
      (True))))))
theorem o_X13_heirs (M : gM) (x1 : Int32) : offW [67] M (f_X13_heirs M x1).2 := by
  rw [f_X13_heirs]
  refine offB2 (offR.wI (by decide)) (fun M1 oM1 => ?_)
  refine offI2 ?_ ?_
  · exact oM1
  · refine offI2 ?_ ?_
    · exact oM1
    · exact oM1
set_option maxRecDepth 100000 in
set_option maxHeartbeats 4000000 in
theorem t_X13_heirs {E : gE} {K : Int32 × gM → Prop} {Q : Option Value → gM → Prop} (hK : ∀ z : Int32 × gM, K z → Q (some (.int z.1)) z.2) (M : gM) (x1 : Int32)  (hs : s_X13_heirs M x1) (hQ : K (f_X13_heirs M x1)) : gG E RX13 cX13_heirs 2 (some .int) (rm 4) 0 [(0, .ref (gla E 226)), (1, .int x1)] [] M Q := by
  rw [s_X13_heirs] at hs
  rw [f_X13_heirs] at hQ
  refine g_aload_n 0 dX13_heirs_0 rfl ?_
  refine g_iconst (v := 0) dX13_heirs_1 (by decide) ?_
  refine g_putI 226 fd_X13_61 dF_Md rfl dX13_heirs_2 (fun M1 hM1 => ?_)
  have hQ := bndQ hQ M1 hM1; have hs := bndS hs M1 hM1
  refine g_aload_n 0 dX13_heirs_5 rfl ?_
  refine g_iload_n 1 dX13_heirs_6 rfl ?_
  have h2 := hs.1; have hs := hs.2
  refine g_callV (As := [.int x1]) (st := []) 226 (c_X13_isPerson E M1 x1 h2) mt_X13_isPerson ml_X13_206 dF_Md rfl rfl sg_X13_isPerson rfl (by decide) (Nat.le_of_ble_eq_true rfl) dX13_heirs_7 ?_
  rintro _ _ ⟨q1, q2⟩; rw [q1, q2]; clear q1 q2
  refine g_if_ne 15 dX13_heirs_10 (by decide) (fun c3 => ?_) (fun c3 => ?_)
  · have hs := ifSf hs c3; have hQ := ifQf hQ c3
    refine g_aload_n 0 dX13_heirs_15 rfl ?_
    refine g_iload_n 1 dX13_heirs_16 rfl ?_
    have h4 := hs.1; have hs := hs.2
    refine g_callV (As := [.int x1]) (st := []) 226 (c_X13_diesOn E M1 x1 h4) mt_X13_diesOn ml_X13_203 dF_Md rfl rfl sg_X13_diesOn rfl (by decide) (Nat.le_of_ble_eq_true rfl) dX13_heirs_17 ?_
    rintro _ _ ⟨q1, q2⟩; rw [q1, q2]; clear q1 q2
    refine g_bipush (v := (-2)) dX13_heirs_20 (by decide) ?_
    refine g_icmp_ne 30 dX13_heirs_22 (by decide) (fun c5 => ?_) (fun c5 => ?_)
    · have hs := ifSf hs c5; have hQ := ifQf hQ c5
      refine g_aload_n 0 dX13_heirs_30 rfl ?_
      refine g_iload_n 1 dX13_heirs_31 rfl ?_
      have h6 := hs.1; have hs := hs.2
      refine g_callV (As := [.int x1]) (st := []) 226 (c_X13_heirsOf E M1 x1 h6) mt_X13_heirsOf ml_X13_290 dF_Md rfl rfl sg_X13_heirsOf rfl (by decide) (Nat.le_of_ble_eq_true rfl) dX13_heirs_32 ?_
      rintro _ _ ⟨q1, q2⟩; rw [q1, q2]; clear q1 q2
      exact g_iret rfl dX13_heirs_35 (hK _ hQ)
    · have hs := ifSt hs c5; have hQ := ifQt hQ c5
      refine g_bipush (v := (-3)) dX13_heirs_25 (by decide) ?_
      refine g_goto 35 dX13_heirs_27 (by decide) ?_
      exact g_iret rfl dX13_heirs_35 (hK _ hQ)
  · have hs := ifSt hs c3; have hQ := ifQt hQ c3
    refine g_iconst (v := (-1)) dX13_heirs_13 (by decide) ?_
    exact g_iret rfl dX13_heirs_14 (hK _ hQ)
theorem c_X13_heirs (E : gE) (M : gM) (x1 : Int32) (hs : s_X13_heirs M x1) : gC E yX13_heirs cX13_heirs 2 (some .int) (rm 4) [.ref (gla E 226), .int x1] M (fun o N => o = some (.int (f_X13_heirs M x1).1) ∧ N = (f_X13_heirs M x1).2) :=
  gC.of (by decide +kernel) (Nat.le_of_ble_eq_true rfl) rfl (t_X13_heirs (K := fun z => z = f_X13_heirs M x1) (fun z hz => by rw [hz]; exact ⟨rfl, rfl⟩) M x1 hs rfl)
def f_X13_margin_88 (M : gM) (x1 : Int32) (x2 : Int32)  : Int32 × gM :=
  (((f_X13_living M x1) - x2) + 1, M)
def s_X13_margin_88 (M : gM) (x1 : Int32) (x2 : Int32)  : Prop :=
  (s_X13_living M x1) ∧
  (True)
theorem o_X13_margin_88 (M : gM) (x1 : Int32) (x2 : Int32)  : offW [67] M (f_X13_margin_88 M x1 x2 ).2 := by
  rw [f_X13_margin_88]
  exact offR
set_option maxRecDepth 100000 in
set_option maxHeartbeats 4000000 in
theorem t_X13_margin_88 {E : gE} {K : Int32 × gM → Prop} {Q : Option Value → gM → Prop} (hK : ∀ z : Int32 × gM, K z → Q (some (.int z.1)) z.2) (M : gM) (x1 : Int32) (x2 : Int32)   (hs : s_X13_margin_88 M x1 x2 ) (hQ : K (f_X13_margin_88 M x1 x2 )) : gG E RX13 cX13_margin 3 (some .int) (rm 4) 88 [(0, .ref (gla E 226)), (1, .int x1), (2, .int x2)] [] M Q := by
  rw [s_X13_margin_88] at hs
  rw [f_X13_margin_88] at hQ
  refine g_aload_n 0 dX13_margin_88 rfl ?_
  refine g_iload_n 1 dX13_margin_89 rfl ?_
  have h18 := hs.1; have hs := hs.2
  refine g_callV (As := [.int x1]) (st := []) 226 (c_X13_living E M x1 h18) mt_X13_living ml_X13_236 dF_Md rfl rfl sg_X13_living rfl (by decide) (Nat.le_of_ble_eq_true rfl) dX13_margin_90 ?_
  rintro _ _ ⟨q1, q2⟩; rw [q1, q2]; clear q1 q2
  refine g_iload_n 2 dX13_margin_93 rfl ?_
  refine g_isub dX13_margin_94 ?_
  refine g_iconst (v := 1) dX13_margin_95 (by decide) ?_
  refine g_iadd dX13_margin_96 ?_
  exact g_iret rfl dX13_margin_97 (hK _ hQ)
def f_X13_margin_36 (M : gM) (x1 : Int32)  : Int32 × gM :=
  bnd (mn (rdI M 88 0 0 (nn 4)) (rdI M 88 0 0 (nn 9))) fun v10 =>
  (if v10 = 0 then
    (((-3), M))
  else
    (if (f_X13_of M x1 4) = 1 then
      (if (f_X13_has M 0 1) = 0 then
        (if (f_X13_has M 1 1) = 0 then
          (f_X13_margin_88 M x1 v10)
        else
          (((-3), M)))
      else
        (((-3), M)))
    else
      (f_X13_margin_88 M x1 v10)))
def s_X13_margin_36 (M : gM) (x1 : Int32)  : Prop :=
  (vp_in 4 502) ∧
  ((vp_in 9 502) ∧
  (bndP (mn (rdI M 88 0 0 (nn 4)) (rdI M 88 0 0 (nn 9))) fun v10 =>
  (if v10 = 0 then
    (True)
  else
    ((s_X13_of M x1 4) ∧
    (if (f_X13_of M x1 4) = 1 then
      ((s_X13_has M 0 1) ∧
      (if (f_X13_has M 0 1) = 0 then
        ((s_X13_has M 1 1) ∧
        (if (f_X13_has M 1 1) = 0 then
          (s_X13_margin_88 M x1 v10)
        else
          (True)))
      else
        (True)))
    else
      (s_X13_margin_88 M x1 v10))))))
theorem o_X13_margin_36 (M : gM) (x1 : Int32)  : offW [67] M (f_X13_margin_36 M x1 ).2 := by
  rw [f_X13_margin_36]
  refine offV2 (fun v10 => ?_)
  refine offI2 ?_ ?_
  · exact offR
  · refine offI2 ?_ ?_
    · refine offI2 ?_ ?_
      · refine offI2 ?_ ?_
        · exact (o_X13_margin_88 M x1 v10)
        · exact offR
      · exact offR
    · exact (o_X13_margin_88 M x1 v10)
set_option maxRecDepth 100000 in
set_option maxHeartbeats 4000000 in
theorem t_X13_margin_36 {E : gE} {K : Int32 × gM → Prop} {Q : Option Value → gM → Prop} (hK : ∀ z : Int32 × gM, K z → Q (some (.int z.1)) z.2) (M : gM) (x1 : Int32)   (hs : s_X13_margin_36 M x1 ) (hQ : K (f_X13_margin_36 M x1 )) : gG E RX13 cX13_margin 3 (some .int) (rm 4) 36 [(0, .ref (gla E 226)), (1, .int x1)] [] M Q := by
  rw [s_X13_margin_36] at hs
  rw [f_X13_margin_36] at hQ
  refine g_aload_n 0 dX13_margin_36 rfl ?_
  refine g_getR 226 228 fd_X13_13 dF_Md rfl rfl dX13_margin_37 ?_
  refine g_iconst (v := 4) dX13_margin_40 (by decide) ?_
  have h8 := hs.1; have hs := hs.2
  refine g_iald 228 dF_Md_world h8 dX13_margin_41 ?_
  refine g_aload_n 0 dX13_margin_42 rfl ?_
  refine g_getR 226 228 fd_X13_13 dF_Md rfl rfl dX13_margin_43 ?_
  refine g_bipush (v := 9) dX13_margin_46 (by decide) ?_
  have h9 := hs.1; have hs := hs.2
  refine g_iald 228 dF_Md_world h9 dX13_margin_48 ?_
  refine g_mmin ml_X13_365 ms_min ms_ini mc_min ⟨by decide, Nat.le_of_ble_eq_true rfl, Nat.zero_le _, Nat.zero_le _⟩ dX13_margin_49 ?_
  refine g_topI (fun v10 hv10 => ?_)
  have hQ := bndQ hQ v10 hv10; have hs := bndS hs v10 hv10
  refine g_istore_n _ dX13_margin_52 (by decide) rfl ?_
  refine g_iload_n 0 dX13_margin_53 rfl ?_
  refine g_if_eq 85 dX13_margin_54 (by decide) (fun c11 => ?_) (fun c11 => ?_)
  · have hs := ifSt hs c11; have hQ := ifQt hQ c11
    refine g_bipush (v := (-3)) dX13_margin_85 (by decide) ?_
    exact g_iret rfl dX13_margin_87 (hK _ hQ)
  · have hs := ifSf hs c11; have hQ := ifQf hQ c11
    refine g_aload_n 1 dX13_margin_57 rfl ?_
    refine g_iload_n 2 dX13_margin_58 rfl ?_
    refine g_iconst (v := 4) dX13_margin_59 (by decide) ?_
    have h12 := hs.1; have hs := hs.2
    refine g_callV (As := [.int x1, .int 4]) (st := []) 226 (c_X13_of E M x1 4 h12) mt_X13_of ml_X13_218 dF_Md rfl rfl sg_X13_of rfl (by decide) (Nat.le_of_ble_eq_true rfl) dX13_margin_60 ?_
    rintro _ _ ⟨q1, q2⟩; rw [q1, q2]; clear q1 q2
    refine g_iconst (v := 1) dX13_margin_63 (by decide) ?_
    refine g_icmp_ne 88 dX13_margin_64 (by decide) (fun c13 => ?_) (fun c13 => ?_)
    · have hs := ifSf hs c13; have hQ := ifQf hQ c13
      refine g_sub [1, 2, 0] _ rfl ?_
      exact t_X13_margin_88 hK M x1 v10 hs hQ
    · have hs := ifSt hs c13; have hQ := ifQt hQ c13
      refine g_aload_n 1 dX13_margin_67 rfl ?_
      refine g_iconst (v := 0) dX13_margin_68 (by decide) ?_
      refine g_iconst (v := 1) dX13_margin_69 (by decide) ?_
      have h14 := hs.1; have hs := hs.2
      refine g_callV (As := [.int 0, .int 1]) (st := []) 226 (c_X13_has E M 0 1 h14) mt_X13_has ml_X13_239 dF_Md rfl rfl sg_X13_has rfl (by decide) (Nat.le_of_ble_eq_true rfl) dX13_margin_70 ?_
      rintro _ _ ⟨q1, q2⟩; rw [q1, q2]; clear q1 q2
      refine g_if_ne 85 dX13_margin_73 (by decide) (fun c15 => ?_) (fun c15 => ?_)
      · have hs := ifSf hs c15; have hQ := ifQf hQ c15
        refine g_bipush (v := (-3)) dX13_margin_85 (by decide) ?_
        exact g_iret rfl dX13_margin_87 (hK _ hQ)
      · have hs := ifSt hs c15; have hQ := ifQt hQ c15
        refine g_aload_n 1 dX13_margin_76 rfl ?_
        refine g_iconst (v := 1) dX13_margin_77 (by decide) ?_
        refine g_iconst (v := 1) dX13_margin_78 (by decide) ?_
        have h16 := hs.1; have hs := hs.2
        refine g_callV (As := [.int 1, .int 1]) (st := []) 226 (c_X13_has E M 1 1 h16) mt_X13_has ml_X13_239 dF_Md rfl rfl sg_X13_has rfl (by decide) (Nat.le_of_ble_eq_true rfl) dX13_margin_79 ?_
        rintro _ _ ⟨q1, q2⟩; rw [q1, q2]; clear q1 q2
        refine g_if_eq 88 dX13_margin_82 (by decide) (fun c17 => ?_) (fun c17 => ?_)
        · have hs := ifSt hs c17; have hQ := ifQt hQ c17
          refine g_sub [1, 2, 0] _ rfl ?_
          exact t_X13_margin_88 hK M x1 v10 hs hQ
        · have hs := ifSf hs c17; have hQ := ifQf hQ c17
          refine g_bipush (v := (-3)) dX13_margin_85 (by decide) ?_
          exact g_iret rfl dX13_margin_87 (hK _ hQ)
def f_X13_margin (M : gM) (x1 : Int32) : Int32 × gM :=
  bnd (wrI M 67 0 0 0 0) fun M1 =>
  (if (f_X13_isPaper M1 x1) = 0 then
    (((-1), M1))
  else
    (if (f_X13_hasForm M1 x1 0) = 0 then
      (if (f_X13_hasForm M1 x1 1) = 0 then
        (((-2), M1))
      else
        (f_X13_margin_36 M1 x1))
    else
      (f_X13_margin_36 M1 x1)))
def s_X13_margin (M : gM) (x1 : Int32) : Prop :=
  bndP (wrI M 67 0 0 0 0) fun M1 =>
  ((s_X13_isPaper M1 x1) ∧
  (if (f_X13_isPaper M1 x1) = 0 then
    (True)
  else
    ((s_X13_hasForm M1 x1 0) ∧
    (if (f_X13_hasForm M1 x1 0) = 0 then
      ((s_X13_hasForm M1 x1 1) ∧
      (if (f_X13_hasForm M1 x1 1) = 0 then
        (True)
      else
        (s_X13_margin_36 M1 x1)))
    else
      (s_X13_margin_36 M1 x1)))))
theorem o_X13_margin (M : gM) (x1 : Int32) : offW [67] M (f_X13_margin M x1).2 := by
  rw [f_X13_margin]
  refine offB2 (offR.wI (by decide)) (fun M1 oM1 => ?_)
  refine offI2 ?_ ?_
  · exact oM1
  · refine offI2 ?_ ?_
    · refine offI2 ?_ ?_
      · exact oM1
      · exact oM1.tr (o_X13_margin_36 M1 x1)
    · exact oM1.tr (o_X13_margin_36 M1 x1)
set_option maxRecDepth 100000 in
set_option maxHeartbeats 4000000 in
theorem t_X13_margin {E : gE} {K : Int32 × gM → Prop} {Q : Option Value → gM → Prop} (hK : ∀ z : Int32 × gM, K z → Q (some (.int z.1)) z.2) (M : gM) (x1 : Int32)  (hs : s_X13_margin M x1) (hQ : K (f_X13_margin M x1)) : gG E RX13 cX13_margin 3 (some .int) (rm 4) 0 [(0, .ref (gla E 226)), (1, .int x1)] [] M Q := by
  rw [s_X13_margin] at hs
  rw [f_X13_margin] at hQ
  refine g_aload_n 0 dX13_margin_0 rfl ?_
  refine g_iconst (v := 0) dX13_margin_1 (by decide) ?_
  refine g_putI 226 fd_X13_61 dF_Md rfl dX13_margin_2 (fun M1 hM1 => ?_)
  have hQ := bndQ hQ M1 hM1; have hs := bndS hs M1 hM1
  refine g_aload_n 0 dX13_margin_5 rfl ?_
  refine g_iload_n 1 dX13_margin_6 rfl ?_
  have h2 := hs.1; have hs := hs.2
  refine g_callV (As := [.int x1]) (st := []) 226 (c_X13_isPaper E M1 x1 h2) mt_X13_isPaper ml_X13_215 dF_Md rfl rfl sg_X13_isPaper rfl (by decide) (Nat.le_of_ble_eq_true rfl) dX13_margin_7 ?_
  rintro _ _ ⟨q1, q2⟩; rw [q1, q2]; clear q1 q2
  refine g_if_ne 15 dX13_margin_10 (by decide) (fun c3 => ?_) (fun c3 => ?_)
  · have hs := ifSf hs c3; have hQ := ifQf hQ c3
    refine g_aload_n 0 dX13_margin_15 rfl ?_
    refine g_iload_n 1 dX13_margin_16 rfl ?_
    refine g_iconst (v := 0) dX13_margin_17 (by decide) ?_
    have h4 := hs.1; have hs := hs.2
    refine g_callV (As := [.int x1, .int 0]) (st := []) 226 (c_X13_hasForm E M1 x1 0 h4) mt_X13_hasForm ml_X13_242 dF_Md rfl rfl sg_X13_hasForm rfl (by decide) (Nat.le_of_ble_eq_true rfl) dX13_margin_18 ?_
    rintro _ _ ⟨q1, q2⟩; rw [q1, q2]; clear q1 q2
    refine g_if_ne 36 dX13_margin_21 (by decide) (fun c5 => ?_) (fun c5 => ?_)
    · have hs := ifSf hs c5; have hQ := ifQf hQ c5
      exact t_X13_margin_36 hK M1 x1 hs hQ
    · have hs := ifSt hs c5; have hQ := ifQt hQ c5
      refine g_aload_n 0 dX13_margin_24 rfl ?_
      refine g_iload_n 1 dX13_margin_25 rfl ?_
      refine g_iconst (v := 1) dX13_margin_26 (by decide) ?_
      have h6 := hs.1; have hs := hs.2
      refine g_callV (As := [.int x1, .int 1]) (st := []) 226 (c_X13_hasForm E M1 x1 1 h6) mt_X13_hasForm ml_X13_242 dF_Md rfl rfl sg_X13_hasForm rfl (by decide) (Nat.le_of_ble_eq_true rfl) dX13_margin_27 ?_
      rintro _ _ ⟨q1, q2⟩; rw [q1, q2]; clear q1 q2
      refine g_if_ne 36 dX13_margin_30 (by decide) (fun c7 => ?_) (fun c7 => ?_)
      · have hs := ifSf hs c7; have hQ := ifQf hQ c7
        exact t_X13_margin_36 hK M1 x1 hs hQ
      · have hs := ifSt hs c7; have hQ := ifQt hQ c7
        refine g_bipush (v := (-2)) dX13_margin_33 (by decide) ?_
        exact g_iret rfl dX13_margin_35 (hK _ hQ)
  · have hs := ifSt hs c3; have hQ := ifQt hQ c3
    refine g_iconst (v := (-1)) dX13_margin_13 (by decide) ?_
    exact g_iret rfl dX13_margin_14 (hK _ hQ)
theorem c_X13_margin (E : gE) (M : gM) (x1 : Int32) (hs : s_X13_margin M x1) : gC E yX13_margin cX13_margin 3 (some .int) (rm 4) [.ref (gla E 226), .int x1] M (fun o N => o = some (.int (f_X13_margin M x1).1) ∧ N = (f_X13_margin M x1).2) :=
  gC.of (by decide +kernel) (Nat.le_of_ble_eq_true rfl) rfl (t_X13_margin (K := fun z => z = f_X13_margin M x1) (fun z hz => by rw [hz]; exact ⟨rfl, rfl⟩) M x1 hs rfl)
def f_X13_sees (M : gM) (x1 : Int32) (x2 : Int32) (x3 : Int32) : Int32 × gM :=
  bnd (wrI M 67 0 0 0 0) fun M1 =>
  (if (f_X13_isPerson M1 x1) = 0 then
    (((-1), M1))
  else
    (if (f_X13_isPaper M1 x2) = 0 then
      (((-1), M1))
    else
      (if (f_X13_isDay M1 x3) = 0 then
        (((-1), M1))
      else
        (if (f_X13_lives M1 x1 x3) = 0 then
          ((0, M1))
        else
          (if (f_X13_lives M1 (f_X13_of M1 x2 0) x3) = 0 then
            (bnd (((rdI M1 92 0 0 (nn (22 + x2))) ||| (f_X13_namedIn M1 x2)) ||| (f_X13_heirsOf M1 (f_X13_of M1 x2 0))) fun v16 =>
            (((v16 >>> (x1 &&& 31)) &&& 1, M1)))
          else
            (if x1 = (f_X13_of M1 x2 0) then
              ((1, M1))
            else
              ((0, M1))))))))
def s_X13_sees (M : gM) (x1 : Int32) (x2 : Int32) (x3 : Int32) : Prop :=
  bndP (wrI M 67 0 0 0 0) fun M1 =>
  ((s_X13_isPerson M1 x1) ∧
  (if (f_X13_isPerson M1 x1) = 0 then
    (True)
  else
    ((s_X13_isPaper M1 x2) ∧
    (if (f_X13_isPaper M1 x2) = 0 then
      (True)
    else
      ((s_X13_isDay M1 x3) ∧
      (if (f_X13_isDay M1 x3) = 0 then
        (True)
      else
        ((s_X13_lives M1 x1 x3) ∧
        (if (f_X13_lives M1 x1 x3) = 0 then
          (True)
        else
          ((s_X13_of M1 x2 0) ∧
          ((s_X13_lives M1 (f_X13_of M1 x2 0) x3) ∧
          (if (f_X13_lives M1 (f_X13_of M1 x2 0) x3) = 0 then
            ((vp_in (22 + x2) 65) ∧
            ((s_X13_namedIn M1 x2) ∧
            ((s_X13_heirsOf M1 (f_X13_of M1 x2 0)) ∧
            (bndP (((rdI M1 92 0 0 (nn (22 + x2))) ||| (f_X13_namedIn M1 x2)) ||| (f_X13_heirsOf M1 (f_X13_of M1 x2 0))) fun v16 =>
            (True)))))
          else
            (if x1 = (f_X13_of M1 x2 0) then
              (True)
            else
              (True)))))))))))))
theorem o_X13_sees (M : gM) (x1 : Int32) (x2 : Int32) (x3 : Int32) : offW [67] M (f_X13_sees M x1 x2 x3).2 := by
  rw [f_X13_sees]
  refine offB2 (offR.wI (by decide)) (fun M1 oM1 => ?_)
  refine offI2 ?_ ?_
  · exact oM1
  · refine offI2 ?_ ?_
    · exact oM1
    · refine offI2 ?_ ?_
      · exact oM1
      · refine offI2 ?_ ?_
        · exact oM1
        · refine offI2 ?_ ?_
          · refine offV2 (fun v16 => ?_)
            exact oM1
          · refine offI2 ?_ ?_
            · exact oM1
            · exact oM1
set_option maxRecDepth 100000 in
set_option maxHeartbeats 4000000 in
theorem t_X13_sees {E : gE} {K : Int32 × gM → Prop} {Q : Option Value → gM → Prop} (hK : ∀ z : Int32 × gM, K z → Q (some (.int z.1)) z.2) (M : gM) (x1 : Int32) (x2 : Int32) (x3 : Int32)  (hs : s_X13_sees M x1 x2 x3) (hQ : K (f_X13_sees M x1 x2 x3)) : gG E RX13 cX13_sees 6 (some .int) (rm 4) 0 [(0, .ref (gla E 226)), (1, .int x1), (2, .int x2), (3, .int x3)] [] M Q := by
  rw [s_X13_sees] at hs
  rw [f_X13_sees] at hQ
  refine g_aload_n 0 dX13_sees_0 rfl ?_
  refine g_iconst (v := 0) dX13_sees_1 (by decide) ?_
  refine g_putI 226 fd_X13_61 dF_Md rfl dX13_sees_2 (fun M1 hM1 => ?_)
  have hQ := bndQ hQ M1 hM1; have hs := bndS hs M1 hM1
  refine g_aload_n 0 dX13_sees_5 rfl ?_
  refine g_iload_n 1 dX13_sees_6 rfl ?_
  have h2 := hs.1; have hs := hs.2
  refine g_callV (As := [.int x1]) (st := []) 226 (c_X13_isPerson E M1 x1 h2) mt_X13_isPerson ml_X13_206 dF_Md rfl rfl sg_X13_isPerson rfl (by decide) (Nat.le_of_ble_eq_true rfl) dX13_sees_7 ?_
  rintro _ _ ⟨q1, q2⟩; rw [q1, q2]; clear q1 q2
  refine g_if_eq 28 dX13_sees_10 (by decide) (fun c3 => ?_) (fun c3 => ?_)
  · have hs := ifSt hs c3; have hQ := ifQt hQ c3
    refine g_iconst (v := (-1)) dX13_sees_28 (by decide) ?_
    exact g_iret rfl dX13_sees_29 (hK _ hQ)
  · have hs := ifSf hs c3; have hQ := ifQf hQ c3
    refine g_aload_n 0 dX13_sees_13 rfl ?_
    refine g_iload_n 2 dX13_sees_14 rfl ?_
    have h4 := hs.1; have hs := hs.2
    refine g_callV (As := [.int x2]) (st := []) 226 (c_X13_isPaper E M1 x2 h4) mt_X13_isPaper ml_X13_215 dF_Md rfl rfl sg_X13_isPaper rfl (by decide) (Nat.le_of_ble_eq_true rfl) dX13_sees_15 ?_
    rintro _ _ ⟨q1, q2⟩; rw [q1, q2]; clear q1 q2
    refine g_if_eq 28 dX13_sees_18 (by decide) (fun c5 => ?_) (fun c5 => ?_)
    · have hs := ifSt hs c5; have hQ := ifQt hQ c5
      refine g_iconst (v := (-1)) dX13_sees_28 (by decide) ?_
      exact g_iret rfl dX13_sees_29 (hK _ hQ)
    · have hs := ifSf hs c5; have hQ := ifQf hQ c5
      refine g_iload_n 3 dX13_sees_21 rfl ?_
      have h6 := hs.1; have hs := hs.2
      refine g_callS (As := [.int x3]) (st := []) (c_X13_isDay E M1 x3 h6) mt_X13_isDay ml_X13_230 sg_X13_isDay rfl (by decide) (Nat.le_of_ble_eq_true rfl) dX13_sees_22 ?_
      rintro _ _ ⟨q1, q2⟩; rw [q1, q2]; clear q1 q2
      refine g_if_ne 30 dX13_sees_25 (by decide) (fun c7 => ?_) (fun c7 => ?_)
      · have hs := ifSf hs c7; have hQ := ifQf hQ c7
        refine g_aload_n 0 dX13_sees_30 rfl ?_
        refine g_iload_n 1 dX13_sees_31 rfl ?_
        refine g_iload_n 3 dX13_sees_32 rfl ?_
        have h8 := hs.1; have hs := hs.2
        refine g_callV (As := [.int x1, .int x3]) (st := []) 226 (c_X13_lives E M1 x1 x3 h8) mt_X13_lives ml_X13_233 dF_Md rfl rfl sg_X13_lives rfl (by decide) (Nat.le_of_ble_eq_true rfl) dX13_sees_33 ?_
        rintro _ _ ⟨q1, q2⟩; rw [q1, q2]; clear q1 q2
        refine g_if_ne 41 dX13_sees_36 (by decide) (fun c9 => ?_) (fun c9 => ?_)
        · have hs := ifSf hs c9; have hQ := ifQf hQ c9
          refine g_aload_n 0 dX13_sees_41 rfl ?_
          refine g_iload_n 2 dX13_sees_42 rfl ?_
          refine g_iconst (v := 0) dX13_sees_43 (by decide) ?_
          have h10 := hs.1; have hs := hs.2
          refine g_callV (As := [.int x2, .int 0]) (st := []) 226 (c_X13_of E M1 x2 0 h10) mt_X13_of ml_X13_218 dF_Md rfl rfl sg_X13_of rfl (by decide) (Nat.le_of_ble_eq_true rfl) dX13_sees_44 ?_
          rintro _ _ ⟨q1, q2⟩; rw [q1, q2]; clear q1 q2
          refine g_istore _ dX13_sees_47 (by decide) rfl ?_
          refine g_aload_n 1 dX13_sees_49 rfl ?_
          refine g_iload 0 dX13_sees_50 rfl ?_
          refine g_iload_n 4 dX13_sees_52 rfl ?_
          have h11 := hs.1; have hs := hs.2
          refine g_callV (As := [.int (f_X13_of M1 x2 0), .int x3]) (st := []) 226 (c_X13_lives E M1 (f_X13_of M1 x2 0) x3 h11) mt_X13_lives ml_X13_233 dF_Md rfl rfl sg_X13_lives rfl (by decide) (Nat.le_of_ble_eq_true rfl) dX13_sees_53 ?_
          rintro _ _ ⟨q1, q2⟩; rw [q1, q2]; clear q1 q2
          refine g_if_eq 71 dX13_sees_56 (by decide) (fun c12 => ?_) (fun c12 => ?_)
          · have hs := ifSt hs c12; have hQ := ifQt hQ c12
            refine g_aload_n 1 dX13_sees_71 rfl ?_
            refine g_getR 226 232 fd_X13_25 dF_Md rfl rfl dX13_sees_72 ?_
            refine g_bipush (v := 22) dX13_sees_75 (by decide) ?_
            refine g_iload_n 3 dX13_sees_77 rfl ?_
            refine g_iadd dX13_sees_78 ?_
            have h13 := hs.1; have hs := hs.2
            refine g_iald 232 dF_Md_now h13 dX13_sees_79 ?_
            refine g_aload_n 1 dX13_sees_80 rfl ?_
            refine g_iload_n 3 dX13_sees_81 rfl ?_
            have h14 := hs.1; have hs := hs.2
            refine g_callV (As := [.int x2]) (st := [.int (rdI M1 92 0 0 (nn (22 + x2)))]) 226 (c_X13_namedIn E M1 x2 h14) mt_X13_namedIn ml_X13_343 dF_Md rfl rfl sg_X13_namedIn rfl (by decide) (Nat.le_of_ble_eq_true rfl) dX13_sees_82 ?_
            rintro _ _ ⟨q1, q2⟩; rw [q1, q2]; clear q1 q2
            refine g_ior dX13_sees_85 ?_
            refine g_aload_n 1 dX13_sees_86 rfl ?_
            refine g_iload 0 dX13_sees_87 rfl ?_
            have h15 := hs.1; have hs := hs.2
            refine g_callV (As := [.int (f_X13_of M1 x2 0)]) (st := [.int ((rdI M1 92 0 0 (nn (22 + x2))) ||| (f_X13_namedIn M1 x2))]) 226 (c_X13_heirsOf E M1 (f_X13_of M1 x2 0) h15) mt_X13_heirsOf ml_X13_290 dF_Md rfl rfl sg_X13_heirsOf rfl (by decide) (Nat.le_of_ble_eq_true rfl) dX13_sees_89 ?_
            rintro _ _ ⟨q1, q2⟩; rw [q1, q2]; clear q1 q2
            refine g_ior dX13_sees_92 ?_
            refine g_topI (fun v16 hv16 => ?_)
            have hQ := bndQ hQ v16 hv16; have hs := bndS hs v16 hv16
            refine g_istore _ dX13_sees_93 (by decide) rfl ?_
            refine g_iload 0 dX13_sees_95 rfl ?_
            refine g_iload_n 3 dX13_sees_97 rfl ?_
            refine g_ishr dX13_sees_98 ?_
            refine g_iconst (v := 1) dX13_sees_99 (by decide) ?_
            refine g_iand dX13_sees_100 ?_
            exact g_iret rfl dX13_sees_101 (hK _ hQ)
          · have hs := ifSf hs c12; have hQ := ifQf hQ c12
            refine g_iload_n 2 dX13_sees_59 rfl ?_
            refine g_iload 0 dX13_sees_60 rfl ?_
            refine g_icmp_ne 69 dX13_sees_62 (by decide) (fun c17 => ?_) (fun c17 => ?_)
            · have hs := ifSf hs c17; have hQ := ifQf hQ c17
              refine g_iconst (v := 0) dX13_sees_69 (by decide) ?_
              exact g_iret rfl dX13_sees_70 (hK _ hQ)
            · have hs := ifSt hs c17; have hQ := ifQt hQ c17
              refine g_iconst (v := 1) dX13_sees_65 (by decide) ?_
              refine g_goto 70 dX13_sees_66 (by decide) ?_
              exact g_iret rfl dX13_sees_70 (hK _ hQ)
        · have hs := ifSt hs c9; have hQ := ifQt hQ c9
          refine g_iconst (v := 0) dX13_sees_39 (by decide) ?_
          exact g_iret rfl dX13_sees_40 (hK _ hQ)
      · have hs := ifSt hs c7; have hQ := ifQt hQ c7
        refine g_iconst (v := (-1)) dX13_sees_28 (by decide) ?_
        exact g_iret rfl dX13_sees_29 (hK _ hQ)
theorem c_X13_sees (E : gE) (M : gM) (x1 : Int32) (x2 : Int32) (x3 : Int32) (hs : s_X13_sees M x1 x2 x3) : gC E yX13_sees cX13_sees 6 (some .int) (rm 4) [.ref (gla E 226), .int x1, .int x2, .int x3] M (fun o N => o = some (.int (f_X13_sees M x1 x2 x3).1) ∧ N = (f_X13_sees M x1 x2 x3).2) :=
  gC.of (by decide +kernel) (Nat.le_of_ble_eq_true rfl) rfl (t_X13_sees (K := fun z => z = f_X13_sees M x1 x2 x3) (fun z hz => by rw [hz]; exact ⟨rfl, rfl⟩) M x1 x2 x3 hs rfl)
def f_X13_wordHere_97 (M : gM) (x1 : Int32) (k4 : Int32 → Int32 → Int32) : Nat → Int32 → Int32
  | 0, _ => 0
  | n + 1, x2 =>
    if (f_J0_charAt_5068e M 22 x2) = 32 then
      (k4 (x1 + 1) (x2 + 1))
    else
      (f_X13_wordHere_97 M x1 k4 n (x2 + 1))
def s_X13_wordHere_97 (M : gM) (x1 : Int32) (q4 : Int32 → Int32 → Prop) : Nat → Int32 → Prop
  | 0, _ => False
  | n + 1, x2 =>
    (s_J0_charAt_5068e M 22 x2) ∧
    (if (f_J0_charAt_5068e M 22 x2) = 32 then
      (q4 (x1 + 1) (x2 + 1))
    else
      (s_X13_wordHere_97 M x1 q4 n (x2 + 1)))
set_option maxRecDepth 100000 in
set_option maxHeartbeats 4000000 in
theorem t_X13_wordHere_97 {E : gE} {K : Int32 → Prop} {Q : Option Value → gM → Prop} {M : gM} (hK : ∀ z : Int32, K z → Q (some (.int z)) M) (x1 : Int32)  (k4 : Int32 → Int32 → Int32) (q4 : Int32 → Int32 → Prop) (hk4 : ∀ (x1 : Int32) (x2 : Int32) , q4 x1 x2 → K (k4 x1 x2) → gG E RX13 cX13_wordHere 4 (some .int) (rm 5) 4 [(0, .ref (gla E 226)), (1, .int x1), (2, .int x2)] [] M Q) : ∀ (n : Nat) (x2 : Int32) , s_X13_wordHere_97 M x1 q4 n x2 → K (f_X13_wordHere_97 M x1 k4 n x2) → gG E RX13 cX13_wordHere 4 (some .int) (rm 5) 97 [(0, .ref (gla E 226)), (1, .int x1), (2, .int x2)] [] M Q := by
  intro n
  induction n with
  | zero => intro x2 hs hQ; exact (hs : False).elim
  | succ n ih =>
    intro x2 hs hQ
    rw [s_X13_wordHere_97] at hs
    rw [f_X13_wordHere_97] at hQ
    refine g_ldcW rfl rfl dX13_wordHere_97 ?_
    refine g_iload_n 2 dX13_wordHere_99 rfl ?_
    have h12 := hs.1; have hs := hs.2
    refine g_callT (As := [.int x2]) (st := []) 22 (by decide) (c_J0_charAt_5068e E M 22 (by decide) x2 h12) mt_J0_charAt_5068e ml_X13_107 rfl sg_J0_charAt_5068e rfl (by decide) (Nat.le_of_ble_eq_true rfl) dX13_wordHere_100 ?_
    rintro _ _ ⟨q1, q2⟩; rw [q1, q2]; clear q1 q2
    refine g_bipush (v := 32) dX13_wordHere_103 (by decide) ?_
    refine g_icmp_eq 114 dX13_wordHere_105 (by decide) (fun c13 => ?_) (fun c13 => ?_)
    · have hs := ifSt hs c13; have hQ := ifQt hQ c13
      refine g_iinc 2 (v := x2 + 1) _ dX13_wordHere_114 rfl rfl (by decide) rfl ?_
      refine g_iinc 2 (v := x1 + 1) _ dX13_wordHere_117 rfl rfl (by decide) rfl ?_
      refine g_goto 4 dX13_wordHere_120 (by decide) ?_
      refine g_sub [2, 0, 1] _ rfl ?_
      exact hk4 (x1 + 1) (x2 + 1) hs hQ
    · have hs := ifSf hs c13; have hQ := ifQf hQ c13
      refine g_iinc 2 (v := x2 + 1) _ dX13_wordHere_108 rfl rfl (by decide) rfl ?_
      refine g_goto 97 dX13_wordHere_111 (by decide) ?_
      refine g_sub [1, 2, 0] _ rfl ?_
      exact ih (x2 + 1) hs hQ
def f_X13_wordHere_69 (M : gM) (x1 : Int32) (x2 : Int32) (x3 : Int32) (k4 : Int32 → Int32 → Int32) : Int32 :=
  if (f_J0_charAt_5068e M 22 (x2 + x3)) = 32 then
    (if ((rdI M 72 0 0 0) + x3) = (rdI M 71 0 0 0) then
      (x1)
    else
      (f_X13_wordHere_97 M x1 k4 FU x2))
  else
    (f_X13_wordHere_97 M x1 k4 FU x2)
def s_X13_wordHere_69 (M : gM) (x1 : Int32) (x2 : Int32) (x3 : Int32) (q4 : Int32 → Int32 → Prop) : Prop :=
  (s_J0_charAt_5068e M 22 (x2 + x3)) ∧
  (if (f_J0_charAt_5068e M 22 (x2 + x3)) = 32 then
    (if ((rdI M 72 0 0 0) + x3) = (rdI M 71 0 0 0) then
      (True)
    else
      (s_X13_wordHere_97 M x1 q4 FU x2))
  else
    (s_X13_wordHere_97 M x1 q4 FU x2))
set_option maxRecDepth 100000 in
set_option maxHeartbeats 4000000 in
theorem t_X13_wordHere_69 {E : gE} {K : Int32 → Prop} {Q : Option Value → gM → Prop} {M : gM} (hK : ∀ z : Int32, K z → Q (some (.int z)) M) (x1 : Int32) (x2 : Int32) (x3 : Int32)  (k4 : Int32 → Int32 → Int32) (q4 : Int32 → Int32 → Prop) (hk4 : ∀ (x1 : Int32) (x2 : Int32) , q4 x1 x2 → K (k4 x1 x2) → gG E RX13 cX13_wordHere 4 (some .int) (rm 5) 4 [(0, .ref (gla E 226)), (1, .int x1), (2, .int x2)] [] M Q) (hs : s_X13_wordHere_69 M x1 x2 x3 q4) (hQ : K (f_X13_wordHere_69 M x1 x2 x3 k4)) : gG E RX13 cX13_wordHere 4 (some .int) (rm 5) 69 [(0, .ref (gla E 226)), (1, .int x1), (2, .int x2), (3, .int x3)] [] M Q := by
  rw [s_X13_wordHere_69] at hs
  rw [f_X13_wordHere_69] at hQ
  refine g_ldcW rfl rfl dX13_wordHere_69 ?_
  refine g_iload_n 2 dX13_wordHere_71 rfl ?_
  refine g_iload_n 3 dX13_wordHere_72 rfl ?_
  refine g_iadd dX13_wordHere_73 ?_
  have h9 := hs.1; have hs := hs.2
  refine g_callT (As := [.int (x2 + x3)]) (st := []) 22 (by decide) (c_J0_charAt_5068e E M 22 (by decide) (x2 + x3) h9) mt_J0_charAt_5068e ml_X13_107 rfl sg_J0_charAt_5068e rfl (by decide) (Nat.le_of_ble_eq_true rfl) dX13_wordHere_74 ?_
  rintro _ _ ⟨q1, q2⟩; rw [q1, q2]; clear q1 q2
  refine g_bipush (v := 32) dX13_wordHere_77 (by decide) ?_
  refine g_icmp_ne 97 dX13_wordHere_79 (by decide) (fun c10 => ?_) (fun c10 => ?_)
  · have hs := ifSf hs c10; have hQ := ifQf hQ c10
    refine g_sub [0, 1, 2] _ rfl ?_
    exact t_X13_wordHere_97 hK x1 k4 q4 hk4 FU x2 hs hQ
  · have hs := ifSt hs c10; have hQ := ifQt hQ c10
    refine g_aload_n 0 dX13_wordHere_82 rfl ?_
    refine g_getI 226 fd_X13_77 dF_Md rfl dX13_wordHere_83 ?_
    refine g_iload_n 3 dX13_wordHere_86 rfl ?_
    refine g_iadd dX13_wordHere_87 ?_
    refine g_aload_n 0 dX13_wordHere_88 rfl ?_
    refine g_getI 226 fd_X13_67 dF_Md rfl dX13_wordHere_89 ?_
    refine g_icmp_ne 97 dX13_wordHere_92 (by decide) (fun c11 => ?_) (fun c11 => ?_)
    · have hs := ifSf hs c11; have hQ := ifQf hQ c11
      refine g_sub [0, 1, 2] _ rfl ?_
      exact t_X13_wordHere_97 hK x1 k4 q4 hk4 FU x2 hs hQ
    · have hs := ifSt hs c11; have hQ := ifQt hQ c11
      refine g_iload_n 1 dX13_wordHere_95 rfl ?_
      exact g_iret rfl dX13_wordHere_96 (hK _ hQ)
def f_X13_wordHere_15 (M : gM) (x1 : Int32) (x2 : Int32) (k4 : Int32 → Int32 → Int32) : Nat → Int32 → Int32
  | 0, _ => 0
  | n + 1, x3 =>
    if (f_J0_charAt_5068e M 22 (x2 + x3)) = 32 then
      (f_X13_wordHere_69 M x1 x2 x3 k4)
    else
      (if (rdI M 71 0 0 0) ≤ ((rdI M 72 0 0 0) + x3) then
        (f_X13_wordHere_69 M x1 x2 x3 k4)
      else
        (if (rdI M 87 0 0 (nn ((rdI M 72 0 0 0) + x3))) = (f_J0_charAt_5068e M 22 (x2 + x3)) then
          (f_X13_wordHere_15 M x1 x2 k4 n (x3 + 1))
        else
          (f_X13_wordHere_69 M x1 x2 x3 k4)))
def s_X13_wordHere_15 (M : gM) (x1 : Int32) (x2 : Int32) (q4 : Int32 → Int32 → Prop) : Nat → Int32 → Prop
  | 0, _ => False
  | n + 1, x3 =>
    (s_J0_charAt_5068e M 22 (x2 + x3)) ∧
    (if (f_J0_charAt_5068e M 22 (x2 + x3)) = 32 then
      (s_X13_wordHere_69 M x1 x2 x3 q4)
    else
      (if (rdI M 71 0 0 0) ≤ ((rdI M 72 0 0 0) + x3) then
        (s_X13_wordHere_69 M x1 x2 x3 q4)
      else
        ((vp_in ((rdI M 72 0 0 0) + x3) 1200) ∧
        ((s_J0_charAt_5068e M 22 (x2 + x3)) ∧
        (if (rdI M 87 0 0 (nn ((rdI M 72 0 0 0) + x3))) = (f_J0_charAt_5068e M 22 (x2 + x3)) then
          (s_X13_wordHere_15 M x1 x2 q4 n (x3 + 1))
        else
          (s_X13_wordHere_69 M x1 x2 x3 q4))))))
set_option maxRecDepth 100000 in
set_option maxHeartbeats 4000000 in
theorem t_X13_wordHere_15 {E : gE} {K : Int32 → Prop} {Q : Option Value → gM → Prop} {M : gM} (hK : ∀ z : Int32, K z → Q (some (.int z)) M) (x1 : Int32) (x2 : Int32)  (k4 : Int32 → Int32 → Int32) (q4 : Int32 → Int32 → Prop) (hk4 : ∀ (x1 : Int32) (x2 : Int32) , q4 x1 x2 → K (k4 x1 x2) → gG E RX13 cX13_wordHere 4 (some .int) (rm 5) 4 [(0, .ref (gla E 226)), (1, .int x1), (2, .int x2)] [] M Q) : ∀ (n : Nat) (x3 : Int32) , s_X13_wordHere_15 M x1 x2 q4 n x3 → K (f_X13_wordHere_15 M x1 x2 k4 n x3) → gG E RX13 cX13_wordHere 4 (some .int) (rm 5) 15 [(0, .ref (gla E 226)), (1, .int x1), (2, .int x2), (3, .int x3)] [] M Q := by
  intro n
  induction n with
  | zero => intro x3 hs hQ; exact (hs : False).elim
  | succ n ih =>
    intro x3 hs hQ
    rw [s_X13_wordHere_15] at hs
    rw [f_X13_wordHere_15] at hQ
    refine g_ldcW rfl rfl dX13_wordHere_15 ?_
    refine g_iload_n 2 dX13_wordHere_17 rfl ?_
    refine g_iload_n 3 dX13_wordHere_18 rfl ?_
    refine g_iadd dX13_wordHere_19 ?_
    have h3 := hs.1; have hs := hs.2
    refine g_callT (As := [.int (x2 + x3)]) (st := []) 22 (by decide) (c_J0_charAt_5068e E M 22 (by decide) (x2 + x3) h3) mt_J0_charAt_5068e ml_X13_107 rfl sg_J0_charAt_5068e rfl (by decide) (Nat.le_of_ble_eq_true rfl) dX13_wordHere_20 ?_
    rintro _ _ ⟨q1, q2⟩; rw [q1, q2]; clear q1 q2
    refine g_bipush (v := 32) dX13_wordHere_23 (by decide) ?_
    refine g_icmp_eq 69 dX13_wordHere_25 (by decide) (fun c4 => ?_) (fun c4 => ?_)
    · have hs := ifSt hs c4; have hQ := ifQt hQ c4
      exact t_X13_wordHere_69 hK x1 x2 x3 k4 q4 hk4 hs hQ
    · have hs := ifSf hs c4; have hQ := ifQf hQ c4
      refine g_aload_n 0 dX13_wordHere_28 rfl ?_
      refine g_getI 226 fd_X13_77 dF_Md rfl dX13_wordHere_29 ?_
      refine g_iload_n 3 dX13_wordHere_32 rfl ?_
      refine g_iadd dX13_wordHere_33 ?_
      refine g_aload_n 0 dX13_wordHere_34 rfl ?_
      refine g_getI 226 fd_X13_67 dF_Md rfl dX13_wordHere_35 ?_
      refine g_icmp_ge 69 dX13_wordHere_38 (by decide) (fun c5 => ?_) (fun c5 => ?_)
      · have hs := ifSt hs c5; have hQ := ifQt hQ c5
        exact t_X13_wordHere_69 hK x1 x2 x3 k4 q4 hk4 hs hQ
      · have hs := ifSf hs c5; have hQ := ifQf hQ c5
        refine g_aload_n 0 dX13_wordHere_41 rfl ?_
        refine g_getR 226 227 fd_X13_7 dF_Md rfl rfl dX13_wordHere_42 ?_
        refine g_aload_n 0 dX13_wordHere_45 rfl ?_
        refine g_getI 226 fd_X13_77 dF_Md rfl dX13_wordHere_46 ?_
        refine g_iload_n 3 dX13_wordHere_49 rfl ?_
        refine g_iadd dX13_wordHere_50 ?_
        have h6 := hs.1; have hs := hs.2
        refine g_iald 227 dF_Md_tape h6 dX13_wordHere_51 ?_
        refine g_ldcW rfl rfl dX13_wordHere_52 ?_
        refine g_iload_n 2 dX13_wordHere_54 rfl ?_
        refine g_iload_n 3 dX13_wordHere_55 rfl ?_
        refine g_iadd dX13_wordHere_56 ?_
        have h7 := hs.1; have hs := hs.2
        refine g_callT (As := [.int (x2 + x3)]) (st := [.int (rdI M 87 0 0 (nn ((rdI M 72 0 0 0) + x3)))]) 22 (by decide) (c_J0_charAt_5068e E M 22 (by decide) (x2 + x3) h7) mt_J0_charAt_5068e ml_X13_107 rfl sg_J0_charAt_5068e rfl (by decide) (Nat.le_of_ble_eq_true rfl) dX13_wordHere_57 ?_
        rintro _ _ ⟨q1, q2⟩; rw [q1, q2]; clear q1 q2
        refine g_icmp_ne 69 dX13_wordHere_60 (by decide) (fun c8 => ?_) (fun c8 => ?_)
        · have hs := ifSf hs c8; have hQ := ifQf hQ c8
          exact t_X13_wordHere_69 hK x1 x2 x3 k4 q4 hk4 hs hQ
        · have hs := ifSt hs c8; have hQ := ifQt hQ c8
          refine g_iinc 3 (v := x3 + 1) _ dX13_wordHere_63 rfl rfl (by decide) rfl ?_
          refine g_goto 15 dX13_wordHere_66 (by decide) ?_
          refine g_sub [1, 2, 3, 0] _ rfl ?_
          exact ih (x3 + 1) hs hQ
def f_X13_wordHere_4 (M : gM)  : Nat → Int32 → Int32 → Int32
  | 0, _, _ => 0
  | n + 1, x1, x2 =>
    if (f_J0_length_8abf5 M 22) ≤ x2 then
      ((-1))
    else
      (f_X13_wordHere_15 M x1 x2 (f_X13_wordHere_4 M n) FU 0)
def s_X13_wordHere_4 (M : gM)  : Nat → Int32 → Int32 → Prop
  | 0, _, _ => False
  | n + 1, x1, x2 =>
    (s_J0_length_8abf5 M 22) ∧
    (if (f_J0_length_8abf5 M 22) ≤ x2 then
      (True)
    else
      (s_X13_wordHere_15 M x1 x2 (s_X13_wordHere_4 M n) FU 0))
set_option maxRecDepth 100000 in
set_option maxHeartbeats 4000000 in
theorem t_X13_wordHere_4 {E : gE} {K : Int32 → Prop} {Q : Option Value → gM → Prop} {M : gM} (hK : ∀ z : Int32, K z → Q (some (.int z)) M)    : ∀ (n : Nat) (x1 : Int32) (x2 : Int32) , s_X13_wordHere_4 M  n x1 x2 → K (f_X13_wordHere_4 M  n x1 x2) → gG E RX13 cX13_wordHere 4 (some .int) (rm 5) 4 [(0, .ref (gla E 226)), (1, .int x1), (2, .int x2)] [] M Q := by
  intro n
  induction n with
  | zero => intro x1 x2 hs hQ; exact (hs : False).elim
  | succ n ih =>
    intro x1 x2 hs hQ
    rw [s_X13_wordHere_4] at hs
    rw [f_X13_wordHere_4] at hQ
    refine g_iload_n 2 dX13_wordHere_4 rfl ?_
    refine g_ldcW rfl rfl dX13_wordHere_5 ?_
    have h1 := hs.1; have hs := hs.2
    refine g_callT (As := []) (st := [.int x2]) 22 (by decide) (c_J0_length_8abf5 E M 22 (by decide) h1) mt_J0_length_8abf5 ml_X13_102 rfl sg_J0_length_8abf5 rfl (by decide) (Nat.le_of_ble_eq_true rfl) dX13_wordHere_7 ?_
    rintro _ _ ⟨q1, q2⟩; rw [q1, q2]; clear q1 q2
    refine g_icmp_ge 123 dX13_wordHere_10 (by decide) (fun c2 => ?_) (fun c2 => ?_)
    · have hs := ifSt hs c2; have hQ := ifQt hQ c2
      refine g_iconst (v := (-1)) dX13_wordHere_123 (by decide) ?_
      exact g_iret rfl dX13_wordHere_124 (hK _ hQ)
    · have hs := ifSf hs c2; have hQ := ifQf hQ c2
      refine g_iconst (v := 0) dX13_wordHere_13 (by decide) ?_
      refine g_istore_n _ dX13_wordHere_14 (by decide) rfl ?_
      refine g_sub [1, 2, 3, 0] _ rfl ?_
      exact t_X13_wordHere_15 hK x1 x2 (f_X13_wordHere_4 M n) (s_X13_wordHere_4 M n) ih FU 0 hs hQ
def f_X13_wordHere (M : gM) : Int32 :=
  f_X13_wordHere_4 M FU 0 0
def s_X13_wordHere (M : gM) : Prop :=
  s_X13_wordHere_4 M FU 0 0
set_option maxRecDepth 100000 in
set_option maxHeartbeats 4000000 in
theorem t_X13_wordHere {E : gE} {K : Int32 → Prop} {Q : Option Value → gM → Prop} {M : gM} (hK : ∀ z : Int32, K z → Q (some (.int z)) M)   (hs : s_X13_wordHere M) (hQ : K (f_X13_wordHere M)) : gG E RX13 cX13_wordHere 4 (some .int) (rm 5) 0 [(0, .ref (gla E 226))] [] M Q := by
  rw [s_X13_wordHere] at hs
  rw [f_X13_wordHere] at hQ
  refine g_iconst (v := 0) dX13_wordHere_0 (by decide) ?_
  refine g_istore_n _ dX13_wordHere_1 (by decide) rfl ?_
  refine g_iconst (v := 0) dX13_wordHere_2 (by decide) ?_
  refine g_istore_n _ dX13_wordHere_3 (by decide) rfl ?_
  refine g_sub [2, 1, 0] _ rfl ?_
  exact t_X13_wordHere_4 hK FU 0 0 hs hQ
theorem c_X13_wordHere (E : gE) (M : gM)  (hs : s_X13_wordHere M) : gC E yX13_wordHere cX13_wordHere 4 (some .int) (rm 5) [.ref (gla E 226)] M (fun o N => o = some (.int (f_X13_wordHere M)) ∧ N = M) :=
  gC.of (by decide +kernel) (Nat.le_of_ble_eq_true rfl) rfl (t_X13_wordHere (K := fun z => z = f_X13_wordHere M) (fun z hz => by rw [hz]; exact ⟨rfl, rfl⟩)  hs rfl)
def f_X13_struck_106 (M : gM) (x1 : Int32) (x2 : Int32) (x4 : Int32) (k6 : Int32 → Int32 → Int32) : Int32 :=
  k6 x4 (x4 + 1)
def s_X13_struck_106 (M : gM) (x1 : Int32) (x2 : Int32) (x4 : Int32) (q6 : Int32 → Int32 → Prop) : Prop :=
  q6 x4 (x4 + 1)
set_option maxRecDepth 100000 in
set_option maxHeartbeats 4000000 in
theorem t_X13_struck_106 {E : gE} {K : Int32 → Prop} {Q : Option Value → gM → Prop} {M : gM} (hK : ∀ z : Int32, K z → Q (some (.int z)) M) (x1 : Int32) (x2 : Int32) (x4 : Int32)  (k6 : Int32 → Int32 → Int32) (q6 : Int32 → Int32 → Prop) (hk6 : ∀ (x3 : Int32) (x4 : Int32) , q6 x3 x4 → K (k6 x3 x4) → gG E RX13 cX13_struck 6 (some .int) (rm 5) 6 [(0, .ref (gla E 226)), (1, .int x1), (2, .int x2), (3, .int x3), (4, .int x4)] [] M Q) (hs : s_X13_struck_106 M x1 x2 x4 q6) (hQ : K (f_X13_struck_106 M x1 x2 x4 k6)) : gG E RX13 cX13_struck 6 (some .int) (rm 5) 106 [(0, .ref (gla E 226)), (1, .int x1), (2, .int x2), (4, .int x4)] [] M Q := by
  rw [s_X13_struck_106] at hs
  rw [f_X13_struck_106] at hQ
  refine g_iload 3 dX13_struck_106 rfl ?_
  refine g_istore_n _ dX13_struck_108 (by decide) rfl ?_
  refine g_iinc 4 (v := x4 + 1) _ dX13_struck_109 rfl rfl (by decide) rfl ?_
  refine g_goto 6 dX13_struck_112 (by decide) ?_
  refine g_sub [2, 3, 4, 1, 0] _ rfl ?_
  exact hk6 x4 (x4 + 1) hs hQ
def f_X13_struck_83 (M : gM) (x1 : Int32) (x2 : Int32) (x3 : Int32) (x4 : Int32) (y0 : Int32) (k6 : Int32 → Int32 → Int32) : Int32 :=
  if y0 = 0 then
    (k6 x3 (x4 + 1))
  else
    (if x3 = (-2) then
      (f_X13_struck_106 M x1 x2 x4 k6)
    else
      (if (f_X13_isLater M x4 x3) = 0 then
        (k6 x3 (x4 + 1))
      else
        (f_X13_struck_106 M x1 x2 x4 k6)))
def s_X13_struck_83 (M : gM) (x1 : Int32) (x2 : Int32) (x3 : Int32) (x4 : Int32) (y0 : Int32) (q6 : Int32 → Int32 → Prop) : Prop :=
  if y0 = 0 then
    (q6 x3 (x4 + 1))
  else
    (if x3 = (-2) then
      (s_X13_struck_106 M x1 x2 x4 q6)
    else
      ((s_X13_isLater M x4 x3) ∧
      (if (f_X13_isLater M x4 x3) = 0 then
        (q6 x3 (x4 + 1))
      else
        (s_X13_struck_106 M x1 x2 x4 q6))))
set_option maxRecDepth 100000 in
set_option maxHeartbeats 4000000 in
theorem t_X13_struck_83 {E : gE} {K : Int32 → Prop} {Q : Option Value → gM → Prop} {M : gM} (hK : ∀ z : Int32, K z → Q (some (.int z)) M) (x1 : Int32) (x2 : Int32) (x3 : Int32) (x4 : Int32) (y0 : Int32)  (k6 : Int32 → Int32 → Int32) (q6 : Int32 → Int32 → Prop) (hk6 : ∀ (x3 : Int32) (x4 : Int32) , q6 x3 x4 → K (k6 x3 x4) → gG E RX13 cX13_struck 6 (some .int) (rm 5) 6 [(0, .ref (gla E 226)), (1, .int x1), (2, .int x2), (3, .int x3), (4, .int x4)] [] M Q) (hs : s_X13_struck_83 M x1 x2 x3 x4 y0 q6) (hQ : K (f_X13_struck_83 M x1 x2 x3 x4 y0 k6)) : gG E RX13 cX13_struck 6 (some .int) (rm 5) 83 [(0, .ref (gla E 226)), (1, .int x1), (2, .int x2), (3, .int x3), (4, .int x4)] [.int y0] M Q := by
  rw [s_X13_struck_83] at hs
  rw [f_X13_struck_83] at hQ
  refine g_istore _ dX13_struck_83 (by decide) rfl ?_
  refine g_iload 0 dX13_struck_85 rfl ?_
  refine g_if_eq 109 dX13_struck_87 (by decide) (fun c14 => ?_) (fun c14 => ?_)
  · have hs := ifSt hs c14; have hQ := ifQt hQ c14
    refine g_iinc 5 (v := x4 + 1) _ dX13_struck_109 rfl rfl (by decide) rfl ?_
    refine g_goto 6 dX13_struck_112 (by decide) ?_
    refine g_sub [2, 3, 4, 5, 0] _ rfl ?_
    exact hk6 x3 (x4 + 1) hs hQ
  · have hs := ifSf hs c14; have hQ := ifQf hQ c14
    refine g_iload_n 4 dX13_struck_90 rfl ?_
    refine g_bipush (v := (-2)) dX13_struck_91 (by decide) ?_
    refine g_icmp_eq 106 dX13_struck_93 (by decide) (fun c15 => ?_) (fun c15 => ?_)
    · have hs := ifSt hs c15; have hQ := ifQt hQ c15
      refine g_sub [1, 2, 3, 5] _ rfl ?_
      exact t_X13_struck_106 hK x1 x2 x4 k6 q6 hk6 hs hQ
    · have hs := ifSf hs c15; have hQ := ifQf hQ c15
      refine g_aload_n 1 dX13_struck_96 rfl ?_
      refine g_iload 5 dX13_struck_97 rfl ?_
      refine g_iload_n 4 dX13_struck_99 rfl ?_
      have h16 := hs.1; have hs := hs.2
      refine g_callV (As := [.int x4, .int x3]) (st := []) 226 (c_X13_isLater E M x4 x3 h16) mt_X13_isLater ml_X13_251 dF_Md rfl rfl sg_X13_isLater rfl (by decide) (Nat.le_of_ble_eq_true rfl) dX13_struck_100 ?_
      rintro _ _ ⟨q1, q2⟩; rw [q1, q2]; clear q1 q2
      refine g_if_eq 109 dX13_struck_103 (by decide) (fun c17 => ?_) (fun c17 => ?_)
      · have hs := ifSt hs c17; have hQ := ifQt hQ c17
        refine g_iinc 5 (v := x4 + 1) _ dX13_struck_109 rfl rfl (by decide) rfl ?_
        refine g_goto 6 dX13_struck_112 (by decide) ?_
        refine g_sub [2, 3, 4, 5, 0] _ rfl ?_
        exact hk6 x3 (x4 + 1) hs hQ
      · have hs := ifSf hs c17; have hQ := ifQf hQ c17
        refine g_sub [1, 2, 3, 5] _ rfl ?_
        exact t_X13_struck_106 hK x1 x2 x4 k6 q6 hk6 hs hQ
def f_X13_struck_82 (M : gM) (x1 : Int32) (x2 : Int32) (x3 : Int32) (x4 : Int32) (k6 : Int32 → Int32 → Int32) : Int32 :=
  f_X13_struck_83 M x1 x2 x3 x4 0 k6
def s_X13_struck_82 (M : gM) (x1 : Int32) (x2 : Int32) (x3 : Int32) (x4 : Int32) (q6 : Int32 → Int32 → Prop) : Prop :=
  s_X13_struck_83 M x1 x2 x3 x4 0 q6
set_option maxRecDepth 100000 in
set_option maxHeartbeats 4000000 in
theorem t_X13_struck_82 {E : gE} {K : Int32 → Prop} {Q : Option Value → gM → Prop} {M : gM} (hK : ∀ z : Int32, K z → Q (some (.int z)) M) (x1 : Int32) (x2 : Int32) (x3 : Int32) (x4 : Int32)  (k6 : Int32 → Int32 → Int32) (q6 : Int32 → Int32 → Prop) (hk6 : ∀ (x3 : Int32) (x4 : Int32) , q6 x3 x4 → K (k6 x3 x4) → gG E RX13 cX13_struck 6 (some .int) (rm 5) 6 [(0, .ref (gla E 226)), (1, .int x1), (2, .int x2), (3, .int x3), (4, .int x4)] [] M Q) (hs : s_X13_struck_82 M x1 x2 x3 x4 q6) (hQ : K (f_X13_struck_82 M x1 x2 x3 x4 k6)) : gG E RX13 cX13_struck 6 (some .int) (rm 5) 82 [(0, .ref (gla E 226)), (1, .int x1), (2, .int x2), (3, .int x3), (4, .int x4)] [] M Q := by
  rw [s_X13_struck_82] at hs
  rw [f_X13_struck_82] at hQ
  refine g_iconst (v := 0) dX13_struck_82 (by decide) ?_
  exact t_X13_struck_83 hK x1 x2 x3 x4 0 k6 q6 hk6 hs hQ
def f_X13_struck_68 (M : gM) (x1 : Int32) (x2 : Int32) (x3 : Int32) (x4 : Int32) (k6 : Int32 → Int32 → Int32) : Int32 :=
  if (f_X13_lacks M x4 x2) = 0 then
    (f_X13_struck_83 M x1 x2 x3 x4 1 k6)
  else
    (f_X13_struck_82 M x1 x2 x3 x4 k6)
def s_X13_struck_68 (M : gM) (x1 : Int32) (x2 : Int32) (x3 : Int32) (x4 : Int32) (q6 : Int32 → Int32 → Prop) : Prop :=
  (s_X13_lacks M x4 x2) ∧
  (if (f_X13_lacks M x4 x2) = 0 then
    (s_X13_struck_83 M x1 x2 x3 x4 1 q6)
  else
    (s_X13_struck_82 M x1 x2 x3 x4 q6))
set_option maxRecDepth 100000 in
set_option maxHeartbeats 4000000 in
theorem t_X13_struck_68 {E : gE} {K : Int32 → Prop} {Q : Option Value → gM → Prop} {M : gM} (hK : ∀ z : Int32, K z → Q (some (.int z)) M) (x1 : Int32) (x2 : Int32) (x3 : Int32) (x4 : Int32)  (k6 : Int32 → Int32 → Int32) (q6 : Int32 → Int32 → Prop) (hk6 : ∀ (x3 : Int32) (x4 : Int32) , q6 x3 x4 → K (k6 x3 x4) → gG E RX13 cX13_struck 6 (some .int) (rm 5) 6 [(0, .ref (gla E 226)), (1, .int x1), (2, .int x2), (3, .int x3), (4, .int x4)] [] M Q) (hs : s_X13_struck_68 M x1 x2 x3 x4 q6) (hQ : K (f_X13_struck_68 M x1 x2 x3 x4 k6)) : gG E RX13 cX13_struck 6 (some .int) (rm 5) 68 [(0, .ref (gla E 226)), (1, .int x1), (2, .int x2), (3, .int x3), (4, .int x4)] [] M Q := by
  rw [s_X13_struck_68] at hs
  rw [f_X13_struck_68] at hQ
  refine g_aload_n 0 dX13_struck_68 rfl ?_
  refine g_iload 4 dX13_struck_69 rfl ?_
  refine g_iload_n 2 dX13_struck_71 rfl ?_
  have h12 := hs.1; have hs := hs.2
  refine g_callV (As := [.int x4, .int x2]) (st := []) 226 (c_X13_lacks E M x4 x2 h12) mt_X13_lacks ml_X13_254 dF_Md rfl rfl sg_X13_lacks rfl (by decide) (Nat.le_of_ble_eq_true rfl) dX13_struck_72 ?_
  rintro _ _ ⟨q1, q2⟩; rw [q1, q2]; clear q1 q2
  refine g_if_ne 82 dX13_struck_75 (by decide) (fun c13 => ?_) (fun c13 => ?_)
  · have hs := ifSf hs c13; have hQ := ifQf hQ c13
    exact t_X13_struck_82 hK x1 x2 x3 x4 k6 q6 hk6 hs hQ
  · have hs := ifSt hs c13; have hQ := ifQt hQ c13
    refine g_iconst (v := 1) dX13_struck_78 (by decide) ?_
    refine g_goto 83 dX13_struck_79 (by decide) ?_
    exact t_X13_struck_83 hK x1 x2 x3 x4 1 k6 q6 hk6 hs hQ
def f_X13_struck_6 (M : gM) (x1 : Int32) (x2 : Int32)  : Nat → Int32 → Int32 → Int32
  | 0, _, _ => 0
  | n + 1, x3, x4 =>
    if (rdI M 88 0 0 (nn 2)) ≤ x4 then
      (x3)
    else
      (if (f_X13_of M x4 0) = (f_X13_of M x1 0) then
        (if (f_X13_isLater M x4 x1) = 0 then
          (f_X13_struck_82 M x1 x2 x3 x4 (f_X13_struck_6 M x1 x2 n))
        else
          (if (f_X13_of M x4 3) = 0 then
            (f_X13_struck_68 M x1 x2 x3 x4 (f_X13_struck_6 M x1 x2 n))
          else
            (if (((rdI M 90 0 0 (nn x4)) >>> (x1 &&& 31)) &&& 1) = 1 then
              (f_X13_struck_68 M x1 x2 x3 x4 (f_X13_struck_6 M x1 x2 n))
            else
              (f_X13_struck_82 M x1 x2 x3 x4 (f_X13_struck_6 M x1 x2 n)))))
      else
        (f_X13_struck_82 M x1 x2 x3 x4 (f_X13_struck_6 M x1 x2 n)))
def s_X13_struck_6 (M : gM) (x1 : Int32) (x2 : Int32)  : Nat → Int32 → Int32 → Prop
  | 0, _, _ => False
  | n + 1, x3, x4 =>
    (vp_in 2 502) ∧
    (if (rdI M 88 0 0 (nn 2)) ≤ x4 then
      (True)
    else
      ((s_X13_of M x4 0) ∧
      ((s_X13_of M x1 0) ∧
      (if (f_X13_of M x4 0) = (f_X13_of M x1 0) then
        ((s_X13_isLater M x4 x1) ∧
        (if (f_X13_isLater M x4 x1) = 0 then
          (s_X13_struck_82 M x1 x2 x3 x4 (s_X13_struck_6 M x1 x2 n))
        else
          ((s_X13_of M x4 3) ∧
          (if (f_X13_of M x4 3) = 0 then
            (s_X13_struck_68 M x1 x2 x3 x4 (s_X13_struck_6 M x1 x2 n))
          else
            ((vp_in x4 12) ∧
            (if (((rdI M 90 0 0 (nn x4)) >>> (x1 &&& 31)) &&& 1) = 1 then
              (s_X13_struck_68 M x1 x2 x3 x4 (s_X13_struck_6 M x1 x2 n))
            else
              (s_X13_struck_82 M x1 x2 x3 x4 (s_X13_struck_6 M x1 x2 n))))))))
      else
        (s_X13_struck_82 M x1 x2 x3 x4 (s_X13_struck_6 M x1 x2 n))))))
set_option maxRecDepth 100000 in
set_option maxHeartbeats 4000000 in
theorem t_X13_struck_6 {E : gE} {K : Int32 → Prop} {Q : Option Value → gM → Prop} {M : gM} (hK : ∀ z : Int32, K z → Q (some (.int z)) M) (x1 : Int32) (x2 : Int32)   : ∀ (n : Nat) (x3 : Int32) (x4 : Int32) , s_X13_struck_6 M x1 x2  n x3 x4 → K (f_X13_struck_6 M x1 x2  n x3 x4) → gG E RX13 cX13_struck 6 (some .int) (rm 5) 6 [(0, .ref (gla E 226)), (1, .int x1), (2, .int x2), (3, .int x3), (4, .int x4)] [] M Q := by
  intro n
  induction n with
  | zero => intro x3 x4 hs hQ; exact (hs : False).elim
  | succ n ih =>
    intro x3 x4 hs hQ
    rw [s_X13_struck_6] at hs
    rw [f_X13_struck_6] at hQ
    refine g_iload 4 dX13_struck_6 rfl ?_
    refine g_aload_n 0 dX13_struck_8 rfl ?_
    refine g_getR 226 228 fd_X13_13 dF_Md rfl rfl dX13_struck_9 ?_
    refine g_iconst (v := 2) dX13_struck_12 (by decide) ?_
    have h1 := hs.1; have hs := hs.2
    refine g_iald 228 dF_Md_world h1 dX13_struck_13 ?_
    refine g_icmp_ge 115 dX13_struck_14 (by decide) (fun c2 => ?_) (fun c2 => ?_)
    · have hs := ifSt hs c2; have hQ := ifQt hQ c2
      refine g_iload_n 3 dX13_struck_115 rfl ?_
      exact g_iret rfl dX13_struck_116 (hK _ hQ)
    · have hs := ifSf hs c2; have hQ := ifQf hQ c2
      refine g_aload_n 0 dX13_struck_17 rfl ?_
      refine g_iload 4 dX13_struck_18 rfl ?_
      refine g_iconst (v := 0) dX13_struck_20 (by decide) ?_
      have h3 := hs.1; have hs := hs.2
      refine g_callV (As := [.int x4, .int 0]) (st := []) 226 (c_X13_of E M x4 0 h3) mt_X13_of ml_X13_218 dF_Md rfl rfl sg_X13_of rfl (by decide) (Nat.le_of_ble_eq_true rfl) dX13_struck_21 ?_
      rintro _ _ ⟨q1, q2⟩; rw [q1, q2]; clear q1 q2
      refine g_aload_n 0 dX13_struck_24 rfl ?_
      refine g_iload_n 1 dX13_struck_25 rfl ?_
      refine g_iconst (v := 0) dX13_struck_26 (by decide) ?_
      have h4 := hs.1; have hs := hs.2
      refine g_callV (As := [.int x1, .int 0]) (st := [.int (f_X13_of M x4 0)]) 226 (c_X13_of E M x1 0 h4) mt_X13_of ml_X13_218 dF_Md rfl rfl sg_X13_of rfl (by decide) (Nat.le_of_ble_eq_true rfl) dX13_struck_27 ?_
      rintro _ _ ⟨q1, q2⟩; rw [q1, q2]; clear q1 q2
      refine g_icmp_ne 82 dX13_struck_30 (by decide) (fun c5 => ?_) (fun c5 => ?_)
      · have hs := ifSf hs c5; have hQ := ifQf hQ c5
        exact t_X13_struck_82 hK x1 x2 x3 x4 (f_X13_struck_6 M x1 x2 n) (s_X13_struck_6 M x1 x2 n) ih hs hQ
      · have hs := ifSt hs c5; have hQ := ifQt hQ c5
        refine g_aload_n 0 dX13_struck_33 rfl ?_
        refine g_iload 4 dX13_struck_34 rfl ?_
        refine g_iload_n 1 dX13_struck_36 rfl ?_
        have h6 := hs.1; have hs := hs.2
        refine g_callV (As := [.int x4, .int x1]) (st := []) 226 (c_X13_isLater E M x4 x1 h6) mt_X13_isLater ml_X13_251 dF_Md rfl rfl sg_X13_isLater rfl (by decide) (Nat.le_of_ble_eq_true rfl) dX13_struck_37 ?_
        rintro _ _ ⟨q1, q2⟩; rw [q1, q2]; clear q1 q2
        refine g_if_eq 82 dX13_struck_40 (by decide) (fun c7 => ?_) (fun c7 => ?_)
        · have hs := ifSt hs c7; have hQ := ifQt hQ c7
          exact t_X13_struck_82 hK x1 x2 x3 x4 (f_X13_struck_6 M x1 x2 n) (s_X13_struck_6 M x1 x2 n) ih hs hQ
        · have hs := ifSf hs c7; have hQ := ifQf hQ c7
          refine g_aload_n 0 dX13_struck_43 rfl ?_
          refine g_iload 4 dX13_struck_44 rfl ?_
          refine g_iconst (v := 3) dX13_struck_46 (by decide) ?_
          have h8 := hs.1; have hs := hs.2
          refine g_callV (As := [.int x4, .int 3]) (st := []) 226 (c_X13_of E M x4 3 h8) mt_X13_of ml_X13_218 dF_Md rfl rfl sg_X13_of rfl (by decide) (Nat.le_of_ble_eq_true rfl) dX13_struck_47 ?_
          rintro _ _ ⟨q1, q2⟩; rw [q1, q2]; clear q1 q2
          refine g_if_eq 68 dX13_struck_50 (by decide) (fun c9 => ?_) (fun c9 => ?_)
          · have hs := ifSt hs c9; have hQ := ifQt hQ c9
            exact t_X13_struck_68 hK x1 x2 x3 x4 (f_X13_struck_6 M x1 x2 n) (s_X13_struck_6 M x1 x2 n) ih hs hQ
          · have hs := ifSf hs c9; have hQ := ifQf hQ c9
            refine g_aload_n 0 dX13_struck_53 rfl ?_
            refine g_getR 226 230 fd_X13_19 dF_Md rfl rfl dX13_struck_54 ?_
            refine g_iload 4 dX13_struck_57 rfl ?_
            have h10 := hs.1; have hs := hs.2
            refine g_iald 230 dF_Md_strikes h10 dX13_struck_59 ?_
            refine g_iload_n 1 dX13_struck_60 rfl ?_
            refine g_ishr dX13_struck_61 ?_
            refine g_iconst (v := 1) dX13_struck_62 (by decide) ?_
            refine g_iand dX13_struck_63 ?_
            refine g_iconst (v := 1) dX13_struck_64 (by decide) ?_
            refine g_icmp_ne 82 dX13_struck_65 (by decide) (fun c11 => ?_) (fun c11 => ?_)
            · have hs := ifSf hs c11; have hQ := ifQf hQ c11
              exact t_X13_struck_82 hK x1 x2 x3 x4 (f_X13_struck_6 M x1 x2 n) (s_X13_struck_6 M x1 x2 n) ih hs hQ
            · have hs := ifSt hs c11; have hQ := ifQt hQ c11
              exact t_X13_struck_68 hK x1 x2 x3 x4 (f_X13_struck_6 M x1 x2 n) (s_X13_struck_6 M x1 x2 n) ih hs hQ
def f_X13_struck (M : gM) (x1 : Int32) (x2 : Int32) : Int32 :=
  f_X13_struck_6 M x1 x2 FU (-2) 0
def s_X13_struck (M : gM) (x1 : Int32) (x2 : Int32) : Prop :=
  s_X13_struck_6 M x1 x2 FU (-2) 0
set_option maxRecDepth 100000 in
set_option maxHeartbeats 4000000 in
theorem t_X13_struck {E : gE} {K : Int32 → Prop} {Q : Option Value → gM → Prop} {M : gM} (hK : ∀ z : Int32, K z → Q (some (.int z)) M)  (x1 : Int32) (x2 : Int32)  (hs : s_X13_struck M x1 x2) (hQ : K (f_X13_struck M x1 x2)) : gG E RX13 cX13_struck 6 (some .int) (rm 5) 0 [(0, .ref (gla E 226)), (1, .int x1), (2, .int x2)] [] M Q := by
  rw [s_X13_struck] at hs
  rw [f_X13_struck] at hQ
  refine g_bipush (v := (-2)) dX13_struck_0 (by decide) ?_
  refine g_istore_n _ dX13_struck_2 (by decide) rfl ?_
  refine g_iconst (v := 0) dX13_struck_3 (by decide) ?_
  refine g_istore _ dX13_struck_4 (by decide) rfl ?_
  refine g_sub [2, 3, 4, 1, 0] _ rfl ?_
  exact t_X13_struck_6 hK x1 x2 FU (-2) 0 hs hQ
theorem c_X13_struck (E : gE) (M : gM) (x1 : Int32) (x2 : Int32) (hs : s_X13_struck M x1 x2) : gC E yX13_struck cX13_struck 6 (some .int) (rm 5) [.ref (gla E 226), .int x1, .int x2] M (fun o N => o = some (.int (f_X13_struck M x1 x2)) ∧ N = M) :=
  gC.of (by decide +kernel) (Nat.le_of_ble_eq_true rfl) rfl (t_X13_struck (K := fun z => z = f_X13_struck M x1 x2) (fun z hz => by rw [hz]; exact ⟨rfl, rfl⟩) x1 x2 hs rfl)
def f_X13_token_18 (M : gM) (k0 : gM → gM) : gM :=
  bnd (wrI M 71 0 0 0 ((rdI M 71 0 0 0) + 1)) fun M17 =>
  (k0 M17)
def s_X13_token_18 (M : gM) (q0 : gM → Prop) : Prop :=
  bndP (wrI M 71 0 0 0 ((rdI M 71 0 0 0) + 1)) fun M17 =>
  (q0 M17)
theorem o_X13_token_18 (M : gM) (k0 : gM → gM) (ho0 : ∀ (M : gM), offW [71, 72, 73, 74, 75] M (k0 M)) : offW [71, 72, 73, 74, 75] M (f_X13_token_18 M k0) := by
  rw [f_X13_token_18]
  refine offB (offR.wI (by decide)) (fun M17 oM17 => ?_)
  exact oM17.tr (ho0 M17)
set_option maxRecDepth 100000 in
set_option maxHeartbeats 4000000 in
theorem t_X13_token_18 {E : gE} {K : gM → Prop} {Q : Option Value → gM → Prop} (hK : ∀ z : gM, K z → Q none z) (M : gM)  (k0 : gM → gM) (q0 : gM → Prop) (hk0 : ∀ (M : gM) , q0 M → K (k0 M) → gG E RX13 cX13_token 2 none (rm 6) 0 [(0, .ref (gla E 226))] [] M Q) (hs : s_X13_token_18 M q0) (hQ : K (f_X13_token_18 M k0)) : gG E RX13 cX13_token 2 none (rm 6) 18 [(0, .ref (gla E 226))] [] M Q := by
  rw [s_X13_token_18] at hs
  rw [f_X13_token_18] at hQ
  refine g_aload_n 0 dX13_token_18 rfl ?_
  refine g_dup dX13_token_19 rfl ?_
  refine g_getI 226 fd_X13_67 dF_Md rfl dX13_token_20 ?_
  refine g_iconst (v := 1) dX13_token_23 (by decide) ?_
  refine g_iadd dX13_token_24 ?_
  refine g_putI 226 fd_X13_67 dF_Md rfl dX13_token_25 (fun M17 hM17 => ?_)
  have hQ := bndQ hQ M17 hM17; have hs := bndS hs M17 hM17
  refine g_goto 0 dX13_token_28 (by decide) ?_
  exact hk0 M17 hs hQ
def f_X13_token_112 (M : gM) (k69 : gM → gM) : gM :=
  bnd (wrI M 71 0 0 0 ((rdI M 71 0 0 0) + 1)) fun M38 =>
  (k69 M38)
def s_X13_token_112 (M : gM) (q69 : gM → Prop) : Prop :=
  bndP (wrI M 71 0 0 0 ((rdI M 71 0 0 0) + 1)) fun M38 =>
  (q69 M38)
theorem o_X13_token_112 (M : gM) (k69 : gM → gM) (ho69 : ∀ (M : gM), offW [71, 72, 73, 74, 75] M (k69 M)) : offW [71, 72, 73, 74, 75] M (f_X13_token_112 M k69) := by
  rw [f_X13_token_112]
  refine offB (offR.wI (by decide)) (fun M38 oM38 => ?_)
  exact oM38.tr (ho69 M38)
set_option maxRecDepth 100000 in
set_option maxHeartbeats 4000000 in
theorem t_X13_token_112 {E : gE} {K : gM → Prop} {Q : Option Value → gM → Prop} (hK : ∀ z : gM, K z → Q none z) (M : gM)  (k69 : gM → gM) (q69 : gM → Prop) (hk69 : ∀ (M : gM) , q69 M → K (k69 M) → gG E RX13 cX13_token 2 none (rm 6) 69 [(0, .ref (gla E 226))] [] M Q) (hs : s_X13_token_112 M q69) (hQ : K (f_X13_token_112 M k69)) : gG E RX13 cX13_token 2 none (rm 6) 112 [(0, .ref (gla E 226))] [] M Q := by
  rw [s_X13_token_112] at hs
  rw [f_X13_token_112] at hQ
  refine g_aload_n 0 dX13_token_112 rfl ?_
  refine g_dup dX13_token_113 rfl ?_
  refine g_getI 226 fd_X13_67 dF_Md rfl dX13_token_114 ?_
  refine g_iconst (v := 1) dX13_token_117 (by decide) ?_
  refine g_iadd dX13_token_118 ?_
  refine g_putI 226 fd_X13_67 dF_Md rfl dX13_token_119 (fun M38 hM38 => ?_)
  have hQ := bndQ hQ M38 hM38; have hs := bndS hs M38 hM38
  refine g_goto 69 dX13_token_122 (by decide) ?_
  exact hk69 M38 hs hQ
def f_X13_token_160 (M : gM) (y1 : Int32)  : gM :=
  bnd (wrI M 73 0 0 0 y1) fun M37 =>
  (M37)
def s_X13_token_160 (M : gM) (y1 : Int32)  : Prop :=
  bndP (wrI M 73 0 0 0 y1) fun M37 =>
  (True)
theorem o_X13_token_160 (M : gM) (y1 : Int32)  : offW [71, 72, 73, 74, 75] M (f_X13_token_160 M y1 ) := by
  rw [f_X13_token_160]
  refine offB (offR.wI (by decide)) (fun M37 oM37 => ?_)
  exact oM37
set_option maxRecDepth 100000 in
set_option maxHeartbeats 4000000 in
theorem t_X13_token_160 {E : gE} {K : gM → Prop} {Q : Option Value → gM → Prop} (hK : ∀ z : gM, K z → Q none z) (M : gM) (y1 : Int32)   (hs : s_X13_token_160 M y1 ) (hQ : K (f_X13_token_160 M y1 )) : gG E RX13 cX13_token 2 none (rm 6) 160 [] [.int y1, .ref (gla E 226)] M Q := by
  rw [s_X13_token_160] at hs
  rw [f_X13_token_160] at hQ
  refine g_putI 226 fd_X13_80 dF_Md rfl dX13_token_160 (fun M37 hM37 => ?_)
  have hQ := bndQ hQ M37 hM37; have hs := bndS hs M37 hM37
  refine g_goto 266 dX13_token_163 (by decide) ?_
  exact g_vret rfl dX13_token_266 (hK _ hQ)
def f_X13_token_155 (M : gM)  : gM :=
  f_X13_token_160 M 0
def s_X13_token_155 (M : gM)  : Prop :=
  s_X13_token_160 M 0
theorem o_X13_token_155 (M : gM)  : offW [71, 72, 73, 74, 75] M (f_X13_token_155 M ) := by
  rw [f_X13_token_155]
  exact (o_X13_token_160 M 0)
set_option maxRecDepth 100000 in
set_option maxHeartbeats 4000000 in
theorem t_X13_token_155 {E : gE} {K : gM → Prop} {Q : Option Value → gM → Prop} (hK : ∀ z : gM, K z → Q none z) (M : gM)   (hs : s_X13_token_155 M ) (hQ : K (f_X13_token_155 M )) : gG E RX13 cX13_token 2 none (rm 6) 155 [] [.ref (gla E 226)] M Q := by
  rw [s_X13_token_155] at hs
  rw [f_X13_token_155] at hQ
  refine g_iconst (v := 0) dX13_token_155 (by decide) ?_
  refine g_goto 160 dX13_token_156 (by decide) ?_
  exact t_X13_token_160 hK M 0 hs hQ
def f_X13_token_69   : Nat → gM → gM
  | 0, M => M
  | n + 1, M =>
    if (f_X13_isSmall M (f_X13_here M)) = 0 then
      (bnd (wrI M 74 0 0 0 (f_X13_wordHere M)) fun M29 =>
      (if ((rdI M29 71 0 0 0) - (rdI M29 72 0 0 0)) ≤ 5 then
        (f_X13_token_155 M29)
      else
        (if (rdI M29 74 0 0 0) = (-1) then
          (f_X13_token_160 M29 4)
        else
          (f_X13_token_155 M29))))
    else
      (if 5 ≤ ((rdI M 71 0 0 0) - (rdI M 72 0 0 0)) then
        (f_X13_token_112 M (f_X13_token_69  n))
      else
        (bnd (wrI M 75 0 0 0 (((rdI M 75 0 0 0) <<< (5 &&& 31)) ||| (((f_X13_here M) - 97) + 1))) fun M34 =>
        (f_X13_token_112 M34 (f_X13_token_69  n))))
def s_X13_token_69   : Nat → gM → Prop
  | 0, _ => False
  | n + 1, M =>
    (s_X13_here M) ∧
    ((s_X13_isSmall M (f_X13_here M)) ∧
    (if (f_X13_isSmall M (f_X13_here M)) = 0 then
      ((s_X13_wordHere M) ∧
      (bndP (wrI M 74 0 0 0 (f_X13_wordHere M)) fun M29 =>
      (if ((rdI M29 71 0 0 0) - (rdI M29 72 0 0 0)) ≤ 5 then
        (s_X13_token_155 M29)
      else
        (if (rdI M29 74 0 0 0) = (-1) then
          (s_X13_token_160 M29 4)
        else
          (s_X13_token_155 M29)))))
    else
      (if 5 ≤ ((rdI M 71 0 0 0) - (rdI M 72 0 0 0)) then
        (s_X13_token_112 M (s_X13_token_69  n))
      else
        ((s_X13_here M) ∧
        (bndP (wrI M 75 0 0 0 (((rdI M 75 0 0 0) <<< (5 &&& 31)) ||| (((f_X13_here M) - 97) + 1))) fun M34 =>
        (s_X13_token_112 M34 (s_X13_token_69  n)))))))
theorem o_X13_token_69   : ∀ (n : Nat) (M : gM), offW [71, 72, 73, 74, 75] M (f_X13_token_69   n M) := by
  intro n
  induction n with
  | zero => intro M; exact offR
  | succ n ih =>
    intro M
    rw [f_X13_token_69]
    refine offI ?_ ?_
    · refine offB (offR.wI (by decide)) (fun M29 oM29 => ?_)
      refine offI ?_ ?_
      · exact oM29.tr (o_X13_token_155 M29)
      · refine offI ?_ ?_
        · exact oM29.tr (o_X13_token_160 M29 4)
        · exact oM29.tr (o_X13_token_155 M29)
    · refine offI ?_ ?_
      · exact (o_X13_token_112 M (f_X13_token_69  n) ih)
      · refine offB (offR.wI (by decide)) (fun M34 oM34 => ?_)
        exact oM34.tr (o_X13_token_112 M34 (f_X13_token_69  n) ih)
set_option maxRecDepth 100000 in
set_option maxHeartbeats 4000000 in
theorem t_X13_token_69 {E : gE} {K : gM → Prop} {Q : Option Value → gM → Prop} (hK : ∀ z : gM, K z → Q none z)    : ∀ (n : Nat) (M : gM) , s_X13_token_69   n M → K (f_X13_token_69   n M) → gG E RX13 cX13_token 2 none (rm 6) 69 [(0, .ref (gla E 226))] [] M Q := by
  intro n
  induction n with
  | zero => intro M hs hQ; exact (hs : False).elim
  | succ n ih =>
    intro M hs hQ
    rw [s_X13_token_69] at hs
    rw [f_X13_token_69] at hQ
    refine g_aload_n 0 dX13_token_69 rfl ?_
    have h25 := hs.1; have hs := hs.2
    refine g_callV (As := []) (st := []) 226 (c_X13_here E M h25) mt_X13_here ml_X13_73 dF_Md rfl rfl sg_X13_here rfl (by decide) (Nat.le_of_ble_eq_true rfl) dX13_token_70 ?_
    rintro _ _ ⟨q1, q2⟩; rw [q1, q2]; clear q1 q2
    have h26 := hs.1; have hs := hs.2
    refine g_callS (As := [.int (f_X13_here M)]) (st := []) (c_X13_isSmall E M (f_X13_here M) h26) mt_X13_isSmall ml_X13_83 sg_X13_isSmall rfl (by decide) (Nat.le_of_ble_eq_true rfl) dX13_token_73 ?_
    rintro _ _ ⟨q1, q2⟩; rw [q1, q2]; clear q1 q2
    refine g_if_eq 125 dX13_token_76 (by decide) (fun c27 => ?_) (fun c27 => ?_)
    · have hs := ifSt hs c27; have hQ := ifQt hQ c27
      refine g_aload_n 0 dX13_token_125 rfl ?_
      refine g_aload_n 0 dX13_token_126 rfl ?_
      have h28 := hs.1; have hs := hs.2
      refine g_callV (As := []) (st := [.ref (gla E 226)]) 226 (c_X13_wordHere E M h28) mt_X13_wordHere ml_X13_90 dF_Md rfl rfl sg_X13_wordHere rfl (by decide) (Nat.le_of_ble_eq_true rfl) dX13_token_127 ?_
      rintro _ _ ⟨q1, q2⟩; rw [q1, q2]; clear q1 q2
      refine g_putI 226 fd_X13_93 dF_Md rfl dX13_token_130 (fun M29 hM29 => ?_)
      have hQ := bndQ hQ M29 hM29; have hs := bndS hs M29 hM29
      refine g_aload_n 0 dX13_token_133 rfl ?_
      refine g_aload_n 0 dX13_token_134 rfl ?_
      refine g_getI 226 fd_X13_67 dF_Md rfl dX13_token_135 ?_
      refine g_aload_n 0 dX13_token_138 rfl ?_
      refine g_getI 226 fd_X13_77 dF_Md rfl dX13_token_139 ?_
      refine g_isub dX13_token_142 ?_
      refine g_iconst (v := 5) dX13_token_143 (by decide) ?_
      refine g_icmp_le 155 dX13_token_144 (by decide) (fun c30 => ?_) (fun c30 => ?_)
      · have hs := ifSt hs c30; have hQ := ifQt hQ c30
        refine g_sub [] _ rfl ?_
        exact t_X13_token_155 hK M29 hs hQ
      · have hs := ifSf hs c30; have hQ := ifQf hQ c30
        refine g_aload_n 0 dX13_token_147 rfl ?_
        refine g_getI 226 fd_X13_93 dF_Md rfl dX13_token_148 ?_
        refine g_iconst (v := (-1)) dX13_token_151 (by decide) ?_
        refine g_icmp_eq 159 dX13_token_152 (by decide) (fun c31 => ?_) (fun c31 => ?_)
        · have hs := ifSt hs c31; have hQ := ifQt hQ c31
          refine g_iconst (v := 4) dX13_token_159 (by decide) ?_
          refine g_sub [] _ rfl ?_
          exact t_X13_token_160 hK M29 4 hs hQ
        · have hs := ifSf hs c31; have hQ := ifQf hQ c31
          refine g_sub [] _ rfl ?_
          exact t_X13_token_155 hK M29 hs hQ
    · have hs := ifSf hs c27; have hQ := ifQf hQ c27
      refine g_aload_n 0 dX13_token_79 rfl ?_
      refine g_getI 226 fd_X13_67 dF_Md rfl dX13_token_80 ?_
      refine g_aload_n 0 dX13_token_83 rfl ?_
      refine g_getI 226 fd_X13_77 dF_Md rfl dX13_token_84 ?_
      refine g_isub dX13_token_87 ?_
      refine g_iconst (v := 5) dX13_token_88 (by decide) ?_
      refine g_icmp_ge 112 dX13_token_89 (by decide) (fun c32 => ?_) (fun c32 => ?_)
      · have hs := ifSt hs c32; have hQ := ifQt hQ c32
        exact t_X13_token_112 hK M (f_X13_token_69  n) (s_X13_token_69  n) ih hs hQ
      · have hs := ifSf hs c32; have hQ := ifQf hQ c32
        refine g_aload_n 0 dX13_token_92 rfl ?_
        refine g_aload_n 0 dX13_token_93 rfl ?_
        refine g_getI 226 fd_X13_87 dF_Md rfl dX13_token_94 ?_
        refine g_iconst (v := 5) dX13_token_97 (by decide) ?_
        refine g_ishl dX13_token_98 ?_
        refine g_aload_n 0 dX13_token_99 rfl ?_
        have h33 := hs.1; have hs := hs.2
        refine g_callV (As := []) (st := [.int ((rdI M 75 0 0 0) <<< (5 &&& 31)), .ref (gla E 226)]) 226 (c_X13_here E M h33) mt_X13_here ml_X13_73 dF_Md rfl rfl sg_X13_here rfl (by decide) (Nat.le_of_ble_eq_true rfl) dX13_token_100 ?_
        rintro _ _ ⟨q1, q2⟩; rw [q1, q2]; clear q1 q2
        refine g_bipush (v := 97) dX13_token_103 (by decide) ?_
        refine g_isub dX13_token_105 ?_
        refine g_iconst (v := 1) dX13_token_106 (by decide) ?_
        refine g_iadd dX13_token_107 ?_
        refine g_ior dX13_token_108 ?_
        refine g_putI 226 fd_X13_87 dF_Md rfl dX13_token_109 (fun M34 hM34 => ?_)
        have hQ := bndQ hQ M34 hM34; have hs := bndS hs M34 hM34
        exact t_X13_token_112 hK M34 (f_X13_token_69  n) (s_X13_token_69  n) ih hs hQ
def f_X13_token_225 (M : gM) (y1 : Int32) (k183 : gM → gM) : gM :=
  bnd (wrI M 74 0 0 0 y1) fun M35 =>
  (bnd (wrI M35 71 0 0 0 ((rdI M35 71 0 0 0) + 1)) fun M36 =>
  (k183 M36))
def s_X13_token_225 (M : gM) (y1 : Int32) (q183 : gM → Prop) : Prop :=
  bndP (wrI M 74 0 0 0 y1) fun M35 =>
  (bndP (wrI M35 71 0 0 0 ((rdI M35 71 0 0 0) + 1)) fun M36 =>
  (q183 M36))
theorem o_X13_token_225 (M : gM) (y1 : Int32) (k183 : gM → gM) (ho183 : ∀ (M : gM), offW [71, 72, 73, 74, 75] M (k183 M)) : offW [71, 72, 73, 74, 75] M (f_X13_token_225 M y1 k183) := by
  rw [f_X13_token_225]
  refine offB (offR.wI (by decide)) (fun M35 oM35 => ?_)
  refine offB (oM35.wI (by decide)) (fun M36 oM36 => ?_)
  exact oM36.tr (ho183 M36)
set_option maxRecDepth 100000 in
set_option maxHeartbeats 4000000 in
theorem t_X13_token_225 {E : gE} {K : gM → Prop} {Q : Option Value → gM → Prop} (hK : ∀ z : gM, K z → Q none z) (M : gM) (y1 : Int32)  (k183 : gM → gM) (q183 : gM → Prop) (hk183 : ∀ (M : gM) , q183 M → K (k183 M) → gG E RX13 cX13_token 2 none (rm 6) 183 [(0, .ref (gla E 226))] [] M Q) (hs : s_X13_token_225 M y1 q183) (hQ : K (f_X13_token_225 M y1 k183)) : gG E RX13 cX13_token 2 none (rm 6) 225 [(0, .ref (gla E 226))] [.int y1, .ref (gla E 226)] M Q := by
  rw [s_X13_token_225] at hs
  rw [f_X13_token_225] at hQ
  refine g_putI 226 fd_X13_93 dF_Md rfl dX13_token_225 (fun M35 hM35 => ?_)
  have hQ := bndQ hQ M35 hM35; have hs := bndS hs M35 hM35
  refine g_aload_n 0 dX13_token_228 rfl ?_
  refine g_dup dX13_token_229 rfl ?_
  refine g_getI 226 fd_X13_67 dF_Md rfl dX13_token_230 ?_
  refine g_iconst (v := 1) dX13_token_233 (by decide) ?_
  refine g_iadd dX13_token_234 ?_
  refine g_putI 226 fd_X13_67 dF_Md rfl dX13_token_235 (fun M36 hM36 => ?_)
  have hQ := bndQ hQ M36 hM36; have hs := bndS hs M36 hM36
  refine g_goto 183 dX13_token_238 (by decide) ?_
  exact hk183 M36 hs hQ
def f_X13_token_183   : Nat → gM → gM
  | 0, M => M
  | n + 1, M =>
    if (f_X13_isDigit M (f_X13_here M)) = 0 then
      (M)
    else
      (if (rdI M 74 0 0 0) ≤ 99999 then
        (f_X13_token_225 M (((10 * (rdI M 74 0 0 0)) + (f_X13_here M)) - 48) (f_X13_token_183  n))
      else
        (f_X13_token_225 M (rdI M 74 0 0 0) (f_X13_token_183  n)))
def s_X13_token_183   : Nat → gM → Prop
  | 0, _ => False
  | n + 1, M =>
    (s_X13_here M) ∧
    ((s_X13_isDigit M (f_X13_here M)) ∧
    (if (f_X13_isDigit M (f_X13_here M)) = 0 then
      (True)
    else
      (if (rdI M 74 0 0 0) ≤ 99999 then
        ((s_X13_here M) ∧
        (s_X13_token_225 M (((10 * (rdI M 74 0 0 0)) + (f_X13_here M)) - 48) (s_X13_token_183  n)))
      else
        (s_X13_token_225 M (rdI M 74 0 0 0) (s_X13_token_183  n)))))
theorem o_X13_token_183   : ∀ (n : Nat) (M : gM), offW [71, 72, 73, 74, 75] M (f_X13_token_183   n M) := by
  intro n
  induction n with
  | zero => intro M; exact offR
  | succ n ih =>
    intro M
    rw [f_X13_token_183]
    refine offI ?_ ?_
    · exact offR
    · refine offI ?_ ?_
      · exact (o_X13_token_225 M (((10 * (rdI M 74 0 0 0)) + (f_X13_here M)) - 48) (f_X13_token_183  n) ih)
      · exact (o_X13_token_225 M (rdI M 74 0 0 0) (f_X13_token_183  n) ih)
set_option maxRecDepth 100000 in
set_option maxHeartbeats 4000000 in
theorem t_X13_token_183 {E : gE} {K : gM → Prop} {Q : Option Value → gM → Prop} (hK : ∀ z : gM, K z → Q none z)    : ∀ (n : Nat) (M : gM) , s_X13_token_183   n M → K (f_X13_token_183   n M) → gG E RX13 cX13_token 2 none (rm 6) 183 [(0, .ref (gla E 226))] [] M Q := by
  intro n
  induction n with
  | zero => intro M hs hQ; exact (hs : False).elim
  | succ n ih =>
    intro M hs hQ
    rw [s_X13_token_183] at hs
    rw [f_X13_token_183] at hQ
    refine g_aload_n 0 dX13_token_183 rfl ?_
    have h20 := hs.1; have hs := hs.2
    refine g_callV (As := []) (st := []) 226 (c_X13_here E M h20) mt_X13_here ml_X13_73 dF_Md rfl rfl sg_X13_here rfl (by decide) (Nat.le_of_ble_eq_true rfl) dX13_token_184 ?_
    rintro _ _ ⟨q1, q2⟩; rw [q1, q2]; clear q1 q2
    have h21 := hs.1; have hs := hs.2
    refine g_callS (As := [.int (f_X13_here M)]) (st := []) (c_X13_isDigit E M (f_X13_here M) h21) mt_X13_isDigit ml_X13_96 sg_X13_isDigit rfl (by decide) (Nat.le_of_ble_eq_true rfl) dX13_token_187 ?_
    rintro _ _ ⟨q1, q2⟩; rw [q1, q2]; clear q1 q2
    refine g_if_eq 266 dX13_token_190 (by decide) (fun c22 => ?_) (fun c22 => ?_)
    · have hs := ifSt hs c22; have hQ := ifQt hQ c22
      exact g_vret rfl dX13_token_266 (hK _ hQ)
    · have hs := ifSf hs c22; have hQ := ifQf hQ c22
      refine g_aload_n 0 dX13_token_193 rfl ?_
      refine g_aload_n 0 dX13_token_194 rfl ?_
      refine g_getI 226 fd_X13_93 dF_Md rfl dX13_token_195 ?_
      refine g_ldc kc_X13_99 dX13_token_198 ?_
      refine g_icmp_le 210 dX13_token_200 (by decide) (fun c23 => ?_) (fun c23 => ?_)
      · have hs := ifSt hs c23; have hQ := ifQt hQ c23
        refine g_bipush (v := 10) dX13_token_210 (by decide) ?_
        refine g_aload_n 0 dX13_token_212 rfl ?_
        refine g_getI 226 fd_X13_93 dF_Md rfl dX13_token_213 ?_
        refine g_imul dX13_token_216 ?_
        refine g_aload_n 0 dX13_token_217 rfl ?_
        have h24 := hs.1; have hs := hs.2
        refine g_callV (As := []) (st := [.int (10 * (rdI M 74 0 0 0)), .ref (gla E 226)]) 226 (c_X13_here E M h24) mt_X13_here ml_X13_73 dF_Md rfl rfl sg_X13_here rfl (by decide) (Nat.le_of_ble_eq_true rfl) dX13_token_218 ?_
        rintro _ _ ⟨q1, q2⟩; rw [q1, q2]; clear q1 q2
        refine g_iadd dX13_token_221 ?_
        refine g_bipush (v := 48) dX13_token_222 (by decide) ?_
        refine g_isub dX13_token_224 ?_
        exact t_X13_token_225 hK M (((10 * (rdI M 74 0 0 0)) + (f_X13_here M)) - 48) (f_X13_token_183  n) (s_X13_token_183  n) ih hs hQ
      · have hs := ifSf hs c23; have hQ := ifQf hQ c23
        refine g_aload_n 0 dX13_token_203 rfl ?_
        refine g_getI 226 fd_X13_93 dF_Md rfl dX13_token_204 ?_
        refine g_goto 225 dX13_token_207 (by decide) ?_
        exact t_X13_token_225 hK M (rdI M 74 0 0 0) (f_X13_token_183  n) (s_X13_token_183  n) ih hs hQ
def f_X13_token_253 (M : gM) (y1 : Int32)  : gM :=
  bnd (wrI M 73 0 0 0 y1) fun M18 =>
  (bnd (wrI M18 71 0 0 0 ((rdI M18 71 0 0 0) + 1)) fun M19 =>
  (M19))
def s_X13_token_253 (M : gM) (y1 : Int32)  : Prop :=
  bndP (wrI M 73 0 0 0 y1) fun M18 =>
  (bndP (wrI M18 71 0 0 0 ((rdI M18 71 0 0 0) + 1)) fun M19 =>
  (True))
theorem o_X13_token_253 (M : gM) (y1 : Int32)  : offW [71, 72, 73, 74, 75] M (f_X13_token_253 M y1 ) := by
  rw [f_X13_token_253]
  refine offB (offR.wI (by decide)) (fun M18 oM18 => ?_)
  refine offB (oM18.wI (by decide)) (fun M19 oM19 => ?_)
  exact oM19
set_option maxRecDepth 100000 in
set_option maxHeartbeats 4000000 in
theorem t_X13_token_253 {E : gE} {K : gM → Prop} {Q : Option Value → gM → Prop} (hK : ∀ z : gM, K z → Q none z) (M : gM) (y1 : Int32)   (hs : s_X13_token_253 M y1 ) (hQ : K (f_X13_token_253 M y1 )) : gG E RX13 cX13_token 2 none (rm 6) 253 [(0, .ref (gla E 226))] [.int y1, .ref (gla E 226)] M Q := by
  rw [s_X13_token_253] at hs
  rw [f_X13_token_253] at hQ
  refine g_putI 226 fd_X13_80 dF_Md rfl dX13_token_253 (fun M18 hM18 => ?_)
  have hQ := bndQ hQ M18 hM18; have hs := bndS hs M18 hM18
  refine g_aload_n 0 dX13_token_256 rfl ?_
  refine g_dup dX13_token_257 rfl ?_
  refine g_getI 226 fd_X13_67 dF_Md rfl dX13_token_258 ?_
  refine g_iconst (v := 1) dX13_token_261 (by decide) ?_
  refine g_iadd dX13_token_262 ?_
  refine g_putI 226 fd_X13_67 dF_Md rfl dX13_token_263 (fun M19 hM19 => ?_)
  have hQ := bndQ hQ M19 hM19; have hs := bndS hs M19 hM19
  exact g_vret rfl dX13_token_266 (hK _ hQ)
def f_X13_token_0   : Nat → gM → gM
  | 0, M => M
  | n + 1, M =>
    if (f_X13_here M) = 10 then
      (f_X13_token_18 M (f_X13_token_0  n))
    else
      (if (f_X13_here M) = 32 then
        (f_X13_token_18 M (f_X13_token_0  n))
      else
        (bnd (wrI M 72 0 0 0 (rdI M 71 0 0 0)) fun M5 =>
        (if (f_X13_here M5) = (-1) then
          (bnd (wrI M5 73 0 0 0 3) fun M16 =>
          (M16))
        else
          (if (f_X13_isSmall M5 (f_X13_here M5)) = 0 then
            (if (f_X13_isDigit M5 (f_X13_here M5)) = 0 then
              (if (f_X13_here M5) = 59 then
                (f_X13_token_253 M5 2)
              else
                (f_X13_token_253 M5 4))
            else
              (bnd (wrI M5 73 0 0 0 1) fun M13 =>
              (bnd (wrI M13 74 0 0 0 0) fun M14 =>
              (f_X13_token_183 FU M14))))
          else
            (bnd (wrI M5 75 0 0 0 0) fun M15 =>
            (f_X13_token_69 FU M15))))))
def s_X13_token_0   : Nat → gM → Prop
  | 0, _ => False
  | n + 1, M =>
    (s_X13_here M) ∧
    (if (f_X13_here M) = 10 then
      (s_X13_token_18 M (s_X13_token_0  n))
    else
      ((s_X13_here M) ∧
      (if (f_X13_here M) = 32 then
        (s_X13_token_18 M (s_X13_token_0  n))
      else
        (bndP (wrI M 72 0 0 0 (rdI M 71 0 0 0)) fun M5 =>
        ((s_X13_here M5) ∧
        (if (f_X13_here M5) = (-1) then
          (bndP (wrI M5 73 0 0 0 3) fun M16 =>
          (True))
        else
          ((s_X13_isSmall M5 (f_X13_here M5)) ∧
          (if (f_X13_isSmall M5 (f_X13_here M5)) = 0 then
            ((s_X13_isDigit M5 (f_X13_here M5)) ∧
            (if (f_X13_isDigit M5 (f_X13_here M5)) = 0 then
              (if (f_X13_here M5) = 59 then
                (s_X13_token_253 M5 2)
              else
                (s_X13_token_253 M5 4))
            else
              (bndP (wrI M5 73 0 0 0 1) fun M13 =>
              (bndP (wrI M13 74 0 0 0 0) fun M14 =>
              (s_X13_token_183 FU M14)))))
          else
            (bndP (wrI M5 75 0 0 0 0) fun M15 =>
            (s_X13_token_69 FU M15))))))))))
theorem o_X13_token_0   : ∀ (n : Nat) (M : gM), offW [71, 72, 73, 74, 75] M (f_X13_token_0   n M) := by
  intro n
  induction n with
  | zero => intro M; exact offR
  | succ n ih =>
    intro M
    rw [f_X13_token_0]
    refine offI ?_ ?_
    · exact (o_X13_token_18 M (f_X13_token_0  n) ih)
    · refine offI ?_ ?_
      · exact (o_X13_token_18 M (f_X13_token_0  n) ih)
      · refine offB (offR.wI (by decide)) (fun M5 oM5 => ?_)
        refine offI ?_ ?_
        · refine offB (oM5.wI (by decide)) (fun M16 oM16 => ?_)
          exact oM16
        · refine offI ?_ ?_
          · refine offI ?_ ?_
            · refine offI ?_ ?_
              · exact oM5.tr (o_X13_token_253 M5 2)
              · exact oM5.tr (o_X13_token_253 M5 4)
            · refine offB (oM5.wI (by decide)) (fun M13 oM13 => ?_)
              refine offB (oM13.wI (by decide)) (fun M14 oM14 => ?_)
              exact oM14.tr (o_X13_token_183  FU M14)
          · refine offB (oM5.wI (by decide)) (fun M15 oM15 => ?_)
            exact oM15.tr (o_X13_token_69  FU M15)
set_option maxRecDepth 100000 in
set_option maxHeartbeats 4000000 in
theorem t_X13_token_0 {E : gE} {K : gM → Prop} {Q : Option Value → gM → Prop} (hK : ∀ z : gM, K z → Q none z)    : ∀ (n : Nat) (M : gM) , s_X13_token_0   n M → K (f_X13_token_0   n M) → gG E RX13 cX13_token 2 none (rm 6) 0 [(0, .ref (gla E 226))] [] M Q := by
  intro n
  induction n with
  | zero => intro M hs hQ; exact (hs : False).elim
  | succ n ih =>
    intro M hs hQ
    rw [s_X13_token_0] at hs
    rw [f_X13_token_0] at hQ
    refine g_aload_n 0 dX13_token_0 rfl ?_
    have h1 := hs.1; have hs := hs.2
    refine g_callV (As := []) (st := []) 226 (c_X13_here E M h1) mt_X13_here ml_X13_73 dF_Md rfl rfl sg_X13_here rfl (by decide) (Nat.le_of_ble_eq_true rfl) dX13_token_1 ?_
    rintro _ _ ⟨q1, q2⟩; rw [q1, q2]; clear q1 q2
    refine g_bipush (v := 10) dX13_token_4 (by decide) ?_
    refine g_icmp_eq 18 dX13_token_6 (by decide) (fun c2 => ?_) (fun c2 => ?_)
    · have hs := ifSt hs c2; have hQ := ifQt hQ c2
      exact t_X13_token_18 hK M (f_X13_token_0  n) (s_X13_token_0  n) ih hs hQ
    · have hs := ifSf hs c2; have hQ := ifQf hQ c2
      refine g_aload_n 0 dX13_token_9 rfl ?_
      have h3 := hs.1; have hs := hs.2
      refine g_callV (As := []) (st := []) 226 (c_X13_here E M h3) mt_X13_here ml_X13_73 dF_Md rfl rfl sg_X13_here rfl (by decide) (Nat.le_of_ble_eq_true rfl) dX13_token_10 ?_
      rintro _ _ ⟨q1, q2⟩; rw [q1, q2]; clear q1 q2
      refine g_bipush (v := 32) dX13_token_13 (by decide) ?_
      refine g_icmp_ne 31 dX13_token_15 (by decide) (fun c4 => ?_) (fun c4 => ?_)
      · have hs := ifSf hs c4; have hQ := ifQf hQ c4
        refine g_aload_n 0 dX13_token_31 rfl ?_
        refine g_aload_n 0 dX13_token_32 rfl ?_
        refine g_getI 226 fd_X13_67 dF_Md rfl dX13_token_33 ?_
        refine g_putI 226 fd_X13_77 dF_Md rfl dX13_token_36 (fun M5 hM5 => ?_)
        have hQ := bndQ hQ M5 hM5; have hs := bndS hs M5 hM5
        refine g_aload_n 0 dX13_token_39 rfl ?_
        have h6 := hs.1; have hs := hs.2
        refine g_callV (As := []) (st := []) 226 (c_X13_here E M5 h6) mt_X13_here ml_X13_73 dF_Md rfl rfl sg_X13_here rfl (by decide) (Nat.le_of_ble_eq_true rfl) dX13_token_40 ?_
        rintro _ _ ⟨q1, q2⟩; rw [q1, q2]; clear q1 q2
        refine g_istore_n _ dX13_token_43 (by decide) rfl ?_
        refine g_iload_n 0 dX13_token_44 rfl ?_
        refine g_iconst (v := (-1)) dX13_token_45 (by decide) ?_
        refine g_icmp_ne 57 dX13_token_46 (by decide) (fun c7 => ?_) (fun c7 => ?_)
        · have hs := ifSf hs c7; have hQ := ifQf hQ c7
          refine g_iload_n 0 dX13_token_57 rfl ?_
          have h8 := hs.1; have hs := hs.2
          refine g_callS (As := [.int (f_X13_here M5)]) (st := []) (c_X13_isSmall E M5 (f_X13_here M5) h8) mt_X13_isSmall ml_X13_83 sg_X13_isSmall rfl (by decide) (Nat.le_of_ble_eq_true rfl) dX13_token_58 ?_
          rintro _ _ ⟨q1, q2⟩; rw [q1, q2]; clear q1 q2
          refine g_if_eq 166 dX13_token_61 (by decide) (fun c9 => ?_) (fun c9 => ?_)
          · have hs := ifSt hs c9; have hQ := ifQt hQ c9
            refine g_iload_n 0 dX13_token_166 rfl ?_
            have h10 := hs.1; have hs := hs.2
            refine g_callS (As := [.int (f_X13_here M5)]) (st := []) (c_X13_isDigit E M5 (f_X13_here M5) h10) mt_X13_isDigit ml_X13_96 sg_X13_isDigit rfl (by decide) (Nat.le_of_ble_eq_true rfl) dX13_token_167 ?_
            rintro _ _ ⟨q1, q2⟩; rw [q1, q2]; clear q1 q2
            refine g_if_eq 241 dX13_token_170 (by decide) (fun c11 => ?_) (fun c11 => ?_)
            · have hs := ifSt hs c11; have hQ := ifQt hQ c11
              refine g_aload_n 1 dX13_token_241 rfl ?_
              refine g_iload_n 0 dX13_token_242 rfl ?_
              refine g_bipush (v := 59) dX13_token_243 (by decide) ?_
              refine g_icmp_ne 252 dX13_token_245 (by decide) (fun c12 => ?_) (fun c12 => ?_)
              · have hs := ifSf hs c12; have hQ := ifQf hQ c12
                refine g_iconst (v := 4) dX13_token_252 (by decide) ?_
                refine g_sub [1] _ rfl ?_
                exact t_X13_token_253 hK M5 4 hs hQ
              · have hs := ifSt hs c12; have hQ := ifQt hQ c12
                refine g_iconst (v := 2) dX13_token_248 (by decide) ?_
                refine g_goto 253 dX13_token_249 (by decide) ?_
                refine g_sub [1] _ rfl ?_
                exact t_X13_token_253 hK M5 2 hs hQ
            · have hs := ifSf hs c11; have hQ := ifQf hQ c11
              refine g_aload_n 1 dX13_token_173 rfl ?_
              refine g_iconst (v := 1) dX13_token_174 (by decide) ?_
              refine g_putI 226 fd_X13_80 dF_Md rfl dX13_token_175 (fun M13 hM13 => ?_)
              have hQ := bndQ hQ M13 hM13; have hs := bndS hs M13 hM13
              refine g_aload_n 1 dX13_token_178 rfl ?_
              refine g_iconst (v := 0) dX13_token_179 (by decide) ?_
              refine g_putI 226 fd_X13_93 dF_Md rfl dX13_token_180 (fun M14 hM14 => ?_)
              have hQ := bndQ hQ M14 hM14; have hs := bndS hs M14 hM14
              refine g_sub [1] _ rfl ?_
              exact t_X13_token_183 hK FU M14 hs hQ
          · have hs := ifSf hs c9; have hQ := ifQf hQ c9
            refine g_aload_n 1 dX13_token_64 rfl ?_
            refine g_iconst (v := 0) dX13_token_65 (by decide) ?_
            refine g_putI 226 fd_X13_87 dF_Md rfl dX13_token_66 (fun M15 hM15 => ?_)
            have hQ := bndQ hQ M15 hM15; have hs := bndS hs M15 hM15
            refine g_sub [1] _ rfl ?_
            exact t_X13_token_69 hK FU M15 hs hQ
        · have hs := ifSt hs c7; have hQ := ifQt hQ c7
          refine g_aload_n 1 dX13_token_49 rfl ?_
          refine g_iconst (v := 3) dX13_token_50 (by decide) ?_
          refine g_putI 226 fd_X13_80 dF_Md rfl dX13_token_51 (fun M16 hM16 => ?_)
          have hQ := bndQ hQ M16 hM16; have hs := bndS hs M16 hM16
          refine g_goto 266 dX13_token_54 (by decide) ?_
          exact g_vret rfl dX13_token_266 (hK _ hQ)
      · have hs := ifSt hs c4; have hQ := ifQt hQ c4
        exact t_X13_token_18 hK M (f_X13_token_0  n) (s_X13_token_0  n) ih hs hQ
def f_X13_token (M : gM) : gM :=
  f_X13_token_0 FU M
def s_X13_token (M : gM) : Prop :=
  s_X13_token_0 FU M
theorem o_X13_token (M : gM) : offW [71, 72, 73, 74, 75] M (f_X13_token M) := by
  rw [f_X13_token]
  exact (o_X13_token_0  FU M)
set_option maxRecDepth 100000 in
set_option maxHeartbeats 4000000 in
theorem t_X13_token {E : gE} {K : gM → Prop} {Q : Option Value → gM → Prop} (hK : ∀ z : gM, K z → Q none z) (M : gM)  (hs : s_X13_token M) (hQ : K (f_X13_token M)) : gG E RX13 cX13_token 2 none (rm 6) 0 [(0, .ref (gla E 226))] [] M Q := by
  rw [s_X13_token] at hs
  rw [f_X13_token] at hQ
  exact t_X13_token_0 hK FU M hs hQ
theorem c_X13_token (E : gE) (M : gM)  (hs : s_X13_token M) : gC E yX13_token cX13_token 2 none (rm 6) [.ref (gla E 226)] M (fun o N => o = none ∧ N = f_X13_token M) :=
  gC.of (by decide +kernel) (Nat.le_of_ble_eq_true rfl) rfl (t_X13_token (K := fun z => z = f_X13_token M) (fun z hz => ⟨rfl, hz⟩) M hs rfl)
end
