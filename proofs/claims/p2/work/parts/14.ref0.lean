set_option linter.all false
noncomputable section
def f_X13_feed_73 (M : gM) (x1 : Int32) (x2 : Int32) (x3 : Int32) (x4 : Int32) (x5 : Int32) (x6 : Int32) (y0 : Int32) (k20 : gM → Int32 → Int32 × gM) : Int32 × gM :=
  bnd (wrI M 87 0 0 (nn ((rdI M 68 0 0 0) + x6)) ((y0 >>> ((24 - (8 * (x6 - x6 / 4 * 4))) &&& 31)) &&& 255)) fun M10 =>
  (k20 M10 (x6 + 1))
def s_X13_feed_73 (M : gM) (x1 : Int32) (x2 : Int32) (x3 : Int32) (x4 : Int32) (x5 : Int32) (x6 : Int32) (y0 : Int32) (q20 : gM → Int32 → Prop) : Prop :=
  (vp_in ((rdI M 68 0 0 0) + x6) 1200) ∧
  (bndP (wrI M 87 0 0 (nn ((rdI M 68 0 0 0) + x6)) ((y0 >>> ((24 - (8 * (x6 - x6 / 4 * 4))) &&& 31)) &&& 255)) fun M10 =>
  (q20 M10 (x6 + 1)))
theorem o_X13_feed_73 (M : gM) (x1 : Int32) (x2 : Int32) (x3 : Int32) (x4 : Int32) (x5 : Int32) (x6 : Int32) (y0 : Int32) (k20 : gM → Int32 → Int32 × gM) (ho20 : ∀ (M : gM) (x6 : Int32), offW [67, 68, 87] M (k20 M x6).2) : offW [67, 68, 87] M (f_X13_feed_73 M x1 x2 x3 x4 x5 x6 y0 k20).2 := by
  rw [f_X13_feed_73]
  refine offB2 (offR.wI (by decide)) (fun M10 oM10 => ?_)
  exact oM10.tr (ho20 M10 (x6 + 1))
set_option maxRecDepth 100000 in
set_option maxHeartbeats 4000000 in
theorem t_X13_feed_73 {E : gE} {K : Int32 × gM → Prop} {Q : Option Value → gM → Prop} (hK : ∀ z : Int32 × gM, K z → Q (some (.int z.1)) z.2) (M : gM) (x1 : Int32) (x2 : Int32) (x3 : Int32) (x4 : Int32) (x5 : Int32) (x6 : Int32) (y0 : Int32)  (k20 : gM → Int32 → Int32 × gM) (q20 : gM → Int32 → Prop) (hk20 : ∀ (M : gM) (x6 : Int32) , q20 M x6 → K (k20 M x6) → gG E RX13 cX13_feed 8 (some .int) (rm 0) 20 [(0, .ref (gla E 226)), (1, .int x1), (2, .int x2), (3, .int x3), (4, .int x4), (5, .int x5), (6, .int x6)] [] M Q) (hs : s_X13_feed_73 M x1 x2 x3 x4 x5 x6 y0 q20) (hQ : K (f_X13_feed_73 M x1 x2 x3 x4 x5 x6 y0 k20)) : gG E RX13 cX13_feed 8 (some .int) (rm 0) 73 [(0, .ref (gla E 226)), (1, .int x1), (2, .int x2), (3, .int x3), (4, .int x4), (5, .int x5), (6, .int x6)] [.int y0] M Q := by
  rw [s_X13_feed_73] at hs
  rw [f_X13_feed_73] at hQ
  refine g_istore _ dX13_feed_73 (by decide) rfl ?_
  refine g_aload_n 1 dX13_feed_75 rfl ?_
  refine g_getR 226 227 fd_X13_7 dF_Md rfl rfl dX13_feed_76 ?_
  refine g_aload_n 1 dX13_feed_79 rfl ?_
  refine g_getI 226 fd_X13_64 dF_Md rfl dX13_feed_80 ?_
  refine g_iload 7 dX13_feed_83 rfl ?_
  refine g_iadd dX13_feed_85 ?_
  refine g_iload 0 dX13_feed_86 rfl ?_
  refine g_bipush (v := 24) dX13_feed_88 (by decide) ?_
  refine g_bipush (v := 8) dX13_feed_90 (by decide) ?_
  refine g_iload 7 dX13_feed_92 rfl ?_
  refine g_iconst (v := 4) dX13_feed_94 (by decide) ?_
  refine g_irem dX13_feed_95 (by decide) ?_
  refine g_imul dX13_feed_96 ?_
  refine g_isub dX13_feed_97 ?_
  refine g_ishr dX13_feed_98 ?_
  refine g_sipush (v := 255) dX13_feed_99 (by decide) ?_
  refine g_iand dX13_feed_102 ?_
  have h9 := hs.1; have hs := hs.2
  refine g_iast 227 dF_Md_tape h9 dX13_feed_103 (fun M10 hM10 => ?_)
  have hQ := bndQ hQ M10 hM10; have hs := bndS hs M10 hM10
  refine g_iinc 7 (v := x6 + 1) _ dX13_feed_104 rfl rfl (by decide) rfl ?_
  refine g_goto 20 dX13_feed_107 (by decide) ?_
  refine g_sub [2, 3, 4, 5, 6, 7, 0] _ rfl ?_
  exact hk20 M10 (x6 + 1) hs hQ
def f_X13_feed_20 (x1 : Int32) (x2 : Int32) (x3 : Int32) (x4 : Int32) (x5 : Int32)  : Nat → gM → Int32 → Int32 × gM
  | 0, M, _ => (0, M)
  | n + 1, M, x6 =>
    if 20 ≤ x6 then
      (bnd (wrI M 68 0 0 0 ((rdI M 68 0 0 0) + 20)) fun M4 =>
      ((rdI M4 68 0 0 0, M4)))
    else
      (if 4 ≤ x6 then
        (if 8 ≤ x6 then
          (if 12 ≤ x6 then
            (if 16 ≤ x6 then
              (f_X13_feed_73 M x1 x2 x3 x4 x5 x6 x5 (f_X13_feed_20 x1 x2 x3 x4 x5 n))
            else
              (f_X13_feed_73 M x1 x2 x3 x4 x5 x6 x4 (f_X13_feed_20 x1 x2 x3 x4 x5 n)))
          else
            (f_X13_feed_73 M x1 x2 x3 x4 x5 x6 x3 (f_X13_feed_20 x1 x2 x3 x4 x5 n)))
        else
          (f_X13_feed_73 M x1 x2 x3 x4 x5 x6 x2 (f_X13_feed_20 x1 x2 x3 x4 x5 n)))
      else
        (f_X13_feed_73 M x1 x2 x3 x4 x5 x6 x1 (f_X13_feed_20 x1 x2 x3 x4 x5 n)))
def s_X13_feed_20 (x1 : Int32) (x2 : Int32) (x3 : Int32) (x4 : Int32) (x5 : Int32)  : Nat → gM → Int32 → Prop
  | 0, _, _ => False
  | n + 1, M, x6 =>
    if 20 ≤ x6 then
      (bndP (wrI M 68 0 0 0 ((rdI M 68 0 0 0) + 20)) fun M4 =>
      (True))
    else
      (if 4 ≤ x6 then
        (if 8 ≤ x6 then
          (if 12 ≤ x6 then
            (if 16 ≤ x6 then
              (s_X13_feed_73 M x1 x2 x3 x4 x5 x6 x5 (s_X13_feed_20 x1 x2 x3 x4 x5 n))
            else
              (s_X13_feed_73 M x1 x2 x3 x4 x5 x6 x4 (s_X13_feed_20 x1 x2 x3 x4 x5 n)))
          else
            (s_X13_feed_73 M x1 x2 x3 x4 x5 x6 x3 (s_X13_feed_20 x1 x2 x3 x4 x5 n)))
        else
          (s_X13_feed_73 M x1 x2 x3 x4 x5 x6 x2 (s_X13_feed_20 x1 x2 x3 x4 x5 n)))
      else
        (s_X13_feed_73 M x1 x2 x3 x4 x5 x6 x1 (s_X13_feed_20 x1 x2 x3 x4 x5 n)))
theorem o_X13_feed_20 (x1 : Int32) (x2 : Int32) (x3 : Int32) (x4 : Int32) (x5 : Int32)  : ∀ (n : Nat) (M : gM) (x6 : Int32), offW [67, 68, 87] M (f_X13_feed_20 x1 x2 x3 x4 x5  n M x6).2 := by
  intro n
  induction n with
  | zero => intro M x6; exact offR
  | succ n ih =>
    intro M x6
    rw [f_X13_feed_20]
    refine offI2 ?_ ?_
    · refine offB2 (offR.wI (by decide)) (fun M4 oM4 => ?_)
      exact oM4
    · refine offI2 ?_ ?_
      · refine offI2 ?_ ?_
        · refine offI2 ?_ ?_
          · refine offI2 ?_ ?_
            · exact (o_X13_feed_73 M x1 x2 x3 x4 x5 x6 x5 (f_X13_feed_20 x1 x2 x3 x4 x5 n) ih)
            · exact (o_X13_feed_73 M x1 x2 x3 x4 x5 x6 x4 (f_X13_feed_20 x1 x2 x3 x4 x5 n) ih)
          · exact (o_X13_feed_73 M x1 x2 x3 x4 x5 x6 x3 (f_X13_feed_20 x1 x2 x3 x4 x5 n) ih)
        · exact (o_X13_feed_73 M x1 x2 x3 x4 x5 x6 x2 (f_X13_feed_20 x1 x2 x3 x4 x5 n) ih)
      · exact (o_X13_feed_73 M x1 x2 x3 x4 x5 x6 x1 (f_X13_feed_20 x1 x2 x3 x4 x5 n) ih)
set_option maxRecDepth 100000 in
set_option maxHeartbeats 4000000 in
theorem t_X13_feed_20 {E : gE} {K : Int32 × gM → Prop} {Q : Option Value → gM → Prop} (hK : ∀ z : Int32 × gM, K z → Q (some (.int z.1)) z.2) (x1 : Int32) (x2 : Int32) (x3 : Int32) (x4 : Int32) (x5 : Int32)   : ∀ (n : Nat) (M : gM) (x6 : Int32) , s_X13_feed_20 x1 x2 x3 x4 x5  n M x6 → K (f_X13_feed_20 x1 x2 x3 x4 x5  n M x6) → gG E RX13 cX13_feed 8 (some .int) (rm 0) 20 [(0, .ref (gla E 226)), (1, .int x1), (2, .int x2), (3, .int x3), (4, .int x4), (5, .int x5), (6, .int x6)] [] M Q := by
  intro n
  induction n with
  | zero => intro M x6 hs hQ; exact (hs : False).elim
  | succ n ih =>
    intro M x6 hs hQ
    rw [s_X13_feed_20] at hs
    rw [f_X13_feed_20] at hQ
    refine g_iload 6 dX13_feed_20 rfl ?_
    refine g_bipush (v := 20) dX13_feed_22 (by decide) ?_
    refine g_icmp_ge 110 dX13_feed_24 (by decide) (fun c3 => ?_) (fun c3 => ?_)
    · have hs := ifSt hs c3; have hQ := ifQt hQ c3
      refine g_aload_n 0 dX13_feed_110 rfl ?_
      refine g_dup dX13_feed_111 rfl ?_
      refine g_getI 226 fd_X13_64 dF_Md rfl dX13_feed_112 ?_
      refine g_bipush (v := 20) dX13_feed_115 (by decide) ?_
      refine g_iadd dX13_feed_117 ?_
      refine g_putI 226 fd_X13_64 dF_Md rfl dX13_feed_118 (fun M4 hM4 => ?_)
      have hQ := bndQ hQ M4 hM4; have hs := bndS hs M4 hM4
      refine g_aload_n 0 dX13_feed_121 rfl ?_
      refine g_getI 226 fd_X13_64 dF_Md rfl dX13_feed_122 ?_
      exact g_iret rfl dX13_feed_125 (hK _ hQ)
    · have hs := ifSf hs c3; have hQ := ifQf hQ c3
      refine g_iload 6 dX13_feed_27 rfl ?_
      refine g_iconst (v := 4) dX13_feed_29 (by decide) ?_
      refine g_icmp_ge 37 dX13_feed_30 (by decide) (fun c5 => ?_) (fun c5 => ?_)
      · have hs := ifSt hs c5; have hQ := ifQt hQ c5
        refine g_iload 6 dX13_feed_37 rfl ?_
        refine g_bipush (v := 8) dX13_feed_39 (by decide) ?_
        refine g_icmp_ge 48 dX13_feed_41 (by decide) (fun c6 => ?_) (fun c6 => ?_)
        · have hs := ifSt hs c6; have hQ := ifQt hQ c6
          refine g_iload 6 dX13_feed_48 rfl ?_
          refine g_bipush (v := 12) dX13_feed_50 (by decide) ?_
          refine g_icmp_ge 59 dX13_feed_52 (by decide) (fun c7 => ?_) (fun c7 => ?_)
          · have hs := ifSt hs c7; have hQ := ifQt hQ c7
            refine g_iload 6 dX13_feed_59 rfl ?_
            refine g_bipush (v := 16) dX13_feed_61 (by decide) ?_
            refine g_icmp_ge 71 dX13_feed_63 (by decide) (fun c8 => ?_) (fun c8 => ?_)
            · have hs := ifSt hs c8; have hQ := ifQt hQ c8
              refine g_iload 5 dX13_feed_71 rfl ?_
              exact t_X13_feed_73 hK M x1 x2 x3 x4 x5 x6 x5 (f_X13_feed_20 x1 x2 x3 x4 x5 n) (s_X13_feed_20 x1 x2 x3 x4 x5 n) ih hs hQ
            · have hs := ifSf hs c8; have hQ := ifQf hQ c8
              refine g_iload 4 dX13_feed_66 rfl ?_
              refine g_goto 73 dX13_feed_68 (by decide) ?_
              exact t_X13_feed_73 hK M x1 x2 x3 x4 x5 x6 x4 (f_X13_feed_20 x1 x2 x3 x4 x5 n) (s_X13_feed_20 x1 x2 x3 x4 x5 n) ih hs hQ
          · have hs := ifSf hs c7; have hQ := ifQf hQ c7
            refine g_iload_n 3 dX13_feed_55 rfl ?_
            refine g_goto 73 dX13_feed_56 (by decide) ?_
            exact t_X13_feed_73 hK M x1 x2 x3 x4 x5 x6 x3 (f_X13_feed_20 x1 x2 x3 x4 x5 n) (s_X13_feed_20 x1 x2 x3 x4 x5 n) ih hs hQ
        · have hs := ifSf hs c6; have hQ := ifQf hQ c6
          refine g_iload_n 2 dX13_feed_44 rfl ?_
          refine g_goto 73 dX13_feed_45 (by decide) ?_
          exact t_X13_feed_73 hK M x1 x2 x3 x4 x5 x6 x2 (f_X13_feed_20 x1 x2 x3 x4 x5 n) (s_X13_feed_20 x1 x2 x3 x4 x5 n) ih hs hQ
      · have hs := ifSf hs c5; have hQ := ifQf hQ c5
        refine g_iload_n 1 dX13_feed_33 rfl ?_
        refine g_goto 73 dX13_feed_34 (by decide) ?_
        exact t_X13_feed_73 hK M x1 x2 x3 x4 x5 x6 x1 (f_X13_feed_20 x1 x2 x3 x4 x5 n) (s_X13_feed_20 x1 x2 x3 x4 x5 n) ih hs hQ
def f_X13_feed (M : gM) (x1 : Int32) (x2 : Int32) (x3 : Int32) (x4 : Int32) (x5 : Int32) : Int32 × gM :=
  bnd (wrI M 67 0 0 0 0) fun M1 =>
  (if (rdI M1 68 0 0 0) ≤ 1180 then
    (f_X13_feed_20 x1 x2 x3 x4 x5 FU M1 0)
  else
    (((-1), M1)))
def s_X13_feed (M : gM) (x1 : Int32) (x2 : Int32) (x3 : Int32) (x4 : Int32) (x5 : Int32) : Prop :=
  bndP (wrI M 67 0 0 0 0) fun M1 =>
  (if (rdI M1 68 0 0 0) ≤ 1180 then
    (s_X13_feed_20 x1 x2 x3 x4 x5 FU M1 0)
  else
    (True))
theorem o_X13_feed (M : gM) (x1 : Int32) (x2 : Int32) (x3 : Int32) (x4 : Int32) (x5 : Int32) : offW [67, 68, 87] M (f_X13_feed M x1 x2 x3 x4 x5).2 := by
  rw [f_X13_feed]
  refine offB2 (offR.wI (by decide)) (fun M1 oM1 => ?_)
  refine offI2 ?_ ?_
  · exact oM1.tr (o_X13_feed_20 x1 x2 x3 x4 x5 FU M1 0)
  · exact oM1
set_option maxRecDepth 100000 in
set_option maxHeartbeats 4000000 in
theorem t_X13_feed {E : gE} {K : Int32 × gM → Prop} {Q : Option Value → gM → Prop} (hK : ∀ z : Int32 × gM, K z → Q (some (.int z.1)) z.2) (M : gM) (x1 : Int32) (x2 : Int32) (x3 : Int32) (x4 : Int32) (x5 : Int32)  (hs : s_X13_feed M x1 x2 x3 x4 x5) (hQ : K (f_X13_feed M x1 x2 x3 x4 x5)) : gG E RX13 cX13_feed 8 (some .int) (rm 0) 0 [(0, .ref (gla E 226)), (1, .int x1), (2, .int x2), (3, .int x3), (4, .int x4), (5, .int x5)] [] M Q := by
  rw [s_X13_feed] at hs
  rw [f_X13_feed] at hQ
  refine g_aload_n 0 dX13_feed_0 rfl ?_
  refine g_iconst (v := 0) dX13_feed_1 (by decide) ?_
  refine g_putI 226 fd_X13_61 dF_Md rfl dX13_feed_2 (fun M1 hM1 => ?_)
  have hQ := bndQ hQ M1 hM1; have hs := bndS hs M1 hM1
  refine g_aload_n 0 dX13_feed_5 rfl ?_
  refine g_getI 226 fd_X13_64 dF_Md rfl dX13_feed_6 ?_
  refine g_sipush (v := 1180) dX13_feed_9 (by decide) ?_
  refine g_icmp_le 17 dX13_feed_12 (by decide) (fun c2 => ?_) (fun c2 => ?_)
  · have hs := ifSt hs c2; have hQ := ifQt hQ c2
    refine g_iconst (v := 0) dX13_feed_17 (by decide) ?_
    refine g_istore _ dX13_feed_18 (by decide) rfl ?_
    refine g_sub [1, 2, 3, 4, 5, 6, 0] _ rfl ?_
    exact t_X13_feed_20 hK x1 x2 x3 x4 x5 FU M1 0 hs hQ
  · have hs := ifSf hs c2; have hQ := ifQf hQ c2
    refine g_iconst (v := (-1)) dX13_feed_15 (by decide) ?_
    exact g_iret rfl dX13_feed_16 (hK _ hQ)
theorem c_X13_feed (E : gE) (M : gM) (x1 : Int32) (x2 : Int32) (x3 : Int32) (x4 : Int32) (x5 : Int32) (hs : s_X13_feed M x1 x2 x3 x4 x5) : gC E yX13_feed cX13_feed 8 (some .int) (rm 0) [.ref (gla E 226), .int x1, .int x2, .int x3, .int x4, .int x5] M (fun o N => o = some (.int (f_X13_feed M x1 x2 x3 x4 x5).1) ∧ N = (f_X13_feed M x1 x2 x3 x4 x5).2) :=
  gC.of (by decide +kernel) (Nat.le_of_ble_eq_true rfl) rfl (t_X13_feed (K := fun z => z = f_X13_feed M x1 x2 x3 x4 x5) (fun z hz => by rw [hz]; exact ⟨rfl, rfl⟩) M x1 x2 x3 x4 x5 hs rfl)
def f_X13_here (M : gM) : Int32 :=
  if (rdI M 70 0 0 0) ≤ (rdI M 71 0 0 0) then
    ((-1))
  else
    (rdI M 87 0 0 (nn (rdI M 71 0 0 0)))
def s_X13_here (M : gM) : Prop :=
  if (rdI M 70 0 0 0) ≤ (rdI M 71 0 0 0) then
    (True)
  else
    ((vp_in (rdI M 71 0 0 0) 1200) ∧
    (True))
set_option maxRecDepth 100000 in
set_option maxHeartbeats 4000000 in
theorem t_X13_here {E : gE} {K : Int32 → Prop} {Q : Option Value → gM → Prop} {M : gM} (hK : ∀ z : Int32, K z → Q (some (.int z)) M)   (hs : s_X13_here M) (hQ : K (f_X13_here M)) : gG E RX13 cX13_here 1 (some .int) (rm 0) 0 [(0, .ref (gla E 226))] [] M Q := by
  rw [s_X13_here] at hs
  rw [f_X13_here] at hQ
  refine g_aload_n 0 dX13_here_0 rfl ?_
  refine g_getI 226 fd_X13_67 dF_Md rfl dX13_here_1 ?_
  refine g_aload_n 0 dX13_here_4 rfl ?_
  refine g_getI 226 fd_X13_70 dF_Md rfl dX13_here_5 ?_
  refine g_icmp_ge 23 dX13_here_8 (by decide) (fun c1 => ?_) (fun c1 => ?_)
  · have hs := ifSt hs c1; have hQ := ifQt hQ c1
    refine g_iconst (v := (-1)) dX13_here_23 (by decide) ?_
    exact g_iret rfl dX13_here_24 (hK _ hQ)
  · have hs := ifSf hs c1; have hQ := ifQf hQ c1
    refine g_aload_n 0 dX13_here_11 rfl ?_
    refine g_getR 226 227 fd_X13_7 dF_Md rfl rfl dX13_here_12 ?_
    refine g_aload_n 0 dX13_here_15 rfl ?_
    refine g_getI 226 fd_X13_67 dF_Md rfl dX13_here_16 ?_
    have h2 := hs.1; have hs := hs.2
    refine g_iald 227 dF_Md_tape h2 dX13_here_19 ?_
    refine g_goto 24 dX13_here_20 (by decide) ?_
    exact g_iret rfl dX13_here_24 (hK _ hQ)
theorem c_X13_here (E : gE) (M : gM)  (hs : s_X13_here M) : gC E yX13_here cX13_here 1 (some .int) (rm 0) [.ref (gla E 226)] M (fun o N => o = some (.int (f_X13_here M)) ∧ N = M) :=
  gC.of (by decide +kernel) (Nat.le_of_ble_eq_true rfl) rfl (t_X13_here (K := fun z => z = f_X13_here M) (fun z hz => by rw [hz]; exact ⟨rfl, rfl⟩)  hs rfl)
def f_X13_isSmall_16 (M : gM)  : Int32 :=
  0
def s_X13_isSmall_16 (M : gM)  : Prop :=
  True
set_option maxRecDepth 100000 in
set_option maxHeartbeats 4000000 in
theorem t_X13_isSmall_16 {E : gE} {K : Int32 → Prop} {Q : Option Value → gM → Prop} {M : gM} (hK : ∀ z : Int32, K z → Q (some (.int z)) M)    (hs : s_X13_isSmall_16 M ) (hQ : K (f_X13_isSmall_16 M )) : gG E RX13 cX13_isSmall 1 (some .boolean) (rm 0) 16 [] [] M Q := by
  rw [s_X13_isSmall_16] at hs
  rw [f_X13_isSmall_16] at hQ
  refine g_iconst (v := 0) dX13_isSmall_16 (by decide) ?_
  exact g_zret rfl (Or.inl rfl) dX13_isSmall_17 (hK _ hQ)
def f_X13_isSmall (M : gM) (x0 : Int32) : Int32 :=
  if x0 < 97 then
    (f_X13_isSmall_16 M)
  else
    (if 122 < x0 then
      (f_X13_isSmall_16 M)
    else
      (1))
def s_X13_isSmall (M : gM) (x0 : Int32) : Prop :=
  if x0 < 97 then
    (s_X13_isSmall_16 M)
  else
    (if 122 < x0 then
      (s_X13_isSmall_16 M)
    else
      (True))
set_option maxRecDepth 100000 in
set_option maxHeartbeats 4000000 in
theorem t_X13_isSmall {E : gE} {K : Int32 → Prop} {Q : Option Value → gM → Prop} {M : gM} (hK : ∀ z : Int32, K z → Q (some (.int z)) M)  (x0 : Int32)  (hs : s_X13_isSmall M x0) (hQ : K (f_X13_isSmall M x0)) : gG E RX13 cX13_isSmall 1 (some .boolean) (rm 0) 0 [(0, .int x0)] [] M Q := by
  rw [s_X13_isSmall] at hs
  rw [f_X13_isSmall] at hQ
  refine g_iload_n 0 dX13_isSmall_0 rfl ?_
  refine g_bipush (v := 97) dX13_isSmall_1 (by decide) ?_
  refine g_icmp_lt 16 dX13_isSmall_3 (by decide) (fun c1 => ?_) (fun c1 => ?_)
  · have hs := ifSt hs c1; have hQ := ifQt hQ c1
    refine g_sub [] _ rfl ?_
    exact t_X13_isSmall_16 hK hs hQ
  · have hs := ifSf hs c1; have hQ := ifQf hQ c1
    refine g_iload_n 0 dX13_isSmall_6 rfl ?_
    refine g_bipush (v := 122) dX13_isSmall_7 (by decide) ?_
    refine g_icmp_gt 16 dX13_isSmall_9 (by decide) (fun c2 => ?_) (fun c2 => ?_)
    · have hs := ifSt hs c2; have hQ := ifQt hQ c2
      refine g_sub [] _ rfl ?_
      exact t_X13_isSmall_16 hK hs hQ
    · have hs := ifSf hs c2; have hQ := ifQf hQ c2
      refine g_iconst (v := 1) dX13_isSmall_12 (by decide) ?_
      refine g_goto 17 dX13_isSmall_13 (by decide) ?_
      exact g_zret rfl (Or.inr rfl) dX13_isSmall_17 (hK _ hQ)
theorem c_X13_isSmall (E : gE) (M : gM) (x0 : Int32) (hs : s_X13_isSmall M x0) : gC E yX13_isSmall cX13_isSmall 1 (some .boolean) (rm 0) [.int x0] M (fun o N => o = some (.int (f_X13_isSmall M x0)) ∧ N = M) :=
  gC.of (by decide +kernel) (Nat.le_of_ble_eq_true rfl) rfl (t_X13_isSmall (K := fun z => z = f_X13_isSmall M x0) (fun z hz => by rw [hz]; exact ⟨rfl, rfl⟩) x0 hs rfl)
def f_X13_isDigit_16 (M : gM)  : Int32 :=
  0
def s_X13_isDigit_16 (M : gM)  : Prop :=
  True
set_option maxRecDepth 100000 in
set_option maxHeartbeats 4000000 in
theorem t_X13_isDigit_16 {E : gE} {K : Int32 → Prop} {Q : Option Value → gM → Prop} {M : gM} (hK : ∀ z : Int32, K z → Q (some (.int z)) M)    (hs : s_X13_isDigit_16 M ) (hQ : K (f_X13_isDigit_16 M )) : gG E RX13 cX13_isDigit 1 (some .boolean) (rm 0) 16 [] [] M Q := by
  rw [s_X13_isDigit_16] at hs
  rw [f_X13_isDigit_16] at hQ
  refine g_iconst (v := 0) dX13_isDigit_16 (by decide) ?_
  exact g_zret rfl (Or.inl rfl) dX13_isDigit_17 (hK _ hQ)
def f_X13_isDigit (M : gM) (x0 : Int32) : Int32 :=
  if x0 < 48 then
    (f_X13_isDigit_16 M)
  else
    (if 57 < x0 then
      (f_X13_isDigit_16 M)
    else
      (1))
def s_X13_isDigit (M : gM) (x0 : Int32) : Prop :=
  if x0 < 48 then
    (s_X13_isDigit_16 M)
  else
    (if 57 < x0 then
      (s_X13_isDigit_16 M)
    else
      (True))
set_option maxRecDepth 100000 in
set_option maxHeartbeats 4000000 in
theorem t_X13_isDigit {E : gE} {K : Int32 → Prop} {Q : Option Value → gM → Prop} {M : gM} (hK : ∀ z : Int32, K z → Q (some (.int z)) M)  (x0 : Int32)  (hs : s_X13_isDigit M x0) (hQ : K (f_X13_isDigit M x0)) : gG E RX13 cX13_isDigit 1 (some .boolean) (rm 0) 0 [(0, .int x0)] [] M Q := by
  rw [s_X13_isDigit] at hs
  rw [f_X13_isDigit] at hQ
  refine g_iload_n 0 dX13_isDigit_0 rfl ?_
  refine g_bipush (v := 48) dX13_isDigit_1 (by decide) ?_
  refine g_icmp_lt 16 dX13_isDigit_3 (by decide) (fun c1 => ?_) (fun c1 => ?_)
  · have hs := ifSt hs c1; have hQ := ifQt hQ c1
    refine g_sub [] _ rfl ?_
    exact t_X13_isDigit_16 hK hs hQ
  · have hs := ifSf hs c1; have hQ := ifQf hQ c1
    refine g_iload_n 0 dX13_isDigit_6 rfl ?_
    refine g_bipush (v := 57) dX13_isDigit_7 (by decide) ?_
    refine g_icmp_gt 16 dX13_isDigit_9 (by decide) (fun c2 => ?_) (fun c2 => ?_)
    · have hs := ifSt hs c2; have hQ := ifQt hQ c2
      refine g_sub [] _ rfl ?_
      exact t_X13_isDigit_16 hK hs hQ
    · have hs := ifSf hs c2; have hQ := ifQf hQ c2
      refine g_iconst (v := 1) dX13_isDigit_12 (by decide) ?_
      refine g_goto 17 dX13_isDigit_13 (by decide) ?_
      exact g_zret rfl (Or.inr rfl) dX13_isDigit_17 (hK _ hQ)
theorem c_X13_isDigit (E : gE) (M : gM) (x0 : Int32) (hs : s_X13_isDigit M x0) : gC E yX13_isDigit cX13_isDigit 1 (some .boolean) (rm 0) [.int x0] M (fun o N => o = some (.int (f_X13_isDigit M x0)) ∧ N = M) :=
  gC.of (by decide +kernel) (Nat.le_of_ble_eq_true rfl) rfl (t_X13_isDigit (K := fun z => z = f_X13_isDigit M x0) (fun z hz => by rw [hz]; exact ⟨rfl, rfl⟩) x0 hs rfl)
def f_X13_wrong (M : gM) (x1 : Int32) : gM :=
  if (rdI M 76 0 0 0) = 0 then
    (bnd (wrI M 76 0 0 0 x1) fun M2 =>
    (bnd (wrI M2 77 0 0 0 (rdI M2 72 0 0 0)) fun M3 =>
    (M3)))
  else
    (M)
def s_X13_wrong (M : gM) (x1 : Int32) : Prop :=
  if (rdI M 76 0 0 0) = 0 then
    (bndP (wrI M 76 0 0 0 x1) fun M2 =>
    (bndP (wrI M2 77 0 0 0 (rdI M2 72 0 0 0)) fun M3 =>
    (True)))
  else
    (True)
theorem o_X13_wrong (M : gM) (x1 : Int32) : offW [76, 77] M (f_X13_wrong M x1) := by
  rw [f_X13_wrong]
  refine offI ?_ ?_
  · refine offB (offR.wI (by decide)) (fun M2 oM2 => ?_)
    refine offB (oM2.wI (by decide)) (fun M3 oM3 => ?_)
    exact oM3
  · exact offR
set_option maxRecDepth 100000 in
set_option maxHeartbeats 4000000 in
theorem t_X13_wrong {E : gE} {K : gM → Prop} {Q : Option Value → gM → Prop} (hK : ∀ z : gM, K z → Q none z) (M : gM) (x1 : Int32)  (hs : s_X13_wrong M x1) (hQ : K (f_X13_wrong M x1)) : gG E RX13 cX13_wrong 2 none (rm 0) 0 [(0, .ref (gla E 226)), (1, .int x1)] [] M Q := by
  rw [s_X13_wrong] at hs
  rw [f_X13_wrong] at hQ
  refine g_aload_n 0 dX13_wrong_0 rfl ?_
  refine g_getI 226 fd_X13_111 dF_Md rfl dX13_wrong_1 ?_
  refine g_if_eq 8 dX13_wrong_4 (by decide) (fun c1 => ?_) (fun c1 => ?_)
  · have hs := ifSt hs c1; have hQ := ifQt hQ c1
    refine g_aload_n 0 dX13_wrong_8 rfl ?_
    refine g_iload_n 1 dX13_wrong_9 rfl ?_
    refine g_putI 226 fd_X13_111 dF_Md rfl dX13_wrong_10 (fun M2 hM2 => ?_)
    have hQ := bndQ hQ M2 hM2; have hs := bndS hs M2 hM2
    refine g_aload_n 0 dX13_wrong_13 rfl ?_
    refine g_aload_n 0 dX13_wrong_14 rfl ?_
    refine g_getI 226 fd_X13_77 dF_Md rfl dX13_wrong_15 ?_
    refine g_putI 226 fd_X13_114 dF_Md rfl dX13_wrong_18 (fun M3 hM3 => ?_)
    have hQ := bndQ hQ M3 hM3; have hs := bndS hs M3 hM3
    exact g_vret rfl dX13_wrong_21 (hK _ hQ)
  · have hs := ifSf hs c1; have hQ := ifQf hQ c1
    exact g_vret rfl dX13_wrong_7 (hK _ hQ)
theorem c_X13_wrong (E : gE) (M : gM) (x1 : Int32) (hs : s_X13_wrong M x1) : gC E yX13_wrong cX13_wrong 2 none (rm 0) [.ref (gla E 226), .int x1] M (fun o N => o = none ∧ N = f_X13_wrong M x1) :=
  gC.of (by decide +kernel) (Nat.le_of_ble_eq_true rfl) rfl (t_X13_wrong (K := fun z => z = f_X13_wrong M x1) (fun z hz => ⟨rfl, hz⟩) M x1 hs rfl)
def f_X13_isWord_26 (M : gM)  : Int32 :=
  0
def s_X13_isWord_26 (M : gM)  : Prop :=
  True
set_option maxRecDepth 100000 in
set_option maxHeartbeats 4000000 in
theorem t_X13_isWord_26 {E : gE} {K : Int32 → Prop} {Q : Option Value → gM → Prop} {M : gM} (hK : ∀ z : Int32, K z → Q (some (.int z)) M)    (hs : s_X13_isWord_26 M ) (hQ : K (f_X13_isWord_26 M )) : gG E RX13 cX13_isWord 2 (some .boolean) (rm 0) 26 [] [] M Q := by
  rw [s_X13_isWord_26] at hs
  rw [f_X13_isWord_26] at hQ
  refine g_iconst (v := 0) dX13_isWord_26 (by decide) ?_
  exact g_zret rfl (Or.inl rfl) dX13_isWord_27 (hK _ hQ)
def f_X13_isWord (M : gM) (x1 : Int32) : Int32 :=
  if (rdI M 76 0 0 0) = 0 then
    (if (rdI M 73 0 0 0) = 0 then
      (if (rdI M 74 0 0 0) = x1 then
        (1)
      else
        (f_X13_isWord_26 M))
    else
      (f_X13_isWord_26 M))
  else
    (f_X13_isWord_26 M)
def s_X13_isWord (M : gM) (x1 : Int32) : Prop :=
  if (rdI M 76 0 0 0) = 0 then
    (if (rdI M 73 0 0 0) = 0 then
      (if (rdI M 74 0 0 0) = x1 then
        (True)
      else
        (s_X13_isWord_26 M))
    else
      (s_X13_isWord_26 M))
  else
    (s_X13_isWord_26 M)
set_option maxRecDepth 100000 in
set_option maxHeartbeats 4000000 in
theorem t_X13_isWord {E : gE} {K : Int32 → Prop} {Q : Option Value → gM → Prop} {M : gM} (hK : ∀ z : Int32, K z → Q (some (.int z)) M)  (x1 : Int32)  (hs : s_X13_isWord M x1) (hQ : K (f_X13_isWord M x1)) : gG E RX13 cX13_isWord 2 (some .boolean) (rm 0) 0 [(0, .ref (gla E 226)), (1, .int x1)] [] M Q := by
  rw [s_X13_isWord] at hs
  rw [f_X13_isWord] at hQ
  refine g_aload_n 0 dX13_isWord_0 rfl ?_
  refine g_getI 226 fd_X13_111 dF_Md rfl dX13_isWord_1 ?_
  refine g_if_ne 26 dX13_isWord_4 (by decide) (fun c1 => ?_) (fun c1 => ?_)
  · have hs := ifSf hs c1; have hQ := ifQf hQ c1
    refine g_sub [] _ rfl ?_
    exact t_X13_isWord_26 hK hs hQ
  · have hs := ifSt hs c1; have hQ := ifQt hQ c1
    refine g_aload_n 0 dX13_isWord_7 rfl ?_
    refine g_getI 226 fd_X13_80 dF_Md rfl dX13_isWord_8 ?_
    refine g_if_ne 26 dX13_isWord_11 (by decide) (fun c2 => ?_) (fun c2 => ?_)
    · have hs := ifSf hs c2; have hQ := ifQf hQ c2
      refine g_sub [] _ rfl ?_
      exact t_X13_isWord_26 hK hs hQ
    · have hs := ifSt hs c2; have hQ := ifQt hQ c2
      refine g_aload_n 0 dX13_isWord_14 rfl ?_
      refine g_getI 226 fd_X13_93 dF_Md rfl dX13_isWord_15 ?_
      refine g_iload_n 1 dX13_isWord_18 rfl ?_
      refine g_icmp_ne 26 dX13_isWord_19 (by decide) (fun c3 => ?_) (fun c3 => ?_)
      · have hs := ifSf hs c3; have hQ := ifQf hQ c3
        refine g_sub [] _ rfl ?_
        exact t_X13_isWord_26 hK hs hQ
      · have hs := ifSt hs c3; have hQ := ifQt hQ c3
        refine g_iconst (v := 1) dX13_isWord_22 (by decide) ?_
        refine g_goto 27 dX13_isWord_23 (by decide) ?_
        exact g_zret rfl (Or.inr rfl) dX13_isWord_27 (hK _ hQ)
theorem c_X13_isWord (E : gE) (M : gM) (x1 : Int32) (hs : s_X13_isWord M x1) : gC E yX13_isWord cX13_isWord 2 (some .boolean) (rm 0) [.ref (gla E 226), .int x1] M (fun o N => o = some (.int (f_X13_isWord M x1)) ∧ N = M) :=
  gC.of (by decide +kernel) (Nat.le_of_ble_eq_true rfl) rfl (t_X13_isWord (K := fun z => z = f_X13_isWord M x1) (fun z hz => by rw [hz]; exact ⟨rfl, rfl⟩) x1 hs rfl)
def f_X13_isOther_19 (M : gM)  : Int32 :=
  0
def s_X13_isOther_19 (M : gM)  : Prop :=
  True
set_option maxRecDepth 100000 in
set_option maxHeartbeats 4000000 in
theorem t_X13_isOther_19 {E : gE} {K : Int32 → Prop} {Q : Option Value → gM → Prop} {M : gM} (hK : ∀ z : Int32, K z → Q (some (.int z)) M)    (hs : s_X13_isOther_19 M ) (hQ : K (f_X13_isOther_19 M )) : gG E RX13 cX13_isOther 1 (some .boolean) (rm 0) 19 [] [] M Q := by
  rw [s_X13_isOther_19] at hs
  rw [f_X13_isOther_19] at hQ
  refine g_iconst (v := 0) dX13_isOther_19 (by decide) ?_
  exact g_zret rfl (Or.inl rfl) dX13_isOther_20 (hK _ hQ)
def f_X13_isOther (M : gM) : Int32 :=
  if (rdI M 73 0 0 0) = 0 then
    (if (rdI M 74 0 0 0) = (-1) then
      (1)
    else
      (f_X13_isOther_19 M))
  else
    (f_X13_isOther_19 M)
def s_X13_isOther (M : gM) : Prop :=
  if (rdI M 73 0 0 0) = 0 then
    (if (rdI M 74 0 0 0) = (-1) then
      (True)
    else
      (s_X13_isOther_19 M))
  else
    (s_X13_isOther_19 M)
set_option maxRecDepth 100000 in
set_option maxHeartbeats 4000000 in
theorem t_X13_isOther {E : gE} {K : Int32 → Prop} {Q : Option Value → gM → Prop} {M : gM} (hK : ∀ z : Int32, K z → Q (some (.int z)) M)   (hs : s_X13_isOther M) (hQ : K (f_X13_isOther M)) : gG E RX13 cX13_isOther 1 (some .boolean) (rm 0) 0 [(0, .ref (gla E 226))] [] M Q := by
  rw [s_X13_isOther] at hs
  rw [f_X13_isOther] at hQ
  refine g_aload_n 0 dX13_isOther_0 rfl ?_
  refine g_getI 226 fd_X13_80 dF_Md rfl dX13_isOther_1 ?_
  refine g_if_ne 19 dX13_isOther_4 (by decide) (fun c1 => ?_) (fun c1 => ?_)
  · have hs := ifSf hs c1; have hQ := ifQf hQ c1
    refine g_sub [] _ rfl ?_
    exact t_X13_isOther_19 hK hs hQ
  · have hs := ifSt hs c1; have hQ := ifQt hQ c1
    refine g_aload_n 0 dX13_isOther_7 rfl ?_
    refine g_getI 226 fd_X13_93 dF_Md rfl dX13_isOther_8 ?_
    refine g_iconst (v := (-1)) dX13_isOther_11 (by decide) ?_
    refine g_icmp_ne 19 dX13_isOther_12 (by decide) (fun c2 => ?_) (fun c2 => ?_)
    · have hs := ifSf hs c2; have hQ := ifQf hQ c2
      refine g_sub [] _ rfl ?_
      exact t_X13_isOther_19 hK hs hQ
    · have hs := ifSt hs c2; have hQ := ifQt hQ c2
      refine g_iconst (v := 1) dX13_isOther_15 (by decide) ?_
      refine g_goto 20 dX13_isOther_16 (by decide) ?_
      exact g_zret rfl (Or.inr rfl) dX13_isOther_20 (hK _ hQ)
theorem c_X13_isOther (E : gE) (M : gM)  (hs : s_X13_isOther M) : gC E yX13_isOther cX13_isOther 1 (some .boolean) (rm 0) [.ref (gla E 226)] M (fun o N => o = some (.int (f_X13_isOther M)) ∧ N = M) :=
  gC.of (by decide +kernel) (Nat.le_of_ble_eq_true rfl) rfl (t_X13_isOther (K := fun z => z = f_X13_isOther M) (fun z hz => by rw [hz]; exact ⟨rfl, rfl⟩)  hs rfl)
def f_X13_namedHere_2 (M : gM) (x1 : Int32)  : Nat → Int32 → Int32
  | 0, _ => 0
  | n + 1, x2 =>
    if (rdI M 89 0 0 (nn x1)) ≤ x2 then
      ((-1))
    else
      (if (rdI M 95 0 0 (nn ((12 * x1) + x2))) = (rdI M 75 0 0 0) then
        (x2)
      else
        (f_X13_namedHere_2 M x1 n (x2 + 1)))
def s_X13_namedHere_2 (M : gM) (x1 : Int32)  : Nat → Int32 → Prop
  | 0, _ => False
  | n + 1, x2 =>
    (vp_in x1 502) ∧
    (if (rdI M 89 0 0 (nn x1)) ≤ x2 then
      (True)
    else
      ((vp_in ((12 * x1) + x2) 36) ∧
      (if (rdI M 95 0 0 (nn ((12 * x1) + x2))) = (rdI M 75 0 0 0) then
        (True)
      else
        (s_X13_namedHere_2 M x1 n (x2 + 1)))))
set_option maxRecDepth 100000 in
set_option maxHeartbeats 4000000 in
theorem t_X13_namedHere_2 {E : gE} {K : Int32 → Prop} {Q : Option Value → gM → Prop} {M : gM} (hK : ∀ z : Int32, K z → Q (some (.int z)) M) (x1 : Int32)   : ∀ (n : Nat) (x2 : Int32) , s_X13_namedHere_2 M x1  n x2 → K (f_X13_namedHere_2 M x1  n x2) → gG E RX13 cX13_namedHere 3 (some .int) (rm 0) 2 [(0, .ref (gla E 226)), (1, .int x1), (2, .int x2)] [] M Q := by
  intro n
  induction n with
  | zero => intro x2 hs hQ; exact (hs : False).elim
  | succ n ih =>
    intro x2 hs hQ
    rw [s_X13_namedHere_2] at hs
    rw [f_X13_namedHere_2] at hQ
    refine g_iload_n 2 dX13_namedHere_2 rfl ?_
    refine g_aload_n 0 dX13_namedHere_3 rfl ?_
    refine g_getR 226 229 fd_X13_16 dF_Md rfl rfl dX13_namedHere_4 ?_
    refine g_iload_n 1 dX13_namedHere_7 rfl ?_
    have h1 := hs.1; have hs := hs.2
    refine g_iald 229 dF_Md_fresh h1 dX13_namedHere_8 ?_
    refine g_icmp_ge 38 dX13_namedHere_9 (by decide) (fun c2 => ?_) (fun c2 => ?_)
    · have hs := ifSt hs c2; have hQ := ifQt hQ c2
      refine g_iconst (v := (-1)) dX13_namedHere_38 (by decide) ?_
      exact g_iret rfl dX13_namedHere_39 (hK _ hQ)
    · have hs := ifSf hs c2; have hQ := ifQf hQ c2
      refine g_aload_n 0 dX13_namedHere_12 rfl ?_
      refine g_getR 226 235 fd_X13_34 dF_Md rfl rfl dX13_namedHere_13 ?_
      refine g_bipush (v := 12) dX13_namedHere_16 (by decide) ?_
      refine g_iload_n 1 dX13_namedHere_18 rfl ?_
      refine g_imul dX13_namedHere_19 ?_
      refine g_iload_n 2 dX13_namedHere_20 rfl ?_
      refine g_iadd dX13_namedHere_21 ?_
      have h3 := hs.1; have hs := hs.2
      refine g_iald 235 dF_Md_name h3 dX13_namedHere_22 ?_
      refine g_aload_n 0 dX13_namedHere_23 rfl ?_
      refine g_getI 226 fd_X13_87 dF_Md rfl dX13_namedHere_24 ?_
      refine g_icmp_ne 32 dX13_namedHere_27 (by decide) (fun c4 => ?_) (fun c4 => ?_)
      · have hs := ifSf hs c4; have hQ := ifQf hQ c4
        refine g_iinc 2 (v := x2 + 1) _ dX13_namedHere_32 rfl rfl (by decide) rfl ?_
        refine g_goto 2 dX13_namedHere_35 (by decide) ?_
        refine g_sub [1, 2, 0] _ rfl ?_
        exact ih (x2 + 1) hs hQ
      · have hs := ifSt hs c4; have hQ := ifQt hQ c4
        refine g_iload_n 2 dX13_namedHere_30 rfl ?_
        exact g_iret rfl dX13_namedHere_31 (hK _ hQ)
def f_X13_namedHere (M : gM) (x1 : Int32) : Int32 :=
  f_X13_namedHere_2 M x1 FU 0
def s_X13_namedHere (M : gM) (x1 : Int32) : Prop :=
  s_X13_namedHere_2 M x1 FU 0
set_option maxRecDepth 100000 in
set_option maxHeartbeats 4000000 in
theorem t_X13_namedHere {E : gE} {K : Int32 → Prop} {Q : Option Value → gM → Prop} {M : gM} (hK : ∀ z : Int32, K z → Q (some (.int z)) M)  (x1 : Int32)  (hs : s_X13_namedHere M x1) (hQ : K (f_X13_namedHere M x1)) : gG E RX13 cX13_namedHere 3 (some .int) (rm 0) 0 [(0, .ref (gla E 226)), (1, .int x1)] [] M Q := by
  rw [s_X13_namedHere] at hs
  rw [f_X13_namedHere] at hQ
  refine g_iconst (v := 0) dX13_namedHere_0 (by decide) ?_
  refine g_istore_n _ dX13_namedHere_1 (by decide) rfl ?_
  refine g_sub [1, 2, 0] _ rfl ?_
  exact t_X13_namedHere_2 hK x1 FU 0 hs hQ
theorem c_X13_namedHere (E : gE) (M : gM) (x1 : Int32) (hs : s_X13_namedHere M x1) : gC E yX13_namedHere cX13_namedHere 3 (some .int) (rm 0) [.ref (gla E 226), .int x1] M (fun o N => o = some (.int (f_X13_namedHere M x1)) ∧ N = M) :=
  gC.of (by decide +kernel) (Nat.le_of_ble_eq_true rfl) rfl (t_X13_namedHere (K := fun z => z = f_X13_namedHere M x1) (fun z hz => by rw [hz]; exact ⟨rfl, rfl⟩) x1 hs rfl)
def f_X13_weds_now (M : gM) (x1 : Int32) (x2 : Int32) (x3 : Int32) : gM :=
  bnd (46 + (3 * (rdI M 92 0 0 (nn 64)))) fun v2 =>
  (bnd (wrI M 92 0 0 (nn v2) x1) fun M4 =>
  (bnd (wrI M4 92 0 0 (nn (v2 + 1)) x2) fun M6 =>
  (bnd (wrI M6 92 0 0 (nn (v2 + 2)) x3) fun M8 =>
  (bnd (wrI M8 92 0 0 (nn 64) ((rdI M8 92 0 0 (nn 64)) + 1)) fun M11 =>
  (M11)))))
def s_X13_weds_now (M : gM) (x1 : Int32) (x2 : Int32) (x3 : Int32) : Prop :=
  (vp_in 64 65) ∧
  (bndP (46 + (3 * (rdI M 92 0 0 (nn 64)))) fun v2 =>
  ((vp_in v2 65) ∧
  (bndP (wrI M 92 0 0 (nn v2) x1) fun M4 =>
  ((vp_in (v2 + 1) 65) ∧
  (bndP (wrI M4 92 0 0 (nn (v2 + 1)) x2) fun M6 =>
  ((vp_in (v2 + 2) 65) ∧
  (bndP (wrI M6 92 0 0 (nn (v2 + 2)) x3) fun M8 =>
  ((vp_in 64 65) ∧
  ((vp_in 64 65) ∧
  (bndP (wrI M8 92 0 0 (nn 64) ((rdI M8 92 0 0 (nn 64)) + 1)) fun M11 =>
  (True)))))))))))
theorem o_X13_weds_now (M : gM) (x1 : Int32) (x2 : Int32) (x3 : Int32) : offW [92] M (f_X13_weds_now M x1 x2 x3) := by
  rw [f_X13_weds_now]
  refine offV (fun v2 => ?_)
  refine offB (offR.wI (by decide)) (fun M4 oM4 => ?_)
  refine offB (oM4.wI (by decide)) (fun M6 oM6 => ?_)
  refine offB (oM6.wI (by decide)) (fun M8 oM8 => ?_)
  refine offB (oM8.wI (by decide)) (fun M11 oM11 => ?_)
  exact oM11
set_option maxRecDepth 100000 in
set_option maxHeartbeats 4000000 in
theorem t_X13_weds_now {E : gE} {K : gM → Prop} {Q : Option Value → gM → Prop} (hK : ∀ z : gM, K z → Q none z) (M : gM) (x1 : Int32) (x2 : Int32) (x3 : Int32)  (hs : s_X13_weds_now M x1 x2 x3) (hQ : K (f_X13_weds_now M x1 x2 x3)) : gG E RX13 cX13_weds 5 none (rm 0) 0 [(0, .ref (gla E 232)), (1, .int x1), (2, .int x2), (3, .int x3)] [] M Q := by
  rw [s_X13_weds_now] at hs
  rw [f_X13_weds_now] at hQ
  refine g_bipush (v := 46) dX13_weds_0 (by decide) ?_
  refine g_iconst (v := 3) dX13_weds_2 (by decide) ?_
  refine g_aload_n 0 dX13_weds_3 rfl ?_
  refine g_bipush (v := 64) dX13_weds_4 (by decide) ?_
  have h1 := hs.1; have hs := hs.2
  refine g_iald 232 dF_Md_now h1 dX13_weds_6 ?_
  refine g_imul dX13_weds_7 ?_
  refine g_iadd dX13_weds_8 ?_
  refine g_topI (fun v2 hv2 => ?_)
  have hQ := bndQ hQ v2 hv2; have hs := bndS hs v2 hv2
  refine g_istore _ dX13_weds_9 (by decide) rfl ?_
  refine g_aload_n 1 dX13_weds_11 rfl ?_
  refine g_iload 0 dX13_weds_12 rfl ?_
  refine g_iload_n 2 dX13_weds_14 rfl ?_
  have h3 := hs.1; have hs := hs.2
  refine g_iast 232 dF_Md_now h3 dX13_weds_15 (fun M4 hM4 => ?_)
  have hQ := bndQ hQ M4 hM4; have hs := bndS hs M4 hM4
  refine g_aload_n 1 dX13_weds_16 rfl ?_
  refine g_iload 0 dX13_weds_17 rfl ?_
  refine g_iconst (v := 1) dX13_weds_19 (by decide) ?_
  refine g_iadd dX13_weds_20 ?_
  refine g_iload_n 3 dX13_weds_21 rfl ?_
  have h5 := hs.1; have hs := hs.2
  refine g_iast 232 dF_Md_now h5 dX13_weds_22 (fun M6 hM6 => ?_)
  have hQ := bndQ hQ M6 hM6; have hs := bndS hs M6 hM6
  refine g_aload_n 1 dX13_weds_23 rfl ?_
  refine g_iload 0 dX13_weds_24 rfl ?_
  refine g_iconst (v := 2) dX13_weds_26 (by decide) ?_
  refine g_iadd dX13_weds_27 ?_
  refine g_iload_n 4 dX13_weds_28 rfl ?_
  have h7 := hs.1; have hs := hs.2
  refine g_iast 232 dF_Md_now h7 dX13_weds_29 (fun M8 hM8 => ?_)
  have hQ := bndQ hQ M8 hM8; have hs := bndS hs M8 hM8
  refine g_aload_n 1 dX13_weds_30 rfl ?_
  refine g_bipush (v := 64) dX13_weds_31 (by decide) ?_
  refine g_dup2 dX13_weds_33 rfl rfl ?_
  have h9 := hs.1; have hs := hs.2
  refine g_iald 232 dF_Md_now h9 dX13_weds_34 ?_
  refine g_iconst (v := 1) dX13_weds_35 (by decide) ?_
  refine g_iadd dX13_weds_36 ?_
  have h10 := hs.1; have hs := hs.2
  refine g_iast 232 dF_Md_now h10 dX13_weds_37 (fun M11 hM11 => ?_)
  have hQ := bndQ hQ M11 hM11; have hs := bndS hs M11 hM11
  exact g_vret rfl dX13_weds_38 (hK _ hQ)
theorem c_X13_weds_now (E : gE) (M : gM) (x1 : Int32) (x2 : Int32) (x3 : Int32) (hs : s_X13_weds_now M x1 x2 x3) : gC E yX13_weds cX13_weds 5 none (rm 0) [.ref (gla E 232), .int x1, .int x2, .int x3] M (fun o N => o = none ∧ N = f_X13_weds_now M x1 x2 x3) :=
  gC.of (by decide +kernel) (Nat.le_of_ble_eq_true rfl) rfl (t_X13_weds_now (K := fun z => z = f_X13_weds_now M x1 x2 x3) (fun z hz => ⟨rfl, hz⟩) M x1 x2 x3 hs rfl)
def f_X13_weds_newNow (M : gM) (x1 : Int32) (x2 : Int32) (x3 : Int32) : gM :=
  bnd (46 + (3 * (rdI M 93 0 0 (nn 64)))) fun v2 =>
  (bnd (wrI M 93 0 0 (nn v2) x1) fun M4 =>
  (bnd (wrI M4 93 0 0 (nn (v2 + 1)) x2) fun M6 =>
  (bnd (wrI M6 93 0 0 (nn (v2 + 2)) x3) fun M8 =>
  (bnd (wrI M8 93 0 0 (nn 64) ((rdI M8 93 0 0 (nn 64)) + 1)) fun M11 =>
  (M11)))))
def s_X13_weds_newNow (M : gM) (x1 : Int32) (x2 : Int32) (x3 : Int32) : Prop :=
  (vp_in 64 65) ∧
  (bndP (46 + (3 * (rdI M 93 0 0 (nn 64)))) fun v2 =>
  ((vp_in v2 65) ∧
  (bndP (wrI M 93 0 0 (nn v2) x1) fun M4 =>
  ((vp_in (v2 + 1) 65) ∧
  (bndP (wrI M4 93 0 0 (nn (v2 + 1)) x2) fun M6 =>
  ((vp_in (v2 + 2) 65) ∧
  (bndP (wrI M6 93 0 0 (nn (v2 + 2)) x3) fun M8 =>
  ((vp_in 64 65) ∧
  ((vp_in 64 65) ∧
  (bndP (wrI M8 93 0 0 (nn 64) ((rdI M8 93 0 0 (nn 64)) + 1)) fun M11 =>
  (True)))))))))))
theorem o_X13_weds_newNow (M : gM) (x1 : Int32) (x2 : Int32) (x3 : Int32) : offW [93] M (f_X13_weds_newNow M x1 x2 x3) := by
  rw [f_X13_weds_newNow]
  refine offV (fun v2 => ?_)
  refine offB (offR.wI (by decide)) (fun M4 oM4 => ?_)
  refine offB (oM4.wI (by decide)) (fun M6 oM6 => ?_)
  refine offB (oM6.wI (by decide)) (fun M8 oM8 => ?_)
  refine offB (oM8.wI (by decide)) (fun M11 oM11 => ?_)
  exact oM11
set_option maxRecDepth 100000 in
set_option maxHeartbeats 4000000 in
theorem t_X13_weds_newNow {E : gE} {K : gM → Prop} {Q : Option Value → gM → Prop} (hK : ∀ z : gM, K z → Q none z) (M : gM) (x1 : Int32) (x2 : Int32) (x3 : Int32)  (hs : s_X13_weds_newNow M x1 x2 x3) (hQ : K (f_X13_weds_newNow M x1 x2 x3)) : gG E RX13 cX13_weds 5 none (rm 0) 0 [(0, .ref (gla E 233)), (1, .int x1), (2, .int x2), (3, .int x3)] [] M Q := by
  rw [s_X13_weds_newNow] at hs
  rw [f_X13_weds_newNow] at hQ
  refine g_bipush (v := 46) dX13_weds_0 (by decide) ?_
  refine g_iconst (v := 3) dX13_weds_2 (by decide) ?_
  refine g_aload_n 0 dX13_weds_3 rfl ?_
  refine g_bipush (v := 64) dX13_weds_4 (by decide) ?_
  have h1 := hs.1; have hs := hs.2
  refine g_iald 233 dF_Md_newNow h1 dX13_weds_6 ?_
  refine g_imul dX13_weds_7 ?_
  refine g_iadd dX13_weds_8 ?_
  refine g_topI (fun v2 hv2 => ?_)
  have hQ := bndQ hQ v2 hv2; have hs := bndS hs v2 hv2
  refine g_istore _ dX13_weds_9 (by decide) rfl ?_
  refine g_aload_n 1 dX13_weds_11 rfl ?_
  refine g_iload 0 dX13_weds_12 rfl ?_
  refine g_iload_n 2 dX13_weds_14 rfl ?_
  have h3 := hs.1; have hs := hs.2
  refine g_iast 233 dF_Md_newNow h3 dX13_weds_15 (fun M4 hM4 => ?_)
  have hQ := bndQ hQ M4 hM4; have hs := bndS hs M4 hM4
  refine g_aload_n 1 dX13_weds_16 rfl ?_
  refine g_iload 0 dX13_weds_17 rfl ?_
  refine g_iconst (v := 1) dX13_weds_19 (by decide) ?_
  refine g_iadd dX13_weds_20 ?_
  refine g_iload_n 3 dX13_weds_21 rfl ?_
  have h5 := hs.1; have hs := hs.2
  refine g_iast 233 dF_Md_newNow h5 dX13_weds_22 (fun M6 hM6 => ?_)
  have hQ := bndQ hQ M6 hM6; have hs := bndS hs M6 hM6
  refine g_aload_n 1 dX13_weds_23 rfl ?_
  refine g_iload 0 dX13_weds_24 rfl ?_
  refine g_iconst (v := 2) dX13_weds_26 (by decide) ?_
  refine g_iadd dX13_weds_27 ?_
  refine g_iload_n 4 dX13_weds_28 rfl ?_
  have h7 := hs.1; have hs := hs.2
  refine g_iast 233 dF_Md_newNow h7 dX13_weds_29 (fun M8 hM8 => ?_)
  have hQ := bndQ hQ M8 hM8; have hs := bndS hs M8 hM8
  refine g_aload_n 1 dX13_weds_30 rfl ?_
  refine g_bipush (v := 64) dX13_weds_31 (by decide) ?_
  refine g_dup2 dX13_weds_33 rfl rfl ?_
  have h9 := hs.1; have hs := hs.2
  refine g_iald 233 dF_Md_newNow h9 dX13_weds_34 ?_
  refine g_iconst (v := 1) dX13_weds_35 (by decide) ?_
  refine g_iadd dX13_weds_36 ?_
  have h10 := hs.1; have hs := hs.2
  refine g_iast 233 dF_Md_newNow h10 dX13_weds_37 (fun M11 hM11 => ?_)
  have hQ := bndQ hQ M11 hM11; have hs := bndS hs M11 hM11
  exact g_vret rfl dX13_weds_38 (hK _ hQ)
theorem c_X13_weds_newNow (E : gE) (M : gM) (x1 : Int32) (x2 : Int32) (x3 : Int32) (hs : s_X13_weds_newNow M x1 x2 x3) : gC E yX13_weds cX13_weds 5 none (rm 0) [.ref (gla E 233), .int x1, .int x2, .int x3] M (fun o N => o = none ∧ N = f_X13_weds_newNow M x1 x2 x3) :=
  gC.of (by decide +kernel) (Nat.le_of_ble_eq_true rfl) rfl (t_X13_weds_newNow (K := fun z => z = f_X13_weds_newNow M x1 x2 x3) (fun z hz => ⟨rfl, hz⟩) M x1 x2 x3 hs rfl)
def f_X13_begins_24   : Nat → gM → Int32 → gM
  | 0, M, _ => M
  | n + 1, M, x1 =>
    if 65 ≤ x1 then
      (bnd (wrI M 89 0 0 (nn 4) 2) fun M6 =>
      (bnd (wrI M6 89 0 0 (nn 9) 2) fun M8 =>
      (bnd (wrI M8 96 0 0 (nn 0) (nZ 0)) fun M10 =>
      (bnd (wrI M10 96 0 0 (nn 1) (nZ 0)) fun M12 =>
      (M12)))))
    else
      (if 10 ≤ x1 then
        (bnd (wrI M 93 0 0 (nn x1) 0) fun M15 =>
        (f_X13_begins_24 n M15 (x1 + 1)))
      else
        (bnd (wrI M 93 0 0 (nn x1) (-2)) fun M17 =>
        (f_X13_begins_24 n M17 (x1 + 1))))
def s_X13_begins_24   : Nat → gM → Int32 → Prop
  | 0, _, _ => False
  | n + 1, M, x1 =>
    if 65 ≤ x1 then
      ((vp_in 4 502) ∧
      (bndP (wrI M 89 0 0 (nn 4) 2) fun M6 =>
      ((vp_in 9 502) ∧
      (bndP (wrI M6 89 0 0 (nn 9) 2) fun M8 =>
      ((vp_in 0 2) ∧
      (bndP (wrI M8 96 0 0 (nn 0) (nZ 0)) fun M10 =>
      ((vp_in 1 2) ∧
      (bndP (wrI M10 96 0 0 (nn 1) (nZ 0)) fun M12 =>
      (True)))))))))
    else
      (if 10 ≤ x1 then
        ((vp_in x1 65) ∧
        (bndP (wrI M 93 0 0 (nn x1) 0) fun M15 =>
        (s_X13_begins_24 n M15 (x1 + 1))))
      else
        ((vp_in x1 65) ∧
        (bndP (wrI M 93 0 0 (nn x1) (-2)) fun M17 =>
        (s_X13_begins_24 n M17 (x1 + 1)))))
theorem o_X13_begins_24   : ∀ (n : Nat) (M : gM) (x1 : Int32), offW [89, 93, 96] M (f_X13_begins_24   n M x1) := by
  intro n
  induction n with
  | zero => intro M x1; exact offR
  | succ n ih =>
    intro M x1
    rw [f_X13_begins_24]
    refine offI ?_ ?_
    · refine offB (offR.wI (by decide)) (fun M6 oM6 => ?_)
      refine offB (oM6.wI (by decide)) (fun M8 oM8 => ?_)
      refine offB (oM8.wI (by decide)) (fun M10 oM10 => ?_)
      refine offB (oM10.wI (by decide)) (fun M12 oM12 => ?_)
      exact oM12
    · refine offI ?_ ?_
      · refine offB (offR.wI (by decide)) (fun M15 oM15 => ?_)
        exact oM15.tr (ih M15 (x1 + 1))
      · refine offB (offR.wI (by decide)) (fun M17 oM17 => ?_)
        exact oM17.tr (ih M17 (x1 + 1))
set_option maxRecDepth 100000 in
set_option maxHeartbeats 4000000 in
theorem t_X13_begins_24 {E : gE} {K : gM → Prop} {Q : Option Value → gM → Prop} (hK : ∀ z : gM, K z → Q none z)    : ∀ (n : Nat) (M : gM) (x1 : Int32) , s_X13_begins_24   n M x1 → K (f_X13_begins_24   n M x1) → gG E RX13 cX13_begins 2 none (rm 0) 24 [(0, .ref (gla E 226)), (1, .int x1)] [] M Q := by
  intro n
  induction n with
  | zero => intro M x1 hs hQ; exact (hs : False).elim
  | succ n ih =>
    intro M x1 hs hQ
    rw [s_X13_begins_24] at hs
    rw [f_X13_begins_24] at hQ
    refine g_iload_n 1 dX13_begins_24 rfl ?_
    refine g_bipush (v := 65) dX13_begins_25 (by decide) ?_
    refine g_icmp_ge 54 dX13_begins_27 (by decide) (fun c4 => ?_) (fun c4 => ?_)
    · have hs := ifSt hs c4; have hQ := ifQt hQ c4
      refine g_aload_n 0 dX13_begins_54 rfl ?_
      refine g_getR 226 229 fd_X13_16 dF_Md rfl rfl dX13_begins_55 ?_
      refine g_iconst (v := 4) dX13_begins_58 (by decide) ?_
      refine g_iconst (v := 2) dX13_begins_59 (by decide) ?_
      have h5 := hs.1; have hs := hs.2
      refine g_iast 229 dF_Md_fresh h5 dX13_begins_60 (fun M6 hM6 => ?_)
      have hQ := bndQ hQ M6 hM6; have hs := bndS hs M6 hM6
      refine g_aload_n 0 dX13_begins_61 rfl ?_
      refine g_getR 226 229 fd_X13_16 dF_Md rfl rfl dX13_begins_62 ?_
      refine g_bipush (v := 9) dX13_begins_65 (by decide) ?_
      refine g_iconst (v := 2) dX13_begins_67 (by decide) ?_
      have h7 := hs.1; have hs := hs.2
      refine g_iast 229 dF_Md_fresh h7 dX13_begins_68 (fun M8 hM8 => ?_)
      have hQ := bndQ hQ M8 hM8; have hs := bndS hs M8 hM8
      refine g_aload_n 0 dX13_begins_69 rfl ?_
      refine g_getR 226 236 fd_X13_41 dF_Md rfl rfl dX13_begins_70 ?_
      refine g_iconst (v := 0) dX13_begins_73 (by decide) ?_
      refine g_iconst (v := 0) dX13_begins_74 (by decide) ?_
      have h9 := hs.1; have hs := hs.2
      refine g_zast 236 dF_Md_hasLand h9 dX13_begins_75 (fun M10 hM10 => ?_)
      have hQ := bndQ hQ M10 hM10; have hs := bndS hs M10 hM10
      refine g_aload_n 0 dX13_begins_76 rfl ?_
      refine g_getR 226 236 fd_X13_41 dF_Md rfl rfl dX13_begins_77 ?_
      refine g_iconst (v := 1) dX13_begins_80 (by decide) ?_
      refine g_iconst (v := 0) dX13_begins_81 (by decide) ?_
      have h11 := hs.1; have hs := hs.2
      refine g_zast 236 dF_Md_hasLand h11 dX13_begins_82 (fun M12 hM12 => ?_)
      have hQ := bndQ hQ M12 hM12; have hs := bndS hs M12 hM12
      exact g_vret rfl dX13_begins_83 (hK _ hQ)
    · have hs := ifSf hs c4; have hQ := ifQf hQ c4
      refine g_aload_n 0 dX13_begins_30 rfl ?_
      refine g_getR 226 233 fd_X13_28 dF_Md rfl rfl dX13_begins_31 ?_
      refine g_iload_n 1 dX13_begins_34 rfl ?_
      refine g_iload_n 1 dX13_begins_35 rfl ?_
      refine g_bipush (v := 10) dX13_begins_36 (by decide) ?_
      refine g_icmp_ge 46 dX13_begins_38 (by decide) (fun c13 => ?_) (fun c13 => ?_)
      · have hs := ifSt hs c13; have hQ := ifQt hQ c13
        refine g_iconst (v := 0) dX13_begins_46 (by decide) ?_
        have h14 := hs.1; have hs := hs.2
        refine g_iast 233 dF_Md_newNow h14 dX13_begins_47 (fun M15 hM15 => ?_)
        have hQ := bndQ hQ M15 hM15; have hs := bndS hs M15 hM15
        refine g_iinc 1 (v := x1 + 1) _ dX13_begins_48 rfl rfl (by decide) rfl ?_
        refine g_goto 24 dX13_begins_51 (by decide) ?_
        refine g_sub [1, 0] _ rfl ?_
        exact ih M15 (x1 + 1) hs hQ
      · have hs := ifSf hs c13; have hQ := ifQf hQ c13
        refine g_bipush (v := (-2)) dX13_begins_41 (by decide) ?_
        refine g_goto 47 dX13_begins_43 (by decide) ?_
        have h16 := hs.1; have hs := hs.2
        refine g_iast 233 dF_Md_newNow h16 dX13_begins_47 (fun M17 hM17 => ?_)
        have hQ := bndQ hQ M17 hM17; have hs := bndS hs M17 hM17
        refine g_iinc 1 (v := x1 + 1) _ dX13_begins_48 rfl rfl (by decide) rfl ?_
        refine g_goto 24 dX13_begins_51 (by decide) ?_
        refine g_sub [1, 0] _ rfl ?_
        exact ih M17 (x1 + 1) hs hQ
def f_X13_begins_2   : Nat → gM → Int32 → gM
  | 0, M, _ => M
  | n + 1, M, x1 =>
    if 502 ≤ x1 then
      (f_X13_begins_24 FU M 0)
    else
      (bnd (wrI M 89 0 0 (nn x1) 0) fun M3 =>
      (f_X13_begins_2 n M3 (x1 + 1)))
def s_X13_begins_2   : Nat → gM → Int32 → Prop
  | 0, _, _ => False
  | n + 1, M, x1 =>
    if 502 ≤ x1 then
      (s_X13_begins_24 FU M 0)
    else
      ((vp_in x1 502) ∧
      (bndP (wrI M 89 0 0 (nn x1) 0) fun M3 =>
      (s_X13_begins_2 n M3 (x1 + 1))))
theorem o_X13_begins_2   : ∀ (n : Nat) (M : gM) (x1 : Int32), offW [89, 93, 96] M (f_X13_begins_2   n M x1) := by
  intro n
  induction n with
  | zero => intro M x1; exact offR
  | succ n ih =>
    intro M x1
    rw [f_X13_begins_2]
    refine offI ?_ ?_
    · exact (o_X13_begins_24  FU M 0)
    · refine offB (offR.wI (by decide)) (fun M3 oM3 => ?_)
      exact oM3.tr (ih M3 (x1 + 1))
set_option maxRecDepth 100000 in
set_option maxHeartbeats 4000000 in
theorem t_X13_begins_2 {E : gE} {K : gM → Prop} {Q : Option Value → gM → Prop} (hK : ∀ z : gM, K z → Q none z)    : ∀ (n : Nat) (M : gM) (x1 : Int32) , s_X13_begins_2   n M x1 → K (f_X13_begins_2   n M x1) → gG E RX13 cX13_begins 2 none (rm 0) 2 [(0, .ref (gla E 226)), (1, .int x1)] [] M Q := by
  intro n
  induction n with
  | zero => intro M x1 hs hQ; exact (hs : False).elim
  | succ n ih =>
    intro M x1 hs hQ
    rw [s_X13_begins_2] at hs
    rw [f_X13_begins_2] at hQ
    refine g_iload_n 1 dX13_begins_2 rfl ?_
    refine g_sipush (v := 502) dX13_begins_3 (by decide) ?_
    refine g_icmp_ge 22 dX13_begins_6 (by decide) (fun c1 => ?_) (fun c1 => ?_)
    · have hs := ifSt hs c1; have hQ := ifQt hQ c1
      refine g_iconst (v := 0) dX13_begins_22 (by decide) ?_
      refine g_istore_n _ dX13_begins_23 (by decide) rfl ?_
      refine g_sub [1, 0] _ rfl ?_
      exact t_X13_begins_24 hK FU M 0 hs hQ
    · have hs := ifSf hs c1; have hQ := ifQf hQ c1
      refine g_aload_n 0 dX13_begins_9 rfl ?_
      refine g_getR 226 229 fd_X13_16 dF_Md rfl rfl dX13_begins_10 ?_
      refine g_iload_n 1 dX13_begins_13 rfl ?_
      refine g_iconst (v := 0) dX13_begins_14 (by decide) ?_
      have h2 := hs.1; have hs := hs.2
      refine g_iast 229 dF_Md_fresh h2 dX13_begins_15 (fun M3 hM3 => ?_)
      have hQ := bndQ hQ M3 hM3; have hs := bndS hs M3 hM3
      refine g_iinc 1 (v := x1 + 1) _ dX13_begins_16 rfl rfl (by decide) rfl ?_
      refine g_goto 2 dX13_begins_19 (by decide) ?_
      refine g_sub [1, 0] _ rfl ?_
      exact ih M3 (x1 + 1) hs hQ
def f_X13_begins (M : gM) : gM :=
  f_X13_begins_2 FU M 0
def s_X13_begins (M : gM) : Prop :=
  s_X13_begins_2 FU M 0
theorem o_X13_begins (M : gM) : offW [89, 93, 96] M (f_X13_begins M) := by
  rw [f_X13_begins]
  exact (o_X13_begins_2  FU M 0)
set_option maxRecDepth 100000 in
set_option maxHeartbeats 4000000 in
theorem t_X13_begins {E : gE} {K : gM → Prop} {Q : Option Value → gM → Prop} (hK : ∀ z : gM, K z → Q none z) (M : gM)  (hs : s_X13_begins M) (hQ : K (f_X13_begins M)) : gG E RX13 cX13_begins 2 none (rm 0) 0 [(0, .ref (gla E 226))] [] M Q := by
  rw [s_X13_begins] at hs
  rw [f_X13_begins] at hQ
  refine g_iconst (v := 0) dX13_begins_0 (by decide) ?_
  refine g_istore_n _ dX13_begins_1 (by decide) rfl ?_
  refine g_sub [1, 0] _ rfl ?_
  exact t_X13_begins_2 hK FU M 0 hs hQ
theorem c_X13_begins (E : gE) (M : gM)  (hs : s_X13_begins M) : gC E yX13_begins cX13_begins 2 none (rm 0) [.ref (gla E 226)] M (fun o N => o = none ∧ N = f_X13_begins M) :=
  gC.of (by decide +kernel) (Nat.le_of_ble_eq_true rfl) rfl (t_X13_begins (K := fun z => z = f_X13_begins M) (fun z hz => ⟨rfl, hz⟩) M hs rfl)
def f_X13_becomes_55   : Nat → gM → Int32 → gM
  | 0, M, _ => M
  | n + 1, M, x1 =>
    if 12 ≤ x1 then
      (bnd (wrI M 69 0 0 0 0) fun M10 =>
      (M10))
    else
      (bnd (wrI M 90 0 0 (nn x1) (rdI M 91 0 0 (nn x1))) fun M13 =>
      (f_X13_becomes_55 n M13 (x1 + 1)))
def s_X13_becomes_55   : Nat → gM → Int32 → Prop
  | 0, _, _ => False
  | n + 1, M, x1 =>
    if 12 ≤ x1 then
      (bndP (wrI M 69 0 0 0 0) fun M10 =>
      (True))
    else
      ((vp_in x1 12) ∧
      ((vp_in x1 12) ∧
      (bndP (wrI M 90 0 0 (nn x1) (rdI M 91 0 0 (nn x1))) fun M13 =>
      (s_X13_becomes_55 n M13 (x1 + 1)))))
theorem o_X13_becomes_55   : ∀ (n : Nat) (M : gM) (x1 : Int32), offW [69, 88, 90, 92] M (f_X13_becomes_55   n M x1) := by
  intro n
  induction n with
  | zero => intro M x1; exact offR
  | succ n ih =>
    intro M x1
    rw [f_X13_becomes_55]
    refine offI ?_ ?_
    · refine offB (offR.wI (by decide)) (fun M10 oM10 => ?_)
      exact oM10
    · refine offB (offR.wI (by decide)) (fun M13 oM13 => ?_)
      exact oM13.tr (ih M13 (x1 + 1))
set_option maxRecDepth 100000 in
set_option maxHeartbeats 4000000 in
theorem t_X13_becomes_55 {E : gE} {K : gM → Prop} {Q : Option Value → gM → Prop} (hK : ∀ z : gM, K z → Q none z)    : ∀ (n : Nat) (M : gM) (x1 : Int32) , s_X13_becomes_55   n M x1 → K (f_X13_becomes_55   n M x1) → gG E RX13 cX13_becomes 2 none (rm 0) 55 [(0, .ref (gla E 226)), (1, .int x1)] [] M Q := by
  intro n
  induction n with
  | zero => intro M x1 hs hQ; exact (hs : False).elim
  | succ n ih =>
    intro M x1 hs hQ
    rw [s_X13_becomes_55] at hs
    rw [f_X13_becomes_55] at hQ
    refine g_iload_n 1 dX13_becomes_55 rfl ?_
    refine g_bipush (v := 12) dX13_becomes_56 (by decide) ?_
    refine g_icmp_ge 79 dX13_becomes_58 (by decide) (fun c9 => ?_) (fun c9 => ?_)
    · have hs := ifSt hs c9; have hQ := ifQt hQ c9
      refine g_aload_n 0 dX13_becomes_79 rfl ?_
      refine g_iconst (v := 0) dX13_becomes_80 (by decide) ?_
      refine g_putI 226 fd_X13_194 dF_Md rfl dX13_becomes_81 (fun M10 hM10 => ?_)
      have hQ := bndQ hQ M10 hM10; have hs := bndS hs M10 hM10
      exact g_vret rfl dX13_becomes_84 (hK _ hQ)
    · have hs := ifSf hs c9; have hQ := ifQf hQ c9
      refine g_aload_n 0 dX13_becomes_61 rfl ?_
      refine g_getR 226 230 fd_X13_19 dF_Md rfl rfl dX13_becomes_62 ?_
      refine g_iload_n 1 dX13_becomes_65 rfl ?_
      refine g_aload_n 0 dX13_becomes_66 rfl ?_
      refine g_getR 226 231 fd_X13_22 dF_Md rfl rfl dX13_becomes_67 ?_
      refine g_iload_n 1 dX13_becomes_70 rfl ?_
      have h11 := hs.1; have hs := hs.2
      refine g_iald 231 dF_Md_newStrikes h11 dX13_becomes_71 ?_
      have h12 := hs.1; have hs := hs.2
      refine g_iast 230 dF_Md_strikes h12 dX13_becomes_72 (fun M13 hM13 => ?_)
      have hQ := bndQ hQ M13 hM13; have hs := bndS hs M13 hM13
      refine g_iinc 1 (v := x1 + 1) _ dX13_becomes_73 rfl rfl (by decide) rfl ?_
      refine g_goto 55 dX13_becomes_76 (by decide) ?_
      refine g_sub [1, 0] _ rfl ?_
      exact ih M13 (x1 + 1) hs hQ
def f_X13_becomes_29   : Nat → gM → Int32 → gM
  | 0, M, _ => M
  | n + 1, M, x1 =>
    if 65 ≤ x1 then
      (f_X13_becomes_55 FU M 0)
    else
      (bnd (wrI M 92 0 0 (nn x1) (rdI M 93 0 0 (nn x1))) fun M8 =>
      (f_X13_becomes_29 n M8 (x1 + 1)))
def s_X13_becomes_29   : Nat → gM → Int32 → Prop
  | 0, _, _ => False
  | n + 1, M, x1 =>
    if 65 ≤ x1 then
      (s_X13_becomes_55 FU M 0)
    else
      ((vp_in x1 65) ∧
      ((vp_in x1 65) ∧
      (bndP (wrI M 92 0 0 (nn x1) (rdI M 93 0 0 (nn x1))) fun M8 =>
      (s_X13_becomes_29 n M8 (x1 + 1)))))
theorem o_X13_becomes_29   : ∀ (n : Nat) (M : gM) (x1 : Int32), offW [69, 88, 90, 92] M (f_X13_becomes_29   n M x1) := by
  intro n
  induction n with
  | zero => intro M x1; exact offR
  | succ n ih =>
    intro M x1
    rw [f_X13_becomes_29]
    refine offI ?_ ?_
    · exact (o_X13_becomes_55  FU M 0)
    · refine offB (offR.wI (by decide)) (fun M8 oM8 => ?_)
      exact oM8.tr (ih M8 (x1 + 1))
set_option maxRecDepth 100000 in
set_option maxHeartbeats 4000000 in
theorem t_X13_becomes_29 {E : gE} {K : gM → Prop} {Q : Option Value → gM → Prop} (hK : ∀ z : gM, K z → Q none z)    : ∀ (n : Nat) (M : gM) (x1 : Int32) , s_X13_becomes_29   n M x1 → K (f_X13_becomes_29   n M x1) → gG E RX13 cX13_becomes 2 none (rm 0) 29 [(0, .ref (gla E 226)), (1, .int x1)] [] M Q := by
  intro n
  induction n with
  | zero => intro M x1 hs hQ; exact (hs : False).elim
  | succ n ih =>
    intro M x1 hs hQ
    rw [s_X13_becomes_29] at hs
    rw [f_X13_becomes_29] at hQ
    refine g_iload_n 1 dX13_becomes_29 rfl ?_
    refine g_bipush (v := 65) dX13_becomes_30 (by decide) ?_
    refine g_icmp_ge 53 dX13_becomes_32 (by decide) (fun c5 => ?_) (fun c5 => ?_)
    · have hs := ifSt hs c5; have hQ := ifQt hQ c5
      refine g_iconst (v := 0) dX13_becomes_53 (by decide) ?_
      refine g_istore_n _ dX13_becomes_54 (by decide) rfl ?_
      refine g_sub [1, 0] _ rfl ?_
      exact t_X13_becomes_55 hK FU M 0 hs hQ
    · have hs := ifSf hs c5; have hQ := ifQf hQ c5
      refine g_aload_n 0 dX13_becomes_35 rfl ?_
      refine g_getR 226 232 fd_X13_25 dF_Md rfl rfl dX13_becomes_36 ?_
      refine g_iload_n 1 dX13_becomes_39 rfl ?_
      refine g_aload_n 0 dX13_becomes_40 rfl ?_
      refine g_getR 226 233 fd_X13_28 dF_Md rfl rfl dX13_becomes_41 ?_
      refine g_iload_n 1 dX13_becomes_44 rfl ?_
      have h6 := hs.1; have hs := hs.2
      refine g_iald 233 dF_Md_newNow h6 dX13_becomes_45 ?_
      have h7 := hs.1; have hs := hs.2
      refine g_iast 232 dF_Md_now h7 dX13_becomes_46 (fun M8 hM8 => ?_)
      have hQ := bndQ hQ M8 hM8; have hs := bndS hs M8 hM8
      refine g_iinc 1 (v := x1 + 1) _ dX13_becomes_47 rfl rfl (by decide) rfl ?_
      refine g_goto 29 dX13_becomes_50 (by decide) ?_
      refine g_sub [1, 0] _ rfl ?_
      exact ih M8 (x1 + 1) hs hQ
def f_X13_becomes_2   : Nat → gM → Int32 → gM
  | 0, M, _ => M
  | n + 1, M, x1 =>
    if 502 ≤ x1 then
      (f_X13_becomes_29 FU M 0)
    else
      (bnd (wrI M 88 0 0 (nn x1) (rdI M 89 0 0 (nn x1))) fun M4 =>
      (f_X13_becomes_2 n M4 (x1 + 1)))
def s_X13_becomes_2   : Nat → gM → Int32 → Prop
  | 0, _, _ => False
  | n + 1, M, x1 =>
    if 502 ≤ x1 then
      (s_X13_becomes_29 FU M 0)
    else
      ((vp_in x1 502) ∧
      ((vp_in x1 502) ∧
      (bndP (wrI M 88 0 0 (nn x1) (rdI M 89 0 0 (nn x1))) fun M4 =>
      (s_X13_becomes_2 n M4 (x1 + 1)))))
theorem o_X13_becomes_2   : ∀ (n : Nat) (M : gM) (x1 : Int32), offW [69, 88, 90, 92] M (f_X13_becomes_2   n M x1) := by
  intro n
  induction n with
  | zero => intro M x1; exact offR
  | succ n ih =>
    intro M x1
    rw [f_X13_becomes_2]
    refine offI ?_ ?_
    · exact (o_X13_becomes_29  FU M 0)
    · refine offB (offR.wI (by decide)) (fun M4 oM4 => ?_)
      exact oM4.tr (ih M4 (x1 + 1))
set_option maxRecDepth 100000 in
set_option maxHeartbeats 4000000 in
theorem t_X13_becomes_2 {E : gE} {K : gM → Prop} {Q : Option Value → gM → Prop} (hK : ∀ z : gM, K z → Q none z)    : ∀ (n : Nat) (M : gM) (x1 : Int32) , s_X13_becomes_2   n M x1 → K (f_X13_becomes_2   n M x1) → gG E RX13 cX13_becomes 2 none (rm 0) 2 [(0, .ref (gla E 226)), (1, .int x1)] [] M Q := by
  intro n
  induction n with
  | zero => intro M x1 hs hQ; exact (hs : False).elim
  | succ n ih =>
    intro M x1 hs hQ
    rw [s_X13_becomes_2] at hs
    rw [f_X13_becomes_2] at hQ
    refine g_iload_n 1 dX13_becomes_2 rfl ?_
    refine g_sipush (v := 502) dX13_becomes_3 (by decide) ?_
    refine g_icmp_ge 27 dX13_becomes_6 (by decide) (fun c1 => ?_) (fun c1 => ?_)
    · have hs := ifSt hs c1; have hQ := ifQt hQ c1
      refine g_iconst (v := 0) dX13_becomes_27 (by decide) ?_
      refine g_istore_n _ dX13_becomes_28 (by decide) rfl ?_
      refine g_sub [1, 0] _ rfl ?_
      exact t_X13_becomes_29 hK FU M 0 hs hQ
    · have hs := ifSf hs c1; have hQ := ifQf hQ c1
      refine g_aload_n 0 dX13_becomes_9 rfl ?_
      refine g_getR 226 228 fd_X13_13 dF_Md rfl rfl dX13_becomes_10 ?_
      refine g_iload_n 1 dX13_becomes_13 rfl ?_
      refine g_aload_n 0 dX13_becomes_14 rfl ?_
      refine g_getR 226 229 fd_X13_16 dF_Md rfl rfl dX13_becomes_15 ?_
      refine g_iload_n 1 dX13_becomes_18 rfl ?_
      have h2 := hs.1; have hs := hs.2
      refine g_iald 229 dF_Md_fresh h2 dX13_becomes_19 ?_
      have h3 := hs.1; have hs := hs.2
      refine g_iast 228 dF_Md_world h3 dX13_becomes_20 (fun M4 hM4 => ?_)
      have hQ := bndQ hQ M4 hM4; have hs := bndS hs M4 hM4
      refine g_iinc 1 (v := x1 + 1) _ dX13_becomes_21 rfl rfl (by decide) rfl ?_
      refine g_goto 2 dX13_becomes_24 (by decide) ?_
      refine g_sub [1, 0] _ rfl ?_
      exact ih M4 (x1 + 1) hs hQ
def f_X13_becomes (M : gM) : gM :=
  f_X13_becomes_2 FU M 0
def s_X13_becomes (M : gM) : Prop :=
  s_X13_becomes_2 FU M 0
theorem o_X13_becomes (M : gM) : offW [69, 88, 90, 92] M (f_X13_becomes M) := by
  rw [f_X13_becomes]
  exact (o_X13_becomes_2  FU M 0)
set_option maxRecDepth 100000 in
set_option maxHeartbeats 4000000 in
theorem t_X13_becomes {E : gE} {K : gM → Prop} {Q : Option Value → gM → Prop} (hK : ∀ z : gM, K z → Q none z) (M : gM)  (hs : s_X13_becomes M) (hQ : K (f_X13_becomes M)) : gG E RX13 cX13_becomes 2 none (rm 0) 0 [(0, .ref (gla E 226))] [] M Q := by
  rw [s_X13_becomes] at hs
  rw [f_X13_becomes] at hQ
  refine g_iconst (v := 0) dX13_becomes_0 (by decide) ?_
  refine g_istore_n _ dX13_becomes_1 (by decide) rfl ?_
  refine g_sub [1, 0] _ rfl ?_
  exact t_X13_becomes_2 hK FU M 0 hs hQ
theorem c_X13_becomes (E : gE) (M : gM)  (hs : s_X13_becomes M) : gC E yX13_becomes cX13_becomes 2 none (rm 0) [.ref (gla E 226)] M (fun o N => o = none ∧ N = f_X13_becomes M) :=
  gC.of (by decide +kernel) (Nat.le_of_ble_eq_true rfl) rfl (t_X13_becomes (K := fun z => z = f_X13_becomes M) (fun z hz => ⟨rfl, hz⟩) M hs rfl)
def f_X13_fault (M : gM) (x1 : Int32) : Int32 × gM :=
  bnd (wrI M 67 0 0 0 0) fun M1 =>
  (if x1 = 0 then
    ((rdI M1 78 0 0 0, M1))
  else
    (if x1 = 1 then
      ((rdI M1 79 0 0 0, M1))
    else
      (((-1), M1))))
def s_X13_fault (M : gM) (x1 : Int32) : Prop :=
  bndP (wrI M 67 0 0 0 0) fun M1 =>
  (if x1 = 0 then
    (True)
  else
    (if x1 = 1 then
      (True)
    else
      (True)))
theorem o_X13_fault (M : gM) (x1 : Int32) : offW [67] M (f_X13_fault M x1).2 := by
  rw [f_X13_fault]
  refine offB2 (offR.wI (by decide)) (fun M1 oM1 => ?_)
  refine offI2 ?_ ?_
  · exact oM1
  · refine offI2 ?_ ?_
    · exact oM1
    · exact oM1
set_option maxRecDepth 100000 in
set_option maxHeartbeats 4000000 in
theorem t_X13_fault {E : gE} {K : Int32 × gM → Prop} {Q : Option Value → gM → Prop} (hK : ∀ z : Int32 × gM, K z → Q (some (.int z.1)) z.2) (M : gM) (x1 : Int32)  (hs : s_X13_fault M x1) (hQ : K (f_X13_fault M x1)) : gG E RX13 cX13_fault 2 (some .int) (rm 0) 0 [(0, .ref (gla E 226)), (1, .int x1)] [] M Q := by
  rw [s_X13_fault] at hs
  rw [f_X13_fault] at hQ
  refine g_aload_n 0 dX13_fault_0 rfl ?_
  refine g_iconst (v := 0) dX13_fault_1 (by decide) ?_
  refine g_putI 226 fd_X13_61 dF_Md rfl dX13_fault_2 (fun M1 hM1 => ?_)
  have hQ := bndQ hQ M1 hM1; have hs := bndS hs M1 hM1
  refine g_iload_n 1 dX13_fault_5 rfl ?_
  refine g_if_ne 16 dX13_fault_6 (by decide) (fun c2 => ?_) (fun c2 => ?_)
  · have hs := ifSf hs c2; have hQ := ifQf hQ c2
    refine g_iload_n 1 dX13_fault_16 rfl ?_
    refine g_iconst (v := 1) dX13_fault_17 (by decide) ?_
    refine g_icmp_ne 28 dX13_fault_18 (by decide) (fun c3 => ?_) (fun c3 => ?_)
    · have hs := ifSf hs c3; have hQ := ifQf hQ c3
      refine g_iconst (v := (-1)) dX13_fault_28 (by decide) ?_
      exact g_iret rfl dX13_fault_29 (hK _ hQ)
    · have hs := ifSt hs c3; have hQ := ifQt hQ c3
      refine g_aload_n 0 dX13_fault_21 rfl ?_
      refine g_getI 226 fd_X13_37 dF_Md rfl dX13_fault_22 ?_
      refine g_goto 29 dX13_fault_25 (by decide) ?_
      exact g_iret rfl dX13_fault_29 (hK _ hQ)
  · have hs := ifSt hs c2; have hQ := ifQt hQ c2
    refine g_aload_n 0 dX13_fault_9 rfl ?_
    refine g_getI 226 fd_X13_200 dF_Md rfl dX13_fault_10 ?_
    refine g_goto 29 dX13_fault_13 (by decide) ?_
    exact g_iret rfl dX13_fault_29 (hK _ hQ)
theorem c_X13_fault (E : gE) (M : gM) (x1 : Int32) (hs : s_X13_fault M x1) : gC E yX13_fault cX13_fault 2 (some .int) (rm 0) [.ref (gla E 226), .int x1] M (fun o N => o = some (.int (f_X13_fault M x1).1) ∧ N = (f_X13_fault M x1).2) :=
  gC.of (by decide +kernel) (Nat.le_of_ble_eq_true rfl) rfl (t_X13_fault (K := fun z => z = f_X13_fault M x1) (fun z hz => by rw [hz]; exact ⟨rfl, rfl⟩) M x1 hs rfl)
def f_X13_isPerson_18 (M : gM)  : Int32 :=
  0
def s_X13_isPerson_18 (M : gM)  : Prop :=
  True
set_option maxRecDepth 100000 in
set_option maxHeartbeats 4000000 in
theorem t_X13_isPerson_18 {E : gE} {K : Int32 → Prop} {Q : Option Value → gM → Prop} {M : gM} (hK : ∀ z : Int32, K z → Q (some (.int z)) M)    (hs : s_X13_isPerson_18 M ) (hQ : K (f_X13_isPerson_18 M )) : gG E RX13 cX13_isPerson 2 (some .boolean) (rm 0) 18 [] [] M Q := by
  rw [s_X13_isPerson_18] at hs
  rw [f_X13_isPerson_18] at hQ
  refine g_iconst (v := 0) dX13_isPerson_18 (by decide) ?_
  exact g_zret rfl (Or.inl rfl) dX13_isPerson_19 (hK _ hQ)
def f_X13_isPerson (M : gM) (x1 : Int32) : Int32 :=
  if x1 < 0 then
    (f_X13_isPerson_18 M)
  else
    (if (rdI M 88 0 0 (nn 0)) ≤ x1 then
      (f_X13_isPerson_18 M)
    else
      (1))
def s_X13_isPerson (M : gM) (x1 : Int32) : Prop :=
  if x1 < 0 then
    (s_X13_isPerson_18 M)
  else
    ((vp_in 0 502) ∧
    (if (rdI M 88 0 0 (nn 0)) ≤ x1 then
      (s_X13_isPerson_18 M)
    else
      (True)))
set_option maxRecDepth 100000 in
set_option maxHeartbeats 4000000 in
theorem t_X13_isPerson {E : gE} {K : Int32 → Prop} {Q : Option Value → gM → Prop} {M : gM} (hK : ∀ z : Int32, K z → Q (some (.int z)) M)  (x1 : Int32)  (hs : s_X13_isPerson M x1) (hQ : K (f_X13_isPerson M x1)) : gG E RX13 cX13_isPerson 2 (some .boolean) (rm 0) 0 [(0, .ref (gla E 226)), (1, .int x1)] [] M Q := by
  rw [s_X13_isPerson] at hs
  rw [f_X13_isPerson] at hQ
  refine g_iload_n 1 dX13_isPerson_0 rfl ?_
  refine g_if_lt 18 dX13_isPerson_1 (by decide) (fun c1 => ?_) (fun c1 => ?_)
  · have hs := ifSt hs c1; have hQ := ifQt hQ c1
    refine g_sub [] _ rfl ?_
    exact t_X13_isPerson_18 hK hs hQ
  · have hs := ifSf hs c1; have hQ := ifQf hQ c1
    refine g_iload_n 1 dX13_isPerson_4 rfl ?_
    refine g_aload_n 0 dX13_isPerson_5 rfl ?_
    refine g_getR 226 228 fd_X13_13 dF_Md rfl rfl dX13_isPerson_6 ?_
    refine g_iconst (v := 0) dX13_isPerson_9 (by decide) ?_
    have h2 := hs.1; have hs := hs.2
    refine g_iald 228 dF_Md_world h2 dX13_isPerson_10 ?_
    refine g_icmp_ge 18 dX13_isPerson_11 (by decide) (fun c3 => ?_) (fun c3 => ?_)
    · have hs := ifSt hs c3; have hQ := ifQt hQ c3
      refine g_sub [] _ rfl ?_
      exact t_X13_isPerson_18 hK hs hQ
    · have hs := ifSf hs c3; have hQ := ifQf hQ c3
      refine g_iconst (v := 1) dX13_isPerson_14 (by decide) ?_
      refine g_goto 19 dX13_isPerson_15 (by decide) ?_
      exact g_zret rfl (Or.inr rfl) dX13_isPerson_19 (hK _ hQ)
theorem c_X13_isPerson (E : gE) (M : gM) (x1 : Int32) (hs : s_X13_isPerson M x1) : gC E yX13_isPerson cX13_isPerson 2 (some .boolean) (rm 0) [.ref (gla E 226), .int x1] M (fun o N => o = some (.int (f_X13_isPerson M x1)) ∧ N = M) :=
  gC.of (by decide +kernel) (Nat.le_of_ble_eq_true rfl) rfl (t_X13_isPerson (K := fun z => z = f_X13_isPerson M x1) (fun z hz => by rw [hz]; exact ⟨rfl, rfl⟩) x1 hs rfl)
def f_X13_isPaper_18 (M : gM)  : Int32 :=
  0
def s_X13_isPaper_18 (M : gM)  : Prop :=
  True
set_option maxRecDepth 100000 in
set_option maxHeartbeats 4000000 in
theorem t_X13_isPaper_18 {E : gE} {K : Int32 → Prop} {Q : Option Value → gM → Prop} {M : gM} (hK : ∀ z : Int32, K z → Q (some (.int z)) M)    (hs : s_X13_isPaper_18 M ) (hQ : K (f_X13_isPaper_18 M )) : gG E RX13 cX13_isPaper 2 (some .boolean) (rm 0) 18 [] [] M Q := by
  rw [s_X13_isPaper_18] at hs
  rw [f_X13_isPaper_18] at hQ
  refine g_iconst (v := 0) dX13_isPaper_18 (by decide) ?_
  exact g_zret rfl (Or.inl rfl) dX13_isPaper_19 (hK _ hQ)
def f_X13_isPaper (M : gM) (x1 : Int32) : Int32 :=
  if x1 < 0 then
    (f_X13_isPaper_18 M)
  else
    (if (rdI M 88 0 0 (nn 2)) ≤ x1 then
      (f_X13_isPaper_18 M)
    else
      (1))
def s_X13_isPaper (M : gM) (x1 : Int32) : Prop :=
  if x1 < 0 then
    (s_X13_isPaper_18 M)
  else
    ((vp_in 2 502) ∧
    (if (rdI M 88 0 0 (nn 2)) ≤ x1 then
      (s_X13_isPaper_18 M)
    else
      (True)))
set_option maxRecDepth 100000 in
set_option maxHeartbeats 4000000 in
theorem t_X13_isPaper {E : gE} {K : Int32 → Prop} {Q : Option Value → gM → Prop} {M : gM} (hK : ∀ z : Int32, K z → Q (some (.int z)) M)  (x1 : Int32)  (hs : s_X13_isPaper M x1) (hQ : K (f_X13_isPaper M x1)) : gG E RX13 cX13_isPaper 2 (some .boolean) (rm 0) 0 [(0, .ref (gla E 226)), (1, .int x1)] [] M Q := by
  rw [s_X13_isPaper] at hs
  rw [f_X13_isPaper] at hQ
  refine g_iload_n 1 dX13_isPaper_0 rfl ?_
  refine g_if_lt 18 dX13_isPaper_1 (by decide) (fun c1 => ?_) (fun c1 => ?_)
  · have hs := ifSt hs c1; have hQ := ifQt hQ c1
    refine g_sub [] _ rfl ?_
    exact t_X13_isPaper_18 hK hs hQ
  · have hs := ifSf hs c1; have hQ := ifQf hQ c1
    refine g_iload_n 1 dX13_isPaper_4 rfl ?_
    refine g_aload_n 0 dX13_isPaper_5 rfl ?_
    refine g_getR 226 228 fd_X13_13 dF_Md rfl rfl dX13_isPaper_6 ?_
    refine g_iconst (v := 2) dX13_isPaper_9 (by decide) ?_
    have h2 := hs.1; have hs := hs.2
    refine g_iald 228 dF_Md_world h2 dX13_isPaper_10 ?_
    refine g_icmp_ge 18 dX13_isPaper_11 (by decide) (fun c3 => ?_) (fun c3 => ?_)
    · have hs := ifSt hs c3; have hQ := ifQt hQ c3
      refine g_sub [] _ rfl ?_
      exact t_X13_isPaper_18 hK hs hQ
    · have hs := ifSf hs c3; have hQ := ifQf hQ c3
      refine g_iconst (v := 1) dX13_isPaper_14 (by decide) ?_
      refine g_goto 19 dX13_isPaper_15 (by decide) ?_
      exact g_zret rfl (Or.inr rfl) dX13_isPaper_19 (hK _ hQ)
theorem c_X13_isPaper (E : gE) (M : gM) (x1 : Int32) (hs : s_X13_isPaper M x1) : gC E yX13_isPaper cX13_isPaper 2 (some .boolean) (rm 0) [.ref (gla E 226), .int x1] M (fun o N => o = some (.int (f_X13_isPaper M x1)) ∧ N = M) :=
  gC.of (by decide +kernel) (Nat.le_of_ble_eq_true rfl) rfl (t_X13_isPaper (K := fun z => z = f_X13_isPaper M x1) (fun z hz => by rw [hz]; exact ⟨rfl, rfl⟩) x1 hs rfl)
def f_X13_isThing_18 (M : gM)  : Int32 :=
  0
def s_X13_isThing_18 (M : gM)  : Prop :=
  True
set_option maxRecDepth 100000 in
set_option maxHeartbeats 4000000 in
theorem t_X13_isThing_18 {E : gE} {K : Int32 → Prop} {Q : Option Value → gM → Prop} {M : gM} (hK : ∀ z : Int32, K z → Q (some (.int z)) M)    (hs : s_X13_isThing_18 M ) (hQ : K (f_X13_isThing_18 M )) : gG E RX13 cX13_isThing 2 (some .boolean) (rm 0) 18 [] [] M Q := by
  rw [s_X13_isThing_18] at hs
  rw [f_X13_isThing_18] at hQ
  refine g_iconst (v := 0) dX13_isThing_18 (by decide) ?_
  exact g_zret rfl (Or.inl rfl) dX13_isThing_19 (hK _ hQ)
def f_X13_isThing (M : gM) (x1 : Int32) : Int32 :=
  if x1 < 0 then
    (f_X13_isThing_18 M)
  else
    (if (rdI M 88 0 0 (nn 1)) ≤ x1 then
      (f_X13_isThing_18 M)
    else
      (1))
def s_X13_isThing (M : gM) (x1 : Int32) : Prop :=
  if x1 < 0 then
    (s_X13_isThing_18 M)
  else
    ((vp_in 1 502) ∧
    (if (rdI M 88 0 0 (nn 1)) ≤ x1 then
      (s_X13_isThing_18 M)
    else
      (True)))
set_option maxRecDepth 100000 in
set_option maxHeartbeats 4000000 in
theorem t_X13_isThing {E : gE} {K : Int32 → Prop} {Q : Option Value → gM → Prop} {M : gM} (hK : ∀ z : Int32, K z → Q (some (.int z)) M)  (x1 : Int32)  (hs : s_X13_isThing M x1) (hQ : K (f_X13_isThing M x1)) : gG E RX13 cX13_isThing 2 (some .boolean) (rm 0) 0 [(0, .ref (gla E 226)), (1, .int x1)] [] M Q := by
  rw [s_X13_isThing] at hs
  rw [f_X13_isThing] at hQ
  refine g_iload_n 1 dX13_isThing_0 rfl ?_
  refine g_if_lt 18 dX13_isThing_1 (by decide) (fun c1 => ?_) (fun c1 => ?_)
  · have hs := ifSt hs c1; have hQ := ifQt hQ c1
    refine g_sub [] _ rfl ?_
    exact t_X13_isThing_18 hK hs hQ
  · have hs := ifSf hs c1; have hQ := ifQf hQ c1
    refine g_iload_n 1 dX13_isThing_4 rfl ?_
    refine g_aload_n 0 dX13_isThing_5 rfl ?_
    refine g_getR 226 228 fd_X13_13 dF_Md rfl rfl dX13_isThing_6 ?_
    refine g_iconst (v := 1) dX13_isThing_9 (by decide) ?_
    have h2 := hs.1; have hs := hs.2
    refine g_iald 228 dF_Md_world h2 dX13_isThing_10 ?_
    refine g_icmp_ge 18 dX13_isThing_11 (by decide) (fun c3 => ?_) (fun c3 => ?_)
    · have hs := ifSt hs c3; have hQ := ifQt hQ c3
      refine g_sub [] _ rfl ?_
      exact t_X13_isThing_18 hK hs hQ
    · have hs := ifSf hs c3; have hQ := ifQf hQ c3
      refine g_iconst (v := 1) dX13_isThing_14 (by decide) ?_
      refine g_goto 19 dX13_isThing_15 (by decide) ?_
      exact g_zret rfl (Or.inr rfl) dX13_isThing_19 (hK _ hQ)
theorem c_X13_isThing (E : gE) (M : gM) (x1 : Int32) (hs : s_X13_isThing M x1) : gC E yX13_isThing cX13_isThing 2 (some .boolean) (rm 0) [.ref (gla E 226), .int x1] M (fun o N => o = some (.int (f_X13_isThing M x1)) ∧ N = M) :=
  gC.of (by decide +kernel) (Nat.le_of_ble_eq_true rfl) rfl (t_X13_isThing (K := fun z => z = f_X13_isThing M x1) (fun z hz => by rw [hz]; exact ⟨rfl, rfl⟩) x1 hs rfl)
def f_X13_isDay_15 (M : gM)  : Int32 :=
  0
def s_X13_isDay_15 (M : gM)  : Prop :=
  True
set_option maxRecDepth 100000 in
set_option maxHeartbeats 4000000 in
theorem t_X13_isDay_15 {E : gE} {K : Int32 → Prop} {Q : Option Value → gM → Prop} {M : gM} (hK : ∀ z : Int32, K z → Q (some (.int z)) M)    (hs : s_X13_isDay_15 M ) (hQ : K (f_X13_isDay_15 M )) : gG E RX13 cX13_isDay 1 (some .boolean) (rm 0) 15 [] [] M Q := by
  rw [s_X13_isDay_15] at hs
  rw [f_X13_isDay_15] at hQ
  refine g_iconst (v := 0) dX13_isDay_15 (by decide) ?_
  exact g_zret rfl (Or.inl rfl) dX13_isDay_16 (hK _ hQ)
def f_X13_isDay (M : gM) (x0 : Int32) : Int32 :=
  if x0 < 0 then
    (f_X13_isDay_15 M)
  else
    (if 9999 < x0 then
      (f_X13_isDay_15 M)
    else
      (1))
def s_X13_isDay (M : gM) (x0 : Int32) : Prop :=
  if x0 < 0 then
    (s_X13_isDay_15 M)
  else
    (if 9999 < x0 then
      (s_X13_isDay_15 M)
    else
      (True))
set_option maxRecDepth 100000 in
set_option maxHeartbeats 4000000 in
theorem t_X13_isDay {E : gE} {K : Int32 → Prop} {Q : Option Value → gM → Prop} {M : gM} (hK : ∀ z : Int32, K z → Q (some (.int z)) M)  (x0 : Int32)  (hs : s_X13_isDay M x0) (hQ : K (f_X13_isDay M x0)) : gG E RX13 cX13_isDay 1 (some .boolean) (rm 0) 0 [(0, .int x0)] [] M Q := by
  rw [s_X13_isDay] at hs
  rw [f_X13_isDay] at hQ
  refine g_iload_n 0 dX13_isDay_0 rfl ?_
  refine g_if_lt 15 dX13_isDay_1 (by decide) (fun c1 => ?_) (fun c1 => ?_)
  · have hs := ifSt hs c1; have hQ := ifQt hQ c1
    refine g_sub [] _ rfl ?_
    exact t_X13_isDay_15 hK hs hQ
  · have hs := ifSf hs c1; have hQ := ifQf hQ c1
    refine g_iload_n 0 dX13_isDay_4 rfl ?_
    refine g_sipush (v := 9999) dX13_isDay_5 (by decide) ?_
    refine g_icmp_gt 15 dX13_isDay_8 (by decide) (fun c2 => ?_) (fun c2 => ?_)
    · have hs := ifSt hs c2; have hQ := ifQt hQ c2
      refine g_sub [] _ rfl ?_
      exact t_X13_isDay_15 hK hs hQ
    · have hs := ifSf hs c2; have hQ := ifQf hQ c2
      refine g_iconst (v := 1) dX13_isDay_11 (by decide) ?_
      refine g_goto 16 dX13_isDay_12 (by decide) ?_
      exact g_zret rfl (Or.inr rfl) dX13_isDay_16 (hK _ hQ)
theorem c_X13_isDay (E : gE) (M : gM) (x0 : Int32) (hs : s_X13_isDay M x0) : gC E yX13_isDay cX13_isDay 1 (some .boolean) (rm 0) [.int x0] M (fun o N => o = some (.int (f_X13_isDay M x0)) ∧ N = M) :=
  gC.of (by decide +kernel) (Nat.le_of_ble_eq_true rfl) rfl (t_X13_isDay (K := fun z => z = f_X13_isDay M x0) (fun z hz => by rw [hz]; exact ⟨rfl, rfl⟩) x0 hs rfl)
def f_X13_of (M : gM) (x1 : Int32) (x2 : Int32) : Int32 :=
  rdI M 88 0 0 (nn ((58 + (7 * x1)) + x2))
def s_X13_of (M : gM) (x1 : Int32) (x2 : Int32) : Prop :=
  (vp_in ((58 + (7 * x1)) + x2) 502) ∧
  (True)
set_option maxRecDepth 100000 in
set_option maxHeartbeats 4000000 in
theorem t_X13_of {E : gE} {K : Int32 → Prop} {Q : Option Value → gM → Prop} {M : gM} (hK : ∀ z : Int32, K z → Q (some (.int z)) M)  (x1 : Int32) (x2 : Int32)  (hs : s_X13_of M x1 x2) (hQ : K (f_X13_of M x1 x2)) : gG E RX13 cX13_of 3 (some .int) (rm 0) 0 [(0, .ref (gla E 226)), (1, .int x1), (2, .int x2)] [] M Q := by
  rw [s_X13_of] at hs
  rw [f_X13_of] at hQ
  refine g_aload_n 0 dX13_of_0 rfl ?_
  refine g_getR 226 228 fd_X13_13 dF_Md rfl rfl dX13_of_1 ?_
  refine g_bipush (v := 58) dX13_of_4 (by decide) ?_
  refine g_bipush (v := 7) dX13_of_6 (by decide) ?_
  refine g_iload_n 1 dX13_of_8 rfl ?_
  refine g_imul dX13_of_9 ?_
  refine g_iadd dX13_of_10 ?_
  refine g_iload_n 2 dX13_of_11 rfl ?_
  refine g_iadd dX13_of_12 ?_
  have h1 := hs.1; have hs := hs.2
  refine g_iald 228 dF_Md_world h1 dX13_of_13 ?_
  exact g_iret rfl dX13_of_14 (hK _ hQ)
theorem c_X13_of (E : gE) (M : gM) (x1 : Int32) (x2 : Int32) (hs : s_X13_of M x1 x2) : gC E yX13_of cX13_of 3 (some .int) (rm 0) [.ref (gla E 226), .int x1, .int x2] M (fun o N => o = some (.int (f_X13_of M x1 x2)) ∧ N = M) :=
  gC.of (by decide +kernel) (Nat.le_of_ble_eq_true rfl) rfl (t_X13_of (K := fun z => z = f_X13_of M x1 x2) (fun z hz => by rw [hz]; exact ⟨rfl, rfl⟩) x1 x2 hs rfl)
def f_X13_landOf (M : gM) (x1 : Int32) : Int32 :=
  rdI M 88 0 0 (nn ((34 + (3 * x1)) + 1))
def s_X13_landOf (M : gM) (x1 : Int32) : Prop :=
  (vp_in ((34 + (3 * x1)) + 1) 502) ∧
  (True)
set_option maxRecDepth 100000 in
set_option maxHeartbeats 4000000 in
theorem t_X13_landOf {E : gE} {K : Int32 → Prop} {Q : Option Value → gM → Prop} {M : gM} (hK : ∀ z : Int32, K z → Q (some (.int z)) M)  (x1 : Int32)  (hs : s_X13_landOf M x1) (hQ : K (f_X13_landOf M x1)) : gG E RX13 cX13_landOf 2 (some .int) (rm 0) 0 [(0, .ref (gla E 226)), (1, .int x1)] [] M Q := by
  rw [s_X13_landOf] at hs
  rw [f_X13_landOf] at hQ
  refine g_aload_n 0 dX13_landOf_0 rfl ?_
  refine g_getR 226 228 fd_X13_13 dF_Md rfl rfl dX13_landOf_1 ?_
  refine g_bipush (v := 34) dX13_landOf_4 (by decide) ?_
  refine g_iconst (v := 3) dX13_landOf_6 (by decide) ?_
  refine g_iload_n 1 dX13_landOf_7 rfl ?_
  refine g_imul dX13_landOf_8 ?_
  refine g_iadd dX13_landOf_9 ?_
  refine g_iconst (v := 1) dX13_landOf_10 (by decide) ?_
  refine g_iadd dX13_landOf_11 ?_
  have h1 := hs.1; have hs := hs.2
  refine g_iald 228 dF_Md_world h1 dX13_landOf_12 ?_
  exact g_iret rfl dX13_landOf_13 (hK _ hQ)
theorem c_X13_landOf (E : gE) (M : gM) (x1 : Int32) (hs : s_X13_landOf M x1) : gC E yX13_landOf cX13_landOf 2 (some .int) (rm 0) [.ref (gla E 226), .int x1] M (fun o N => o = some (.int (f_X13_landOf M x1)) ∧ N = M) :=
  gC.of (by decide +kernel) (Nat.le_of_ble_eq_true rfl) rfl (t_X13_landOf (K := fun z => z = f_X13_landOf M x1) (fun z hz => by rw [hz]; exact ⟨rfl, rfl⟩) x1 hs rfl)
def f_X13_has (M : gM) (x1 : Int32) (x2 : Int32) : Int32 :=
  if (rdI M 88 0 0 (nn ((4 + (5 * x1)) + x2))) = 1 then
    (1)
  else
    (0)
def s_X13_has (M : gM) (x1 : Int32) (x2 : Int32) : Prop :=
  (vp_in ((4 + (5 * x1)) + x2) 502) ∧
  (if (rdI M 88 0 0 (nn ((4 + (5 * x1)) + x2))) = 1 then
    (True)
  else
    (True))
set_option maxRecDepth 100000 in
set_option maxHeartbeats 4000000 in
theorem t_X13_has {E : gE} {K : Int32 → Prop} {Q : Option Value → gM → Prop} {M : gM} (hK : ∀ z : Int32, K z → Q (some (.int z)) M)  (x1 : Int32) (x2 : Int32)  (hs : s_X13_has M x1 x2) (hQ : K (f_X13_has M x1 x2)) : gG E RX13 cX13_has 3 (some .boolean) (rm 0) 0 [(0, .ref (gla E 226)), (1, .int x1), (2, .int x2)] [] M Q := by
  rw [s_X13_has] at hs
  rw [f_X13_has] at hQ
  refine g_aload_n 0 dX13_has_0 rfl ?_
  refine g_getR 226 228 fd_X13_13 dF_Md rfl rfl dX13_has_1 ?_
  refine g_iconst (v := 4) dX13_has_4 (by decide) ?_
  refine g_iconst (v := 5) dX13_has_5 (by decide) ?_
  refine g_iload_n 1 dX13_has_6 rfl ?_
  refine g_imul dX13_has_7 ?_
  refine g_iadd dX13_has_8 ?_
  refine g_iload_n 2 dX13_has_9 rfl ?_
  refine g_iadd dX13_has_10 ?_
  have h1 := hs.1; have hs := hs.2
  refine g_iald 228 dF_Md_world h1 dX13_has_11 ?_
  refine g_iconst (v := 1) dX13_has_12 (by decide) ?_
  refine g_icmp_ne 20 dX13_has_13 (by decide) (fun c2 => ?_) (fun c2 => ?_)
  · have hs := ifSf hs c2; have hQ := ifQf hQ c2
    refine g_iconst (v := 0) dX13_has_20 (by decide) ?_
    exact g_zret rfl (Or.inl rfl) dX13_has_21 (hK _ hQ)
  · have hs := ifSt hs c2; have hQ := ifQt hQ c2
    refine g_iconst (v := 1) dX13_has_16 (by decide) ?_
    refine g_goto 21 dX13_has_17 (by decide) ?_
    exact g_zret rfl (Or.inr rfl) dX13_has_21 (hK _ hQ)
theorem c_X13_has (E : gE) (M : gM) (x1 : Int32) (x2 : Int32) (hs : s_X13_has M x1 x2) : gC E yX13_has cX13_has 3 (some .boolean) (rm 0) [.ref (gla E 226), .int x1, .int x2] M (fun o N => o = some (.int (f_X13_has M x1 x2)) ∧ N = M) :=
  gC.of (by decide +kernel) (Nat.le_of_ble_eq_true rfl) rfl (t_X13_has (K := fun z => z = f_X13_has M x1 x2) (fun z hz => by rw [hz]; exact ⟨rfl, rfl⟩) x1 x2 hs rfl)
def f_X13_diesOn (M : gM) (x1 : Int32) : Int32 :=
  rdI M 92 0 0 (nn (0 + x1))
def s_X13_diesOn (M : gM) (x1 : Int32) : Prop :=
  (vp_in (0 + x1) 65) ∧
  (True)
set_option maxRecDepth 100000 in
set_option maxHeartbeats 4000000 in
theorem t_X13_diesOn {E : gE} {K : Int32 → Prop} {Q : Option Value → gM → Prop} {M : gM} (hK : ∀ z : Int32, K z → Q (some (.int z)) M)  (x1 : Int32)  (hs : s_X13_diesOn M x1) (hQ : K (f_X13_diesOn M x1)) : gG E RX13 cX13_diesOn 2 (some .int) (rm 0) 0 [(0, .ref (gla E 226)), (1, .int x1)] [] M Q := by
  rw [s_X13_diesOn] at hs
  rw [f_X13_diesOn] at hQ
  refine g_aload_n 0 dX13_diesOn_0 rfl ?_
  refine g_getR 226 232 fd_X13_25 dF_Md rfl rfl dX13_diesOn_1 ?_
  refine g_iconst (v := 0) dX13_diesOn_4 (by decide) ?_
  refine g_iload_n 1 dX13_diesOn_5 rfl ?_
  refine g_iadd dX13_diesOn_6 ?_
  have h1 := hs.1; have hs := hs.2
  refine g_iald 232 dF_Md_now h1 dX13_diesOn_7 ?_
  exact g_iret rfl dX13_diesOn_8 (hK _ hQ)
theorem c_X13_diesOn (E : gE) (M : gM) (x1 : Int32) (hs : s_X13_diesOn M x1) : gC E yX13_diesOn cX13_diesOn 2 (some .int) (rm 0) [.ref (gla E 226), .int x1] M (fun o N => o = some (.int (f_X13_diesOn M x1)) ∧ N = M) :=
  gC.of (by decide +kernel) (Nat.le_of_ble_eq_true rfl) rfl (t_X13_diesOn (K := fun z => z = f_X13_diesOn M x1) (fun z hz => by rw [hz]; exact ⟨rfl, rfl⟩) x1 hs rfl)
def f_X13_childrenOf_4 (M : gM) (x1 : Int32)  : Nat → Int32 → Int32 → Int32
  | 0, _, _ => 0
  | n + 1, x2, x3 =>
    if (rdI M 88 0 0 (nn 0)) ≤ x3 then
      (x2)
    else
      (bnd (x2 ||| ((((rdI M 88 0 0 (nn (24 + x3))) >>> (x1 &&& 31)) &&& 1) <<< (x3 &&& 31))) fun v4 =>
      (f_X13_childrenOf_4 M x1 n v4 (x3 + 1)))
def s_X13_childrenOf_4 (M : gM) (x1 : Int32)  : Nat → Int32 → Int32 → Prop
  | 0, _, _ => False
  | n + 1, x2, x3 =>
    (vp_in 0 502) ∧
    (if (rdI M 88 0 0 (nn 0)) ≤ x3 then
      (True)
    else
      ((vp_in (24 + x3) 502) ∧
      (bndP (x2 ||| ((((rdI M 88 0 0 (nn (24 + x3))) >>> (x1 &&& 31)) &&& 1) <<< (x3 &&& 31))) fun v4 =>
      (s_X13_childrenOf_4 M x1 n v4 (x3 + 1)))))
set_option maxRecDepth 100000 in
set_option maxHeartbeats 4000000 in
theorem t_X13_childrenOf_4 {E : gE} {K : Int32 → Prop} {Q : Option Value → gM → Prop} {M : gM} (hK : ∀ z : Int32, K z → Q (some (.int z)) M) (x1 : Int32)   : ∀ (n : Nat) (x2 : Int32) (x3 : Int32) , s_X13_childrenOf_4 M x1  n x2 x3 → K (f_X13_childrenOf_4 M x1  n x2 x3) → gG E RX13 cX13_childrenOf 4 (some .int) (rm 0) 4 [(0, .ref (gla E 226)), (1, .int x1), (2, .int x2), (3, .int x3)] [] M Q := by
  intro n
  induction n with
  | zero => intro x2 x3 hs hQ; exact (hs : False).elim
  | succ n ih =>
    intro x2 x3 hs hQ
    rw [s_X13_childrenOf_4] at hs
    rw [f_X13_childrenOf_4] at hQ
    refine g_iload_n 3 dX13_childrenOf_4 rfl ?_
    refine g_aload_n 0 dX13_childrenOf_5 rfl ?_
    refine g_getR 226 228 fd_X13_13 dF_Md rfl rfl dX13_childrenOf_6 ?_
    refine g_iconst (v := 0) dX13_childrenOf_9 (by decide) ?_
    have h1 := hs.1; have hs := hs.2
    refine g_iald 228 dF_Md_world h1 dX13_childrenOf_10 ?_
    refine g_icmp_ge 38 dX13_childrenOf_11 (by decide) (fun c2 => ?_) (fun c2 => ?_)
    · have hs := ifSt hs c2; have hQ := ifQt hQ c2
      refine g_iload_n 2 dX13_childrenOf_38 rfl ?_
      exact g_iret rfl dX13_childrenOf_39 (hK _ hQ)
    · have hs := ifSf hs c2; have hQ := ifQf hQ c2
      refine g_iload_n 2 dX13_childrenOf_14 rfl ?_
      refine g_aload_n 0 dX13_childrenOf_15 rfl ?_
      refine g_getR 226 228 fd_X13_13 dF_Md rfl rfl dX13_childrenOf_16 ?_
      refine g_bipush (v := 24) dX13_childrenOf_19 (by decide) ?_
      refine g_iload_n 3 dX13_childrenOf_21 rfl ?_
      refine g_iadd dX13_childrenOf_22 ?_
      have h3 := hs.1; have hs := hs.2
      refine g_iald 228 dF_Md_world h3 dX13_childrenOf_23 ?_
      refine g_iload_n 1 dX13_childrenOf_24 rfl ?_
      refine g_ishr dX13_childrenOf_25 ?_
      refine g_iconst (v := 1) dX13_childrenOf_26 (by decide) ?_
      refine g_iand dX13_childrenOf_27 ?_
      refine g_iload_n 3 dX13_childrenOf_28 rfl ?_
      refine g_ishl dX13_childrenOf_29 ?_
      refine g_ior dX13_childrenOf_30 ?_
      refine g_topI (fun v4 hv4 => ?_)
      have hQ := bndQ hQ v4 hv4; have hs := bndS hs v4 hv4
      refine g_istore_n _ dX13_childrenOf_31 (by decide) rfl ?_
      refine g_iinc 3 (v := x3 + 1) _ dX13_childrenOf_32 rfl rfl (by decide) rfl ?_
      refine g_goto 4 dX13_childrenOf_35 (by decide) ?_
      refine g_sub [2, 3, 1, 0] _ rfl ?_
      exact ih v4 (x3 + 1) hs hQ
def f_X13_childrenOf (M : gM) (x1 : Int32) : Int32 :=
  f_X13_childrenOf_4 M x1 FU 0 0
def s_X13_childrenOf (M : gM) (x1 : Int32) : Prop :=
  s_X13_childrenOf_4 M x1 FU 0 0
set_option maxRecDepth 100000 in
set_option maxHeartbeats 4000000 in
theorem t_X13_childrenOf {E : gE} {K : Int32 → Prop} {Q : Option Value → gM → Prop} {M : gM} (hK : ∀ z : Int32, K z → Q (some (.int z)) M)  (x1 : Int32)  (hs : s_X13_childrenOf M x1) (hQ : K (f_X13_childrenOf M x1)) : gG E RX13 cX13_childrenOf 4 (some .int) (rm 0) 0 [(0, .ref (gla E 226)), (1, .int x1)] [] M Q := by
  rw [s_X13_childrenOf] at hs
  rw [f_X13_childrenOf] at hQ
  refine g_iconst (v := 0) dX13_childrenOf_0 (by decide) ?_
  refine g_istore_n _ dX13_childrenOf_1 (by decide) rfl ?_
  refine g_iconst (v := 0) dX13_childrenOf_2 (by decide) ?_
  refine g_istore_n _ dX13_childrenOf_3 (by decide) rfl ?_
  refine g_sub [2, 3, 1, 0] _ rfl ?_
  exact t_X13_childrenOf_4 hK x1 FU 0 0 hs hQ
theorem c_X13_childrenOf (E : gE) (M : gM) (x1 : Int32) (hs : s_X13_childrenOf M x1) : gC E yX13_childrenOf cX13_childrenOf 4 (some .int) (rm 0) [.ref (gla E 226), .int x1] M (fun o N => o = some (.int (f_X13_childrenOf M x1)) ∧ N = M) :=
  gC.of (by decide +kernel) (Nat.le_of_ble_eq_true rfl) rfl (t_X13_childrenOf (K := fun z => z = f_X13_childrenOf M x1) (fun z hz => by rw [hz]; exact ⟨rfl, rfl⟩) x1 hs rfl)
def f_X13_wedTo_126 (M : gM) (x1 : Int32) (x2 : Int32) (x5 : Int32) (x6 : Int32) (y0 : Int32) (k9 : Int32 → Int32 → Int32 → Int32) : Int32 :=
  bnd (rdI M 92 0 0 (nn (x6 + 2))) fun v17 =>
  (k9 y0 v17 (x5 + 1))
def s_X13_wedTo_126 (M : gM) (x1 : Int32) (x2 : Int32) (x5 : Int32) (x6 : Int32) (y0 : Int32) (q9 : Int32 → Int32 → Int32 → Prop) : Prop :=
  (vp_in (x6 + 2) 65) ∧
  (bndP (rdI M 92 0 0 (nn (x6 + 2))) fun v17 =>
  (q9 y0 v17 (x5 + 1)))
set_option maxRecDepth 100000 in
set_option maxHeartbeats 4000000 in
theorem t_X13_wedTo_126 {E : gE} {K : Int32 → Prop} {Q : Option Value → gM → Prop} {M : gM} (hK : ∀ z : Int32, K z → Q (some (.int z)) M) (x1 : Int32) (x2 : Int32) (x5 : Int32) (x6 : Int32) (y0 : Int32)  (k9 : Int32 → Int32 → Int32 → Int32) (q9 : Int32 → Int32 → Int32 → Prop) (hk9 : ∀ (x3 : Int32) (x4 : Int32) (x5 : Int32) , q9 x3 x4 x5 → K (k9 x3 x4 x5) → gG E RX13 cX13_wedTo 8 (some .int) (rm 0) 9 [(0, .ref (gla E 226)), (1, .int x1), (2, .int x2), (3, .int x3), (4, .int x4), (5, .int x5)] [] M Q) (hs : s_X13_wedTo_126 M x1 x2 x5 x6 y0 q9) (hQ : K (f_X13_wedTo_126 M x1 x2 x5 x6 y0 k9)) : gG E RX13 cX13_wedTo 8 (some .int) (rm 0) 126 [(0, .ref (gla E 226)), (1, .int x1), (2, .int x2), (5, .int x5), (6, .int x6)] [.int y0] M Q := by
  rw [s_X13_wedTo_126] at hs
  rw [f_X13_wedTo_126] at hQ
  refine g_istore_n _ dX13_wedTo_126 (by decide) rfl ?_
  refine g_aload_n 1 dX13_wedTo_127 rfl ?_
  refine g_getR 226 232 fd_X13_25 dF_Md rfl rfl dX13_wedTo_128 ?_
  refine g_iload 5 dX13_wedTo_131 rfl ?_
  refine g_iconst (v := 2) dX13_wedTo_133 (by decide) ?_
  refine g_iadd dX13_wedTo_134 ?_
  have h16 := hs.1; have hs := hs.2
  refine g_iald 232 dF_Md_now h16 dX13_wedTo_135 ?_
  refine g_topI (fun v17 hv17 => ?_)
  have hQ := bndQ hQ v17 hv17; have hs := bndS hs v17 hv17
  refine g_istore _ dX13_wedTo_136 (by decide) rfl ?_
  refine g_iinc 5 (v := x5 + 1) _ dX13_wedTo_138 rfl rfl (by decide) rfl ?_
  refine g_goto 9 dX13_wedTo_141 (by decide) ?_
  refine g_sub [3, 4, 5, 2, 1, 0] _ rfl ?_
  exact hk9 y0 v17 (x5 + 1) hs hQ
def f_X13_wedTo_86 (M : gM) (x1 : Int32) (x2 : Int32) (x3 : Int32) (x4 : Int32) (x5 : Int32) (x6 : Int32) (y0 : Int32) (k9 : Int32 → Int32 → Int32 → Int32) : Int32 :=
  if y0 = 0 then
    (k9 x3 x4 (x5 + 1))
  else
    (if (rdI M 92 0 0 (nn x6)) = x1 then
      (f_X13_wedTo_126 M x1 x2 x5 x6 (rdI M 92 0 0 (nn (x6 + 1))) k9)
    else
      (f_X13_wedTo_126 M x1 x2 x5 x6 (rdI M 92 0 0 (nn x6)) k9))
def s_X13_wedTo_86 (M : gM) (x1 : Int32) (x2 : Int32) (x3 : Int32) (x4 : Int32) (x5 : Int32) (x6 : Int32) (y0 : Int32) (q9 : Int32 → Int32 → Int32 → Prop) : Prop :=
  if y0 = 0 then
    (q9 x3 x4 (x5 + 1))
  else
    ((vp_in x6 65) ∧
    (if (rdI M 92 0 0 (nn x6)) = x1 then
      ((vp_in (x6 + 1) 65) ∧
      (s_X13_wedTo_126 M x1 x2 x5 x6 (rdI M 92 0 0 (nn (x6 + 1))) q9))
    else
      ((vp_in x6 65) ∧
      (s_X13_wedTo_126 M x1 x2 x5 x6 (rdI M 92 0 0 (nn x6)) q9))))
set_option maxRecDepth 100000 in
set_option maxHeartbeats 4000000 in
theorem t_X13_wedTo_86 {E : gE} {K : Int32 → Prop} {Q : Option Value → gM → Prop} {M : gM} (hK : ∀ z : Int32, K z → Q (some (.int z)) M) (x1 : Int32) (x2 : Int32) (x3 : Int32) (x4 : Int32) (x5 : Int32) (x6 : Int32) (y0 : Int32)  (k9 : Int32 → Int32 → Int32 → Int32) (q9 : Int32 → Int32 → Int32 → Prop) (hk9 : ∀ (x3 : Int32) (x4 : Int32) (x5 : Int32) , q9 x3 x4 x5 → K (k9 x3 x4 x5) → gG E RX13 cX13_wedTo 8 (some .int) (rm 0) 9 [(0, .ref (gla E 226)), (1, .int x1), (2, .int x2), (3, .int x3), (4, .int x4), (5, .int x5)] [] M Q) (hs : s_X13_wedTo_86 M x1 x2 x3 x4 x5 x6 y0 q9) (hQ : K (f_X13_wedTo_86 M x1 x2 x3 x4 x5 x6 y0 k9)) : gG E RX13 cX13_wedTo 8 (some .int) (rm 0) 86 [(0, .ref (gla E 226)), (1, .int x1), (2, .int x2), (3, .int x3), (4, .int x4), (5, .int x5), (6, .int x6)] [.int y0] M Q := by
  rw [s_X13_wedTo_86] at hs
  rw [f_X13_wedTo_86] at hQ
  refine g_istore _ dX13_wedTo_86 (by decide) rfl ?_
  refine g_iload 0 dX13_wedTo_88 rfl ?_
  refine g_if_ne 96 dX13_wedTo_90 (by decide) (fun c11 => ?_) (fun c11 => ?_)
  · have hs := ifSf hs c11; have hQ := ifQf hQ c11
    refine g_aload_n 1 dX13_wedTo_96 rfl ?_
    refine g_getR 226 232 fd_X13_25 dF_Md rfl rfl dX13_wedTo_97 ?_
    refine g_iload 7 dX13_wedTo_100 rfl ?_
    have h12 := hs.1; have hs := hs.2
    refine g_iald 232 dF_Md_now h12 dX13_wedTo_102 ?_
    refine g_iload_n 2 dX13_wedTo_103 rfl ?_
    refine g_icmp_ne 119 dX13_wedTo_104 (by decide) (fun c13 => ?_) (fun c13 => ?_)
    · have hs := ifSf hs c13; have hQ := ifQf hQ c13
      refine g_aload_n 1 dX13_wedTo_119 rfl ?_
      refine g_getR 226 232 fd_X13_25 dF_Md rfl rfl dX13_wedTo_120 ?_
      refine g_iload 7 dX13_wedTo_123 rfl ?_
      have h14 := hs.1; have hs := hs.2
      refine g_iald 232 dF_Md_now h14 dX13_wedTo_125 ?_
      refine g_sub [1, 2, 3, 6, 7] _ rfl ?_
      exact t_X13_wedTo_126 hK x1 x2 x5 x6 (rdI M 92 0 0 (nn x6)) k9 q9 hk9 hs hQ
    · have hs := ifSt hs c13; have hQ := ifQt hQ c13
      refine g_aload_n 1 dX13_wedTo_107 rfl ?_
      refine g_getR 226 232 fd_X13_25 dF_Md rfl rfl dX13_wedTo_108 ?_
      refine g_iload 7 dX13_wedTo_111 rfl ?_
      refine g_iconst (v := 1) dX13_wedTo_113 (by decide) ?_
      refine g_iadd dX13_wedTo_114 ?_
      have h15 := hs.1; have hs := hs.2
      refine g_iald 232 dF_Md_now h15 dX13_wedTo_115 ?_
      refine g_goto 126 dX13_wedTo_116 (by decide) ?_
      refine g_sub [1, 2, 3, 6, 7] _ rfl ?_
      exact t_X13_wedTo_126 hK x1 x2 x5 x6 (rdI M 92 0 0 (nn (x6 + 1))) k9 q9 hk9 hs hQ
  · have hs := ifSt hs c11; have hQ := ifQt hQ c11
    refine g_goto 138 dX13_wedTo_93 (by decide) ?_
    refine g_iinc 6 (v := x5 + 1) _ dX13_wedTo_138 rfl rfl (by decide) rfl ?_
    refine g_goto 9 dX13_wedTo_141 (by decide) ?_
    refine g_sub [2, 3, 4, 5, 6, 0] _ rfl ?_
    exact hk9 x3 x4 (x5 + 1) hs hQ
def f_X13_wedTo_85 (M : gM) (x1 : Int32) (x2 : Int32) (x3 : Int32) (x4 : Int32) (x5 : Int32) (x6 : Int32) (k9 : Int32 → Int32 → Int32 → Int32) : Int32 :=
  f_X13_wedTo_86 M x1 x2 x3 x4 x5 x6 0 k9
def s_X13_wedTo_85 (M : gM) (x1 : Int32) (x2 : Int32) (x3 : Int32) (x4 : Int32) (x5 : Int32) (x6 : Int32) (q9 : Int32 → Int32 → Int32 → Prop) : Prop :=
  s_X13_wedTo_86 M x1 x2 x3 x4 x5 x6 0 q9
set_option maxRecDepth 100000 in
set_option maxHeartbeats 4000000 in
theorem t_X13_wedTo_85 {E : gE} {K : Int32 → Prop} {Q : Option Value → gM → Prop} {M : gM} (hK : ∀ z : Int32, K z → Q (some (.int z)) M) (x1 : Int32) (x2 : Int32) (x3 : Int32) (x4 : Int32) (x5 : Int32) (x6 : Int32)  (k9 : Int32 → Int32 → Int32 → Int32) (q9 : Int32 → Int32 → Int32 → Prop) (hk9 : ∀ (x3 : Int32) (x4 : Int32) (x5 : Int32) , q9 x3 x4 x5 → K (k9 x3 x4 x5) → gG E RX13 cX13_wedTo 8 (some .int) (rm 0) 9 [(0, .ref (gla E 226)), (1, .int x1), (2, .int x2), (3, .int x3), (4, .int x4), (5, .int x5)] [] M Q) (hs : s_X13_wedTo_85 M x1 x2 x3 x4 x5 x6 q9) (hQ : K (f_X13_wedTo_85 M x1 x2 x3 x4 x5 x6 k9)) : gG E RX13 cX13_wedTo 8 (some .int) (rm 0) 85 [(0, .ref (gla E 226)), (1, .int x1), (2, .int x2), (3, .int x3), (4, .int x4), (5, .int x5), (6, .int x6)] [] M Q := by
  rw [s_X13_wedTo_85] at hs
  rw [f_X13_wedTo_85] at hQ
  refine g_iconst (v := 0) dX13_wedTo_85 (by decide) ?_
  exact t_X13_wedTo_86 hK x1 x2 x3 x4 x5 x6 0 k9 q9 hk9 hs hQ
def f_X13_wedTo_54 (M : gM) (x1 : Int32) (x2 : Int32) (x3 : Int32) (x4 : Int32) (x5 : Int32) (x6 : Int32) (k9 : Int32 → Int32 → Int32 → Int32) : Int32 :=
  if x2 < (rdI M 92 0 0 (nn (x6 + 2))) then
    (f_X13_wedTo_85 M x1 x2 x3 x4 x5 x6 k9)
  else
    (if (rdI M 92 0 0 (nn (x6 + 2))) < x4 then
      (f_X13_wedTo_85 M x1 x2 x3 x4 x5 x6 k9)
    else
      (f_X13_wedTo_86 M x1 x2 x3 x4 x5 x6 1 k9))
def s_X13_wedTo_54 (M : gM) (x1 : Int32) (x2 : Int32) (x3 : Int32) (x4 : Int32) (x5 : Int32) (x6 : Int32) (q9 : Int32 → Int32 → Int32 → Prop) : Prop :=
  (vp_in (x6 + 2) 65) ∧
  (if x2 < (rdI M 92 0 0 (nn (x6 + 2))) then
    (s_X13_wedTo_85 M x1 x2 x3 x4 x5 x6 q9)
  else
    ((vp_in (x6 + 2) 65) ∧
    (if (rdI M 92 0 0 (nn (x6 + 2))) < x4 then
      (s_X13_wedTo_85 M x1 x2 x3 x4 x5 x6 q9)
    else
      (s_X13_wedTo_86 M x1 x2 x3 x4 x5 x6 1 q9))))
set_option maxRecDepth 100000 in
set_option maxHeartbeats 4000000 in
theorem t_X13_wedTo_54 {E : gE} {K : Int32 → Prop} {Q : Option Value → gM → Prop} {M : gM} (hK : ∀ z : Int32, K z → Q (some (.int z)) M) (x1 : Int32) (x2 : Int32) (x3 : Int32) (x4 : Int32) (x5 : Int32) (x6 : Int32)  (k9 : Int32 → Int32 → Int32 → Int32) (q9 : Int32 → Int32 → Int32 → Prop) (hk9 : ∀ (x3 : Int32) (x4 : Int32) (x5 : Int32) , q9 x3 x4 x5 → K (k9 x3 x4 x5) → gG E RX13 cX13_wedTo 8 (some .int) (rm 0) 9 [(0, .ref (gla E 226)), (1, .int x1), (2, .int x2), (3, .int x3), (4, .int x4), (5, .int x5)] [] M Q) (hs : s_X13_wedTo_54 M x1 x2 x3 x4 x5 x6 q9) (hQ : K (f_X13_wedTo_54 M x1 x2 x3 x4 x5 x6 k9)) : gG E RX13 cX13_wedTo 8 (some .int) (rm 0) 54 [(0, .ref (gla E 226)), (1, .int x1), (2, .int x2), (3, .int x3), (4, .int x4), (5, .int x5), (6, .int x6)] [] M Q := by
  rw [s_X13_wedTo_54] at hs
  rw [f_X13_wedTo_54] at hQ
  refine g_aload_n 0 dX13_wedTo_54 rfl ?_
  refine g_getR 226 232 fd_X13_25 dF_Md rfl rfl dX13_wedTo_55 ?_
  refine g_iload 6 dX13_wedTo_58 rfl ?_
  refine g_iconst (v := 2) dX13_wedTo_60 (by decide) ?_
  refine g_iadd dX13_wedTo_61 ?_
  have h7 := hs.1; have hs := hs.2
  refine g_iald 232 dF_Md_now h7 dX13_wedTo_62 ?_
  refine g_iload_n 2 dX13_wedTo_63 rfl ?_
  refine g_icmp_gt 85 dX13_wedTo_64 (by decide) (fun c8 => ?_) (fun c8 => ?_)
  · have hs := ifSt hs c8; have hQ := ifQt hQ c8
    exact t_X13_wedTo_85 hK x1 x2 x3 x4 x5 x6 k9 q9 hk9 hs hQ
  · have hs := ifSf hs c8; have hQ := ifQf hQ c8
    refine g_aload_n 0 dX13_wedTo_67 rfl ?_
    refine g_getR 226 232 fd_X13_25 dF_Md rfl rfl dX13_wedTo_68 ?_
    refine g_iload 6 dX13_wedTo_71 rfl ?_
    refine g_iconst (v := 2) dX13_wedTo_73 (by decide) ?_
    refine g_iadd dX13_wedTo_74 ?_
    have h9 := hs.1; have hs := hs.2
    refine g_iald 232 dF_Md_now h9 dX13_wedTo_75 ?_
    refine g_iload 4 dX13_wedTo_76 rfl ?_
    refine g_icmp_lt 85 dX13_wedTo_78 (by decide) (fun c10 => ?_) (fun c10 => ?_)
    · have hs := ifSt hs c10; have hQ := ifQt hQ c10
      exact t_X13_wedTo_85 hK x1 x2 x3 x4 x5 x6 k9 q9 hk9 hs hQ
    · have hs := ifSf hs c10; have hQ := ifQf hQ c10
      refine g_iconst (v := 1) dX13_wedTo_81 (by decide) ?_
      refine g_goto 86 dX13_wedTo_82 (by decide) ?_
      exact t_X13_wedTo_86 hK x1 x2 x3 x4 x5 x6 1 k9 q9 hk9 hs hQ
def f_X13_wedTo_9 (M : gM) (x1 : Int32) (x2 : Int32)  : Nat → Int32 → Int32 → Int32 → Int32
  | 0, _, _, _ => 0
  | n + 1, x3, x4, x5 =>
    if (rdI M 92 0 0 (nn 64)) ≤ x5 then
      (x3)
    else
      (if (rdI M 92 0 0 (nn (46 + (3 * x5)))) = x1 then
        (f_X13_wedTo_54 M x1 x2 x3 x4 x5 (46 + (3 * x5)) (f_X13_wedTo_9 M x1 x2 n))
      else
        (if (rdI M 92 0 0 (nn ((46 + (3 * x5)) + 1))) = x1 then
          (f_X13_wedTo_54 M x1 x2 x3 x4 x5 (46 + (3 * x5)) (f_X13_wedTo_9 M x1 x2 n))
        else
          (f_X13_wedTo_85 M x1 x2 x3 x4 x5 (46 + (3 * x5)) (f_X13_wedTo_9 M x1 x2 n))))
def s_X13_wedTo_9 (M : gM) (x1 : Int32) (x2 : Int32)  : Nat → Int32 → Int32 → Int32 → Prop
  | 0, _, _, _ => False
  | n + 1, x3, x4, x5 =>
    (vp_in 64 65) ∧
    (if (rdI M 92 0 0 (nn 64)) ≤ x5 then
      (True)
    else
      ((vp_in (46 + (3 * x5)) 65) ∧
      (if (rdI M 92 0 0 (nn (46 + (3 * x5)))) = x1 then
        (s_X13_wedTo_54 M x1 x2 x3 x4 x5 (46 + (3 * x5)) (s_X13_wedTo_9 M x1 x2 n))
      else
        ((vp_in ((46 + (3 * x5)) + 1) 65) ∧
        (if (rdI M 92 0 0 (nn ((46 + (3 * x5)) + 1))) = x1 then
          (s_X13_wedTo_54 M x1 x2 x3 x4 x5 (46 + (3 * x5)) (s_X13_wedTo_9 M x1 x2 n))
        else
          (s_X13_wedTo_85 M x1 x2 x3 x4 x5 (46 + (3 * x5)) (s_X13_wedTo_9 M x1 x2 n)))))))
set_option maxRecDepth 100000 in
set_option maxHeartbeats 4000000 in
theorem t_X13_wedTo_9 {E : gE} {K : Int32 → Prop} {Q : Option Value → gM → Prop} {M : gM} (hK : ∀ z : Int32, K z → Q (some (.int z)) M) (x1 : Int32) (x2 : Int32)   : ∀ (n : Nat) (x3 : Int32) (x4 : Int32) (x5 : Int32) , s_X13_wedTo_9 M x1 x2  n x3 x4 x5 → K (f_X13_wedTo_9 M x1 x2  n x3 x4 x5) → gG E RX13 cX13_wedTo 8 (some .int) (rm 0) 9 [(0, .ref (gla E 226)), (1, .int x1), (2, .int x2), (3, .int x3), (4, .int x4), (5, .int x5)] [] M Q := by
  intro n
  induction n with
  | zero => intro x3 x4 x5 hs hQ; exact (hs : False).elim
  | succ n ih =>
    intro x3 x4 x5 hs hQ
    rw [s_X13_wedTo_9] at hs
    rw [f_X13_wedTo_9] at hQ
    refine g_iload 5 dX13_wedTo_9 rfl ?_
    refine g_aload_n 0 dX13_wedTo_11 rfl ?_
    refine g_getR 226 232 fd_X13_25 dF_Md rfl rfl dX13_wedTo_12 ?_
    refine g_bipush (v := 64) dX13_wedTo_15 (by decide) ?_
    have h1 := hs.1; have hs := hs.2
    refine g_iald 232 dF_Md_now h1 dX13_wedTo_17 ?_
    refine g_icmp_ge 144 dX13_wedTo_18 (by decide) (fun c2 => ?_) (fun c2 => ?_)
    · have hs := ifSt hs c2; have hQ := ifQt hQ c2
      refine g_iload_n 3 dX13_wedTo_144 rfl ?_
      exact g_iret rfl dX13_wedTo_145 (hK _ hQ)
    · have hs := ifSf hs c2; have hQ := ifQf hQ c2
      refine g_bipush (v := 46) dX13_wedTo_21 (by decide) ?_
      refine g_iconst (v := 3) dX13_wedTo_23 (by decide) ?_
      refine g_iload 5 dX13_wedTo_24 rfl ?_
      refine g_imul dX13_wedTo_26 ?_
      refine g_iadd dX13_wedTo_27 ?_
      refine g_istore _ dX13_wedTo_28 (by decide) rfl ?_
      refine g_aload_n 1 dX13_wedTo_30 rfl ?_
      refine g_getR 226 232 fd_X13_25 dF_Md rfl rfl dX13_wedTo_31 ?_
      refine g_iload 0 dX13_wedTo_34 rfl ?_
      have h3 := hs.1; have hs := hs.2
      refine g_iald 232 dF_Md_now h3 dX13_wedTo_36 ?_
      refine g_iload_n 2 dX13_wedTo_37 rfl ?_
      refine g_icmp_eq 54 dX13_wedTo_38 (by decide) (fun c4 => ?_) (fun c4 => ?_)
      · have hs := ifSt hs c4; have hQ := ifQt hQ c4
        refine g_sub [1, 2, 3, 4, 5, 6, 0] _ rfl ?_
        exact t_X13_wedTo_54 hK x1 x2 x3 x4 x5 (46 + (3 * x5)) (f_X13_wedTo_9 M x1 x2 n) (s_X13_wedTo_9 M x1 x2 n) ih hs hQ
      · have hs := ifSf hs c4; have hQ := ifQf hQ c4
        refine g_aload_n 1 dX13_wedTo_41 rfl ?_
        refine g_getR 226 232 fd_X13_25 dF_Md rfl rfl dX13_wedTo_42 ?_
        refine g_iload 0 dX13_wedTo_45 rfl ?_
        refine g_iconst (v := 1) dX13_wedTo_47 (by decide) ?_
        refine g_iadd dX13_wedTo_48 ?_
        have h5 := hs.1; have hs := hs.2
        refine g_iald 232 dF_Md_now h5 dX13_wedTo_49 ?_
        refine g_iload_n 2 dX13_wedTo_50 rfl ?_
        refine g_icmp_ne 85 dX13_wedTo_51 (by decide) (fun c6 => ?_) (fun c6 => ?_)
        · have hs := ifSf hs c6; have hQ := ifQf hQ c6
          refine g_sub [1, 2, 3, 4, 5, 6, 0] _ rfl ?_
          exact t_X13_wedTo_85 hK x1 x2 x3 x4 x5 (46 + (3 * x5)) (f_X13_wedTo_9 M x1 x2 n) (s_X13_wedTo_9 M x1 x2 n) ih hs hQ
        · have hs := ifSt hs c6; have hQ := ifQt hQ c6
          refine g_sub [1, 2, 3, 4, 5, 6, 0] _ rfl ?_
          exact t_X13_wedTo_54 hK x1 x2 x3 x4 x5 (46 + (3 * x5)) (f_X13_wedTo_9 M x1 x2 n) (s_X13_wedTo_9 M x1 x2 n) ih hs hQ
def f_X13_wedTo (M : gM) (x1 : Int32) (x2 : Int32) : Int32 :=
  f_X13_wedTo_9 M x1 x2 FU (-2) (-1) 0
def s_X13_wedTo (M : gM) (x1 : Int32) (x2 : Int32) : Prop :=
  s_X13_wedTo_9 M x1 x2 FU (-2) (-1) 0
set_option maxRecDepth 100000 in
set_option maxHeartbeats 4000000 in
theorem t_X13_wedTo {E : gE} {K : Int32 → Prop} {Q : Option Value → gM → Prop} {M : gM} (hK : ∀ z : Int32, K z → Q (some (.int z)) M)  (x1 : Int32) (x2 : Int32)  (hs : s_X13_wedTo M x1 x2) (hQ : K (f_X13_wedTo M x1 x2)) : gG E RX13 cX13_wedTo 8 (some .int) (rm 0) 0 [(0, .ref (gla E 226)), (1, .int x1), (2, .int x2)] [] M Q := by
  rw [s_X13_wedTo] at hs
  rw [f_X13_wedTo] at hQ
  refine g_bipush (v := (-2)) dX13_wedTo_0 (by decide) ?_
  refine g_istore_n _ dX13_wedTo_2 (by decide) rfl ?_
  refine g_iconst (v := (-1)) dX13_wedTo_3 (by decide) ?_
  refine g_istore _ dX13_wedTo_4 (by decide) rfl ?_
  refine g_iconst (v := 0) dX13_wedTo_6 (by decide) ?_
  refine g_istore _ dX13_wedTo_7 (by decide) rfl ?_
  refine g_sub [3, 4, 5, 2, 1, 0] _ rfl ?_
  exact t_X13_wedTo_9 hK x1 x2 FU (-2) (-1) 0 hs hQ
theorem c_X13_wedTo (E : gE) (M : gM) (x1 : Int32) (x2 : Int32) (hs : s_X13_wedTo M x1 x2) : gC E yX13_wedTo cX13_wedTo 8 (some .int) (rm 0) [.ref (gla E 226), .int x1, .int x2] M (fun o N => o = some (.int (f_X13_wedTo M x1 x2)) ∧ N = M) :=
  gC.of (by decide +kernel) (Nat.le_of_ble_eq_true rfl) rfl (t_X13_wedTo (K := fun z => z = f_X13_wedTo M x1 x2) (fun z hz => by rw [hz]; exact ⟨rfl, rfl⟩) x1 x2 hs rfl)
def f_X13_land_38 (M : gM)  : Int32 × gM :=
  ((-1), M)
def s_X13_land_38 (M : gM)  : Prop :=
  True
theorem o_X13_land_38 (M : gM)  : offW [67] M (f_X13_land_38 M ).2 := by
  rw [f_X13_land_38]
  exact offR
set_option maxRecDepth 100000 in
set_option maxHeartbeats 4000000 in
theorem t_X13_land_38 {E : gE} {K : Int32 × gM → Prop} {Q : Option Value → gM → Prop} (hK : ∀ z : Int32 × gM, K z → Q (some (.int z.1)) z.2) (M : gM)   (hs : s_X13_land_38 M ) (hQ : K (f_X13_land_38 M )) : gG E RX13 cX13_land 3 (some .int) (rm 0) 38 [] [] M Q := by
  rw [s_X13_land_38] at hs
  rw [f_X13_land_38] at hQ
  refine g_iconst (v := (-1)) dX13_land_38 (by decide) ?_
  exact g_iret rfl dX13_land_39 (hK _ hQ)
def f_X13_land_14 (M : gM) (x1 : Int32) (x2 : Int32)  : Int32 × gM :=
  if x2 < 0 then
    (f_X13_land_38 M)
  else
    (if 4 < x2 then
      (f_X13_land_38 M)
    else
      ((rdI M 88 0 0 (nn ((4 + (5 * x1)) + x2)), M)))
def s_X13_land_14 (M : gM) (x1 : Int32) (x2 : Int32)  : Prop :=
  if x2 < 0 then
    (s_X13_land_38 M)
  else
    (if 4 < x2 then
      (s_X13_land_38 M)
    else
      ((vp_in ((4 + (5 * x1)) + x2) 502) ∧
      (True)))
theorem o_X13_land_14 (M : gM) (x1 : Int32) (x2 : Int32)  : offW [67] M (f_X13_land_14 M x1 x2 ).2 := by
  rw [f_X13_land_14]
  refine offI2 ?_ ?_
  · exact (o_X13_land_38 M)
  · refine offI2 ?_ ?_
    · exact (o_X13_land_38 M)
    · exact offR
set_option maxRecDepth 100000 in
set_option maxHeartbeats 4000000 in
theorem t_X13_land_14 {E : gE} {K : Int32 × gM → Prop} {Q : Option Value → gM → Prop} (hK : ∀ z : Int32 × gM, K z → Q (some (.int z.1)) z.2) (M : gM) (x1 : Int32) (x2 : Int32)   (hs : s_X13_land_14 M x1 x2 ) (hQ : K (f_X13_land_14 M x1 x2 )) : gG E RX13 cX13_land 3 (some .int) (rm 0) 14 [(0, .ref (gla E 226)), (1, .int x1), (2, .int x2)] [] M Q := by
  rw [s_X13_land_14] at hs
  rw [f_X13_land_14] at hQ
  refine g_iload_n 2 dX13_land_14 rfl ?_
  refine g_if_lt 38 dX13_land_15 (by decide) (fun c4 => ?_) (fun c4 => ?_)
  · have hs := ifSt hs c4; have hQ := ifQt hQ c4
    refine g_sub [] _ rfl ?_
    exact t_X13_land_38 hK M hs hQ
  · have hs := ifSf hs c4; have hQ := ifQf hQ c4
    refine g_iload_n 2 dX13_land_18 rfl ?_
    refine g_iconst (v := 4) dX13_land_19 (by decide) ?_
    refine g_icmp_gt 38 dX13_land_20 (by decide) (fun c5 => ?_) (fun c5 => ?_)
    · have hs := ifSt hs c5; have hQ := ifQt hQ c5
      refine g_sub [] _ rfl ?_
      exact t_X13_land_38 hK M hs hQ
    · have hs := ifSf hs c5; have hQ := ifQf hQ c5
      refine g_aload_n 0 dX13_land_23 rfl ?_
      refine g_getR 226 228 fd_X13_13 dF_Md rfl rfl dX13_land_24 ?_
      refine g_iconst (v := 4) dX13_land_27 (by decide) ?_
      refine g_iconst (v := 5) dX13_land_28 (by decide) ?_
      refine g_iload_n 1 dX13_land_29 rfl ?_
      refine g_imul dX13_land_30 ?_
      refine g_iadd dX13_land_31 ?_
      refine g_iload_n 2 dX13_land_32 rfl ?_
      refine g_iadd dX13_land_33 ?_
      have h6 := hs.1; have hs := hs.2
      refine g_iald 228 dF_Md_world h6 dX13_land_34 ?_
      refine g_goto 39 dX13_land_35 (by decide) ?_
      exact g_iret rfl dX13_land_39 (hK _ hQ)
def f_X13_land (M : gM) (x1 : Int32) (x2 : Int32) : Int32 × gM :=
  bnd (wrI M 67 0 0 0 0) fun M1 =>
  (if x1 = 0 then
    (f_X13_land_14 M1 x1 x2)
  else
    (if x1 = 1 then
      (f_X13_land_14 M1 x1 x2)
    else
      (f_X13_land_38 M1)))
def s_X13_land (M : gM) (x1 : Int32) (x2 : Int32) : Prop :=
  bndP (wrI M 67 0 0 0 0) fun M1 =>
  (if x1 = 0 then
    (s_X13_land_14 M1 x1 x2)
  else
    (if x1 = 1 then
      (s_X13_land_14 M1 x1 x2)
    else
      (s_X13_land_38 M1)))
theorem o_X13_land (M : gM) (x1 : Int32) (x2 : Int32) : offW [67] M (f_X13_land M x1 x2).2 := by
  rw [f_X13_land]
  refine offB2 (offR.wI (by decide)) (fun M1 oM1 => ?_)
  refine offI2 ?_ ?_
  · exact oM1.tr (o_X13_land_14 M1 x1 x2)
  · refine offI2 ?_ ?_
    · exact oM1.tr (o_X13_land_14 M1 x1 x2)
    · exact oM1.tr (o_X13_land_38 M1)
set_option maxRecDepth 100000 in
set_option maxHeartbeats 4000000 in
theorem t_X13_land {E : gE} {K : Int32 × gM → Prop} {Q : Option Value → gM → Prop} (hK : ∀ z : Int32 × gM, K z → Q (some (.int z.1)) z.2) (M : gM) (x1 : Int32) (x2 : Int32)  (hs : s_X13_land M x1 x2) (hQ : K (f_X13_land M x1 x2)) : gG E RX13 cX13_land 3 (some .int) (rm 0) 0 [(0, .ref (gla E 226)), (1, .int x1), (2, .int x2)] [] M Q := by
  rw [s_X13_land] at hs
  rw [f_X13_land] at hQ
  refine g_aload_n 0 dX13_land_0 rfl ?_
  refine g_iconst (v := 0) dX13_land_1 (by decide) ?_
  refine g_putI 226 fd_X13_61 dF_Md rfl dX13_land_2 (fun M1 hM1 => ?_)
  have hQ := bndQ hQ M1 hM1; have hs := bndS hs M1 hM1
  refine g_iload_n 1 dX13_land_5 rfl ?_
  refine g_if_eq 14 dX13_land_6 (by decide) (fun c2 => ?_) (fun c2 => ?_)
  · have hs := ifSt hs c2; have hQ := ifQt hQ c2
    exact t_X13_land_14 hK M1 x1 x2 hs hQ
  · have hs := ifSf hs c2; have hQ := ifQf hQ c2
    refine g_iload_n 1 dX13_land_9 rfl ?_
    refine g_iconst (v := 1) dX13_land_10 (by decide) ?_
    refine g_icmp_ne 38 dX13_land_11 (by decide) (fun c3 => ?_) (fun c3 => ?_)
    · have hs := ifSf hs c3; have hQ := ifQf hQ c3
      refine g_sub [] _ rfl ?_
      exact t_X13_land_38 hK M1 hs hQ
    · have hs := ifSt hs c3; have hQ := ifQt hQ c3
      exact t_X13_land_14 hK M1 x1 x2 hs hQ
theorem c_X13_land (E : gE) (M : gM) (x1 : Int32) (x2 : Int32) (hs : s_X13_land M x1 x2) : gC E yX13_land cX13_land 3 (some .int) (rm 0) [.ref (gla E 226), .int x1, .int x2] M (fun o N => o = some (.int (f_X13_land M x1 x2).1) ∧ N = (f_X13_land M x1 x2).2) :=
  gC.of (by decide +kernel) (Nat.le_of_ble_eq_true rfl) rfl (t_X13_land (K := fun z => z = f_X13_land M x1 x2) (fun z hz => by rw [hz]; exact ⟨rfl, rfl⟩) M x1 x2 hs rfl)
def f_X13_keeps_54   : Nat → gM → Int32 → gM
  | 0, M, _ => M
  | n + 1, M, x1 =>
    if 65 ≤ x1 then
      (bnd (wrI M 69 0 0 0 ((rdI M 69 0 0 0) + 1)) fun M3 =>
      (M3))
    else
      (bnd (wrI M 94 0 0 (nn ((65 * (rdI M 69 0 0 0)) + x1)) (rdI M 92 0 0 (nn x1))) fun M6 =>
      (f_X13_keeps_54 n M6 (x1 + 1)))
def s_X13_keeps_54   : Nat → gM → Int32 → Prop
  | 0, _, _ => False
  | n + 1, M, x1 =>
    if 65 ≤ x1 then
      (bndP (wrI M 69 0 0 0 ((rdI M 69 0 0 0) + 1)) fun M3 =>
      (True))
    else
      ((vp_in x1 65) ∧
      ((vp_in ((65 * (rdI M 69 0 0 0)) + x1) 1040) ∧
      (bndP (wrI M 94 0 0 (nn ((65 * (rdI M 69 0 0 0)) + x1)) (rdI M 92 0 0 (nn x1))) fun M6 =>
      (s_X13_keeps_54 n M6 (x1 + 1)))))
theorem o_X13_keeps_54   : ∀ (n : Nat) (M : gM) (x1 : Int32), offW [69, 94] M (f_X13_keeps_54   n M x1) := by
  intro n
  induction n with
  | zero => intro M x1; exact offR
  | succ n ih =>
    intro M x1
    rw [f_X13_keeps_54]
    refine offI ?_ ?_
    · refine offB (offR.wI (by decide)) (fun M3 oM3 => ?_)
      exact oM3
    · refine offB (offR.wI (by decide)) (fun M6 oM6 => ?_)
      exact oM6.tr (ih M6 (x1 + 1))
set_option maxRecDepth 100000 in
set_option maxHeartbeats 4000000 in
theorem t_X13_keeps_54 {E : gE} {K : gM → Prop} {Q : Option Value → gM → Prop} (hK : ∀ z : gM, K z → Q none z)    : ∀ (n : Nat) (M : gM) (x1 : Int32) , s_X13_keeps_54   n M x1 → K (f_X13_keeps_54   n M x1) → gG E RX13 cX13_keeps 2 none (rm 0) 54 [(0, .ref (gla E 226)), (1, .int x1)] [] M Q := by
  intro n
  induction n with
  | zero => intro M x1 hs hQ; exact (hs : False).elim
  | succ n ih =>
    intro M x1 hs hQ
    rw [s_X13_keeps_54] at hs
    rw [f_X13_keeps_54] at hQ
    refine g_iload_n 1 dX13_keeps_54 rfl ?_
    refine g_bipush (v := 65) dX13_keeps_55 (by decide) ?_
    refine g_icmp_ge 86 dX13_keeps_57 (by decide) (fun c2 => ?_) (fun c2 => ?_)
    · have hs := ifSt hs c2; have hQ := ifQt hQ c2
      refine g_aload_n 0 dX13_keeps_86 rfl ?_
      refine g_dup dX13_keeps_87 rfl ?_
      refine g_getI 226 fd_X13_194 dF_Md rfl dX13_keeps_88 ?_
      refine g_iconst (v := 1) dX13_keeps_91 (by decide) ?_
      refine g_iadd dX13_keeps_92 ?_
      refine g_putI 226 fd_X13_194 dF_Md rfl dX13_keeps_93 (fun M3 hM3 => ?_)
      have hQ := bndQ hQ M3 hM3; have hs := bndS hs M3 hM3
      exact g_vret rfl dX13_keeps_96 (hK _ hQ)
    · have hs := ifSf hs c2; have hQ := ifQf hQ c2
      refine g_aload_n 0 dX13_keeps_60 rfl ?_
      refine g_getR 226 234 fd_X13_31 dF_Md rfl rfl dX13_keeps_61 ?_
      refine g_bipush (v := 65) dX13_keeps_64 (by decide) ?_
      refine g_aload_n 0 dX13_keeps_66 rfl ?_
      refine g_getI 226 fd_X13_194 dF_Md rfl dX13_keeps_67 ?_
      refine g_imul dX13_keeps_70 ?_
      refine g_iload_n 1 dX13_keeps_71 rfl ?_
      refine g_iadd dX13_keeps_72 ?_
      refine g_aload_n 0 dX13_keeps_73 rfl ?_
      refine g_getR 226 232 fd_X13_25 dF_Md rfl rfl dX13_keeps_74 ?_
      refine g_iload_n 1 dX13_keeps_77 rfl ?_
      have h4 := hs.1; have hs := hs.2
      refine g_iald 232 dF_Md_now h4 dX13_keeps_78 ?_
      have h5 := hs.1; have hs := hs.2
      refine g_iast 234 dF_Md_past h5 dX13_keeps_79 (fun M6 hM6 => ?_)
      have hQ := bndQ hQ M6 hM6; have hs := bndS hs M6 hM6
      refine g_iinc 1 (v := x1 + 1) _ dX13_keeps_80 rfl rfl (by decide) rfl ?_
      refine g_goto 54 dX13_keeps_83 (by decide) ?_
      refine g_sub [1, 0] _ rfl ?_
      exact ih M6 (x1 + 1) hs hQ
def f_X13_keeps_12   : Nat → gM → Int32 → gM
  | 0, M, _ => M
  | n + 1, M, x1 =>
    if 1040 ≤ x1 then
      (bnd (wrI M 69 0 0 0 ((rdI M 69 0 0 0) - 1)) fun M8 =>
      (f_X13_keeps_54 FU M8 0))
    else
      (bnd (wrI M 94 0 0 (nn (x1 - 65)) (rdI M 94 0 0 (nn x1))) fun M11 =>
      (f_X13_keeps_12 n M11 (x1 + 1)))
def s_X13_keeps_12   : Nat → gM → Int32 → Prop
  | 0, _, _ => False
  | n + 1, M, x1 =>
    if 1040 ≤ x1 then
      (bndP (wrI M 69 0 0 0 ((rdI M 69 0 0 0) - 1)) fun M8 =>
      (s_X13_keeps_54 FU M8 0))
    else
      ((vp_in x1 1040) ∧
      ((vp_in (x1 - 65) 1040) ∧
      (bndP (wrI M 94 0 0 (nn (x1 - 65)) (rdI M 94 0 0 (nn x1))) fun M11 =>
      (s_X13_keeps_12 n M11 (x1 + 1)))))
theorem o_X13_keeps_12   : ∀ (n : Nat) (M : gM) (x1 : Int32), offW [69, 94] M (f_X13_keeps_12   n M x1) := by
  intro n
  induction n with
  | zero => intro M x1; exact offR
  | succ n ih =>
    intro M x1
    rw [f_X13_keeps_12]
    refine offI ?_ ?_
    · refine offB (offR.wI (by decide)) (fun M8 oM8 => ?_)
      exact oM8.tr (o_X13_keeps_54  FU M8 0)
    · refine offB (offR.wI (by decide)) (fun M11 oM11 => ?_)
      exact oM11.tr (ih M11 (x1 + 1))
set_option maxRecDepth 100000 in
set_option maxHeartbeats 4000000 in
theorem t_X13_keeps_12 {E : gE} {K : gM → Prop} {Q : Option Value → gM → Prop} (hK : ∀ z : gM, K z → Q none z)    : ∀ (n : Nat) (M : gM) (x1 : Int32) , s_X13_keeps_12   n M x1 → K (f_X13_keeps_12   n M x1) → gG E RX13 cX13_keeps 2 none (rm 0) 12 [(0, .ref (gla E 226)), (1, .int x1)] [] M Q := by
  intro n
  induction n with
  | zero => intro M x1 hs hQ; exact (hs : False).elim
  | succ n ih =>
    intro M x1 hs hQ
    rw [s_X13_keeps_12] at hs
    rw [f_X13_keeps_12] at hQ
    refine g_iload_n 1 dX13_keeps_12 rfl ?_
    refine g_aload_n 0 dX13_keeps_13 rfl ?_
    refine g_getR 226 234 fd_X13_31 dF_Md rfl rfl dX13_keeps_14 ?_
    refine g_alen (v := 1040) 234 rfl dF_Md_past rfl dX13_keeps_17 ?_
    refine g_icmp_ge 42 dX13_keeps_18 (by decide) (fun c7 => ?_) (fun c7 => ?_)
    · have hs := ifSt hs c7; have hQ := ifQt hQ c7
      refine g_aload_n 0 dX13_keeps_42 rfl ?_
      refine g_dup dX13_keeps_43 rfl ?_
      refine g_getI 226 fd_X13_194 dF_Md rfl dX13_keeps_44 ?_
      refine g_iconst (v := 1) dX13_keeps_47 (by decide) ?_
      refine g_isub dX13_keeps_48 ?_
      refine g_putI 226 fd_X13_194 dF_Md rfl dX13_keeps_49 (fun M8 hM8 => ?_)
      have hQ := bndQ hQ M8 hM8; have hs := bndS hs M8 hM8
      refine g_iconst (v := 0) dX13_keeps_52 (by decide) ?_
      refine g_istore_n _ dX13_keeps_53 (by decide) rfl ?_
      refine g_sub [1, 0] _ rfl ?_
      exact t_X13_keeps_54 hK FU M8 0 hs hQ
    · have hs := ifSf hs c7; have hQ := ifQf hQ c7
      refine g_aload_n 0 dX13_keeps_21 rfl ?_
      refine g_getR 226 234 fd_X13_31 dF_Md rfl rfl dX13_keeps_22 ?_
      refine g_iload_n 1 dX13_keeps_25 rfl ?_
      refine g_bipush (v := 65) dX13_keeps_26 (by decide) ?_
      refine g_isub dX13_keeps_28 ?_
      refine g_aload_n 0 dX13_keeps_29 rfl ?_
      refine g_getR 226 234 fd_X13_31 dF_Md rfl rfl dX13_keeps_30 ?_
      refine g_iload_n 1 dX13_keeps_33 rfl ?_
      have h9 := hs.1; have hs := hs.2
      refine g_iald 234 dF_Md_past h9 dX13_keeps_34 ?_
      have h10 := hs.1; have hs := hs.2
      refine g_iast 234 dF_Md_past h10 dX13_keeps_35 (fun M11 hM11 => ?_)
      have hQ := bndQ hQ M11 hM11; have hs := bndS hs M11 hM11
      refine g_iinc 1 (v := x1 + 1) _ dX13_keeps_36 rfl rfl (by decide) rfl ?_
      refine g_goto 12 dX13_keeps_39 (by decide) ?_
      refine g_sub [1, 0] _ rfl ?_
      exact ih M11 (x1 + 1) hs hQ
def f_X13_keeps (M : gM) : gM :=
  if (rdI M 69 0 0 0) = 16 then
    (f_X13_keeps_12 FU M 65)
  else
    (f_X13_keeps_54 FU M 0)
def s_X13_keeps (M : gM) : Prop :=
  if (rdI M 69 0 0 0) = 16 then
    (s_X13_keeps_12 FU M 65)
  else
    (s_X13_keeps_54 FU M 0)
theorem o_X13_keeps (M : gM) : offW [69, 94] M (f_X13_keeps M) := by
  rw [f_X13_keeps]
  refine offI ?_ ?_
  · exact (o_X13_keeps_12  FU M 65)
  · exact (o_X13_keeps_54  FU M 0)
set_option maxRecDepth 100000 in
set_option maxHeartbeats 4000000 in
theorem t_X13_keeps {E : gE} {K : gM → Prop} {Q : Option Value → gM → Prop} (hK : ∀ z : gM, K z → Q none z) (M : gM)  (hs : s_X13_keeps M) (hQ : K (f_X13_keeps M)) : gG E RX13 cX13_keeps 2 none (rm 0) 0 [(0, .ref (gla E 226))] [] M Q := by
  rw [s_X13_keeps] at hs
  rw [f_X13_keeps] at hQ
  refine g_aload_n 0 dX13_keeps_0 rfl ?_
  refine g_getI 226 fd_X13_194 dF_Md rfl dX13_keeps_1 ?_
  refine g_bipush (v := 16) dX13_keeps_4 (by decide) ?_
  refine g_icmp_ne 52 dX13_keeps_6 (by decide) (fun c1 => ?_) (fun c1 => ?_)
  · have hs := ifSf hs c1; have hQ := ifQf hQ c1
    refine g_iconst (v := 0) dX13_keeps_52 (by decide) ?_
    refine g_istore_n _ dX13_keeps_53 (by decide) rfl ?_
    refine g_sub [1, 0] _ rfl ?_
    exact t_X13_keeps_54 hK FU M 0 hs hQ
  · have hs := ifSt hs c1; have hQ := ifQt hQ c1
    refine g_bipush (v := 65) dX13_keeps_9 (by decide) ?_
    refine g_istore_n _ dX13_keeps_11 (by decide) rfl ?_
    refine g_sub [1, 0] _ rfl ?_
    exact t_X13_keeps_12 hK FU M 65 hs hQ
theorem c_X13_keeps (E : gE) (M : gM)  (hs : s_X13_keeps M) : gC E yX13_keeps cX13_keeps 2 none (rm 0) [.ref (gla E 226)] M (fun o N => o = none ∧ N = f_X13_keeps M) :=
  gC.of (by decide +kernel) (Nat.le_of_ble_eq_true rfl) rfl (t_X13_keeps (K := fun z => z = f_X13_keeps M) (fun z hz => ⟨rfl, hz⟩) M hs rfl)
def f_X13_undo_26   : Nat → gM → Int32 → Int32 × gM
  | 0, M, _ => (0, M)
  | n + 1, M, x1 =>
    if 65 ≤ x1 then
      ((rdI M 69 0 0 0, M))
    else
      (bnd (wrI M 92 0 0 (nn x1) (rdI M 94 0 0 (nn ((65 * (rdI M 69 0 0 0)) + x1)))) fun M7 =>
      (f_X13_undo_26 n M7 (x1 + 1)))
def s_X13_undo_26   : Nat → gM → Int32 → Prop
  | 0, _, _ => False
  | n + 1, M, x1 =>
    if 65 ≤ x1 then
      (True)
    else
      ((vp_in ((65 * (rdI M 69 0 0 0)) + x1) 1040) ∧
      ((vp_in x1 65) ∧
      (bndP (wrI M 92 0 0 (nn x1) (rdI M 94 0 0 (nn ((65 * (rdI M 69 0 0 0)) + x1)))) fun M7 =>
      (s_X13_undo_26 n M7 (x1 + 1)))))
theorem o_X13_undo_26   : ∀ (n : Nat) (M : gM) (x1 : Int32), offW [67, 69, 92] M (f_X13_undo_26   n M x1).2 := by
  intro n
  induction n with
  | zero => intro M x1; exact offR
  | succ n ih =>
    intro M x1
    rw [f_X13_undo_26]
    refine offI2 ?_ ?_
    · exact offR
    · refine offB2 (offR.wI (by decide)) (fun M7 oM7 => ?_)
      exact oM7.tr (ih M7 (x1 + 1))
set_option maxRecDepth 100000 in
set_option maxHeartbeats 4000000 in
theorem t_X13_undo_26 {E : gE} {K : Int32 × gM → Prop} {Q : Option Value → gM → Prop} (hK : ∀ z : Int32 × gM, K z → Q (some (.int z.1)) z.2)    : ∀ (n : Nat) (M : gM) (x1 : Int32) , s_X13_undo_26   n M x1 → K (f_X13_undo_26   n M x1) → gG E RX13 cX13_undo 2 (some .int) (rm 0) 26 [(0, .ref (gla E 226)), (1, .int x1)] [] M Q := by
  intro n
  induction n with
  | zero => intro M x1 hs hQ; exact (hs : False).elim
  | succ n ih =>
    intro M x1 hs hQ
    rw [s_X13_undo_26] at hs
    rw [f_X13_undo_26] at hQ
    refine g_iload_n 1 dX13_undo_26 rfl ?_
    refine g_bipush (v := 65) dX13_undo_27 (by decide) ?_
    refine g_icmp_ge 58 dX13_undo_29 (by decide) (fun c4 => ?_) (fun c4 => ?_)
    · have hs := ifSt hs c4; have hQ := ifQt hQ c4
      refine g_aload_n 0 dX13_undo_58 rfl ?_
      refine g_getI 226 fd_X13_194 dF_Md rfl dX13_undo_59 ?_
      exact g_iret rfl dX13_undo_62 (hK _ hQ)
    · have hs := ifSf hs c4; have hQ := ifQf hQ c4
      refine g_aload_n 0 dX13_undo_32 rfl ?_
      refine g_getR 226 232 fd_X13_25 dF_Md rfl rfl dX13_undo_33 ?_
      refine g_iload_n 1 dX13_undo_36 rfl ?_
      refine g_aload_n 0 dX13_undo_37 rfl ?_
      refine g_getR 226 234 fd_X13_31 dF_Md rfl rfl dX13_undo_38 ?_
      refine g_bipush (v := 65) dX13_undo_41 (by decide) ?_
      refine g_aload_n 0 dX13_undo_43 rfl ?_
      refine g_getI 226 fd_X13_194 dF_Md rfl dX13_undo_44 ?_
      refine g_imul dX13_undo_47 ?_
      refine g_iload_n 1 dX13_undo_48 rfl ?_
      refine g_iadd dX13_undo_49 ?_
      have h5 := hs.1; have hs := hs.2
      refine g_iald 234 dF_Md_past h5 dX13_undo_50 ?_
      have h6 := hs.1; have hs := hs.2
      refine g_iast 232 dF_Md_now h6 dX13_undo_51 (fun M7 hM7 => ?_)
      have hQ := bndQ hQ M7 hM7; have hs := bndS hs M7 hM7
      refine g_iinc 1 (v := x1 + 1) _ dX13_undo_52 rfl rfl (by decide) rfl ?_
      refine g_goto 26 dX13_undo_55 (by decide) ?_
      refine g_sub [1, 0] _ rfl ?_
      exact ih M7 (x1 + 1) hs hQ
def f_X13_undo (M : gM) : Int32 × gM :=
  bnd (wrI M 67 0 0 0 0) fun M1 =>
  (if (rdI M1 69 0 0 0) = 0 then
    (((-1), M1))
  else
    (bnd (wrI M1 69 0 0 0 ((rdI M1 69 0 0 0) - 1)) fun M3 =>
    (f_X13_undo_26 FU M3 0)))
def s_X13_undo (M : gM) : Prop :=
  bndP (wrI M 67 0 0 0 0) fun M1 =>
  (if (rdI M1 69 0 0 0) = 0 then
    (True)
  else
    (bndP (wrI M1 69 0 0 0 ((rdI M1 69 0 0 0) - 1)) fun M3 =>
    (s_X13_undo_26 FU M3 0)))
theorem o_X13_undo (M : gM) : offW [67, 69, 92] M (f_X13_undo M).2 := by
  rw [f_X13_undo]
  refine offB2 (offR.wI (by decide)) (fun M1 oM1 => ?_)
  refine offI2 ?_ ?_
  · exact oM1
  · refine offB2 (oM1.wI (by decide)) (fun M3 oM3 => ?_)
    exact oM3.tr (o_X13_undo_26  FU M3 0)
set_option maxRecDepth 100000 in
set_option maxHeartbeats 4000000 in
theorem t_X13_undo {E : gE} {K : Int32 × gM → Prop} {Q : Option Value → gM → Prop} (hK : ∀ z : Int32 × gM, K z → Q (some (.int z.1)) z.2) (M : gM)  (hs : s_X13_undo M) (hQ : K (f_X13_undo M)) : gG E RX13 cX13_undo 2 (some .int) (rm 0) 0 [(0, .ref (gla E 226))] [] M Q := by
  rw [s_X13_undo] at hs
  rw [f_X13_undo] at hQ
  refine g_aload_n 0 dX13_undo_0 rfl ?_
  refine g_iconst (v := 0) dX13_undo_1 (by decide) ?_
  refine g_putI 226 fd_X13_61 dF_Md rfl dX13_undo_2 (fun M1 hM1 => ?_)
  have hQ := bndQ hQ M1 hM1; have hs := bndS hs M1 hM1
  refine g_aload_n 0 dX13_undo_5 rfl ?_
  refine g_getI 226 fd_X13_194 dF_Md rfl dX13_undo_6 ?_
  refine g_if_ne 14 dX13_undo_9 (by decide) (fun c2 => ?_) (fun c2 => ?_)
  · have hs := ifSf hs c2; have hQ := ifQf hQ c2
    refine g_aload_n 0 dX13_undo_14 rfl ?_
    refine g_dup dX13_undo_15 rfl ?_
    refine g_getI 226 fd_X13_194 dF_Md rfl dX13_undo_16 ?_
    refine g_iconst (v := 1) dX13_undo_19 (by decide) ?_
    refine g_isub dX13_undo_20 ?_
    refine g_putI 226 fd_X13_194 dF_Md rfl dX13_undo_21 (fun M3 hM3 => ?_)
    have hQ := bndQ hQ M3 hM3; have hs := bndS hs M3 hM3
    refine g_iconst (v := 0) dX13_undo_24 (by decide) ?_
    refine g_istore_n _ dX13_undo_25 (by decide) rfl ?_
    refine g_sub [1, 0] _ rfl ?_
    exact t_X13_undo_26 hK FU M3 0 hs hQ
  · have hs := ifSt hs c2; have hQ := ifQt hQ c2
    refine g_iconst (v := (-1)) dX13_undo_12 (by decide) ?_
    exact g_iret rfl dX13_undo_13 (hK _ hQ)
theorem c_X13_undo (E : gE) (M : gM)  (hs : s_X13_undo M) : gC E yX13_undo cX13_undo 2 (some .int) (rm 0) [.ref (gla E 226)] M (fun o N => o = some (.int (f_X13_undo M).1) ∧ N = (f_X13_undo M).2) :=
  gC.of (by decide +kernel) (Nat.le_of_ble_eq_true rfl) rfl (t_X13_undo (K := fun z => z = f_X13_undo M) (fun z hz => by rw [hz]; exact ⟨rfl, rfl⟩) M hs rfl)
def f_X13_common_6 (M : gM)  : Nat → Int64 → Int64 → Int64
  | 0, _, _ => 0
  | n + 1, x4, x6 =>
    if (lg_cmp x6 0) = 0 then
      (x4)
    else
      (f_X13_common_6 M n x6 (x4 - x4 / x6 * x6))
def s_X13_common_6 (M : gM)  : Nat → Int64 → Int64 → Prop
  | 0, _, _ => False
  | n + 1, x4, x6 =>
    if (lg_cmp x6 0) = 0 then
      (True)
    else
      ((¬ x6 = 0) ∧
      (s_X13_common_6 M n x6 (x4 - x4 / x6 * x6)))
set_option maxRecDepth 100000 in
set_option maxHeartbeats 4000000 in
theorem t_X13_common_6 {E : gE} {K : Int64 → Prop} {Q : Option Value → gM → Prop} {M : gM} (hK : ∀ z : Int64, K z → Q (some (.long z)) M)    : ∀ (n : Nat) (x4 : Int64) (x6 : Int64) , s_X13_common_6 M  n x4 x6 → K (f_X13_common_6 M  n x4 x6) → gG E RX13 cX13_common 10 (some .long) (rm 0) 6 [(4, .long x4), (6, .long x6)] [] M Q := by
  intro n
  induction n with
  | zero => intro x4 x6 hs hQ; exact (hs : False).elim
  | succ n ih =>
    intro x4 x6 hs hQ
    rw [s_X13_common_6] at hs
    rw [f_X13_common_6] at hQ
    refine g_lload 1 dX13_common_6 rfl ?_
    refine g_lconst (v := 0) dX13_common_8 (by decide) ?_
    refine g_lcmp dX13_common_9 ?_
    refine g_if_eq 31 dX13_common_10 (by decide) (fun c1 => ?_) (fun c1 => ?_)
    · have hs := ifSt hs c1; have hQ := ifQt hQ c1
      refine g_lload 0 dX13_common_31 rfl ?_
      exact g_lret rfl dX13_common_33 (hK _ hQ)
    · have hs := ifSf hs c1; have hQ := ifQf hQ c1
      refine g_lload 0 dX13_common_13 rfl ?_
      refine g_lload 1 dX13_common_15 rfl ?_
      have h2 := hs.1; have hs := hs.2
      refine g_lrem dX13_common_17 h2 ?_
      refine g_lstore _ dX13_common_18 (by decide) rfl ?_
      refine g_lload 2 dX13_common_20 rfl ?_
      refine g_lstore _ dX13_common_22 (by decide) rfl ?_
      refine g_lload 1 dX13_common_24 rfl ?_
      refine g_lstore _ dX13_common_26 (by decide) rfl ?_
      refine g_goto 6 dX13_common_28 (by decide) ?_
      refine g_sub [1, 0] _ rfl ?_
      exact ih x6 (x4 - x4 / x6 * x6) hs hQ
def f_X13_common (M : gM) (x0 : Int64) (x2 : Int64) : Int64 :=
  f_X13_common_6 M FU x0 x2
def s_X13_common (M : gM) (x0 : Int64) (x2 : Int64) : Prop :=
  s_X13_common_6 M FU x0 x2
set_option maxRecDepth 100000 in
set_option maxHeartbeats 4000000 in
theorem t_X13_common {E : gE} {K : Int64 → Prop} {Q : Option Value → gM → Prop} {M : gM} (hK : ∀ z : Int64, K z → Q (some (.long z)) M)  (x0 : Int64) (x2 : Int64)  (hs : s_X13_common M x0 x2) (hQ : K (f_X13_common M x0 x2)) : gG E RX13 cX13_common 10 (some .long) (rm 0) 0 [(0, .long x0), (2, .long x2)] [] M Q := by
  rw [s_X13_common] at hs
  rw [f_X13_common] at hQ
  refine g_lload_n 0 dX13_common_0 rfl ?_
  refine g_lstore _ dX13_common_1 (by decide) rfl ?_
  refine g_lload_n 2 dX13_common_3 rfl ?_
  refine g_lstore _ dX13_common_4 (by decide) rfl ?_
  refine g_sub [1, 0] _ rfl ?_
  exact t_X13_common_6 hK FU x0 x2 hs hQ
theorem c_X13_common (E : gE) (M : gM) (x0 : Int64) (x2 : Int64) (hs : s_X13_common M x0 x2) : gC E yX13_common cX13_common 10 (some .long) (rm 0) [.long x0, .long x2] M (fun o N => o = some (.long (f_X13_common M x0 x2)) ∧ N = M) :=
  gC.of (by decide +kernel) (Nat.le_of_ble_eq_true rfl) rfl (t_X13_common (K := fun z => z = f_X13_common M x0 x2) (fun z hz => by rw [hz]; exact ⟨rfl, rfl⟩) x0 x2 hs rfl)
def f_X13_holding_4 (M : gM)  : Nat → Int32 → Int32 → Int32
  | 0, _, _ => 0
  | n + 1, x1, x2 =>
    if 10 < x2 then
      (x1)
    else
      (if (lg_cmp (rdJ M 97 0 0 (nn x2)) 0) ≤ 0 then
        (f_X13_holding_4 M n (x1 ||| 0) (x2 + 1))
      else
        (bnd (x1 ||| (1 <<< (x2 &&& 31))) fun v4 =>
        (f_X13_holding_4 M n v4 (x2 + 1))))
def s_X13_holding_4 (M : gM)  : Nat → Int32 → Int32 → Prop
  | 0, _, _ => False
  | n + 1, x1, x2 =>
    if 10 < x2 then
      (True)
    else
      ((vp_in x2 11) ∧
      (if (lg_cmp (rdJ M 97 0 0 (nn x2)) 0) ≤ 0 then
        (s_X13_holding_4 M n (x1 ||| 0) (x2 + 1))
      else
        (bndP (x1 ||| (1 <<< (x2 &&& 31))) fun v4 =>
        (s_X13_holding_4 M n v4 (x2 + 1)))))
set_option maxRecDepth 100000 in
set_option maxHeartbeats 4000000 in
theorem t_X13_holding_4 {E : gE} {K : Int32 → Prop} {Q : Option Value → gM → Prop} {M : gM} (hK : ∀ z : Int32, K z → Q (some (.int z)) M)    : ∀ (n : Nat) (x1 : Int32) (x2 : Int32) , s_X13_holding_4 M  n x1 x2 → K (f_X13_holding_4 M  n x1 x2) → gG E RX13 cX13_holding 3 (some .int) (rm 0) 4 [(0, .ref (gla E 226)), (1, .int x1), (2, .int x2)] [] M Q := by
  intro n
  induction n with
  | zero => intro x1 x2 hs hQ; exact (hs : False).elim
  | succ n ih =>
    intro x1 x2 hs hQ
    rw [s_X13_holding_4] at hs
    rw [f_X13_holding_4] at hQ
    refine g_iload_n 2 dX13_holding_4 rfl ?_
    refine g_bipush (v := 10) dX13_holding_5 (by decide) ?_
    refine g_icmp_gt 37 dX13_holding_7 (by decide) (fun c1 => ?_) (fun c1 => ?_)
    · have hs := ifSt hs c1; have hQ := ifQt hQ c1
      refine g_iload_n 1 dX13_holding_37 rfl ?_
      exact g_iret rfl dX13_holding_38 (hK _ hQ)
    · have hs := ifSf hs c1; have hQ := ifQf hQ c1
      refine g_iload_n 1 dX13_holding_10 rfl ?_
      refine g_aload_n 0 dX13_holding_11 rfl ?_
      refine g_getR 226 237 fd_X13_45 dF_Md rfl rfl dX13_holding_12 ?_
      refine g_iload_n 2 dX13_holding_15 rfl ?_
      have h2 := hs.1; have hs := hs.2
      refine g_lald 237 dF_Md_above h2 dX13_holding_16 ?_
      refine g_lconst (v := 0) dX13_holding_17 (by decide) ?_
      refine g_lcmp dX13_holding_18 ?_
      refine g_if_le 28 dX13_holding_19 (by decide) (fun c3 => ?_) (fun c3 => ?_)
      · have hs := ifSt hs c3; have hQ := ifQt hQ c3
        refine g_iconst (v := 0) dX13_holding_28 (by decide) ?_
        refine g_ior dX13_holding_29 ?_
        refine g_istore_n _ dX13_holding_30 (by decide) rfl ?_
        refine g_iinc 2 (v := x2 + 1) _ dX13_holding_31 rfl rfl (by decide) rfl ?_
        refine g_goto 4 dX13_holding_34 (by decide) ?_
        refine g_sub [2, 1, 0] _ rfl ?_
        exact ih (x1 ||| 0) (x2 + 1) hs hQ
      · have hs := ifSf hs c3; have hQ := ifQf hQ c3
        refine g_iconst (v := 1) dX13_holding_22 (by decide) ?_
        refine g_iload_n 2 dX13_holding_23 rfl ?_
        refine g_ishl dX13_holding_24 ?_
        refine g_goto 29 dX13_holding_25 (by decide) ?_
        refine g_ior dX13_holding_29 ?_
        refine g_topI (fun v4 hv4 => ?_)
        have hQ := bndQ hQ v4 hv4; have hs := bndS hs v4 hv4
        refine g_istore_n _ dX13_holding_30 (by decide) rfl ?_
        refine g_iinc 2 (v := x2 + 1) _ dX13_holding_31 rfl rfl (by decide) rfl ?_
        refine g_goto 4 dX13_holding_34 (by decide) ?_
        refine g_sub [2, 1, 0] _ rfl ?_
        exact ih v4 (x2 + 1) hs hQ
def f_X13_holding (M : gM) : Int32 :=
  f_X13_holding_4 M FU 0 0
def s_X13_holding (M : gM) : Prop :=
  s_X13_holding_4 M FU 0 0
set_option maxRecDepth 100000 in
set_option maxHeartbeats 4000000 in
theorem t_X13_holding {E : gE} {K : Int32 → Prop} {Q : Option Value → gM → Prop} {M : gM} (hK : ∀ z : Int32, K z → Q (some (.int z)) M)   (hs : s_X13_holding M) (hQ : K (f_X13_holding M)) : gG E RX13 cX13_holding 3 (some .int) (rm 0) 0 [(0, .ref (gla E 226))] [] M Q := by
  rw [s_X13_holding] at hs
  rw [f_X13_holding] at hQ
  refine g_iconst (v := 0) dX13_holding_0 (by decide) ?_
  refine g_istore_n _ dX13_holding_1 (by decide) rfl ?_
  refine g_iconst (v := 0) dX13_holding_2 (by decide) ?_
  refine g_istore_n _ dX13_holding_3 (by decide) rfl ?_
  refine g_sub [2, 1, 0] _ rfl ?_
  exact t_X13_holding_4 hK FU 0 0 hs hQ
theorem c_X13_holding (E : gE) (M : gM)  (hs : s_X13_holding M) : gC E yX13_holding cX13_holding 3 (some .int) (rm 0) [.ref (gla E 226)] M (fun o N => o = some (.int (f_X13_holding M)) ∧ N = M) :=
  gC.of (by decide +kernel) (Nat.le_of_ble_eq_true rfl) rfl (t_X13_holding (K := fun z => z = f_X13_holding M) (fun z hz => by rw [hz]; exact ⟨rfl, rfl⟩)  hs rfl)
def f_X13_laysDay (M : gM) (x1 : Int32) : gM :=
  if x1 < 0 then
    (M)
  else
    (if x1 ≤ 9999 then
      (bnd (wrI M 99 0 0 (nn (rdI M 86 0 0 0)) x1) fun M4 =>
      (bnd (wrI M4 86 0 0 0 ((rdI M4 86 0 0 0) + 1)) fun M5 =>
      (M5)))
    else
      (M))
def s_X13_laysDay (M : gM) (x1 : Int32) : Prop :=
  if x1 < 0 then
    (True)
  else
    (if x1 ≤ 9999 then
      ((vp_in (rdI M 86 0 0 0) 60) ∧
      (bndP (wrI M 99 0 0 (nn (rdI M 86 0 0 0)) x1) fun M4 =>
      (bndP (wrI M4 86 0 0 0 ((rdI M4 86 0 0 0) + 1)) fun M5 =>
      (True))))
    else
      (True))
theorem o_X13_laysDay (M : gM) (x1 : Int32) : offW [86, 99] M (f_X13_laysDay M x1) := by
  rw [f_X13_laysDay]
  refine offI ?_ ?_
  · exact offR
  · refine offI ?_ ?_
    · refine offB (offR.wI (by decide)) (fun M4 oM4 => ?_)
      refine offB (oM4.wI (by decide)) (fun M5 oM5 => ?_)
      exact oM5
    · exact offR
set_option maxRecDepth 100000 in
set_option maxHeartbeats 4000000 in
theorem t_X13_laysDay {E : gE} {K : gM → Prop} {Q : Option Value → gM → Prop} (hK : ∀ z : gM, K z → Q none z) (M : gM) (x1 : Int32)  (hs : s_X13_laysDay M x1) (hQ : K (f_X13_laysDay M x1)) : gG E RX13 cX13_laysDay 2 none (rm 0) 0 [(0, .ref (gla E 226)), (1, .int x1)] [] M Q := by
  rw [s_X13_laysDay] at hs
  rw [f_X13_laysDay] at hQ
  refine g_iload_n 1 dX13_laysDay_0 rfl ?_
  refine g_if_lt 11 dX13_laysDay_1 (by decide) (fun c1 => ?_) (fun c1 => ?_)
  · have hs := ifSt hs c1; have hQ := ifQt hQ c1
    exact g_vret rfl dX13_laysDay_11 (hK _ hQ)
  · have hs := ifSf hs c1; have hQ := ifQf hQ c1
    refine g_iload_n 1 dX13_laysDay_4 rfl ?_
    refine g_sipush (v := 9999) dX13_laysDay_5 (by decide) ?_
    refine g_icmp_le 12 dX13_laysDay_8 (by decide) (fun c2 => ?_) (fun c2 => ?_)
    · have hs := ifSt hs c2; have hQ := ifQt hQ c2
      refine g_aload_n 0 dX13_laysDay_12 rfl ?_
      refine g_getR 226 239 fd_X13_52 dF_Md rfl rfl dX13_laysDay_13 ?_
      refine g_aload_n 0 dX13_laysDay_16 rfl ?_
      refine g_getI 226 fd_X13_356 dF_Md rfl dX13_laysDay_17 ?_
      refine g_iload_n 1 dX13_laysDay_20 rfl ?_
      have h3 := hs.1; have hs := hs.2
      refine g_iast 239 dF_Md_days h3 dX13_laysDay_21 (fun M4 hM4 => ?_)
      have hQ := bndQ hQ M4 hM4; have hs := bndS hs M4 hM4
      refine g_aload_n 0 dX13_laysDay_22 rfl ?_
      refine g_dup dX13_laysDay_23 rfl ?_
      refine g_getI 226 fd_X13_356 dF_Md rfl dX13_laysDay_24 ?_
      refine g_iconst (v := 1) dX13_laysDay_27 (by decide) ?_
      refine g_iadd dX13_laysDay_28 ?_
      refine g_putI 226 fd_X13_356 dF_Md rfl dX13_laysDay_29 (fun M5 hM5 => ?_)
      have hQ := bndQ hQ M5 hM5; have hs := bndS hs M5 hM5
      exact g_vret rfl dX13_laysDay_32 (hK _ hQ)
    · have hs := ifSf hs c2; have hQ := ifQf hQ c2
      exact g_vret rfl dX13_laysDay_11 (hK _ hQ)
theorem c_X13_laysDay (E : gE) (M : gM) (x1 : Int32) (hs : s_X13_laysDay M x1) : gC E yX13_laysDay cX13_laysDay 2 none (rm 0) [.ref (gla E 226), .int x1] M (fun o N => o = none ∧ N = f_X13_laysDay M x1) :=
  gC.of (by decide +kernel) (Nat.le_of_ble_eq_true rfl) rfl (t_X13_laysDay (K := fun z => z = f_X13_laysDay M x1) (fun z hz => ⟨rfl, hz⟩) M x1 hs rfl)
def f_X13_manyLost_4 (M : gM)  : Nat → Int32 → Int32 → Int32
  | 0, _, _ => 0
  | n + 1, x1, x2 =>
    if (rdI M 88 0 0 (nn 2)) ≤ x2 then
      (x1)
    else
      (if (rdI M 92 0 0 (nn (10 + x2))) = (-2) then
        (f_X13_manyLost_4 M n (x1 + 0) (x2 + 1))
      else
        (f_X13_manyLost_4 M n (x1 + 1) (x2 + 1)))
def s_X13_manyLost_4 (M : gM)  : Nat → Int32 → Int32 → Prop
  | 0, _, _ => False
  | n + 1, x1, x2 =>
    (vp_in 2 502) ∧
    (if (rdI M 88 0 0 (nn 2)) ≤ x2 then
      (True)
    else
      ((vp_in (10 + x2) 65) ∧
      (if (rdI M 92 0 0 (nn (10 + x2))) = (-2) then
        (s_X13_manyLost_4 M n (x1 + 0) (x2 + 1))
      else
        (s_X13_manyLost_4 M n (x1 + 1) (x2 + 1)))))
set_option maxRecDepth 100000 in
set_option maxHeartbeats 4000000 in
theorem t_X13_manyLost_4 {E : gE} {K : Int32 → Prop} {Q : Option Value → gM → Prop} {M : gM} (hK : ∀ z : Int32, K z → Q (some (.int z)) M)    : ∀ (n : Nat) (x1 : Int32) (x2 : Int32) , s_X13_manyLost_4 M  n x1 x2 → K (f_X13_manyLost_4 M  n x1 x2) → gG E RX13 cX13_manyLost 3 (some .int) (rm 0) 4 [(0, .ref (gla E 226)), (1, .int x1), (2, .int x2)] [] M Q := by
  intro n
  induction n with
  | zero => intro x1 x2 hs hQ; exact (hs : False).elim
  | succ n ih =>
    intro x1 x2 hs hQ
    rw [s_X13_manyLost_4] at hs
    rw [f_X13_manyLost_4] at hQ
    refine g_iload_n 2 dX13_manyLost_4 rfl ?_
    refine g_aload_n 0 dX13_manyLost_5 rfl ?_
    refine g_getR 226 228 fd_X13_13 dF_Md rfl rfl dX13_manyLost_6 ?_
    refine g_iconst (v := 2) dX13_manyLost_9 (by decide) ?_
    have h1 := hs.1; have hs := hs.2
    refine g_iald 228 dF_Md_world h1 dX13_manyLost_10 ?_
    refine g_icmp_ge 42 dX13_manyLost_11 (by decide) (fun c2 => ?_) (fun c2 => ?_)
    · have hs := ifSt hs c2; have hQ := ifQt hQ c2
      refine g_iload_n 1 dX13_manyLost_42 rfl ?_
      exact g_iret rfl dX13_manyLost_43 (hK _ hQ)
    · have hs := ifSf hs c2; have hQ := ifQf hQ c2
      refine g_iload_n 1 dX13_manyLost_14 rfl ?_
      refine g_aload_n 0 dX13_manyLost_15 rfl ?_
      refine g_getR 226 232 fd_X13_25 dF_Md rfl rfl dX13_manyLost_16 ?_
      refine g_bipush (v := 10) dX13_manyLost_19 (by decide) ?_
      refine g_iload_n 2 dX13_manyLost_21 rfl ?_
      refine g_iadd dX13_manyLost_22 ?_
      have h3 := hs.1; have hs := hs.2
      refine g_iald 232 dF_Md_now h3 dX13_manyLost_23 ?_
      refine g_bipush (v := (-2)) dX13_manyLost_24 (by decide) ?_
      refine g_icmp_ne 33 dX13_manyLost_26 (by decide) (fun c4 => ?_) (fun c4 => ?_)
      · have hs := ifSf hs c4; have hQ := ifQf hQ c4
        refine g_iconst (v := 1) dX13_manyLost_33 (by decide) ?_
        refine g_iadd dX13_manyLost_34 ?_
        refine g_istore_n _ dX13_manyLost_35 (by decide) rfl ?_
        refine g_iinc 2 (v := x2 + 1) _ dX13_manyLost_36 rfl rfl (by decide) rfl ?_
        refine g_goto 4 dX13_manyLost_39 (by decide) ?_
        refine g_sub [2, 1, 0] _ rfl ?_
        exact ih (x1 + 1) (x2 + 1) hs hQ
      · have hs := ifSt hs c4; have hQ := ifQt hQ c4
        refine g_iconst (v := 0) dX13_manyLost_29 (by decide) ?_
        refine g_goto 34 dX13_manyLost_30 (by decide) ?_
        refine g_iadd dX13_manyLost_34 ?_
        refine g_istore_n _ dX13_manyLost_35 (by decide) rfl ?_
        refine g_iinc 2 (v := x2 + 1) _ dX13_manyLost_36 rfl rfl (by decide) rfl ?_
        refine g_goto 4 dX13_manyLost_39 (by decide) ?_
        refine g_sub [2, 1, 0] _ rfl ?_
        exact ih (x1 + 0) (x2 + 1) hs hQ
def f_X13_manyLost (M : gM) : Int32 :=
  f_X13_manyLost_4 M FU 0 0
def s_X13_manyLost (M : gM) : Prop :=
  s_X13_manyLost_4 M FU 0 0
set_option maxRecDepth 100000 in
set_option maxHeartbeats 4000000 in
theorem t_X13_manyLost {E : gE} {K : Int32 → Prop} {Q : Option Value → gM → Prop} {M : gM} (hK : ∀ z : Int32, K z → Q (some (.int z)) M)   (hs : s_X13_manyLost M) (hQ : K (f_X13_manyLost M)) : gG E RX13 cX13_manyLost 3 (some .int) (rm 0) 0 [(0, .ref (gla E 226))] [] M Q := by
  rw [s_X13_manyLost] at hs
  rw [f_X13_manyLost] at hQ
  refine g_iconst (v := 0) dX13_manyLost_0 (by decide) ?_
  refine g_istore_n _ dX13_manyLost_1 (by decide) rfl ?_
  refine g_iconst (v := 0) dX13_manyLost_2 (by decide) ?_
  refine g_istore_n _ dX13_manyLost_3 (by decide) rfl ?_
  refine g_sub [2, 1, 0] _ rfl ?_
  exact t_X13_manyLost_4 hK FU 0 0 hs hQ
theorem c_X13_manyLost (E : gE) (M : gM)  (hs : s_X13_manyLost M) : gC E yX13_manyLost cX13_manyLost 3 (some .int) (rm 0) [.ref (gla E 226)] M (fun o N => o = some (.int (f_X13_manyLost M)) ∧ N = M) :=
  gC.of (by decide +kernel) (Nat.le_of_ble_eq_true rfl) rfl (t_X13_manyLost (K := fun z => z = f_X13_manyLost M) (fun z hz => by rw [hz]; exact ⟨rfl, rfl⟩)  hs rfl)
def f_X13_numberHere_48 (M : gM) (x1 : Int32)  : Int32 × gM :=
  if (rdI M 76 0 0 0) = 0 then
    ((rdI M 74 0 0 0, M))
  else
    ((x1, M))
def s_X13_numberHere_48 (M : gM) (x1 : Int32)  : Prop :=
  if (rdI M 76 0 0 0) = 0 then
    (True)
  else
    (True)
theorem o_X13_numberHere_48 (M : gM) (x1 : Int32)  : offW [76, 77] M (f_X13_numberHere_48 M x1 ).2 := by
  rw [f_X13_numberHere_48]
  refine offI2 ?_ ?_
  · exact offR
  · exact offR
set_option maxRecDepth 100000 in
set_option maxHeartbeats 4000000 in
theorem t_X13_numberHere_48 {E : gE} {K : Int32 × gM → Prop} {Q : Option Value → gM → Prop} (hK : ∀ z : Int32 × gM, K z → Q (some (.int z.1)) z.2) (M : gM) (x1 : Int32)   (hs : s_X13_numberHere_48 M x1 ) (hQ : K (f_X13_numberHere_48 M x1 )) : gG E RX13 cX13_numberHere 3 (some .int) (rm 1) 48 [(0, .ref (gla E 226)), (1, .int x1)] [] M Q := by
  rw [s_X13_numberHere_48] at hs
  rw [f_X13_numberHere_48] at hQ
  refine g_aload_n 0 dX13_numberHere_48 rfl ?_
  refine g_getI 226 fd_X13_111 dF_Md rfl dX13_numberHere_49 ?_
  refine g_if_ne 62 dX13_numberHere_52 (by decide) (fun c8 => ?_) (fun c8 => ?_)
  · have hs := ifSf hs c8; have hQ := ifQf hQ c8
    refine g_iload_n 1 dX13_numberHere_62 rfl ?_
    exact g_iret rfl dX13_numberHere_63 (hK _ hQ)
  · have hs := ifSt hs c8; have hQ := ifQt hQ c8
    refine g_aload_n 0 dX13_numberHere_55 rfl ?_
    refine g_getI 226 fd_X13_93 dF_Md rfl dX13_numberHere_56 ?_
    refine g_goto 63 dX13_numberHere_59 (by decide) ?_
    exact g_iret rfl dX13_numberHere_63 (hK _ hQ)
def f_X13_numberHere_43 (M : gM) (x1 : Int32)  : Int32 × gM :=
  bnd (f_X13_wrong M 2) fun M10 =>
  (f_X13_numberHere_48 M10 x1)
def s_X13_numberHere_43 (M : gM) (x1 : Int32)  : Prop :=
  (s_X13_wrong M 2) ∧
  (bndP (f_X13_wrong M 2) fun M10 =>
  (s_X13_numberHere_48 M10 x1))
theorem o_X13_numberHere_43 (M : gM) (x1 : Int32)  : offW [76, 77] M (f_X13_numberHere_43 M x1 ).2 := by
  rw [f_X13_numberHere_43]
  refine offB2 (offR.tr ((o_X13_wrong M 2).mono (by decide))) (fun M10 oM10 => ?_)
  exact oM10.tr (o_X13_numberHere_48 M10 x1)
set_option maxRecDepth 100000 in
set_option maxHeartbeats 4000000 in
theorem t_X13_numberHere_43 {E : gE} {K : Int32 × gM → Prop} {Q : Option Value → gM → Prop} (hK : ∀ z : Int32 × gM, K z → Q (some (.int z.1)) z.2) (M : gM) (x1 : Int32)   (hs : s_X13_numberHere_43 M x1 ) (hQ : K (f_X13_numberHere_43 M x1 )) : gG E RX13 cX13_numberHere 3 (some .int) (rm 1) 43 [(0, .ref (gla E 226)), (1, .int x1)] [] M Q := by
  rw [s_X13_numberHere_43] at hs
  rw [f_X13_numberHere_43] at hQ
  refine g_aload_n 0 dX13_numberHere_43 rfl ?_
  refine g_iconst (v := 2) dX13_numberHere_44 (by decide) ?_
  have h9 := hs.1; have hs := hs.2
  refine g_callV (As := [.int 2]) (st := []) 226 (c_X13_wrong E M 2 h9) mt_X13_wrong ml_X13_120 dF_Md rfl rfl sg_X13_wrong rfl (by decide) (Nat.le_of_ble_eq_true rfl) dX13_numberHere_45 ?_
  rintro _ M10 ⟨rfl, hM10⟩
  have hQ := bndQ hQ M10 hM10; have hs := bndS hs M10 hM10
  exact t_X13_numberHere_48 hK M10 x1 hs hQ
def f_X13_numberHere_20 (M : gM) (x1 : Int32) (x2 : Int32)  : Int32 × gM :=
  if (rdI M 76 0 0 0) = 0 then
    (if (rdI M 74 0 0 0) < x1 then
      (f_X13_numberHere_43 M x1)
    else
      (if (rdI M 74 0 0 0) ≤ x2 then
        (f_X13_numberHere_48 M x1)
      else
        (f_X13_numberHere_43 M x1)))
  else
    (f_X13_numberHere_48 M x1)
def s_X13_numberHere_20 (M : gM) (x1 : Int32) (x2 : Int32)  : Prop :=
  if (rdI M 76 0 0 0) = 0 then
    (if (rdI M 74 0 0 0) < x1 then
      (s_X13_numberHere_43 M x1)
    else
      (if (rdI M 74 0 0 0) ≤ x2 then
        (s_X13_numberHere_48 M x1)
      else
        (s_X13_numberHere_43 M x1)))
  else
    (s_X13_numberHere_48 M x1)
theorem o_X13_numberHere_20 (M : gM) (x1 : Int32) (x2 : Int32)  : offW [76, 77] M (f_X13_numberHere_20 M x1 x2 ).2 := by
  rw [f_X13_numberHere_20]
  refine offI2 ?_ ?_
  · refine offI2 ?_ ?_
    · exact (o_X13_numberHere_43 M x1)
    · refine offI2 ?_ ?_
      · exact (o_X13_numberHere_48 M x1)
      · exact (o_X13_numberHere_43 M x1)
  · exact (o_X13_numberHere_48 M x1)
set_option maxRecDepth 100000 in
set_option maxHeartbeats 4000000 in
theorem t_X13_numberHere_20 {E : gE} {K : Int32 × gM → Prop} {Q : Option Value → gM → Prop} (hK : ∀ z : Int32 × gM, K z → Q (some (.int z.1)) z.2) (M : gM) (x1 : Int32) (x2 : Int32)   (hs : s_X13_numberHere_20 M x1 x2 ) (hQ : K (f_X13_numberHere_20 M x1 x2 )) : gG E RX13 cX13_numberHere 3 (some .int) (rm 1) 20 [(0, .ref (gla E 226)), (1, .int x1), (2, .int x2)] [] M Q := by
  rw [s_X13_numberHere_20] at hs
  rw [f_X13_numberHere_20] at hQ
  refine g_aload_n 0 dX13_numberHere_20 rfl ?_
  refine g_getI 226 fd_X13_111 dF_Md rfl dX13_numberHere_21 ?_
  refine g_if_ne 48 dX13_numberHere_24 (by decide) (fun c5 => ?_) (fun c5 => ?_)
  · have hs := ifSf hs c5; have hQ := ifQf hQ c5
    refine g_sub [0, 1] _ rfl ?_
    exact t_X13_numberHere_48 hK M x1 hs hQ
  · have hs := ifSt hs c5; have hQ := ifQt hQ c5
    refine g_aload_n 0 dX13_numberHere_27 rfl ?_
    refine g_getI 226 fd_X13_93 dF_Md rfl dX13_numberHere_28 ?_
    refine g_iload_n 1 dX13_numberHere_31 rfl ?_
    refine g_icmp_lt 43 dX13_numberHere_32 (by decide) (fun c6 => ?_) (fun c6 => ?_)
    · have hs := ifSt hs c6; have hQ := ifQt hQ c6
      refine g_sub [0, 1] _ rfl ?_
      exact t_X13_numberHere_43 hK M x1 hs hQ
    · have hs := ifSf hs c6; have hQ := ifQf hQ c6
      refine g_aload_n 0 dX13_numberHere_35 rfl ?_
      refine g_getI 226 fd_X13_93 dF_Md rfl dX13_numberHere_36 ?_
      refine g_iload_n 2 dX13_numberHere_39 rfl ?_
      refine g_icmp_le 48 dX13_numberHere_40 (by decide) (fun c7 => ?_) (fun c7 => ?_)
      · have hs := ifSt hs c7; have hQ := ifQt hQ c7
        refine g_sub [0, 1] _ rfl ?_
        exact t_X13_numberHere_48 hK M x1 hs hQ
      · have hs := ifSf hs c7; have hQ := ifQf hQ c7
        refine g_sub [0, 1] _ rfl ?_
        exact t_X13_numberHere_43 hK M x1 hs hQ
def f_X13_numberHere (M : gM) (x1 : Int32) (x2 : Int32) : Int32 × gM :=
  if (rdI M 76 0 0 0) = 0 then
    (if (rdI M 73 0 0 0) = 1 then
      (f_X13_numberHere_20 M x1 x2)
    else
      (bnd (f_X13_wrong M 1) fun M4 =>
      (f_X13_numberHere_20 M4 x1 x2)))
  else
    (f_X13_numberHere_20 M x1 x2)
def s_X13_numberHere (M : gM) (x1 : Int32) (x2 : Int32) : Prop :=
  if (rdI M 76 0 0 0) = 0 then
    (if (rdI M 73 0 0 0) = 1 then
      (s_X13_numberHere_20 M x1 x2)
    else
      ((s_X13_wrong M 1) ∧
      (bndP (f_X13_wrong M 1) fun M4 =>
      (s_X13_numberHere_20 M4 x1 x2))))
  else
    (s_X13_numberHere_20 M x1 x2)
theorem o_X13_numberHere (M : gM) (x1 : Int32) (x2 : Int32) : offW [76, 77] M (f_X13_numberHere M x1 x2).2 := by
  rw [f_X13_numberHere]
  refine offI2 ?_ ?_
  · refine offI2 ?_ ?_
    · exact (o_X13_numberHere_20 M x1 x2)
    · refine offB2 (offR.tr ((o_X13_wrong M 1).mono (by decide))) (fun M4 oM4 => ?_)
      exact oM4.tr (o_X13_numberHere_20 M4 x1 x2)
  · exact (o_X13_numberHere_20 M x1 x2)
set_option maxRecDepth 100000 in
set_option maxHeartbeats 4000000 in
theorem t_X13_numberHere {E : gE} {K : Int32 × gM → Prop} {Q : Option Value → gM → Prop} (hK : ∀ z : Int32 × gM, K z → Q (some (.int z.1)) z.2) (M : gM) (x1 : Int32) (x2 : Int32)  (hs : s_X13_numberHere M x1 x2) (hQ : K (f_X13_numberHere M x1 x2)) : gG E RX13 cX13_numberHere 3 (some .int) (rm 1) 0 [(0, .ref (gla E 226)), (1, .int x1), (2, .int x2)] [] M Q := by
  rw [s_X13_numberHere] at hs
  rw [f_X13_numberHere] at hQ
  refine g_aload_n 0 dX13_numberHere_0 rfl ?_
  refine g_getI 226 fd_X13_111 dF_Md rfl dX13_numberHere_1 ?_
  refine g_if_ne 20 dX13_numberHere_4 (by decide) (fun c1 => ?_) (fun c1 => ?_)
  · have hs := ifSf hs c1; have hQ := ifQf hQ c1
    exact t_X13_numberHere_20 hK M x1 x2 hs hQ
  · have hs := ifSt hs c1; have hQ := ifQt hQ c1
    refine g_aload_n 0 dX13_numberHere_7 rfl ?_
    refine g_getI 226 fd_X13_80 dF_Md rfl dX13_numberHere_8 ?_
    refine g_iconst (v := 1) dX13_numberHere_11 (by decide) ?_
    refine g_icmp_eq 20 dX13_numberHere_12 (by decide) (fun c2 => ?_) (fun c2 => ?_)
    · have hs := ifSt hs c2; have hQ := ifQt hQ c2
      exact t_X13_numberHere_20 hK M x1 x2 hs hQ
    · have hs := ifSf hs c2; have hQ := ifQf hQ c2
      refine g_aload_n 0 dX13_numberHere_15 rfl ?_
      refine g_iconst (v := 1) dX13_numberHere_16 (by decide) ?_
      have h3 := hs.1; have hs := hs.2
      refine g_callV (As := [.int 1]) (st := []) 226 (c_X13_wrong E M 1 h3) mt_X13_wrong ml_X13_120 dF_Md rfl rfl sg_X13_wrong rfl (by decide) (Nat.le_of_ble_eq_true rfl) dX13_numberHere_17 ?_
      rintro _ M4 ⟨rfl, hM4⟩
      have hQ := bndQ hQ M4 hM4; have hs := bndS hs M4 hM4
      exact t_X13_numberHere_20 hK M4 x1 x2 hs hQ
theorem c_X13_numberHere (E : gE) (M : gM) (x1 : Int32) (x2 : Int32) (hs : s_X13_numberHere M x1 x2) : gC E yX13_numberHere cX13_numberHere 3 (some .int) (rm 1) [.ref (gla E 226), .int x1, .int x2] M (fun o N => o = some (.int (f_X13_numberHere M x1 x2).1) ∧ N = (f_X13_numberHere M x1 x2).2) :=
  gC.of (by decide +kernel) (Nat.le_of_ble_eq_true rfl) rfl (t_X13_numberHere (K := fun z => z = f_X13_numberHere M x1 x2) (fun z hz => by rw [hz]; exact ⟨rfl, rfl⟩) M x1 x2 hs rfl)
def f_X13_toldHere_28 (M : gM) (x1 : Int32)  : Int32 × gM :=
  if (rdI M 76 0 0 0) = 0 then
    ((f_X13_namedHere M x1, M))
  else
    ((0, M))
def s_X13_toldHere_28 (M : gM) (x1 : Int32)  : Prop :=
  if (rdI M 76 0 0 0) = 0 then
    ((s_X13_namedHere M x1) ∧
    (True))
  else
    (True)
theorem o_X13_toldHere_28 (M : gM) (x1 : Int32)  : offW [76, 77] M (f_X13_toldHere_28 M x1 ).2 := by
  rw [f_X13_toldHere_28]
  refine offI2 ?_ ?_
  · exact offR
  · exact offR
set_option maxRecDepth 100000 in
set_option maxHeartbeats 4000000 in
theorem t_X13_toldHere_28 {E : gE} {K : Int32 × gM → Prop} {Q : Option Value → gM → Prop} (hK : ∀ z : Int32 × gM, K z → Q (some (.int z.1)) z.2) (M : gM) (x1 : Int32)   (hs : s_X13_toldHere_28 M x1 ) (hQ : K (f_X13_toldHere_28 M x1 )) : gG E RX13 cX13_toldHere 2 (some .int) (rm 1) 28 [(0, .ref (gla E 226)), (1, .int x1)] [] M Q := by
  rw [s_X13_toldHere_28] at hs
  rw [f_X13_toldHere_28] at hQ
  refine g_aload_n 0 dX13_toldHere_28 rfl ?_
  refine g_getI 226 fd_X13_111 dF_Md rfl dX13_toldHere_29 ?_
  refine g_if_ne 43 dX13_toldHere_32 (by decide) (fun c6 => ?_) (fun c6 => ?_)
  · have hs := ifSf hs c6; have hQ := ifQf hQ c6
    refine g_iconst (v := 0) dX13_toldHere_43 (by decide) ?_
    exact g_iret rfl dX13_toldHere_44 (hK _ hQ)
  · have hs := ifSt hs c6; have hQ := ifQt hQ c6
    refine g_aload_n 0 dX13_toldHere_35 rfl ?_
    refine g_iload_n 1 dX13_toldHere_36 rfl ?_
    have h7 := hs.1; have hs := hs.2
    refine g_callV (As := [.int x1]) (st := []) 226 (c_X13_namedHere E M x1 h7) mt_X13_namedHere ml_X13_135 dF_Md rfl rfl sg_X13_namedHere rfl (by decide) (Nat.le_of_ble_eq_true rfl) dX13_toldHere_37 ?_
    rintro _ _ ⟨q1, q2⟩; rw [q1, q2]; clear q1 q2
    refine g_goto 44 dX13_toldHere_40 (by decide) ?_
    exact g_iret rfl dX13_toldHere_44 (hK _ hQ)
def f_X13_toldHere_23 (M : gM) (x1 : Int32)  : Int32 × gM :=
  bnd (f_X13_wrong M 1) fun M9 =>
  (f_X13_toldHere_28 M9 x1)
def s_X13_toldHere_23 (M : gM) (x1 : Int32)  : Prop :=
  (s_X13_wrong M 1) ∧
  (bndP (f_X13_wrong M 1) fun M9 =>
  (s_X13_toldHere_28 M9 x1))
theorem o_X13_toldHere_23 (M : gM) (x1 : Int32)  : offW [76, 77] M (f_X13_toldHere_23 M x1 ).2 := by
  rw [f_X13_toldHere_23]
  refine offB2 (offR.tr ((o_X13_wrong M 1).mono (by decide))) (fun M9 oM9 => ?_)
  exact oM9.tr (o_X13_toldHere_28 M9 x1)
set_option maxRecDepth 100000 in
set_option maxHeartbeats 4000000 in
theorem t_X13_toldHere_23 {E : gE} {K : Int32 × gM → Prop} {Q : Option Value → gM → Prop} (hK : ∀ z : Int32 × gM, K z → Q (some (.int z.1)) z.2) (M : gM) (x1 : Int32)   (hs : s_X13_toldHere_23 M x1 ) (hQ : K (f_X13_toldHere_23 M x1 )) : gG E RX13 cX13_toldHere 2 (some .int) (rm 1) 23 [(0, .ref (gla E 226)), (1, .int x1)] [] M Q := by
  rw [s_X13_toldHere_23] at hs
  rw [f_X13_toldHere_23] at hQ
  refine g_aload_n 0 dX13_toldHere_23 rfl ?_
  refine g_iconst (v := 1) dX13_toldHere_24 (by decide) ?_
  have h8 := hs.1; have hs := hs.2
  refine g_callV (As := [.int 1]) (st := []) 226 (c_X13_wrong E M 1 h8) mt_X13_wrong ml_X13_120 dF_Md rfl rfl sg_X13_wrong rfl (by decide) (Nat.le_of_ble_eq_true rfl) dX13_toldHere_25 ?_
  rintro _ M9 ⟨rfl, hM9⟩
  have hQ := bndQ hQ M9 hM9; have hs := bndS hs M9 hM9
  exact t_X13_toldHere_28 hK M9 x1 hs hQ
def f_X13_toldHere (M : gM) (x1 : Int32) : Int32 × gM :=
  if (rdI M 76 0 0 0) = 0 then
    (if (f_X13_isOther M) = 0 then
      (f_X13_toldHere_23 M x1)
    else
      (if (f_X13_namedHere M x1) = (-1) then
        (f_X13_toldHere_23 M x1)
      else
        (f_X13_toldHere_28 M x1)))
  else
    (f_X13_toldHere_28 M x1)
def s_X13_toldHere (M : gM) (x1 : Int32) : Prop :=
  if (rdI M 76 0 0 0) = 0 then
    ((s_X13_isOther M) ∧
    (if (f_X13_isOther M) = 0 then
      (s_X13_toldHere_23 M x1)
    else
      ((s_X13_namedHere M x1) ∧
      (if (f_X13_namedHere M x1) = (-1) then
        (s_X13_toldHere_23 M x1)
      else
        (s_X13_toldHere_28 M x1)))))
  else
    (s_X13_toldHere_28 M x1)
theorem o_X13_toldHere (M : gM) (x1 : Int32) : offW [76, 77] M (f_X13_toldHere M x1).2 := by
  rw [f_X13_toldHere]
  refine offI2 ?_ ?_
  · refine offI2 ?_ ?_
    · exact (o_X13_toldHere_23 M x1)
    · refine offI2 ?_ ?_
      · exact (o_X13_toldHere_23 M x1)
      · exact (o_X13_toldHere_28 M x1)
  · exact (o_X13_toldHere_28 M x1)
set_option maxRecDepth 100000 in
set_option maxHeartbeats 4000000 in
theorem t_X13_toldHere {E : gE} {K : Int32 × gM → Prop} {Q : Option Value → gM → Prop} (hK : ∀ z : Int32 × gM, K z → Q (some (.int z.1)) z.2) (M : gM) (x1 : Int32)  (hs : s_X13_toldHere M x1) (hQ : K (f_X13_toldHere M x1)) : gG E RX13 cX13_toldHere 2 (some .int) (rm 1) 0 [(0, .ref (gla E 226)), (1, .int x1)] [] M Q := by
  rw [s_X13_toldHere] at hs
  rw [f_X13_toldHere] at hQ
  refine g_aload_n 0 dX13_toldHere_0 rfl ?_
  refine g_getI 226 fd_X13_111 dF_Md rfl dX13_toldHere_1 ?_
  refine g_if_ne 28 dX13_toldHere_4 (by decide) (fun c1 => ?_) (fun c1 => ?_)
  · have hs := ifSf hs c1; have hQ := ifQf hQ c1
    exact t_X13_toldHere_28 hK M x1 hs hQ
  · have hs := ifSt hs c1; have hQ := ifQt hQ c1
    refine g_aload_n 0 dX13_toldHere_7 rfl ?_
    have h2 := hs.1; have hs := hs.2
    refine g_callV (As := []) (st := []) 226 (c_X13_isOther E M h2) mt_X13_isOther ml_X13_131 dF_Md rfl rfl sg_X13_isOther rfl (by decide) (Nat.le_of_ble_eq_true rfl) dX13_toldHere_8 ?_
    rintro _ _ ⟨q1, q2⟩; rw [q1, q2]; clear q1 q2
    refine g_if_eq 23 dX13_toldHere_11 (by decide) (fun c3 => ?_) (fun c3 => ?_)
    · have hs := ifSt hs c3; have hQ := ifQt hQ c3
      exact t_X13_toldHere_23 hK M x1 hs hQ
    · have hs := ifSf hs c3; have hQ := ifQf hQ c3
      refine g_aload_n 0 dX13_toldHere_14 rfl ?_
      refine g_iload_n 1 dX13_toldHere_15 rfl ?_
      have h4 := hs.1; have hs := hs.2
      refine g_callV (As := [.int x1]) (st := []) 226 (c_X13_namedHere E M x1 h4) mt_X13_namedHere ml_X13_135 dF_Md rfl rfl sg_X13_namedHere rfl (by decide) (Nat.le_of_ble_eq_true rfl) dX13_toldHere_16 ?_
      rintro _ _ ⟨q1, q2⟩; rw [q1, q2]; clear q1 q2
      refine g_iconst (v := (-1)) dX13_toldHere_19 (by decide) ?_
      refine g_icmp_ne 28 dX13_toldHere_20 (by decide) (fun c5 => ?_) (fun c5 => ?_)
      · have hs := ifSf hs c5; have hQ := ifQf hQ c5
        exact t_X13_toldHere_28 hK M x1 hs hQ
      · have hs := ifSt hs c5; have hQ := ifQt hQ c5
        exact t_X13_toldHere_23 hK M x1 hs hQ
theorem c_X13_toldHere (E : gE) (M : gM) (x1 : Int32) (hs : s_X13_toldHere M x1) : gC E yX13_toldHere cX13_toldHere 2 (some .int) (rm 1) [.ref (gla E 226), .int x1] M (fun o N => o = some (.int (f_X13_toldHere M x1).1) ∧ N = (f_X13_toldHere M x1).2) :=
  gC.of (by decide +kernel) (Nat.le_of_ble_eq_true rfl) rfl (t_X13_toldHere (K := fun z => z = f_X13_toldHere M x1) (fun z hz => by rw [hz]; exact ⟨rfl, rfl⟩) M x1 hs rfl)
def f_X13_lives_19 (M : gM)  : Int32 :=
  1
def s_X13_lives_19 (M : gM)  : Prop :=
  True
set_option maxRecDepth 100000 in
set_option maxHeartbeats 4000000 in
theorem t_X13_lives_19 {E : gE} {K : Int32 → Prop} {Q : Option Value → gM → Prop} {M : gM} (hK : ∀ z : Int32, K z → Q (some (.int z)) M)    (hs : s_X13_lives_19 M ) (hQ : K (f_X13_lives_19 M )) : gG E RX13 cX13_lives 3 (some .boolean) (rm 1) 19 [] [] M Q := by
  rw [s_X13_lives_19] at hs
  rw [f_X13_lives_19] at hQ
  refine g_iconst (v := 1) dX13_lives_19 (by decide) ?_
  refine g_goto 24 dX13_lives_20 (by decide) ?_
  exact g_zret rfl (Or.inr rfl) dX13_lives_24 (hK _ hQ)
def f_X13_lives (M : gM) (x1 : Int32) (x2 : Int32) : Int32 :=
  if (f_X13_diesOn M x1) = (-2) then
    (f_X13_lives_19 M)
  else
    (if (f_X13_diesOn M x1) ≤ x2 then
      (0)
    else
      (f_X13_lives_19 M))
def s_X13_lives (M : gM) (x1 : Int32) (x2 : Int32) : Prop :=
  (s_X13_diesOn M x1) ∧
  (if (f_X13_diesOn M x1) = (-2) then
    (s_X13_lives_19 M)
  else
    ((s_X13_diesOn M x1) ∧
    (if (f_X13_diesOn M x1) ≤ x2 then
      (True)
    else
      (s_X13_lives_19 M))))
set_option maxRecDepth 100000 in
set_option maxHeartbeats 4000000 in
theorem t_X13_lives {E : gE} {K : Int32 → Prop} {Q : Option Value → gM → Prop} {M : gM} (hK : ∀ z : Int32, K z → Q (some (.int z)) M)  (x1 : Int32) (x2 : Int32)  (hs : s_X13_lives M x1 x2) (hQ : K (f_X13_lives M x1 x2)) : gG E RX13 cX13_lives 3 (some .boolean) (rm 1) 0 [(0, .ref (gla E 226)), (1, .int x1), (2, .int x2)] [] M Q := by
  rw [s_X13_lives] at hs
  rw [f_X13_lives] at hQ
  refine g_aload_n 0 dX13_lives_0 rfl ?_
  refine g_iload_n 1 dX13_lives_1 rfl ?_
  have h1 := hs.1; have hs := hs.2
  refine g_callV (As := [.int x1]) (st := []) 226 (c_X13_diesOn E M x1 h1) mt_X13_diesOn ml_X13_203 dF_Md rfl rfl sg_X13_diesOn rfl (by decide) (Nat.le_of_ble_eq_true rfl) dX13_lives_2 ?_
  rintro _ _ ⟨q1, q2⟩; rw [q1, q2]; clear q1 q2
  refine g_bipush (v := (-2)) dX13_lives_5 (by decide) ?_
  refine g_icmp_eq 19 dX13_lives_7 (by decide) (fun c2 => ?_) (fun c2 => ?_)
  · have hs := ifSt hs c2; have hQ := ifQt hQ c2
    refine g_sub [] _ rfl ?_
    exact t_X13_lives_19 hK hs hQ
  · have hs := ifSf hs c2; have hQ := ifQf hQ c2
    refine g_aload_n 0 dX13_lives_10 rfl ?_
    refine g_iload_n 1 dX13_lives_11 rfl ?_
    have h3 := hs.1; have hs := hs.2
    refine g_callV (As := [.int x1]) (st := []) 226 (c_X13_diesOn E M x1 h3) mt_X13_diesOn ml_X13_203 dF_Md rfl rfl sg_X13_diesOn rfl (by decide) (Nat.le_of_ble_eq_true rfl) dX13_lives_12 ?_
    rintro _ _ ⟨q1, q2⟩; rw [q1, q2]; clear q1 q2
    refine g_iload_n 2 dX13_lives_15 rfl ?_
    refine g_icmp_le 23 dX13_lives_16 (by decide) (fun c4 => ?_) (fun c4 => ?_)
    · have hs := ifSt hs c4; have hQ := ifQt hQ c4
      refine g_iconst (v := 0) dX13_lives_23 (by decide) ?_
      exact g_zret rfl (Or.inl rfl) dX13_lives_24 (hK _ hQ)
    · have hs := ifSf hs c4; have hQ := ifQf hQ c4
      refine g_sub [] _ rfl ?_
      exact t_X13_lives_19 hK hs hQ
theorem c_X13_lives (E : gE) (M : gM) (x1 : Int32) (x2 : Int32) (hs : s_X13_lives M x1 x2) : gC E yX13_lives cX13_lives 3 (some .boolean) (rm 1) [.ref (gla E 226), .int x1, .int x2] M (fun o N => o = some (.int (f_X13_lives M x1 x2)) ∧ N = M) :=
  gC.of (by decide +kernel) (Nat.le_of_ble_eq_true rfl) rfl (t_X13_lives (K := fun z => z = f_X13_lives M x1 x2) (fun z hz => by rw [hz]; exact ⟨rfl, rfl⟩) x1 x2 hs rfl)
def f_X13_person (M : gM) (x1 : Int32) (x2 : Int32) : Int32 × gM :=
  bnd (wrI M 67 0 0 0 0) fun M1 =>
  (if (f_X13_isPerson M1 x1) = 0 then
    (bnd (wrI M1 67 0 0 0 1) fun M15 =>
    ((0, M15)))
  else
    (if x2 = 0 then
      ((rdI M1 88 0 0 (nn (14 + x1)), M1))
    else
      (if x2 = 1 then
        ((f_X13_diesOn M1 x1, M1))
      else
        (if x2 = 2 then
          ((f_X13_childrenOf M1 x1, M1))
        else
          (if x2 = 3 then
            ((rdI M1 88 0 0 (nn (24 + x1)), M1))
          else
            (if x2 = 4 then
              ((f_X13_wedTo M1 x1 9999, M1))
            else
              (bnd (wrI M1 67 0 0 0 2) fun M9 =>
              ((0, M9)))))))))
def s_X13_person (M : gM) (x1 : Int32) (x2 : Int32) : Prop :=
  bndP (wrI M 67 0 0 0 0) fun M1 =>
  ((s_X13_isPerson M1 x1) ∧
  (if (f_X13_isPerson M1 x1) = 0 then
    (bndP (wrI M1 67 0 0 0 1) fun M15 =>
    (True))
  else
    (if x2 = 0 then
      ((vp_in (14 + x1) 502) ∧
      (True))
    else
      (if x2 = 1 then
        ((s_X13_diesOn M1 x1) ∧
        (True))
      else
        (if x2 = 2 then
          ((s_X13_childrenOf M1 x1) ∧
          (True))
        else
          (if x2 = 3 then
            ((vp_in (24 + x1) 502) ∧
            (True))
          else
            (if x2 = 4 then
              ((s_X13_wedTo M1 x1 9999) ∧
              (True))
            else
              (bndP (wrI M1 67 0 0 0 2) fun M9 =>
              (True)))))))))
theorem o_X13_person (M : gM) (x1 : Int32) (x2 : Int32) : offW [67] M (f_X13_person M x1 x2).2 := by
  rw [f_X13_person]
  refine offB2 (offR.wI (by decide)) (fun M1 oM1 => ?_)
  refine offI2 ?_ ?_
  · refine offB2 (oM1.wI (by decide)) (fun M15 oM15 => ?_)
    exact oM15
  · refine offI2 ?_ ?_
    · exact oM1
    refine offI2 ?_ ?_
    · exact oM1
    refine offI2 ?_ ?_
    · exact oM1
    refine offI2 ?_ ?_
    · exact oM1
    refine offI2 ?_ ?_
    · exact oM1
    refine offB2 (oM1.wI (by decide)) (fun M9 oM9 => ?_)
    exact oM9
set_option maxRecDepth 100000 in
set_option maxHeartbeats 4000000 in
theorem t_X13_person {E : gE} {K : Int32 × gM → Prop} {Q : Option Value → gM → Prop} (hK : ∀ z : Int32 × gM, K z → Q (some (.int z.1)) z.2) (M : gM) (x1 : Int32) (x2 : Int32)  (hs : s_X13_person M x1 x2) (hQ : K (f_X13_person M x1 x2)) : gG E RX13 cX13_person 3 (some .int) (rm 1) 0 [(0, .ref (gla E 226)), (1, .int x1), (2, .int x2)] [] M Q := by
  rw [s_X13_person] at hs
  rw [f_X13_person] at hQ
  refine g_aload_n 0 dX13_person_0 rfl ?_
  refine g_iconst (v := 0) dX13_person_1 (by decide) ?_
  refine g_putI 226 fd_X13_61 dF_Md rfl dX13_person_2 (fun M1 hM1 => ?_)
  have hQ := bndQ hQ M1 hM1; have hs := bndS hs M1 hM1
  refine g_aload_n 0 dX13_person_5 rfl ?_
  refine g_iload_n 1 dX13_person_6 rfl ?_
  have h2 := hs.1; have hs := hs.2
  refine g_callV (As := [.int x1]) (st := []) 226 (c_X13_isPerson E M1 x1 h2) mt_X13_isPerson ml_X13_206 dF_Md rfl rfl sg_X13_isPerson rfl (by decide) (Nat.le_of_ble_eq_true rfl) dX13_person_7 ?_
  rintro _ _ ⟨q1, q2⟩; rw [q1, q2]; clear q1 q2
  refine g_if_ne 20 dX13_person_10 (by decide) (fun c3 => ?_) (fun c3 => ?_)
  · have hs := ifSf hs c3; have hQ := ifQf hQ c3
    refine g_iload_n 2 dX13_person_20 rfl ?_
    by_cases c10 : x2 = 0
    · have hs := ifSt hs c10; have hQ := ifQt hQ c10
      refine g_tin 56 (k := 0) (z := 0) (off := 35) c10 dX13_person_21 (by decide) (by decide) (by decide) rfl (by decide) ?_
      refine g_aload_n 0 dX13_person_56 rfl ?_
      refine g_getR 226 228 fd_X13_13 dF_Md rfl rfl dX13_person_57 ?_
      refine g_bipush (v := 14) dX13_person_60 (by decide) ?_
      refine g_iload_n 1 dX13_person_62 rfl ?_
      refine g_iadd dX13_person_63 ?_
      have h4 := hs.1; have hs := hs.2
      refine g_iald 228 dF_Md_world h4 dX13_person_64 ?_
      exact g_iret rfl dX13_person_65 (hK _ hQ)
    have hs := ifSf hs c10; have hQ := ifQf hQ c10
    by_cases c11 : x2 = 1
    · have hs := ifSt hs c11; have hQ := ifQt hQ c11
      refine g_tin 66 (k := 1) (z := 1) (off := 45) c11 dX13_person_21 (by decide) (by decide) (by decide) rfl (by decide) ?_
      refine g_aload_n 0 dX13_person_66 rfl ?_
      refine g_iload_n 1 dX13_person_67 rfl ?_
      have h5 := hs.1; have hs := hs.2
      refine g_callV (As := [.int x1]) (st := []) 226 (c_X13_diesOn E M1 x1 h5) mt_X13_diesOn ml_X13_203 dF_Md rfl rfl sg_X13_diesOn rfl (by decide) (Nat.le_of_ble_eq_true rfl) dX13_person_68 ?_
      rintro _ _ ⟨q1, q2⟩; rw [q1, q2]; clear q1 q2
      exact g_iret rfl dX13_person_71 (hK _ hQ)
    have hs := ifSf hs c11; have hQ := ifQf hQ c11
    by_cases c12 : x2 = 2
    · have hs := ifSt hs c12; have hQ := ifQt hQ c12
      refine g_tin 72 (k := 2) (z := 2) (off := 51) c12 dX13_person_21 (by decide) (by decide) (by decide) rfl (by decide) ?_
      refine g_aload_n 0 dX13_person_72 rfl ?_
      refine g_iload_n 1 dX13_person_73 rfl ?_
      have h6 := hs.1; have hs := hs.2
      refine g_callV (As := [.int x1]) (st := []) 226 (c_X13_childrenOf E M1 x1 h6) mt_X13_childrenOf ml_X13_209 dF_Md rfl rfl sg_X13_childrenOf rfl (by decide) (Nat.le_of_ble_eq_true rfl) dX13_person_74 ?_
      rintro _ _ ⟨q1, q2⟩; rw [q1, q2]; clear q1 q2
      exact g_iret rfl dX13_person_77 (hK _ hQ)
    have hs := ifSf hs c12; have hQ := ifQf hQ c12
    by_cases c13 : x2 = 3
    · have hs := ifSt hs c13; have hQ := ifQt hQ c13
      refine g_tin 78 (k := 3) (z := 3) (off := 57) c13 dX13_person_21 (by decide) (by decide) (by decide) rfl (by decide) ?_
      refine g_aload_n 0 dX13_person_78 rfl ?_
      refine g_getR 226 228 fd_X13_13 dF_Md rfl rfl dX13_person_79 ?_
      refine g_bipush (v := 24) dX13_person_82 (by decide) ?_
      refine g_iload_n 1 dX13_person_84 rfl ?_
      refine g_iadd dX13_person_85 ?_
      have h7 := hs.1; have hs := hs.2
      refine g_iald 228 dF_Md_world h7 dX13_person_86 ?_
      exact g_iret rfl dX13_person_87 (hK _ hQ)
    have hs := ifSf hs c13; have hQ := ifQf hQ c13
    by_cases c14 : x2 = 4
    · have hs := ifSt hs c14; have hQ := ifQt hQ c14
      refine g_tin 88 (k := 4) (z := 4) (off := 67) c14 dX13_person_21 (by decide) (by decide) (by decide) rfl (by decide) ?_
      refine g_aload_n 0 dX13_person_88 rfl ?_
      refine g_iload_n 1 dX13_person_89 rfl ?_
      refine g_sipush (v := 9999) dX13_person_90 (by decide) ?_
      have h8 := hs.1; have hs := hs.2
      refine g_callV (As := [.int x1, .int 9999]) (st := []) 226 (c_X13_wedTo E M1 x1 9999 h8) mt_X13_wedTo ml_X13_212 dF_Md rfl rfl sg_X13_wedTo rfl (by decide) (Nat.le_of_ble_eq_true rfl) dX13_person_93 ?_
      rintro _ _ ⟨q1, q2⟩; rw [q1, q2]; clear q1 q2
      exact g_iret rfl dX13_person_96 (hK _ hQ)
    have hs := ifSf hs c14; have hQ := ifQf hQ c14
    refine g_tdf 97 dX13_person_21 (fun h1 h2 => by have ec10 : ¬ Int32.toInt x2 = 0 := ne_ti c10 (by decide); have ec11 : ¬ Int32.toInt x2 = 1 := ne_ti c11 (by decide); have ec12 : ¬ Int32.toInt x2 = 2 := ne_ti c12 (by decide); have ec13 : ¬ Int32.toInt x2 = 3 := ne_ti c13 (by decide); have ec14 : ¬ Int32.toInt x2 = 4 := ne_ti c14 (by decide); exfalso; omega) (by decide) ?_
    refine g_aload_n 0 dX13_person_97 rfl ?_
    refine g_iconst (v := 2) dX13_person_98 (by decide) ?_
    refine g_putI 226 fd_X13_61 dF_Md rfl dX13_person_99 (fun M9 hM9 => ?_)
    have hQ := bndQ hQ M9 hM9; have hs := bndS hs M9 hM9
    refine g_iconst (v := 0) dX13_person_102 (by decide) ?_
    exact g_iret rfl dX13_person_103 (hK _ hQ)
  · have hs := ifSt hs c3; have hQ := ifQt hQ c3
    refine g_aload_n 0 dX13_person_13 rfl ?_
    refine g_iconst (v := 1) dX13_person_14 (by decide) ?_
    refine g_putI 226 fd_X13_61 dF_Md rfl dX13_person_15 (fun M15 hM15 => ?_)
    have hQ := bndQ hQ M15 hM15; have hs := bndS hs M15 hM15
    refine g_iconst (v := 0) dX13_person_18 (by decide) ?_
    exact g_iret rfl dX13_person_19 (hK _ hQ)
theorem c_X13_person (E : gE) (M : gM) (x1 : Int32) (x2 : Int32) (hs : s_X13_person M x1 x2) : gC E yX13_person cX13_person 3 (some .int) (rm 1) [.ref (gla E 226), .int x1, .int x2] M (fun o N => o = some (.int (f_X13_person M x1 x2).1) ∧ N = (f_X13_person M x1 x2).2) :=
  gC.of (by decide +kernel) (Nat.le_of_ble_eq_true rfl) rfl (t_X13_person (K := fun z => z = f_X13_person M x1 x2) (fun z hz => by rw [hz]; exact ⟨rfl, rfl⟩) M x1 x2 hs rfl)
def f_X13_paper_76 (M : gM) (x1 : Int32) (x2 : Int32)  : Int32 × gM :=
  (f_X13_of M x1 x2, M)
def s_X13_paper_76 (M : gM) (x1 : Int32) (x2 : Int32)  : Prop :=
  (s_X13_of M x1 x2) ∧
  (True)
theorem o_X13_paper_76 (M : gM) (x1 : Int32) (x2 : Int32)  : offW [67] M (f_X13_paper_76 M x1 x2 ).2 := by
  rw [f_X13_paper_76]
  exact offR
set_option maxRecDepth 100000 in
set_option maxHeartbeats 4000000 in
theorem t_X13_paper_76 {E : gE} {K : Int32 × gM → Prop} {Q : Option Value → gM → Prop} (hK : ∀ z : Int32 × gM, K z → Q (some (.int z.1)) z.2) (M : gM) (x1 : Int32) (x2 : Int32)   (hs : s_X13_paper_76 M x1 x2 ) (hQ : K (f_X13_paper_76 M x1 x2 )) : gG E RX13 cX13_paper 3 (some .int) (rm 1) 76 [(0, .ref (gla E 226)), (1, .int x1), (2, .int x2)] [] M Q := by
  rw [s_X13_paper_76] at hs
  rw [f_X13_paper_76] at hQ
  refine g_aload_n 0 dX13_paper_76 rfl ?_
  refine g_iload_n 1 dX13_paper_77 rfl ?_
  refine g_iload_n 2 dX13_paper_78 rfl ?_
  have h21 := hs.1; have hs := hs.2
  refine g_callV (As := [.int x1, .int x2]) (st := []) 226 (c_X13_of E M x1 x2 h21) mt_X13_of ml_X13_218 dF_Md rfl rfl sg_X13_of rfl (by decide) (Nat.le_of_ble_eq_true rfl) dX13_paper_79 ?_
  rintro _ _ ⟨q1, q2⟩; rw [q1, q2]; clear q1 q2
  exact g_iret rfl dX13_paper_82 (hK _ hQ)
def f_X13_paper (M : gM) (x1 : Int32) (x2 : Int32) : Int32 × gM :=
  bnd (wrI M 67 0 0 0 0) fun M1 =>
  (if (f_X13_isPaper M1 x1) = 0 then
    (bnd (wrI M1 67 0 0 0 1) fun M20 =>
    ((0, M20)))
  else
    (if x2 = 0 then
      (f_X13_paper_76 M1 x1 x2)
    else
      (if x2 = 1 then
        (f_X13_paper_76 M1 x1 x2)
      else
        (if x2 = 2 then
          (f_X13_paper_76 M1 x1 x2)
        else
          (if x2 = 3 then
            (f_X13_paper_76 M1 x1 x2)
          else
            (if x2 = 4 then
              (f_X13_paper_76 M1 x1 x2)
            else
              (if x2 = 5 then
                ((rdI M1 92 0 0 (nn (22 + x1)), M1))
              else
                (if x2 = 6 then
                  ((f_X13_of M1 x1 5, M1))
                else
                  (if x2 = 7 then
                    ((f_X13_of M1 x1 6, M1))
                  else
                    (if x2 = 8 then
                      ((rdI M1 92 0 0 (nn (10 + x1)), M1))
                    else
                      (if x2 = 9 then
                        ((rdI M1 92 0 0 (nn (34 + x1)), M1))
                      else
                        (bnd (wrI M1 67 0 0 0 2) fun M9 =>
                        ((0, M9))))))))))))))
def s_X13_paper (M : gM) (x1 : Int32) (x2 : Int32) : Prop :=
  bndP (wrI M 67 0 0 0 0) fun M1 =>
  ((s_X13_isPaper M1 x1) ∧
  (if (f_X13_isPaper M1 x1) = 0 then
    (bndP (wrI M1 67 0 0 0 1) fun M20 =>
    (True))
  else
    (if x2 = 0 then
      (s_X13_paper_76 M1 x1 x2)
    else
      (if x2 = 1 then
        (s_X13_paper_76 M1 x1 x2)
      else
        (if x2 = 2 then
          (s_X13_paper_76 M1 x1 x2)
        else
          (if x2 = 3 then
            (s_X13_paper_76 M1 x1 x2)
          else
            (if x2 = 4 then
              (s_X13_paper_76 M1 x1 x2)
            else
              (if x2 = 5 then
                ((vp_in (22 + x1) 65) ∧
                (True))
              else
                (if x2 = 6 then
                  ((s_X13_of M1 x1 5) ∧
                  (True))
                else
                  (if x2 = 7 then
                    ((s_X13_of M1 x1 6) ∧
                    (True))
                  else
                    (if x2 = 8 then
                      ((vp_in (10 + x1) 65) ∧
                      (True))
                    else
                      (if x2 = 9 then
                        ((vp_in (34 + x1) 65) ∧
                        (True))
                      else
                        (bndP (wrI M1 67 0 0 0 2) fun M9 =>
                        (True))))))))))))))
theorem o_X13_paper (M : gM) (x1 : Int32) (x2 : Int32) : offW [67] M (f_X13_paper M x1 x2).2 := by
  rw [f_X13_paper]
  refine offB2 (offR.wI (by decide)) (fun M1 oM1 => ?_)
  refine offI2 ?_ ?_
  · refine offB2 (oM1.wI (by decide)) (fun M20 oM20 => ?_)
    exact oM20
  · refine offI2 ?_ ?_
    · exact oM1.tr (o_X13_paper_76 M1 x1 x2)
    refine offI2 ?_ ?_
    · exact oM1.tr (o_X13_paper_76 M1 x1 x2)
    refine offI2 ?_ ?_
    · exact oM1.tr (o_X13_paper_76 M1 x1 x2)
    refine offI2 ?_ ?_
    · exact oM1.tr (o_X13_paper_76 M1 x1 x2)
    refine offI2 ?_ ?_
    · exact oM1.tr (o_X13_paper_76 M1 x1 x2)
    refine offI2 ?_ ?_
    · exact oM1
    refine offI2 ?_ ?_
    · exact oM1
    refine offI2 ?_ ?_
    · exact oM1
    refine offI2 ?_ ?_
    · exact oM1
    refine offI2 ?_ ?_
    · exact oM1
    refine offB2 (oM1.wI (by decide)) (fun M9 oM9 => ?_)
    exact oM9
set_option maxRecDepth 100000 in
set_option maxHeartbeats 4000000 in
theorem t_X13_paper {E : gE} {K : Int32 × gM → Prop} {Q : Option Value → gM → Prop} (hK : ∀ z : Int32 × gM, K z → Q (some (.int z.1)) z.2) (M : gM) (x1 : Int32) (x2 : Int32)  (hs : s_X13_paper M x1 x2) (hQ : K (f_X13_paper M x1 x2)) : gG E RX13 cX13_paper 3 (some .int) (rm 1) 0 [(0, .ref (gla E 226)), (1, .int x1), (2, .int x2)] [] M Q := by
  rw [s_X13_paper] at hs
  rw [f_X13_paper] at hQ
  refine g_aload_n 0 dX13_paper_0 rfl ?_
  refine g_iconst (v := 0) dX13_paper_1 (by decide) ?_
  refine g_putI 226 fd_X13_61 dF_Md rfl dX13_paper_2 (fun M1 hM1 => ?_)
  have hQ := bndQ hQ M1 hM1; have hs := bndS hs M1 hM1
  refine g_aload_n 0 dX13_paper_5 rfl ?_
  refine g_iload_n 1 dX13_paper_6 rfl ?_
  have h2 := hs.1; have hs := hs.2
  refine g_callV (As := [.int x1]) (st := []) 226 (c_X13_isPaper E M1 x1 h2) mt_X13_isPaper ml_X13_215 dF_Md rfl rfl sg_X13_isPaper rfl (by decide) (Nat.le_of_ble_eq_true rfl) dX13_paper_7 ?_
  rintro _ _ ⟨q1, q2⟩; rw [q1, q2]; clear q1 q2
  refine g_if_ne 20 dX13_paper_10 (by decide) (fun c3 => ?_) (fun c3 => ?_)
  · have hs := ifSf hs c3; have hQ := ifQf hQ c3
    refine g_iload_n 2 dX13_paper_20 rfl ?_
    by_cases c10 : x2 = 0
    · have hs := ifSt hs c10; have hQ := ifQt hQ c10
      refine g_tin 76 (k := 0) (z := 0) (off := 55) c10 dX13_paper_21 (by decide) (by decide) (by decide) rfl (by decide) ?_
      exact t_X13_paper_76 hK M1 x1 x2 hs hQ
    have hs := ifSf hs c10; have hQ := ifQf hQ c10
    by_cases c11 : x2 = 1
    · have hs := ifSt hs c11; have hQ := ifQt hQ c11
      refine g_tin 76 (k := 1) (z := 1) (off := 55) c11 dX13_paper_21 (by decide) (by decide) (by decide) rfl (by decide) ?_
      exact t_X13_paper_76 hK M1 x1 x2 hs hQ
    have hs := ifSf hs c11; have hQ := ifQf hQ c11
    by_cases c12 : x2 = 2
    · have hs := ifSt hs c12; have hQ := ifQt hQ c12
      refine g_tin 76 (k := 2) (z := 2) (off := 55) c12 dX13_paper_21 (by decide) (by decide) (by decide) rfl (by decide) ?_
      exact t_X13_paper_76 hK M1 x1 x2 hs hQ
    have hs := ifSf hs c12; have hQ := ifQf hQ c12
    by_cases c13 : x2 = 3
    · have hs := ifSt hs c13; have hQ := ifQt hQ c13
      refine g_tin 76 (k := 3) (z := 3) (off := 55) c13 dX13_paper_21 (by decide) (by decide) (by decide) rfl (by decide) ?_
      exact t_X13_paper_76 hK M1 x1 x2 hs hQ
    have hs := ifSf hs c13; have hQ := ifQf hQ c13
    by_cases c14 : x2 = 4
    · have hs := ifSt hs c14; have hQ := ifQt hQ c14
      refine g_tin 76 (k := 4) (z := 4) (off := 55) c14 dX13_paper_21 (by decide) (by decide) (by decide) rfl (by decide) ?_
      exact t_X13_paper_76 hK M1 x1 x2 hs hQ
    have hs := ifSf hs c14; have hQ := ifQf hQ c14
    by_cases c15 : x2 = 5
    · have hs := ifSt hs c15; have hQ := ifQt hQ c15
      refine g_tin 83 (k := 5) (z := 5) (off := 62) c15 dX13_paper_21 (by decide) (by decide) (by decide) rfl (by decide) ?_
      refine g_aload_n 0 dX13_paper_83 rfl ?_
      refine g_getR 226 232 fd_X13_25 dF_Md rfl rfl dX13_paper_84 ?_
      refine g_bipush (v := 22) dX13_paper_87 (by decide) ?_
      refine g_iload_n 1 dX13_paper_89 rfl ?_
      refine g_iadd dX13_paper_90 ?_
      have h4 := hs.1; have hs := hs.2
      refine g_iald 232 dF_Md_now h4 dX13_paper_91 ?_
      exact g_iret rfl dX13_paper_92 (hK _ hQ)
    have hs := ifSf hs c15; have hQ := ifQf hQ c15
    by_cases c16 : x2 = 6
    · have hs := ifSt hs c16; have hQ := ifQt hQ c16
      refine g_tin 93 (k := 6) (z := 6) (off := 72) c16 dX13_paper_21 (by decide) (by decide) (by decide) rfl (by decide) ?_
      refine g_aload_n 0 dX13_paper_93 rfl ?_
      refine g_iload_n 1 dX13_paper_94 rfl ?_
      refine g_iconst (v := 5) dX13_paper_95 (by decide) ?_
      have h5 := hs.1; have hs := hs.2
      refine g_callV (As := [.int x1, .int 5]) (st := []) 226 (c_X13_of E M1 x1 5 h5) mt_X13_of ml_X13_218 dF_Md rfl rfl sg_X13_of rfl (by decide) (Nat.le_of_ble_eq_true rfl) dX13_paper_96 ?_
      rintro _ _ ⟨q1, q2⟩; rw [q1, q2]; clear q1 q2
      exact g_iret rfl dX13_paper_99 (hK _ hQ)
    have hs := ifSf hs c16; have hQ := ifQf hQ c16
    by_cases c17 : x2 = 7
    · have hs := ifSt hs c17; have hQ := ifQt hQ c17
      refine g_tin 100 (k := 7) (z := 7) (off := 79) c17 dX13_paper_21 (by decide) (by decide) (by decide) rfl (by decide) ?_
      refine g_aload_n 0 dX13_paper_100 rfl ?_
      refine g_iload_n 1 dX13_paper_101 rfl ?_
      refine g_bipush (v := 6) dX13_paper_102 (by decide) ?_
      have h6 := hs.1; have hs := hs.2
      refine g_callV (As := [.int x1, .int 6]) (st := []) 226 (c_X13_of E M1 x1 6 h6) mt_X13_of ml_X13_218 dF_Md rfl rfl sg_X13_of rfl (by decide) (Nat.le_of_ble_eq_true rfl) dX13_paper_104 ?_
      rintro _ _ ⟨q1, q2⟩; rw [q1, q2]; clear q1 q2
      exact g_iret rfl dX13_paper_107 (hK _ hQ)
    have hs := ifSf hs c17; have hQ := ifQf hQ c17
    by_cases c18 : x2 = 8
    · have hs := ifSt hs c18; have hQ := ifQt hQ c18
      refine g_tin 108 (k := 8) (z := 8) (off := 87) c18 dX13_paper_21 (by decide) (by decide) (by decide) rfl (by decide) ?_
      refine g_aload_n 0 dX13_paper_108 rfl ?_
      refine g_getR 226 232 fd_X13_25 dF_Md rfl rfl dX13_paper_109 ?_
      refine g_bipush (v := 10) dX13_paper_112 (by decide) ?_
      refine g_iload_n 1 dX13_paper_114 rfl ?_
      refine g_iadd dX13_paper_115 ?_
      have h7 := hs.1; have hs := hs.2
      refine g_iald 232 dF_Md_now h7 dX13_paper_116 ?_
      exact g_iret rfl dX13_paper_117 (hK _ hQ)
    have hs := ifSf hs c18; have hQ := ifQf hQ c18
    by_cases c19 : x2 = 9
    · have hs := ifSt hs c19; have hQ := ifQt hQ c19
      refine g_tin 118 (k := 9) (z := 9) (off := 97) c19 dX13_paper_21 (by decide) (by decide) (by decide) rfl (by decide) ?_
      refine g_aload_n 0 dX13_paper_118 rfl ?_
      refine g_getR 226 232 fd_X13_25 dF_Md rfl rfl dX13_paper_119 ?_
      refine g_bipush (v := 34) dX13_paper_122 (by decide) ?_
      refine g_iload_n 1 dX13_paper_124 rfl ?_
      refine g_iadd dX13_paper_125 ?_
      have h8 := hs.1; have hs := hs.2
      refine g_iald 232 dF_Md_now h8 dX13_paper_126 ?_
      exact g_iret rfl dX13_paper_127 (hK _ hQ)
    have hs := ifSf hs c19; have hQ := ifQf hQ c19
    refine g_tdf 128 dX13_paper_21 (fun h1 h2 => by have ec10 : ¬ Int32.toInt x2 = 0 := ne_ti c10 (by decide); have ec11 : ¬ Int32.toInt x2 = 1 := ne_ti c11 (by decide); have ec12 : ¬ Int32.toInt x2 = 2 := ne_ti c12 (by decide); have ec13 : ¬ Int32.toInt x2 = 3 := ne_ti c13 (by decide); have ec14 : ¬ Int32.toInt x2 = 4 := ne_ti c14 (by decide); have ec15 : ¬ Int32.toInt x2 = 5 := ne_ti c15 (by decide); have ec16 : ¬ Int32.toInt x2 = 6 := ne_ti c16 (by decide); have ec17 : ¬ Int32.toInt x2 = 7 := ne_ti c17 (by decide); have ec18 : ¬ Int32.toInt x2 = 8 := ne_ti c18 (by decide); have ec19 : ¬ Int32.toInt x2 = 9 := ne_ti c19 (by decide); exfalso; omega) (by decide) ?_
    refine g_aload_n 0 dX13_paper_128 rfl ?_
    refine g_iconst (v := 2) dX13_paper_129 (by decide) ?_
    refine g_putI 226 fd_X13_61 dF_Md rfl dX13_paper_130 (fun M9 hM9 => ?_)
    have hQ := bndQ hQ M9 hM9; have hs := bndS hs M9 hM9
    refine g_iconst (v := 0) dX13_paper_133 (by decide) ?_
    exact g_iret rfl dX13_paper_134 (hK _ hQ)
  · have hs := ifSt hs c3; have hQ := ifQt hQ c3
    refine g_aload_n 0 dX13_paper_13 rfl ?_
    refine g_iconst (v := 1) dX13_paper_14 (by decide) ?_
    refine g_putI 226 fd_X13_61 dF_Md rfl dX13_paper_15 (fun M20 hM20 => ?_)
    have hQ := bndQ hQ M20 hM20; have hs := bndS hs M20 hM20
    refine g_iconst (v := 0) dX13_paper_18 (by decide) ?_
    exact g_iret rfl dX13_paper_19 (hK _ hQ)
theorem c_X13_paper (E : gE) (M : gM) (x1 : Int32) (x2 : Int32) (hs : s_X13_paper M x1 x2) : gC E yX13_paper cX13_paper 3 (some .int) (rm 1) [.ref (gla E 226), .int x1, .int x2] M (fun o N => o = some (.int (f_X13_paper M x1 x2).1) ∧ N = (f_X13_paper M x1 x2).2) :=
  gC.of (by decide +kernel) (Nat.le_of_ble_eq_true rfl) rfl (t_X13_paper (K := fun z => z = f_X13_paper M x1 x2) (fun z hz => by rw [hz]; exact ⟨rfl, rfl⟩) M x1 x2 hs rfl)
def f_X13_thing_38 (M : gM)  : Int32 × gM :=
  ((-1), M)
def s_X13_thing_38 (M : gM)  : Prop :=
  True
theorem o_X13_thing_38 (M : gM)  : offW [67] M (f_X13_thing_38 M ).2 := by
  rw [f_X13_thing_38]
  exact offR
set_option maxRecDepth 100000 in
set_option maxHeartbeats 4000000 in
theorem t_X13_thing_38 {E : gE} {K : Int32 × gM → Prop} {Q : Option Value → gM → Prop} (hK : ∀ z : Int32 × gM, K z → Q (some (.int z.1)) z.2) (M : gM)   (hs : s_X13_thing_38 M ) (hQ : K (f_X13_thing_38 M )) : gG E RX13 cX13_thing 3 (some .int) (rm 1) 38 [] [] M Q := by
  rw [s_X13_thing_38] at hs
  rw [f_X13_thing_38] at hQ
  refine g_iconst (v := (-1)) dX13_thing_38 (by decide) ?_
  exact g_iret rfl dX13_thing_39 (hK _ hQ)
def f_X13_thing (M : gM) (x1 : Int32) (x2 : Int32) : Int32 × gM :=
  bnd (wrI M 67 0 0 0 0) fun M1 =>
  (if (f_X13_isThing M1 x1) = 0 then
    (f_X13_thing_38 M1)
  else
    (if x2 < 0 then
      (f_X13_thing_38 M1)
    else
      (if 2 < x2 then
        (f_X13_thing_38 M1)
      else
        ((rdI M1 88 0 0 (nn ((34 + (3 * x1)) + x2)), M1)))))
def s_X13_thing (M : gM) (x1 : Int32) (x2 : Int32) : Prop :=
  bndP (wrI M 67 0 0 0 0) fun M1 =>
  ((s_X13_isThing M1 x1) ∧
  (if (f_X13_isThing M1 x1) = 0 then
    (s_X13_thing_38 M1)
  else
    (if x2 < 0 then
      (s_X13_thing_38 M1)
    else
      (if 2 < x2 then
        (s_X13_thing_38 M1)
      else
        ((vp_in ((34 + (3 * x1)) + x2) 502) ∧
        (True))))))
theorem o_X13_thing (M : gM) (x1 : Int32) (x2 : Int32) : offW [67] M (f_X13_thing M x1 x2).2 := by
  rw [f_X13_thing]
  refine offB2 (offR.wI (by decide)) (fun M1 oM1 => ?_)
  refine offI2 ?_ ?_
  · exact oM1.tr (o_X13_thing_38 M1)
  · refine offI2 ?_ ?_
    · exact oM1.tr (o_X13_thing_38 M1)
    · refine offI2 ?_ ?_
      · exact oM1.tr (o_X13_thing_38 M1)
      · exact oM1
set_option maxRecDepth 100000 in
set_option maxHeartbeats 4000000 in
theorem t_X13_thing {E : gE} {K : Int32 × gM → Prop} {Q : Option Value → gM → Prop} (hK : ∀ z : Int32 × gM, K z → Q (some (.int z.1)) z.2) (M : gM) (x1 : Int32) (x2 : Int32)  (hs : s_X13_thing M x1 x2) (hQ : K (f_X13_thing M x1 x2)) : gG E RX13 cX13_thing 3 (some .int) (rm 1) 0 [(0, .ref (gla E 226)), (1, .int x1), (2, .int x2)] [] M Q := by
  rw [s_X13_thing] at hs
  rw [f_X13_thing] at hQ
  refine g_aload_n 0 dX13_thing_0 rfl ?_
  refine g_iconst (v := 0) dX13_thing_1 (by decide) ?_
  refine g_putI 226 fd_X13_61 dF_Md rfl dX13_thing_2 (fun M1 hM1 => ?_)
  have hQ := bndQ hQ M1 hM1; have hs := bndS hs M1 hM1
  refine g_aload_n 0 dX13_thing_5 rfl ?_
  refine g_iload_n 1 dX13_thing_6 rfl ?_
  have h2 := hs.1; have hs := hs.2
  refine g_callV (As := [.int x1]) (st := []) 226 (c_X13_isThing E M1 x1 h2) mt_X13_isThing ml_X13_221 dF_Md rfl rfl sg_X13_isThing rfl (by decide) (Nat.le_of_ble_eq_true rfl) dX13_thing_7 ?_
  rintro _ _ ⟨q1, q2⟩; rw [q1, q2]; clear q1 q2
  refine g_if_eq 38 dX13_thing_10 (by decide) (fun c3 => ?_) (fun c3 => ?_)
  · have hs := ifSt hs c3; have hQ := ifQt hQ c3
    refine g_sub [] _ rfl ?_
    exact t_X13_thing_38 hK M1 hs hQ
  · have hs := ifSf hs c3; have hQ := ifQf hQ c3
    refine g_iload_n 2 dX13_thing_13 rfl ?_
    refine g_if_lt 38 dX13_thing_14 (by decide) (fun c4 => ?_) (fun c4 => ?_)
    · have hs := ifSt hs c4; have hQ := ifQt hQ c4
      refine g_sub [] _ rfl ?_
      exact t_X13_thing_38 hK M1 hs hQ
    · have hs := ifSf hs c4; have hQ := ifQf hQ c4
      refine g_iload_n 2 dX13_thing_17 rfl ?_
      refine g_iconst (v := 2) dX13_thing_18 (by decide) ?_
      refine g_icmp_gt 38 dX13_thing_19 (by decide) (fun c5 => ?_) (fun c5 => ?_)
      · have hs := ifSt hs c5; have hQ := ifQt hQ c5
        refine g_sub [] _ rfl ?_
        exact t_X13_thing_38 hK M1 hs hQ
      · have hs := ifSf hs c5; have hQ := ifQf hQ c5
        refine g_aload_n 0 dX13_thing_22 rfl ?_
        refine g_getR 226 228 fd_X13_13 dF_Md rfl rfl dX13_thing_23 ?_
        refine g_bipush (v := 34) dX13_thing_26 (by decide) ?_
        refine g_iconst (v := 3) dX13_thing_28 (by decide) ?_
        refine g_iload_n 1 dX13_thing_29 rfl ?_
        refine g_imul dX13_thing_30 ?_
        refine g_iadd dX13_thing_31 ?_
        refine g_iload_n 2 dX13_thing_32 rfl ?_
        refine g_iadd dX13_thing_33 ?_
        have h6 := hs.1; have hs := hs.2
        refine g_iald 228 dF_Md_world h6 dX13_thing_34 ?_
        refine g_goto 39 dX13_thing_35 (by decide) ?_
        exact g_iret rfl dX13_thing_39 (hK _ hQ)
theorem c_X13_thing (E : gE) (M : gM) (x1 : Int32) (x2 : Int32) (hs : s_X13_thing M x1 x2) : gC E yX13_thing cX13_thing 3 (some .int) (rm 1) [.ref (gla E 226), .int x1, .int x2] M (fun o N => o = some (.int (f_X13_thing M x1 x2).1) ∧ N = (f_X13_thing M x1 x2).2) :=
  gC.of (by decide +kernel) (Nat.le_of_ble_eq_true rfl) rfl (t_X13_thing (K := fun z => z = f_X13_thing M x1 x2) (fun z hz => by rw [hz]; exact ⟨rfl, rfl⟩) M x1 x2 hs rfl)
def f_X13_give (M : gM) (x1 : Int32) (x2 : Int32) (x3 : Int32) : Int32 × gM :=
  bnd (wrI M 67 0 0 0 0) fun M1 =>
  (if (f_X13_isPaper M1 x1) = 0 then
    (((-1), M1))
  else
    (if x2 < 0 then
      (((-1), M1))
    else
      (if x3 < 0 then
        (((-1), M1))
      else
        (if x3 ≤ 4 then
          (if (f_X13_of M1 x1 5) ≤ x2 then
            (((-2), M1))
          else
            ((rdI M1 88 0 0 (nn ((142 + (5 * ((6 * x1) + x2))) + x3)), M1)))
        else
          (((-1), M1))))))
def s_X13_give (M : gM) (x1 : Int32) (x2 : Int32) (x3 : Int32) : Prop :=
  bndP (wrI M 67 0 0 0 0) fun M1 =>
  ((s_X13_isPaper M1 x1) ∧
  (if (f_X13_isPaper M1 x1) = 0 then
    (True)
  else
    (if x2 < 0 then
      (True)
    else
      (if x3 < 0 then
        (True)
      else
        (if x3 ≤ 4 then
          ((s_X13_of M1 x1 5) ∧
          (if (f_X13_of M1 x1 5) ≤ x2 then
            (True)
          else
            ((vp_in ((142 + (5 * ((6 * x1) + x2))) + x3) 502) ∧
            (True))))
        else
          (True))))))
theorem o_X13_give (M : gM) (x1 : Int32) (x2 : Int32) (x3 : Int32) : offW [67] M (f_X13_give M x1 x2 x3).2 := by
  rw [f_X13_give]
  refine offB2 (offR.wI (by decide)) (fun M1 oM1 => ?_)
  refine offI2 ?_ ?_
  · exact oM1
  · refine offI2 ?_ ?_
    · exact oM1
    · refine offI2 ?_ ?_
      · exact oM1
      · refine offI2 ?_ ?_
        · refine offI2 ?_ ?_
          · exact oM1
          · exact oM1
        · exact oM1
set_option maxRecDepth 100000 in
set_option maxHeartbeats 4000000 in
theorem t_X13_give {E : gE} {K : Int32 × gM → Prop} {Q : Option Value → gM → Prop} (hK : ∀ z : Int32 × gM, K z → Q (some (.int z.1)) z.2) (M : gM) (x1 : Int32) (x2 : Int32) (x3 : Int32)  (hs : s_X13_give M x1 x2 x3) (hQ : K (f_X13_give M x1 x2 x3)) : gG E RX13 cX13_give 4 (some .int) (rm 1) 0 [(0, .ref (gla E 226)), (1, .int x1), (2, .int x2), (3, .int x3)] [] M Q := by
  rw [s_X13_give] at hs
  rw [f_X13_give] at hQ
  refine g_aload_n 0 dX13_give_0 rfl ?_
  refine g_iconst (v := 0) dX13_give_1 (by decide) ?_
  refine g_putI 226 fd_X13_61 dF_Md rfl dX13_give_2 (fun M1 hM1 => ?_)
  have hQ := bndQ hQ M1 hM1; have hs := bndS hs M1 hM1
  refine g_aload_n 0 dX13_give_5 rfl ?_
  refine g_iload_n 1 dX13_give_6 rfl ?_
  have h2 := hs.1; have hs := hs.2
  refine g_callV (As := [.int x1]) (st := []) 226 (c_X13_isPaper E M1 x1 h2) mt_X13_isPaper ml_X13_215 dF_Md rfl rfl sg_X13_isPaper rfl (by decide) (Nat.le_of_ble_eq_true rfl) dX13_give_7 ?_
  rintro _ _ ⟨q1, q2⟩; rw [q1, q2]; clear q1 q2
  refine g_if_eq 26 dX13_give_10 (by decide) (fun c3 => ?_) (fun c3 => ?_)
  · have hs := ifSt hs c3; have hQ := ifQt hQ c3
    refine g_iconst (v := (-1)) dX13_give_26 (by decide) ?_
    exact g_iret rfl dX13_give_27 (hK _ hQ)
  · have hs := ifSf hs c3; have hQ := ifQf hQ c3
    refine g_iload_n 2 dX13_give_13 rfl ?_
    refine g_if_lt 26 dX13_give_14 (by decide) (fun c4 => ?_) (fun c4 => ?_)
    · have hs := ifSt hs c4; have hQ := ifQt hQ c4
      refine g_iconst (v := (-1)) dX13_give_26 (by decide) ?_
      exact g_iret rfl dX13_give_27 (hK _ hQ)
    · have hs := ifSf hs c4; have hQ := ifQf hQ c4
      refine g_iload_n 3 dX13_give_17 rfl ?_
      refine g_if_lt 26 dX13_give_18 (by decide) (fun c5 => ?_) (fun c5 => ?_)
      · have hs := ifSt hs c5; have hQ := ifQt hQ c5
        refine g_iconst (v := (-1)) dX13_give_26 (by decide) ?_
        exact g_iret rfl dX13_give_27 (hK _ hQ)
      · have hs := ifSf hs c5; have hQ := ifQf hQ c5
        refine g_iload_n 3 dX13_give_21 rfl ?_
        refine g_iconst (v := 4) dX13_give_22 (by decide) ?_
        refine g_icmp_le 28 dX13_give_23 (by decide) (fun c6 => ?_) (fun c6 => ?_)
        · have hs := ifSt hs c6; have hQ := ifQt hQ c6
          refine g_iload_n 2 dX13_give_28 rfl ?_
          refine g_aload_n 0 dX13_give_29 rfl ?_
          refine g_iload_n 1 dX13_give_30 rfl ?_
          refine g_iconst (v := 5) dX13_give_31 (by decide) ?_
          have h7 := hs.1; have hs := hs.2
          refine g_callV (As := [.int x1, .int 5]) (st := [.int x2]) 226 (c_X13_of E M1 x1 5 h7) mt_X13_of ml_X13_218 dF_Md rfl rfl sg_X13_of rfl (by decide) (Nat.le_of_ble_eq_true rfl) dX13_give_32 ?_
          rintro _ _ ⟨q1, q2⟩; rw [q1, q2]; clear q1 q2
          refine g_icmp_ge 60 dX13_give_35 (by decide) (fun c8 => ?_) (fun c8 => ?_)
          · have hs := ifSt hs c8; have hQ := ifQt hQ c8
            refine g_bipush (v := (-2)) dX13_give_60 (by decide) ?_
            exact g_iret rfl dX13_give_62 (hK _ hQ)
          · have hs := ifSf hs c8; have hQ := ifQf hQ c8
            refine g_aload_n 0 dX13_give_38 rfl ?_
            refine g_getR 226 228 fd_X13_13 dF_Md rfl rfl dX13_give_39 ?_
            refine g_sipush (v := 142) dX13_give_42 (by decide) ?_
            refine g_iconst (v := 5) dX13_give_45 (by decide) ?_
            refine g_bipush (v := 6) dX13_give_46 (by decide) ?_
            refine g_iload_n 1 dX13_give_48 rfl ?_
            refine g_imul dX13_give_49 ?_
            refine g_iload_n 2 dX13_give_50 rfl ?_
            refine g_iadd dX13_give_51 ?_
            refine g_imul dX13_give_52 ?_
            refine g_iadd dX13_give_53 ?_
            refine g_iload_n 3 dX13_give_54 rfl ?_
            refine g_iadd dX13_give_55 ?_
            have h9 := hs.1; have hs := hs.2
            refine g_iald 228 dF_Md_world h9 dX13_give_56 ?_
            refine g_goto 62 dX13_give_57 (by decide) ?_
            exact g_iret rfl dX13_give_62 (hK _ hQ)
        · have hs := ifSf hs c6; have hQ := ifQf hQ c6
          refine g_iconst (v := (-1)) dX13_give_26 (by decide) ?_
          exact g_iret rfl dX13_give_27 (hK _ hQ)
theorem c_X13_give (E : gE) (M : gM) (x1 : Int32) (x2 : Int32) (x3 : Int32) (hs : s_X13_give M x1 x2 x3) : gC E yX13_give cX13_give 4 (some .int) (rm 1) [.ref (gla E 226), .int x1, .int x2, .int x3] M (fun o N => o = some (.int (f_X13_give M x1 x2 x3).1) ∧ N = (f_X13_give M x1 x2 x3).2) :=
  gC.of (by decide +kernel) (Nat.le_of_ble_eq_true rfl) rfl (t_X13_give (K := fun z => z = f_X13_give M x1 x2 x3) (fun z hz => by rw [hz]; exact ⟨rfl, rfl⟩) M x1 x2 x3 hs rfl)
def f_X13_puts (M : gM) (x1 : Int32) (x2 : Int32) : Int32 × gM :=
  if (rdI M 92 0 0 (nn x1)) = x2 then
    ((0, M))
  else
    (bnd (f_X13_keeps M) fun M4 =>
    (bnd (wrI M4 92 0 0 (nn x1) x2) fun M6 =>
    ((1, M6))))
def s_X13_puts (M : gM) (x1 : Int32) (x2 : Int32) : Prop :=
  (vp_in x1 65) ∧
  (if (rdI M 92 0 0 (nn x1)) = x2 then
    (True)
  else
    ((s_X13_keeps M) ∧
    (bndP (f_X13_keeps M) fun M4 =>
    ((vp_in x1 65) ∧
    (bndP (wrI M4 92 0 0 (nn x1) x2) fun M6 =>
    (True))))))
theorem o_X13_puts (M : gM) (x1 : Int32) (x2 : Int32) : offW [69, 92, 94] M (f_X13_puts M x1 x2).2 := by
  rw [f_X13_puts]
  refine offI2 ?_ ?_
  · exact offR
  · refine offB2 (offR.tr ((o_X13_keeps M).mono (by decide))) (fun M4 oM4 => ?_)
    refine offB2 (oM4.wI (by decide)) (fun M6 oM6 => ?_)
    exact oM6
set_option maxRecDepth 100000 in
set_option maxHeartbeats 4000000 in
theorem t_X13_puts {E : gE} {K : Int32 × gM → Prop} {Q : Option Value → gM → Prop} (hK : ∀ z : Int32 × gM, K z → Q (some (.int z.1)) z.2) (M : gM) (x1 : Int32) (x2 : Int32)  (hs : s_X13_puts M x1 x2) (hQ : K (f_X13_puts M x1 x2)) : gG E RX13 cX13_puts 3 (some .boolean) (rm 1) 0 [(0, .ref (gla E 226)), (1, .int x1), (2, .int x2)] [] M Q := by
  rw [s_X13_puts] at hs
  rw [f_X13_puts] at hQ
  refine g_aload_n 0 dX13_puts_0 rfl ?_
  refine g_getR 226 232 fd_X13_25 dF_Md rfl rfl dX13_puts_1 ?_
  refine g_iload_n 1 dX13_puts_4 rfl ?_
  have h1 := hs.1; have hs := hs.2
  refine g_iald 232 dF_Md_now h1 dX13_puts_5 ?_
  refine g_iload_n 2 dX13_puts_6 rfl ?_
  refine g_icmp_ne 12 dX13_puts_7 (by decide) (fun c2 => ?_) (fun c2 => ?_)
  · have hs := ifSf hs c2; have hQ := ifQf hQ c2
    refine g_aload_n 0 dX13_puts_12 rfl ?_
    have h3 := hs.1; have hs := hs.2
    refine g_callV (As := []) (st := []) 226 (c_X13_keeps E M h3) mt_X13_keeps ml_X13_224 dF_Md rfl rfl sg_X13_keeps rfl (by decide) (Nat.le_of_ble_eq_true rfl) dX13_puts_13 ?_
    rintro _ M4 ⟨rfl, hM4⟩
    have hQ := bndQ hQ M4 hM4; have hs := bndS hs M4 hM4
    refine g_aload_n 0 dX13_puts_16 rfl ?_
    refine g_getR 226 232 fd_X13_25 dF_Md rfl rfl dX13_puts_17 ?_
    refine g_iload_n 1 dX13_puts_20 rfl ?_
    refine g_iload_n 2 dX13_puts_21 rfl ?_
    have h5 := hs.1; have hs := hs.2
    refine g_iast 232 dF_Md_now h5 dX13_puts_22 (fun M6 hM6 => ?_)
    have hQ := bndQ hQ M6 hM6; have hs := bndS hs M6 hM6
    refine g_iconst (v := 1) dX13_puts_23 (by decide) ?_
    exact g_zret rfl (Or.inr rfl) dX13_puts_24 (hK _ hQ)
  · have hs := ifSt hs c2; have hQ := ifQt hQ c2
    refine g_iconst (v := 0) dX13_puts_10 (by decide) ?_
    exact g_zret rfl (Or.inl rfl) dX13_puts_11 (hK _ hQ)
theorem c_X13_puts (E : gE) (M : gM) (x1 : Int32) (x2 : Int32) (hs : s_X13_puts M x1 x2) : gC E yX13_puts cX13_puts 3 (some .boolean) (rm 1) [.ref (gla E 226), .int x1, .int x2] M (fun o N => o = some (.int (f_X13_puts M x1 x2).1) ∧ N = (f_X13_puts M x1 x2).2) :=
  gC.of (by decide +kernel) (Nat.le_of_ble_eq_true rfl) rfl (t_X13_puts (K := fun z => z = f_X13_puts M x1 x2) (fun z hz => by rw [hz]; exact ⟨rfl, rfl⟩) M x1 x2 hs rfl)
def f_X13_wed (M : gM) (x1 : Int32) (x2 : Int32) (x3 : Int32) : Int32 × gM :=
  bnd (wrI M 67 0 0 0 0) fun M1 =>
  (if (f_X13_isPerson M1 x1) = 0 then
    (((-1), M1))
  else
    (if (f_X13_isPerson M1 x2) = 0 then
      (((-1), M1))
    else
      (if x1 = x2 then
        (((-1), M1))
      else
        (if (f_X13_isDay M1 x3) = 0 then
          (((-1), M1))
        else
          (if (rdI M1 92 0 0 (nn 64)) = 6 then
            (((-2), M1))
          else
            (bnd (f_X13_keeps M1) fun M12 =>
            (bnd (f_X13_weds_now M12 x1 x2 x3) fun M14 =>
            ((rdI M14 92 0 0 (nn 64), M14)))))))))
def s_X13_wed (M : gM) (x1 : Int32) (x2 : Int32) (x3 : Int32) : Prop :=
  bndP (wrI M 67 0 0 0 0) fun M1 =>
  ((s_X13_isPerson M1 x1) ∧
  (if (f_X13_isPerson M1 x1) = 0 then
    (True)
  else
    ((s_X13_isPerson M1 x2) ∧
    (if (f_X13_isPerson M1 x2) = 0 then
      (True)
    else
      (if x1 = x2 then
        (True)
      else
        ((s_X13_isDay M1 x3) ∧
        (if (f_X13_isDay M1 x3) = 0 then
          (True)
        else
          ((vp_in 64 65) ∧
          (if (rdI M1 92 0 0 (nn 64)) = 6 then
            (True)
          else
            ((s_X13_keeps M1) ∧
            (bndP (f_X13_keeps M1) fun M12 =>
            ((s_X13_weds_now M12 x1 x2 x3) ∧
            (bndP (f_X13_weds_now M12 x1 x2 x3) fun M14 =>
            ((vp_in 64 65) ∧
            (True)))))))))))))))
theorem o_X13_wed (M : gM) (x1 : Int32) (x2 : Int32) (x3 : Int32) : offW [67, 69, 92, 94] M (f_X13_wed M x1 x2 x3).2 := by
  rw [f_X13_wed]
  refine offB2 (offR.wI (by decide)) (fun M1 oM1 => ?_)
  refine offI2 ?_ ?_
  · exact oM1
  · refine offI2 ?_ ?_
    · exact oM1
    · refine offI2 ?_ ?_
      · exact oM1
      · refine offI2 ?_ ?_
        · exact oM1
        · refine offI2 ?_ ?_
          · exact oM1
          · refine offB2 (oM1.tr ((o_X13_keeps M1).mono (by decide))) (fun M12 oM12 => ?_)
            refine offB2 (oM12.tr ((o_X13_weds_now M12 x1 x2 x3).mono (by decide))) (fun M14 oM14 => ?_)
            exact oM14
set_option maxRecDepth 100000 in
set_option maxHeartbeats 4000000 in
theorem t_X13_wed {E : gE} {K : Int32 × gM → Prop} {Q : Option Value → gM → Prop} (hK : ∀ z : Int32 × gM, K z → Q (some (.int z.1)) z.2) (M : gM) (x1 : Int32) (x2 : Int32) (x3 : Int32)  (hs : s_X13_wed M x1 x2 x3) (hQ : K (f_X13_wed M x1 x2 x3)) : gG E RX13 cX13_wed 4 (some .int) (rm 1) 0 [(0, .ref (gla E 226)), (1, .int x1), (2, .int x2), (3, .int x3)] [] M Q := by
  rw [s_X13_wed] at hs
  rw [f_X13_wed] at hQ
  refine g_aload_n 0 dX13_wed_0 rfl ?_
  refine g_iconst (v := 0) dX13_wed_1 (by decide) ?_
  refine g_putI 226 fd_X13_61 dF_Md rfl dX13_wed_2 (fun M1 hM1 => ?_)
  have hQ := bndQ hQ M1 hM1; have hs := bndS hs M1 hM1
  refine g_aload_n 0 dX13_wed_5 rfl ?_
  refine g_iload_n 1 dX13_wed_6 rfl ?_
  have h2 := hs.1; have hs := hs.2
  refine g_callV (As := [.int x1]) (st := []) 226 (c_X13_isPerson E M1 x1 h2) mt_X13_isPerson ml_X13_206 dF_Md rfl rfl sg_X13_isPerson rfl (by decide) (Nat.le_of_ble_eq_true rfl) dX13_wed_7 ?_
  rintro _ _ ⟨q1, q2⟩; rw [q1, q2]; clear q1 q2
  refine g_if_eq 33 dX13_wed_10 (by decide) (fun c3 => ?_) (fun c3 => ?_)
  · have hs := ifSt hs c3; have hQ := ifQt hQ c3
    refine g_iconst (v := (-1)) dX13_wed_33 (by decide) ?_
    exact g_iret rfl dX13_wed_34 (hK _ hQ)
  · have hs := ifSf hs c3; have hQ := ifQf hQ c3
    refine g_aload_n 0 dX13_wed_13 rfl ?_
    refine g_iload_n 2 dX13_wed_14 rfl ?_
    have h4 := hs.1; have hs := hs.2
    refine g_callV (As := [.int x2]) (st := []) 226 (c_X13_isPerson E M1 x2 h4) mt_X13_isPerson ml_X13_206 dF_Md rfl rfl sg_X13_isPerson rfl (by decide) (Nat.le_of_ble_eq_true rfl) dX13_wed_15 ?_
    rintro _ _ ⟨q1, q2⟩; rw [q1, q2]; clear q1 q2
    refine g_if_eq 33 dX13_wed_18 (by decide) (fun c5 => ?_) (fun c5 => ?_)
    · have hs := ifSt hs c5; have hQ := ifQt hQ c5
      refine g_iconst (v := (-1)) dX13_wed_33 (by decide) ?_
      exact g_iret rfl dX13_wed_34 (hK _ hQ)
    · have hs := ifSf hs c5; have hQ := ifQf hQ c5
      refine g_iload_n 1 dX13_wed_21 rfl ?_
      refine g_iload_n 2 dX13_wed_22 rfl ?_
      refine g_icmp_eq 33 dX13_wed_23 (by decide) (fun c6 => ?_) (fun c6 => ?_)
      · have hs := ifSt hs c6; have hQ := ifQt hQ c6
        refine g_iconst (v := (-1)) dX13_wed_33 (by decide) ?_
        exact g_iret rfl dX13_wed_34 (hK _ hQ)
      · have hs := ifSf hs c6; have hQ := ifQf hQ c6
        refine g_iload_n 3 dX13_wed_26 rfl ?_
        have h7 := hs.1; have hs := hs.2
        refine g_callS (As := [.int x3]) (st := []) (c_X13_isDay E M1 x3 h7) mt_X13_isDay ml_X13_230 sg_X13_isDay rfl (by decide) (Nat.le_of_ble_eq_true rfl) dX13_wed_27 ?_
        rintro _ _ ⟨q1, q2⟩; rw [q1, q2]; clear q1 q2
        refine g_if_ne 35 dX13_wed_30 (by decide) (fun c8 => ?_) (fun c8 => ?_)
        · have hs := ifSf hs c8; have hQ := ifQf hQ c8
          refine g_aload_n 0 dX13_wed_35 rfl ?_
          refine g_getR 226 232 fd_X13_25 dF_Md rfl rfl dX13_wed_36 ?_
          refine g_bipush (v := 64) dX13_wed_39 (by decide) ?_
          have h9 := hs.1; have hs := hs.2
          refine g_iald 232 dF_Md_now h9 dX13_wed_41 ?_
          refine g_bipush (v := 6) dX13_wed_42 (by decide) ?_
          refine g_icmp_ne 50 dX13_wed_44 (by decide) (fun c10 => ?_) (fun c10 => ?_)
          · have hs := ifSf hs c10; have hQ := ifQf hQ c10
            refine g_aload_n 0 dX13_wed_50 rfl ?_
            have h11 := hs.1; have hs := hs.2
            refine g_callV (As := []) (st := []) 226 (c_X13_keeps E M1 h11) mt_X13_keeps ml_X13_224 dF_Md rfl rfl sg_X13_keeps rfl (by decide) (Nat.le_of_ble_eq_true rfl) dX13_wed_51 ?_
            rintro _ M12 ⟨rfl, hM12⟩
            have hQ := bndQ hQ M12 hM12; have hs := bndS hs M12 hM12
            refine g_aload_n 0 dX13_wed_54 rfl ?_
            refine g_getR 226 232 fd_X13_25 dF_Md rfl rfl dX13_wed_55 ?_
            refine g_iload_n 1 dX13_wed_58 rfl ?_
            refine g_iload_n 2 dX13_wed_59 rfl ?_
            refine g_iload_n 3 dX13_wed_60 rfl ?_
            have h13 := hs.1; have hs := hs.2
            refine g_callS (As := [.ref (gla E 232), .int x1, .int x2, .int x3]) (st := []) (c_X13_weds_now E M12 x1 x2 x3 h13) mt_X13_weds ml_X13_159 sg_X13_weds rfl (by decide) (Nat.le_of_ble_eq_true rfl) dX13_wed_61 ?_
            rintro _ M14 ⟨rfl, hM14⟩
            have hQ := bndQ hQ M14 hM14; have hs := bndS hs M14 hM14
            refine g_aload_n 0 dX13_wed_64 rfl ?_
            refine g_getR 226 232 fd_X13_25 dF_Md rfl rfl dX13_wed_65 ?_
            refine g_bipush (v := 64) dX13_wed_68 (by decide) ?_
            have h15 := hs.1; have hs := hs.2
            refine g_iald 232 dF_Md_now h15 dX13_wed_70 ?_
            exact g_iret rfl dX13_wed_71 (hK _ hQ)
          · have hs := ifSt hs c10; have hQ := ifQt hQ c10
            refine g_bipush (v := (-2)) dX13_wed_47 (by decide) ?_
            exact g_iret rfl dX13_wed_49 (hK _ hQ)
        · have hs := ifSt hs c8; have hQ := ifQt hQ c8
          refine g_iconst (v := (-1)) dX13_wed_33 (by decide) ?_
          exact g_iret rfl dX13_wed_34 (hK _ hQ)
theorem c_X13_wed (E : gE) (M : gM) (x1 : Int32) (x2 : Int32) (x3 : Int32) (hs : s_X13_wed M x1 x2 x3) : gC E yX13_wed cX13_wed 4 (some .int) (rm 1) [.ref (gla E 226), .int x1, .int x2, .int x3] M (fun o N => o = some (.int (f_X13_wed M x1 x2 x3).1) ∧ N = (f_X13_wed M x1 x2 x3).2) :=
  gC.of (by decide +kernel) (Nat.le_of_ble_eq_true rfl) rfl (t_X13_wed (K := fun z => z = f_X13_wed M x1 x2 x3) (fun z hz => by rw [hz]; exact ⟨rfl, rfl⟩) M x1 x2 x3 hs rfl)
def f_X13_isProved_40 (M : gM)  : Int32 :=
  1
def s_X13_isProved_40 (M : gM)  : Prop :=
  True
set_option maxRecDepth 100000 in
set_option maxHeartbeats 4000000 in
theorem t_X13_isProved_40 {E : gE} {K : Int32 → Prop} {Q : Option Value → gM → Prop} {M : gM} (hK : ∀ z : Int32, K z → Q (some (.int z)) M)    (hs : s_X13_isProved_40 M ) (hQ : K (f_X13_isProved_40 M )) : gG E RX13 cX13_isProved 2 (some .boolean) (rm 1) 40 [] [] M Q := by
  rw [s_X13_isProved_40] at hs
  rw [f_X13_isProved_40] at hQ
  refine g_iconst (v := 1) dX13_isProved_40 (by decide) ?_
  refine g_goto 45 dX13_isProved_41 (by decide) ?_
  exact g_zret rfl (Or.inr rfl) dX13_isProved_45 (hK _ hQ)
def f_X13_isProved_44 (M : gM)  : Int32 :=
  0
def s_X13_isProved_44 (M : gM)  : Prop :=
  True
set_option maxRecDepth 100000 in
set_option maxHeartbeats 4000000 in
theorem t_X13_isProved_44 {E : gE} {K : Int32 → Prop} {Q : Option Value → gM → Prop} {M : gM} (hK : ∀ z : Int32, K z → Q (some (.int z)) M)    (hs : s_X13_isProved_44 M ) (hQ : K (f_X13_isProved_44 M )) : gG E RX13 cX13_isProved 2 (some .boolean) (rm 1) 44 [] [] M Q := by
  rw [s_X13_isProved_44] at hs
  rw [f_X13_isProved_44] at hQ
  refine g_iconst (v := 0) dX13_isProved_44 (by decide) ?_
  exact g_zret rfl (Or.inl rfl) dX13_isProved_45 (hK _ hQ)
def f_X13_isProved (M : gM) (x1 : Int32) : Int32 :=
  if (rdI M 92 0 0 (nn (10 + x1))) = (-2) then
    (f_X13_isProved_40 M)
  else
    (if (rdI M 92 0 0 (nn (10 + x1))) ≤ 0 then
      (f_X13_isProved_44 M)
    else
      (if (f_X13_has M (f_X13_of M x1 2) 3) = 0 then
        (f_X13_isProved_44 M)
      else
        (f_X13_isProved_40 M)))
def s_X13_isProved (M : gM) (x1 : Int32) : Prop :=
  (vp_in (10 + x1) 65) ∧
  (if (rdI M 92 0 0 (nn (10 + x1))) = (-2) then
    (s_X13_isProved_40 M)
  else
    ((vp_in (10 + x1) 65) ∧
    (if (rdI M 92 0 0 (nn (10 + x1))) ≤ 0 then
      (s_X13_isProved_44 M)
    else
      ((s_X13_of M x1 2) ∧
      ((s_X13_has M (f_X13_of M x1 2) 3) ∧
      (if (f_X13_has M (f_X13_of M x1 2) 3) = 0 then
        (s_X13_isProved_44 M)
      else
        (s_X13_isProved_40 M)))))))
set_option maxRecDepth 100000 in
set_option maxHeartbeats 4000000 in
theorem t_X13_isProved {E : gE} {K : Int32 → Prop} {Q : Option Value → gM → Prop} {M : gM} (hK : ∀ z : Int32, K z → Q (some (.int z)) M)  (x1 : Int32)  (hs : s_X13_isProved M x1) (hQ : K (f_X13_isProved M x1)) : gG E RX13 cX13_isProved 2 (some .boolean) (rm 1) 0 [(0, .ref (gla E 226)), (1, .int x1)] [] M Q := by
  rw [s_X13_isProved] at hs
  rw [f_X13_isProved] at hQ
  refine g_aload_n 0 dX13_isProved_0 rfl ?_
  refine g_getR 226 232 fd_X13_25 dF_Md rfl rfl dX13_isProved_1 ?_
  refine g_bipush (v := 10) dX13_isProved_4 (by decide) ?_
  refine g_iload_n 1 dX13_isProved_6 rfl ?_
  refine g_iadd dX13_isProved_7 ?_
  have h1 := hs.1; have hs := hs.2
  refine g_iald 232 dF_Md_now h1 dX13_isProved_8 ?_
  refine g_bipush (v := (-2)) dX13_isProved_9 (by decide) ?_
  refine g_icmp_eq 40 dX13_isProved_11 (by decide) (fun c2 => ?_) (fun c2 => ?_)
  · have hs := ifSt hs c2; have hQ := ifQt hQ c2
    refine g_sub [] _ rfl ?_
    exact t_X13_isProved_40 hK hs hQ
  · have hs := ifSf hs c2; have hQ := ifQf hQ c2
    refine g_aload_n 0 dX13_isProved_14 rfl ?_
    refine g_getR 226 232 fd_X13_25 dF_Md rfl rfl dX13_isProved_15 ?_
    refine g_bipush (v := 10) dX13_isProved_18 (by decide) ?_
    refine g_iload_n 1 dX13_isProved_20 rfl ?_
    refine g_iadd dX13_isProved_21 ?_
    have h3 := hs.1; have hs := hs.2
    refine g_iald 232 dF_Md_now h3 dX13_isProved_22 ?_
    refine g_if_le 44 dX13_isProved_23 (by decide) (fun c4 => ?_) (fun c4 => ?_)
    · have hs := ifSt hs c4; have hQ := ifQt hQ c4
      refine g_sub [] _ rfl ?_
      exact t_X13_isProved_44 hK hs hQ
    · have hs := ifSf hs c4; have hQ := ifQf hQ c4
      refine g_aload_n 0 dX13_isProved_26 rfl ?_
      refine g_aload_n 0 dX13_isProved_27 rfl ?_
      refine g_iload_n 1 dX13_isProved_28 rfl ?_
      refine g_iconst (v := 2) dX13_isProved_29 (by decide) ?_
      have h5 := hs.1; have hs := hs.2
      refine g_callV (As := [.int x1, .int 2]) (st := [.ref (gla E 226)]) 226 (c_X13_of E M x1 2 h5) mt_X13_of ml_X13_218 dF_Md rfl rfl sg_X13_of rfl (by decide) (Nat.le_of_ble_eq_true rfl) dX13_isProved_30 ?_
      rintro _ _ ⟨q1, q2⟩; rw [q1, q2]; clear q1 q2
      refine g_iconst (v := 3) dX13_isProved_33 (by decide) ?_
      have h6 := hs.1; have hs := hs.2
      refine g_callV (As := [.int (f_X13_of M x1 2), .int 3]) (st := []) 226 (c_X13_has E M (f_X13_of M x1 2) 3 h6) mt_X13_has ml_X13_239 dF_Md rfl rfl sg_X13_has rfl (by decide) (Nat.le_of_ble_eq_true rfl) dX13_isProved_34 ?_
      rintro _ _ ⟨q1, q2⟩; rw [q1, q2]; clear q1 q2
      refine g_if_eq 44 dX13_isProved_37 (by decide) (fun c7 => ?_) (fun c7 => ?_)
      · have hs := ifSt hs c7; have hQ := ifQt hQ c7
        refine g_sub [] _ rfl ?_
        exact t_X13_isProved_44 hK hs hQ
      · have hs := ifSf hs c7; have hQ := ifQf hQ c7
        refine g_sub [] _ rfl ?_
        exact t_X13_isProved_40 hK hs hQ
theorem c_X13_isProved (E : gE) (M : gM) (x1 : Int32) (hs : s_X13_isProved M x1) : gC E yX13_isProved cX13_isProved 2 (some .boolean) (rm 1) [.ref (gla E 226), .int x1] M (fun o N => o = some (.int (f_X13_isProved M x1)) ∧ N = M) :=
  gC.of (by decide +kernel) (Nat.le_of_ble_eq_true rfl) rfl (t_X13_isProved (K := fun z => z = f_X13_isProved M x1) (fun z hz => by rw [hz]; exact ⟨rfl, rfl⟩) x1 hs rfl)
def f_X13_isLater_35 (M : gM)  : Int32 :=
  1
def s_X13_isLater_35 (M : gM)  : Prop :=
  True
set_option maxRecDepth 100000 in
set_option maxHeartbeats 4000000 in
theorem t_X13_isLater_35 {E : gE} {K : Int32 → Prop} {Q : Option Value → gM → Prop} {M : gM} (hK : ∀ z : Int32, K z → Q (some (.int z)) M)    (hs : s_X13_isLater_35 M ) (hQ : K (f_X13_isLater_35 M )) : gG E RX13 cX13_isLater 3 (some .boolean) (rm 1) 35 [] [] M Q := by
  rw [s_X13_isLater_35] at hs
  rw [f_X13_isLater_35] at hQ
  refine g_iconst (v := 1) dX13_isLater_35 (by decide) ?_
  refine g_goto 40 dX13_isLater_36 (by decide) ?_
  exact g_zret rfl (Or.inr rfl) dX13_isLater_40 (hK _ hQ)
def f_X13_isLater_39 (M : gM)  : Int32 :=
  0
def s_X13_isLater_39 (M : gM)  : Prop :=
  True
set_option maxRecDepth 100000 in
set_option maxHeartbeats 4000000 in
theorem t_X13_isLater_39 {E : gE} {K : Int32 → Prop} {Q : Option Value → gM → Prop} {M : gM} (hK : ∀ z : Int32, K z → Q (some (.int z)) M)    (hs : s_X13_isLater_39 M ) (hQ : K (f_X13_isLater_39 M )) : gG E RX13 cX13_isLater 3 (some .boolean) (rm 1) 39 [] [] M Q := by
  rw [s_X13_isLater_39] at hs
  rw [f_X13_isLater_39] at hQ
  refine g_iconst (v := 0) dX13_isLater_39 (by decide) ?_
  exact g_zret rfl (Or.inl rfl) dX13_isLater_40 (hK _ hQ)
def f_X13_isLater (M : gM) (x1 : Int32) (x2 : Int32) : Int32 :=
  if (f_X13_of M x2 1) < (f_X13_of M x1 1) then
    (f_X13_isLater_35 M)
  else
    (if (f_X13_of M x1 1) = (f_X13_of M x2 1) then
      (if x1 ≤ x2 then
        (f_X13_isLater_39 M)
      else
        (f_X13_isLater_35 M))
    else
      (f_X13_isLater_39 M))
def s_X13_isLater (M : gM) (x1 : Int32) (x2 : Int32) : Prop :=
  (s_X13_of M x1 1) ∧
  ((s_X13_of M x2 1) ∧
  (if (f_X13_of M x2 1) < (f_X13_of M x1 1) then
    (s_X13_isLater_35 M)
  else
    ((s_X13_of M x1 1) ∧
    ((s_X13_of M x2 1) ∧
    (if (f_X13_of M x1 1) = (f_X13_of M x2 1) then
      (if x1 ≤ x2 then
        (s_X13_isLater_39 M)
      else
        (s_X13_isLater_35 M))
    else
      (s_X13_isLater_39 M))))))
set_option maxRecDepth 100000 in
set_option maxHeartbeats 4000000 in
theorem t_X13_isLater {E : gE} {K : Int32 → Prop} {Q : Option Value → gM → Prop} {M : gM} (hK : ∀ z : Int32, K z → Q (some (.int z)) M)  (x1 : Int32) (x2 : Int32)  (hs : s_X13_isLater M x1 x2) (hQ : K (f_X13_isLater M x1 x2)) : gG E RX13 cX13_isLater 3 (some .boolean) (rm 1) 0 [(0, .ref (gla E 226)), (1, .int x1), (2, .int x2)] [] M Q := by
  rw [s_X13_isLater] at hs
  rw [f_X13_isLater] at hQ
  refine g_aload_n 0 dX13_isLater_0 rfl ?_
  refine g_iload_n 1 dX13_isLater_1 rfl ?_
  refine g_iconst (v := 1) dX13_isLater_2 (by decide) ?_
  have h1 := hs.1; have hs := hs.2
  refine g_callV (As := [.int x1, .int 1]) (st := []) 226 (c_X13_of E M x1 1 h1) mt_X13_of ml_X13_218 dF_Md rfl rfl sg_X13_of rfl (by decide) (Nat.le_of_ble_eq_true rfl) dX13_isLater_3 ?_
  rintro _ _ ⟨q1, q2⟩; rw [q1, q2]; clear q1 q2
  refine g_aload_n 0 dX13_isLater_6 rfl ?_
  refine g_iload_n 2 dX13_isLater_7 rfl ?_
  refine g_iconst (v := 1) dX13_isLater_8 (by decide) ?_
  have h2 := hs.1; have hs := hs.2
  refine g_callV (As := [.int x2, .int 1]) (st := [.int (f_X13_of M x1 1)]) 226 (c_X13_of E M x2 1 h2) mt_X13_of ml_X13_218 dF_Md rfl rfl sg_X13_of rfl (by decide) (Nat.le_of_ble_eq_true rfl) dX13_isLater_9 ?_
  rintro _ _ ⟨q1, q2⟩; rw [q1, q2]; clear q1 q2
  refine g_icmp_gt 35 dX13_isLater_12 (by decide) (fun c3 => ?_) (fun c3 => ?_)
  · have hs := ifSt hs c3; have hQ := ifQt hQ c3
    refine g_sub [] _ rfl ?_
    exact t_X13_isLater_35 hK hs hQ
  · have hs := ifSf hs c3; have hQ := ifQf hQ c3
    refine g_aload_n 0 dX13_isLater_15 rfl ?_
    refine g_iload_n 1 dX13_isLater_16 rfl ?_
    refine g_iconst (v := 1) dX13_isLater_17 (by decide) ?_
    have h4 := hs.1; have hs := hs.2
    refine g_callV (As := [.int x1, .int 1]) (st := []) 226 (c_X13_of E M x1 1 h4) mt_X13_of ml_X13_218 dF_Md rfl rfl sg_X13_of rfl (by decide) (Nat.le_of_ble_eq_true rfl) dX13_isLater_18 ?_
    rintro _ _ ⟨q1, q2⟩; rw [q1, q2]; clear q1 q2
    refine g_aload_n 0 dX13_isLater_21 rfl ?_
    refine g_iload_n 2 dX13_isLater_22 rfl ?_
    refine g_iconst (v := 1) dX13_isLater_23 (by decide) ?_
    have h5 := hs.1; have hs := hs.2
    refine g_callV (As := [.int x2, .int 1]) (st := [.int (f_X13_of M x1 1)]) 226 (c_X13_of E M x2 1 h5) mt_X13_of ml_X13_218 dF_Md rfl rfl sg_X13_of rfl (by decide) (Nat.le_of_ble_eq_true rfl) dX13_isLater_24 ?_
    rintro _ _ ⟨q1, q2⟩; rw [q1, q2]; clear q1 q2
    refine g_icmp_ne 39 dX13_isLater_27 (by decide) (fun c6 => ?_) (fun c6 => ?_)
    · have hs := ifSf hs c6; have hQ := ifQf hQ c6
      refine g_sub [] _ rfl ?_
      exact t_X13_isLater_39 hK hs hQ
    · have hs := ifSt hs c6; have hQ := ifQt hQ c6
      refine g_iload_n 1 dX13_isLater_30 rfl ?_
      refine g_iload_n 2 dX13_isLater_31 rfl ?_
      refine g_icmp_le 39 dX13_isLater_32 (by decide) (fun c7 => ?_) (fun c7 => ?_)
      · have hs := ifSt hs c7; have hQ := ifQt hQ c7
        refine g_sub [] _ rfl ?_
        exact t_X13_isLater_39 hK hs hQ
      · have hs := ifSf hs c7; have hQ := ifQf hQ c7
        refine g_sub [] _ rfl ?_
        exact t_X13_isLater_35 hK hs hQ
theorem c_X13_isLater (E : gE) (M : gM) (x1 : Int32) (x2 : Int32) (hs : s_X13_isLater M x1 x2) : gC E yX13_isLater cX13_isLater 3 (some .boolean) (rm 1) [.ref (gla E 226), .int x1, .int x2] M (fun o N => o = some (.int (f_X13_isLater M x1 x2)) ∧ N = M) :=
  gC.of (by decide +kernel) (Nat.le_of_ble_eq_true rfl) rfl (t_X13_isLater (K := fun z => z = f_X13_isLater M x1 x2) (fun z hz => by rw [hz]; exact ⟨rfl, rfl⟩) x1 x2 hs rfl)
def f_X13_isBroken_97 (M : gM) (x1 : Int32) (x2 : Int32) (x4 : Int32) (y0 : Int32) (k12 : Int32 → Int32 → Int32) : Int32 :=
  k12 (y0 ||| 0) (x4 + 1)
def s_X13_isBroken_97 (M : gM) (x1 : Int32) (x2 : Int32) (x4 : Int32) (y0 : Int32) (q12 : Int32 → Int32 → Prop) : Prop :=
  q12 (y0 ||| 0) (x4 + 1)
set_option maxRecDepth 100000 in
set_option maxHeartbeats 4000000 in
theorem t_X13_isBroken_97 {E : gE} {K : Int32 → Prop} {Q : Option Value → gM → Prop} {M : gM} (hK : ∀ z : Int32, K z → Q (some (.int z)) M) (x1 : Int32) (x2 : Int32) (x4 : Int32) (y0 : Int32)  (k12 : Int32 → Int32 → Int32) (q12 : Int32 → Int32 → Prop) (hk12 : ∀ (x3 : Int32) (x4 : Int32) , q12 x3 x4 → K (k12 x3 x4) → gG E RX13 cX13_isBroken 6 (some .boolean) (rm 1) 12 [(0, .ref (gla E 226)), (1, .int x1), (2, .int x2), (3, .int x3), (4, .int x4)] [] M Q) (hs : s_X13_isBroken_97 M x1 x2 x4 y0 q12) (hQ : K (f_X13_isBroken_97 M x1 x2 x4 y0 k12)) : gG E RX13 cX13_isBroken 6 (some .boolean) (rm 1) 97 [(0, .ref (gla E 226)), (1, .int x1), (2, .int x2), (4, .int x4)] [.int y0] M Q := by
  rw [s_X13_isBroken_97] at hs
  rw [f_X13_isBroken_97] at hQ
  refine g_iconst (v := 0) dX13_isBroken_97 (by decide) ?_
  refine g_ior dX13_isBroken_98 ?_
  refine g_istore_n _ dX13_isBroken_99 (by decide) rfl ?_
  refine g_iinc 4 (v := x4 + 1) _ dX13_isBroken_100 rfl rfl (by decide) rfl ?_
  refine g_goto 12 dX13_isBroken_103 (by decide) ?_
  refine g_sub [2, 3, 4, 1, 0] _ rfl ?_
  exact hk12 (y0 ||| 0) (x4 + 1) hs hQ
def f_X13_isBroken_58 (M : gM) (x1 : Int32) (x2 : Int32) (x4 : Int32) (x5 : Int32) (y0 : Int32) (k12 : Int32 → Int32 → Int32) : Int32 :=
  if (rdI M 92 0 0 (nn (x5 + 2))) ≤ (f_X13_of M x1 1) then
    (f_X13_isBroken_97 M x1 x2 x4 y0 k12)
  else
    (if (f_X13_diesOn M x2) ≤ (rdI M 92 0 0 (nn (x5 + 2))) then
      (f_X13_isBroken_97 M x1 x2 x4 y0 k12)
    else
      (k12 (y0 ||| 1) (x4 + 1)))
def s_X13_isBroken_58 (M : gM) (x1 : Int32) (x2 : Int32) (x4 : Int32) (x5 : Int32) (y0 : Int32) (q12 : Int32 → Int32 → Prop) : Prop :=
  (vp_in (x5 + 2) 65) ∧
  ((s_X13_of M x1 1) ∧
  (if (rdI M 92 0 0 (nn (x5 + 2))) ≤ (f_X13_of M x1 1) then
    (s_X13_isBroken_97 M x1 x2 x4 y0 q12)
  else
    ((vp_in (x5 + 2) 65) ∧
    ((s_X13_diesOn M x2) ∧
    (if (f_X13_diesOn M x2) ≤ (rdI M 92 0 0 (nn (x5 + 2))) then
      (s_X13_isBroken_97 M x1 x2 x4 y0 q12)
    else
      (q12 (y0 ||| 1) (x4 + 1)))))))
set_option maxRecDepth 100000 in
set_option maxHeartbeats 4000000 in
theorem t_X13_isBroken_58 {E : gE} {K : Int32 → Prop} {Q : Option Value → gM → Prop} {M : gM} (hK : ∀ z : Int32, K z → Q (some (.int z)) M) (x1 : Int32) (x2 : Int32) (x4 : Int32) (x5 : Int32) (y0 : Int32)  (k12 : Int32 → Int32 → Int32) (q12 : Int32 → Int32 → Prop) (hk12 : ∀ (x3 : Int32) (x4 : Int32) , q12 x3 x4 → K (k12 x3 x4) → gG E RX13 cX13_isBroken 6 (some .boolean) (rm 1) 12 [(0, .ref (gla E 226)), (1, .int x1), (2, .int x2), (3, .int x3), (4, .int x4)] [] M Q) (hs : s_X13_isBroken_58 M x1 x2 x4 x5 y0 q12) (hQ : K (f_X13_isBroken_58 M x1 x2 x4 x5 y0 k12)) : gG E RX13 cX13_isBroken 6 (some .boolean) (rm 1) 58 [(0, .ref (gla E 226)), (1, .int x1), (2, .int x2), (4, .int x4), (5, .int x5)] [.int y0] M Q := by
  rw [s_X13_isBroken_58] at hs
  rw [f_X13_isBroken_58] at hQ
  refine g_aload_n 0 dX13_isBroken_58 rfl ?_
  refine g_getR 226 232 fd_X13_25 dF_Md rfl rfl dX13_isBroken_59 ?_
  refine g_iload 4 dX13_isBroken_62 rfl ?_
  refine g_iconst (v := 2) dX13_isBroken_64 (by decide) ?_
  refine g_iadd dX13_isBroken_65 ?_
  have h12 := hs.1; have hs := hs.2
  refine g_iald 232 dF_Md_now h12 dX13_isBroken_66 ?_
  refine g_aload_n 0 dX13_isBroken_67 rfl ?_
  refine g_iload_n 1 dX13_isBroken_68 rfl ?_
  refine g_iconst (v := 1) dX13_isBroken_69 (by decide) ?_
  have h13 := hs.1; have hs := hs.2
  refine g_callV (As := [.int x1, .int 1]) (st := [.int (rdI M 92 0 0 (nn (x5 + 2))), .int y0]) 226 (c_X13_of E M x1 1 h13) mt_X13_of ml_X13_218 dF_Md rfl rfl sg_X13_of rfl (by decide) (Nat.le_of_ble_eq_true rfl) dX13_isBroken_70 ?_
  rintro _ _ ⟨q1, q2⟩; rw [q1, q2]; clear q1 q2
  refine g_icmp_le 97 dX13_isBroken_73 (by decide) (fun c14 => ?_) (fun c14 => ?_)
  · have hs := ifSt hs c14; have hQ := ifQt hQ c14
    refine g_sub [0, 1, 2, 3] _ rfl ?_
    exact t_X13_isBroken_97 hK x1 x2 x4 y0 k12 q12 hk12 hs hQ
  · have hs := ifSf hs c14; have hQ := ifQf hQ c14
    refine g_aload_n 0 dX13_isBroken_76 rfl ?_
    refine g_getR 226 232 fd_X13_25 dF_Md rfl rfl dX13_isBroken_77 ?_
    refine g_iload 4 dX13_isBroken_80 rfl ?_
    refine g_iconst (v := 2) dX13_isBroken_82 (by decide) ?_
    refine g_iadd dX13_isBroken_83 ?_
    have h15 := hs.1; have hs := hs.2
    refine g_iald 232 dF_Md_now h15 dX13_isBroken_84 ?_
    refine g_aload_n 0 dX13_isBroken_85 rfl ?_
    refine g_iload_n 2 dX13_isBroken_86 rfl ?_
    have h16 := hs.1; have hs := hs.2
    refine g_callV (As := [.int x2]) (st := [.int (rdI M 92 0 0 (nn (x5 + 2))), .int y0]) 226 (c_X13_diesOn E M x2 h16) mt_X13_diesOn ml_X13_203 dF_Md rfl rfl sg_X13_diesOn rfl (by decide) (Nat.le_of_ble_eq_true rfl) dX13_isBroken_87 ?_
    rintro _ _ ⟨q1, q2⟩; rw [q1, q2]; clear q1 q2
    refine g_icmp_ge 97 dX13_isBroken_90 (by decide) (fun c17 => ?_) (fun c17 => ?_)
    · have hs := ifSt hs c17; have hQ := ifQt hQ c17
      refine g_sub [0, 1, 2, 3] _ rfl ?_
      exact t_X13_isBroken_97 hK x1 x2 x4 y0 k12 q12 hk12 hs hQ
    · have hs := ifSf hs c17; have hQ := ifQf hQ c17
      refine g_iconst (v := 1) dX13_isBroken_93 (by decide) ?_
      refine g_goto 98 dX13_isBroken_94 (by decide) ?_
      refine g_ior dX13_isBroken_98 ?_
      refine g_istore_n _ dX13_isBroken_99 (by decide) rfl ?_
      refine g_iinc 4 (v := x4 + 1) _ dX13_isBroken_100 rfl rfl (by decide) rfl ?_
      refine g_goto 12 dX13_isBroken_103 (by decide) ?_
      refine g_sub [2, 3, 4, 1, 0] _ rfl ?_
      exact hk12 (y0 ||| 1) (x4 + 1) hs hQ
def f_X13_isBroken_128 (M : gM)  : Int32 :=
  0
def s_X13_isBroken_128 (M : gM)  : Prop :=
  True
set_option maxRecDepth 100000 in
set_option maxHeartbeats 4000000 in
theorem t_X13_isBroken_128 {E : gE} {K : Int32 → Prop} {Q : Option Value → gM → Prop} {M : gM} (hK : ∀ z : Int32, K z → Q (some (.int z)) M)    (hs : s_X13_isBroken_128 M ) (hQ : K (f_X13_isBroken_128 M )) : gG E RX13 cX13_isBroken 6 (some .boolean) (rm 1) 128 [] [] M Q := by
  rw [s_X13_isBroken_128] at hs
  rw [f_X13_isBroken_128] at hQ
  refine g_iconst (v := 0) dX13_isBroken_128 (by decide) ?_
  exact g_zret rfl (Or.inl rfl) dX13_isBroken_129 (hK _ hQ)
def f_X13_isBroken_12 (M : gM) (x1 : Int32) (x2 : Int32)  : Nat → Int32 → Int32 → Int32
  | 0, _, _ => 0
  | n + 1, x3, x4 =>
    if (rdI M 92 0 0 (nn 64)) ≤ x4 then
      (if x3 = 0 then
        (f_X13_isBroken_128 M)
      else
        (if (f_X13_has M (f_X13_of M x1 2) 2) = 0 then
          (f_X13_isBroken_128 M)
        else
          (1)))
    else
      (if (rdI M 92 0 0 (nn (46 + (3 * x4)))) = x2 then
        (f_X13_isBroken_58 M x1 x2 x4 (46 + (3 * x4)) x3 (f_X13_isBroken_12 M x1 x2 n))
      else
        (if (rdI M 92 0 0 (nn ((46 + (3 * x4)) + 1))) = x2 then
          (f_X13_isBroken_58 M x1 x2 x4 (46 + (3 * x4)) x3 (f_X13_isBroken_12 M x1 x2 n))
        else
          (f_X13_isBroken_97 M x1 x2 x4 x3 (f_X13_isBroken_12 M x1 x2 n))))
def s_X13_isBroken_12 (M : gM) (x1 : Int32) (x2 : Int32)  : Nat → Int32 → Int32 → Prop
  | 0, _, _ => False
  | n + 1, x3, x4 =>
    (vp_in 64 65) ∧
    (if (rdI M 92 0 0 (nn 64)) ≤ x4 then
      (if x3 = 0 then
        (s_X13_isBroken_128 M)
      else
        ((s_X13_of M x1 2) ∧
        ((s_X13_has M (f_X13_of M x1 2) 2) ∧
        (if (f_X13_has M (f_X13_of M x1 2) 2) = 0 then
          (s_X13_isBroken_128 M)
        else
          (True)))))
    else
      ((vp_in (46 + (3 * x4)) 65) ∧
      (if (rdI M 92 0 0 (nn (46 + (3 * x4)))) = x2 then
        (s_X13_isBroken_58 M x1 x2 x4 (46 + (3 * x4)) x3 (s_X13_isBroken_12 M x1 x2 n))
      else
        ((vp_in ((46 + (3 * x4)) + 1) 65) ∧
        (if (rdI M 92 0 0 (nn ((46 + (3 * x4)) + 1))) = x2 then
          (s_X13_isBroken_58 M x1 x2 x4 (46 + (3 * x4)) x3 (s_X13_isBroken_12 M x1 x2 n))
        else
          (s_X13_isBroken_97 M x1 x2 x4 x3 (s_X13_isBroken_12 M x1 x2 n)))))))
set_option maxRecDepth 100000 in
set_option maxHeartbeats 4000000 in
theorem t_X13_isBroken_12 {E : gE} {K : Int32 → Prop} {Q : Option Value → gM → Prop} {M : gM} (hK : ∀ z : Int32, K z → Q (some (.int z)) M) (x1 : Int32) (x2 : Int32)   : ∀ (n : Nat) (x3 : Int32) (x4 : Int32) , s_X13_isBroken_12 M x1 x2  n x3 x4 → K (f_X13_isBroken_12 M x1 x2  n x3 x4) → gG E RX13 cX13_isBroken 6 (some .boolean) (rm 1) 12 [(0, .ref (gla E 226)), (1, .int x1), (2, .int x2), (3, .int x3), (4, .int x4)] [] M Q := by
  intro n
  induction n with
  | zero => intro x3 x4 hs hQ; exact (hs : False).elim
  | succ n ih =>
    intro x3 x4 hs hQ
    rw [s_X13_isBroken_12] at hs
    rw [f_X13_isBroken_12] at hQ
    refine g_iload 4 dX13_isBroken_12 rfl ?_
    refine g_aload_n 0 dX13_isBroken_14 rfl ?_
    refine g_getR 226 232 fd_X13_25 dF_Md rfl rfl dX13_isBroken_15 ?_
    refine g_bipush (v := 64) dX13_isBroken_18 (by decide) ?_
    have h2 := hs.1; have hs := hs.2
    refine g_iald 232 dF_Md_now h2 dX13_isBroken_20 ?_
    refine g_icmp_ge 106 dX13_isBroken_21 (by decide) (fun c3 => ?_) (fun c3 => ?_)
    · have hs := ifSt hs c3; have hQ := ifQt hQ c3
      refine g_iload_n 3 dX13_isBroken_106 rfl ?_
      refine g_if_eq 128 dX13_isBroken_107 (by decide) (fun c4 => ?_) (fun c4 => ?_)
      · have hs := ifSt hs c4; have hQ := ifQt hQ c4
        refine g_sub [] _ rfl ?_
        exact t_X13_isBroken_128 hK hs hQ
      · have hs := ifSf hs c4; have hQ := ifQf hQ c4
        refine g_aload_n 0 dX13_isBroken_110 rfl ?_
        refine g_aload_n 0 dX13_isBroken_111 rfl ?_
        refine g_iload_n 1 dX13_isBroken_112 rfl ?_
        refine g_iconst (v := 2) dX13_isBroken_113 (by decide) ?_
        have h5 := hs.1; have hs := hs.2
        refine g_callV (As := [.int x1, .int 2]) (st := [.ref (gla E 226)]) 226 (c_X13_of E M x1 2 h5) mt_X13_of ml_X13_218 dF_Md rfl rfl sg_X13_of rfl (by decide) (Nat.le_of_ble_eq_true rfl) dX13_isBroken_114 ?_
        rintro _ _ ⟨q1, q2⟩; rw [q1, q2]; clear q1 q2
        refine g_iconst (v := 2) dX13_isBroken_117 (by decide) ?_
        have h6 := hs.1; have hs := hs.2
        refine g_callV (As := [.int (f_X13_of M x1 2), .int 2]) (st := []) 226 (c_X13_has E M (f_X13_of M x1 2) 2 h6) mt_X13_has ml_X13_239 dF_Md rfl rfl sg_X13_has rfl (by decide) (Nat.le_of_ble_eq_true rfl) dX13_isBroken_118 ?_
        rintro _ _ ⟨q1, q2⟩; rw [q1, q2]; clear q1 q2
        refine g_if_eq 128 dX13_isBroken_121 (by decide) (fun c7 => ?_) (fun c7 => ?_)
        · have hs := ifSt hs c7; have hQ := ifQt hQ c7
          refine g_sub [] _ rfl ?_
          exact t_X13_isBroken_128 hK hs hQ
        · have hs := ifSf hs c7; have hQ := ifQf hQ c7
          refine g_iconst (v := 1) dX13_isBroken_124 (by decide) ?_
          refine g_goto 129 dX13_isBroken_125 (by decide) ?_
          exact g_zret rfl (Or.inr rfl) dX13_isBroken_129 (hK _ hQ)
    · have hs := ifSf hs c3; have hQ := ifQf hQ c3
      refine g_bipush (v := 46) dX13_isBroken_24 (by decide) ?_
      refine g_iconst (v := 3) dX13_isBroken_26 (by decide) ?_
      refine g_iload 4 dX13_isBroken_27 rfl ?_
      refine g_imul dX13_isBroken_29 ?_
      refine g_iadd dX13_isBroken_30 ?_
      refine g_istore _ dX13_isBroken_31 (by decide) rfl ?_
      refine g_iload_n 4 dX13_isBroken_33 rfl ?_
      refine g_aload_n 1 dX13_isBroken_34 rfl ?_
      refine g_getR 226 232 fd_X13_25 dF_Md rfl rfl dX13_isBroken_35 ?_
      refine g_iload 0 dX13_isBroken_38 rfl ?_
      have h8 := hs.1; have hs := hs.2
      refine g_iald 232 dF_Md_now h8 dX13_isBroken_40 ?_
      refine g_iload_n 3 dX13_isBroken_41 rfl ?_
      refine g_icmp_eq 58 dX13_isBroken_42 (by decide) (fun c9 => ?_) (fun c9 => ?_)
      · have hs := ifSt hs c9; have hQ := ifQt hQ c9
        refine g_sub [1, 2, 3, 5, 0] _ rfl ?_
        exact t_X13_isBroken_58 hK x1 x2 x4 (46 + (3 * x4)) x3 (f_X13_isBroken_12 M x1 x2 n) (s_X13_isBroken_12 M x1 x2 n) ih hs hQ
      · have hs := ifSf hs c9; have hQ := ifQf hQ c9
        refine g_aload_n 1 dX13_isBroken_45 rfl ?_
        refine g_getR 226 232 fd_X13_25 dF_Md rfl rfl dX13_isBroken_46 ?_
        refine g_iload 0 dX13_isBroken_49 rfl ?_
        refine g_iconst (v := 1) dX13_isBroken_51 (by decide) ?_
        refine g_iadd dX13_isBroken_52 ?_
        have h10 := hs.1; have hs := hs.2
        refine g_iald 232 dF_Md_now h10 dX13_isBroken_53 ?_
        refine g_iload_n 3 dX13_isBroken_54 rfl ?_
        refine g_icmp_ne 97 dX13_isBroken_55 (by decide) (fun c11 => ?_) (fun c11 => ?_)
        · have hs := ifSf hs c11; have hQ := ifQf hQ c11
          refine g_sub [1, 2, 3, 5] _ rfl ?_
          exact t_X13_isBroken_97 hK x1 x2 x4 x3 (f_X13_isBroken_12 M x1 x2 n) (s_X13_isBroken_12 M x1 x2 n) ih hs hQ
        · have hs := ifSt hs c11; have hQ := ifQt hQ c11
          refine g_sub [1, 2, 3, 5, 0] _ rfl ?_
          exact t_X13_isBroken_58 hK x1 x2 x4 (46 + (3 * x4)) x3 (f_X13_isBroken_12 M x1 x2 n) (s_X13_isBroken_12 M x1 x2 n) ih hs hQ
def f_X13_isBroken (M : gM) (x1 : Int32) : Int32 :=
  f_X13_isBroken_12 M x1 (f_X13_of M x1 0) FU 0 0
def s_X13_isBroken (M : gM) (x1 : Int32) : Prop :=
  (s_X13_of M x1 0) ∧
  (s_X13_isBroken_12 M x1 (f_X13_of M x1 0) FU 0 0)
set_option maxRecDepth 100000 in
set_option maxHeartbeats 4000000 in
theorem t_X13_isBroken {E : gE} {K : Int32 → Prop} {Q : Option Value → gM → Prop} {M : gM} (hK : ∀ z : Int32, K z → Q (some (.int z)) M)  (x1 : Int32)  (hs : s_X13_isBroken M x1) (hQ : K (f_X13_isBroken M x1)) : gG E RX13 cX13_isBroken 6 (some .boolean) (rm 1) 0 [(0, .ref (gla E 226)), (1, .int x1)] [] M Q := by
  rw [s_X13_isBroken] at hs
  rw [f_X13_isBroken] at hQ
  refine g_aload_n 0 dX13_isBroken_0 rfl ?_
  refine g_iload_n 1 dX13_isBroken_1 rfl ?_
  refine g_iconst (v := 0) dX13_isBroken_2 (by decide) ?_
  have h1 := hs.1; have hs := hs.2
  refine g_callV (As := [.int x1, .int 0]) (st := []) 226 (c_X13_of E M x1 0 h1) mt_X13_of ml_X13_218 dF_Md rfl rfl sg_X13_of rfl (by decide) (Nat.le_of_ble_eq_true rfl) dX13_isBroken_3 ?_
  rintro _ _ ⟨q1, q2⟩; rw [q1, q2]; clear q1 q2
  refine g_istore_n _ dX13_isBroken_6 (by decide) rfl ?_
  refine g_iconst (v := 0) dX13_isBroken_7 (by decide) ?_
  refine g_istore_n _ dX13_isBroken_8 (by decide) rfl ?_
  refine g_iconst (v := 0) dX13_isBroken_9 (by decide) ?_
  refine g_istore _ dX13_isBroken_10 (by decide) rfl ?_
  refine g_sub [3, 4, 2, 1, 0] _ rfl ?_
  exact t_X13_isBroken_12 hK x1 (f_X13_of M x1 0) FU 0 0 hs hQ
theorem c_X13_isBroken (E : gE) (M : gM) (x1 : Int32) (hs : s_X13_isBroken M x1) : gC E yX13_isBroken cX13_isBroken 6 (some .boolean) (rm 1) [.ref (gla E 226), .int x1] M (fun o N => o = some (.int (f_X13_isBroken M x1)) ∧ N = M) :=
  gC.of (by decide +kernel) (Nat.le_of_ble_eq_true rfl) rfl (t_X13_isBroken (K := fun z => z = f_X13_isBroken M x1) (fun z hz => by rw [hz]; exact ⟨rfl, rfl⟩) x1 hs rfl)
def f_X13_comes (M : gM) (x1 : Int32) (x2 : Int64) (x4 : Int64) : gM :=
  bnd (f_X13_common M (rdJ M 98 0 0 (nn x1)) x4) fun v3 =>
  (bnd (((rdJ M 97 0 0 (nn x1)) * (x4 / v3)) + (x2 * ((rdJ M 98 0 0 (nn x1)) / v3))) fun v8 =>
  (bnd (((rdJ M 98 0 0 (nn x1)) / v3) * x4) fun v11 =>
  (bnd (wrJ M 97 0 0 (nn x1) (v8 / (f_X13_common M v8 v11))) fun M15 =>
  (bnd (wrJ M15 98 0 0 (nn x1) (v11 / (f_X13_common M v8 v11))) fun M18 =>
  (M18)))))
def s_X13_comes (M : gM) (x1 : Int32) (x2 : Int64) (x4 : Int64) : Prop :=
  (vp_in x1 11) ∧
  ((s_X13_common M (rdJ M 98 0 0 (nn x1)) x4) ∧
  (bndP (f_X13_common M (rdJ M 98 0 0 (nn x1)) x4) fun v3 =>
  ((vp_in x1 11) ∧
  ((¬ v3 = 0) ∧
  ((vp_in x1 11) ∧
  ((¬ v3 = 0) ∧
  (bndP (((rdJ M 97 0 0 (nn x1)) * (x4 / v3)) + (x2 * ((rdJ M 98 0 0 (nn x1)) / v3))) fun v8 =>
  ((vp_in x1 11) ∧
  ((¬ v3 = 0) ∧
  (bndP (((rdJ M 98 0 0 (nn x1)) / v3) * x4) fun v11 =>
  ((s_X13_common M v8 v11) ∧
  ((¬ (f_X13_common M v8 v11) = 0) ∧
  ((vp_in x1 11) ∧
  (bndP (wrJ M 97 0 0 (nn x1) (v8 / (f_X13_common M v8 v11))) fun M15 =>
  ((¬ (f_X13_common M v8 v11) = 0) ∧
  ((vp_in x1 11) ∧
  (bndP (wrJ M15 98 0 0 (nn x1) (v11 / (f_X13_common M v8 v11))) fun M18 =>
  (True))))))))))))))))))
theorem o_X13_comes (M : gM) (x1 : Int32) (x2 : Int64) (x4 : Int64) : offW [97, 98] M (f_X13_comes M x1 x2 x4) := by
  rw [f_X13_comes]
  refine offV (fun v3 => ?_)
  refine offV (fun v8 => ?_)
  refine offV (fun v11 => ?_)
  refine offB (offR.wJ (by decide)) (fun M15 oM15 => ?_)
  refine offB (oM15.wJ (by decide)) (fun M18 oM18 => ?_)
  exact oM18
set_option maxRecDepth 100000 in
set_option maxHeartbeats 4000000 in
theorem t_X13_comes {E : gE} {K : gM → Prop} {Q : Option Value → gM → Prop} (hK : ∀ z : gM, K z → Q none z) (M : gM) (x1 : Int32) (x2 : Int64) (x4 : Int64)  (hs : s_X13_comes M x1 x2 x4) (hQ : K (f_X13_comes M x1 x2 x4)) : gG E RX13 cX13_comes 14 none (rm 1) 0 [(0, .ref (gla E 226)), (1, .int x1), (2, .long x2), (4, .long x4)] [] M Q := by
  rw [s_X13_comes] at hs
  rw [f_X13_comes] at hQ
  refine g_aload_n 0 dX13_comes_0 rfl ?_
  refine g_getR 226 238 fd_X13_49 dF_Md rfl rfl dX13_comes_1 ?_
  refine g_iload_n 1 dX13_comes_4 rfl ?_
  have h1 := hs.1; have hs := hs.2
  refine g_lald 238 dF_Md_below h1 dX13_comes_5 ?_
  refine g_lload 3 dX13_comes_6 rfl ?_
  have h2 := hs.1; have hs := hs.2
  refine g_callS (As := [.long (rdJ M 98 0 0 (nn x1)), .long x4]) (st := []) (c_X13_common E M (rdJ M 98 0 0 (nn x1)) x4 h2) mt_X13_common ml_X13_293 sg_X13_common rfl (by decide) (Nat.le_of_ble_eq_true rfl) dX13_comes_8 ?_
  rintro _ _ ⟨q1, q2⟩; rw [q1, q2]; clear q1 q2
  refine g_topJ (fun v3 hv3 => ?_)
  have hQ := bndQ hQ v3 hv3; have hs := bndS hs v3 hv3
  refine g_lstore _ dX13_comes_11 (by decide) rfl ?_
  refine g_aload_n 1 dX13_comes_13 rfl ?_
  refine g_getR 226 237 fd_X13_45 dF_Md rfl rfl dX13_comes_14 ?_
  refine g_iload_n 2 dX13_comes_17 rfl ?_
  have h4 := hs.1; have hs := hs.2
  refine g_lald 237 dF_Md_above h4 dX13_comes_18 ?_
  refine g_lload 4 dX13_comes_19 rfl ?_
  refine g_lload 0 dX13_comes_21 rfl ?_
  have h5 := hs.1; have hs := hs.2
  refine g_ldiv dX13_comes_23 h5 ?_
  refine g_lmul dX13_comes_24 ?_
  refine g_lload_n 3 dX13_comes_25 rfl ?_
  refine g_aload_n 1 dX13_comes_26 rfl ?_
  refine g_getR 226 238 fd_X13_49 dF_Md rfl rfl dX13_comes_27 ?_
  refine g_iload_n 2 dX13_comes_30 rfl ?_
  have h6 := hs.1; have hs := hs.2
  refine g_lald 238 dF_Md_below h6 dX13_comes_31 ?_
  refine g_lload 0 dX13_comes_32 rfl ?_
  have h7 := hs.1; have hs := hs.2
  refine g_ldiv dX13_comes_34 h7 ?_
  refine g_lmul dX13_comes_35 ?_
  refine g_ladd dX13_comes_36 ?_
  refine g_topJ (fun v8 hv8 => ?_)
  have hQ := bndQ hQ v8 hv8; have hs := bndS hs v8 hv8
  refine g_lstore _ dX13_comes_37 (by decide) rfl ?_
  refine g_aload_n 2 dX13_comes_39 rfl ?_
  refine g_getR 226 238 fd_X13_49 dF_Md rfl rfl dX13_comes_40 ?_
  refine g_iload_n 3 dX13_comes_43 rfl ?_
  have h9 := hs.1; have hs := hs.2
  refine g_lald 238 dF_Md_below h9 dX13_comes_44 ?_
  refine g_lload 1 dX13_comes_45 rfl ?_
  have h10 := hs.1; have hs := hs.2
  refine g_ldiv dX13_comes_47 h10 ?_
  refine g_lload 5 dX13_comes_48 rfl ?_
  refine g_lmul dX13_comes_50 ?_
  refine g_topJ (fun v11 hv11 => ?_)
  have hQ := bndQ hQ v11 hv11; have hs := bndS hs v11 hv11
  refine g_lstore _ dX13_comes_51 (by decide) rfl ?_
  refine g_lload 1 dX13_comes_53 rfl ?_
  refine g_lload 0 dX13_comes_55 rfl ?_
  have h12 := hs.1; have hs := hs.2
  refine g_callS (As := [.long v8, .long v11]) (st := []) (c_X13_common E M v8 v11 h12) mt_X13_common ml_X13_293 sg_X13_common rfl (by decide) (Nat.le_of_ble_eq_true rfl) dX13_comes_57 ?_
  rintro _ _ ⟨q1, q2⟩; rw [q1, q2]; clear q1 q2
  refine g_lstore _ dX13_comes_60 (by decide) rfl ?_
  refine g_aload_n 4 dX13_comes_62 rfl ?_
  refine g_getR 226 237 fd_X13_45 dF_Md rfl rfl dX13_comes_63 ?_
  refine g_iload_n 5 dX13_comes_66 rfl ?_
  refine g_lload 2 dX13_comes_67 rfl ?_
  refine g_lload 0 dX13_comes_69 rfl ?_
  have h13 := hs.1; have hs := hs.2
  refine g_ldiv dX13_comes_71 h13 ?_
  have h14 := hs.1; have hs := hs.2
  refine g_last 237 dF_Md_above h14 dX13_comes_72 (fun M15 hM15 => ?_)
  have hQ := bndQ hQ M15 hM15; have hs := bndS hs M15 hM15
  refine g_aload_n 4 dX13_comes_73 rfl ?_
  refine g_getR 226 238 fd_X13_49 dF_Md rfl rfl dX13_comes_74 ?_
  refine g_iload_n 5 dX13_comes_77 rfl ?_
  refine g_lload 1 dX13_comes_78 rfl ?_
  refine g_lload 0 dX13_comes_80 rfl ?_
  have h16 := hs.1; have hs := hs.2
  refine g_ldiv dX13_comes_82 h16 ?_
  have h17 := hs.1; have hs := hs.2
  refine g_last 238 dF_Md_below h17 dX13_comes_83 (fun M18 hM18 => ?_)
  have hQ := bndQ hQ M18 hM18; have hs := bndS hs M18 hM18
  exact g_vret rfl dX13_comes_84 (hK _ hQ)
theorem c_X13_comes (E : gE) (M : gM) (x1 : Int32) (x2 : Int64) (x4 : Int64) (hs : s_X13_comes M x1 x2 x4) : gC E yX13_comes cX13_comes 14 none (rm 1) [.ref (gla E 226), .int x1, .long x2, .long x4] M (fun o N => o = none ∧ N = f_X13_comes M x1 x2 x4) :=
  gC.of (by decide +kernel) (Nat.le_of_ble_eq_true rfl) rfl (t_X13_comes (K := fun z => z = f_X13_comes M x1 x2 x4) (fun z hz => ⟨rfl, hz⟩) M x1 x2 x4 hs rfl)
end
