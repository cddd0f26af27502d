set_option linter.all false
noncomputable section
def f_X2_forgetAll (M : gM) : gM :=
  bnd (wrI M 63 0 0 0 0) fun M1 =>
  (M1)
def s_X2_forgetAll (M : gM) : Prop :=
  bndP (wrI M 63 0 0 0 0) fun M1 =>
  (True)
theorem o_X2_forgetAll (M : gM) : offW [63] M (f_X2_forgetAll M) := by
  rw [f_X2_forgetAll]
  refine offB (offR.wI (by decide)) (fun M1 oM1 => ?_)
  exact oM1
set_option maxRecDepth 100000 in
set_option maxHeartbeats 4000000 in
theorem t_X2_forgetAll {E : gE} {K : gM → Prop} {Q : Option Value → gM → Prop} (hK : ∀ z : gM, K z → Q none z) (M : gM)  (hs : s_X2_forgetAll M) (hQ : K (f_X2_forgetAll M)) : gG E RX2 cX2_forgetAll 1 none (rm 0) 0 [(0, .ref (gla E 222))] [] M Q := by
  rw [s_X2_forgetAll] at hs
  rw [f_X2_forgetAll] at hQ
  refine g_aload_n 0 dX2_forgetAll_0 rfl ?_
  refine g_iconst (v := 0) dX2_forgetAll_1 (by decide) ?_
  refine g_putI 222 fd_X2_25 dF_Hi rfl dX2_forgetAll_2 (fun M1 hM1 => ?_)
  have hQ := bndQ hQ M1 hM1; have hs := bndS hs M1 hM1
  exact g_vret rfl dX2_forgetAll_5 (hK _ hQ)
theorem c_X2_forgetAll (E : gE) (M : gM)  (hs : s_X2_forgetAll M) : gC E yX2_forgetAll cX2_forgetAll 1 none (rm 0) [.ref (gla E 222)] M (fun o N => o = none ∧ N = f_X2_forgetAll M) :=
  gC.of (by decide +kernel) (Nat.le_of_ble_eq_true rfl) rfl (t_X2_forgetAll (K := fun z => z = f_X2_forgetAll M) (fun z hz => ⟨rfl, hz⟩) M hs rfl)
def f_X2_undoLatest (M : gM) : gM :=
  bnd (wrI M 62 0 0 0 ((((rdI M 62 0 0 0) + 16) - 1) - (((rdI M 62 0 0 0) + 16) - 1) / 16 * 16)) fun M1 =>
  (bnd (wrI M1 63 0 0 0 ((rdI M1 63 0 0 0) - 1)) fun M2 =>
  (bnd (rdI M2 65 0 0 (nn (rdI M2 62 0 0 0))) fun v4 =>
  (bnd (rdI M2 66 0 0 (nn (rdI M2 62 0 0 0))) fun v6 =>
  (if (rdI M2 64 0 0 (nn (rdI M2 62 0 0 0))) = 0 then
    (bnd (wrI M2 33 0 (nn v4) 0 v6) fun M9 =>
    (M9))
  else
    (if (rdI M2 64 0 0 (nn (rdI M2 62 0 0 0))) = 1 then
      (bnd (wrI M2 30 0 (nn v4) 0 v6) fun M11 =>
      (M11))
    else
      (if (rdI M2 64 0 0 (nn (rdI M2 62 0 0 0))) = 2 then
        (bnd (wrI M2 8 0 0 0 v6) fun M12 =>
        (M12))
      else
        (if (rdI M2 64 0 0 (nn (rdI M2 62 0 0 0))) = 3 then
          (bnd (wrI M2 20 0 (nn v4) 0 v6) fun M14 =>
          (M14))
        else
          (bnd (wrI M2 34 0 (nn v4) 0 0) fun M16 =>
          (M16)))))))))
def s_X2_undoLatest (M : gM) : Prop :=
  bndP (wrI M 62 0 0 0 ((((rdI M 62 0 0 0) + 16) - 1) - (((rdI M 62 0 0 0) + 16) - 1) / 16 * 16)) fun M1 =>
  (bndP (wrI M1 63 0 0 0 ((rdI M1 63 0 0 0) - 1)) fun M2 =>
  ((vp_in (rdI M2 62 0 0 0) 16) ∧
  (bndP (rdI M2 65 0 0 (nn (rdI M2 62 0 0 0))) fun v4 =>
  ((vp_in (rdI M2 62 0 0 0) 16) ∧
  (bndP (rdI M2 66 0 0 (nn (rdI M2 62 0 0 0))) fun v6 =>
  ((vp_in (rdI M2 62 0 0 0) 16) ∧
  (if (rdI M2 64 0 0 (nn (rdI M2 62 0 0 0))) = 0 then
    ((vp_in v4 12) ∧
    (bndP (wrI M2 33 0 (nn v4) 0 v6) fun M9 =>
    (True)))
  else
    (if (rdI M2 64 0 0 (nn (rdI M2 62 0 0 0))) = 1 then
      ((vp_in v4 12) ∧
      (bndP (wrI M2 30 0 (nn v4) 0 v6) fun M11 =>
      (True)))
    else
      (if (rdI M2 64 0 0 (nn (rdI M2 62 0 0 0))) = 2 then
        (bndP (wrI M2 8 0 0 0 v6) fun M12 =>
        (True))
      else
        (if (rdI M2 64 0 0 (nn (rdI M2 62 0 0 0))) = 3 then
          ((vp_in v4 10) ∧
          (bndP (wrI M2 20 0 (nn v4) 0 v6) fun M14 =>
          (True)))
        else
          ((vp_in v4 12) ∧
          (bndP (wrI M2 34 0 (nn v4) 0 0) fun M16 =>
          (True)))))))))))))
theorem o_X2_undoLatest (M : gM) : offW [8, 20, 30, 33, 34, 62, 63] M (f_X2_undoLatest M) := by
  rw [f_X2_undoLatest]
  refine offB (offR.wI (by decide)) (fun M1 oM1 => ?_)
  refine offB (oM1.wI (by decide)) (fun M2 oM2 => ?_)
  refine offV (fun v4 => ?_)
  refine offV (fun v6 => ?_)
  refine offI ?_ ?_
  · refine offB (oM2.wI (by decide)) (fun M9 oM9 => ?_)
    exact oM9
  refine offI ?_ ?_
  · refine offB (oM2.wI (by decide)) (fun M11 oM11 => ?_)
    exact oM11
  refine offI ?_ ?_
  · refine offB (oM2.wI (by decide)) (fun M12 oM12 => ?_)
    exact oM12
  refine offI ?_ ?_
  · refine offB (oM2.wI (by decide)) (fun M14 oM14 => ?_)
    exact oM14
  refine offB (oM2.wI (by decide)) (fun M16 oM16 => ?_)
  exact oM16
set_option maxRecDepth 100000 in
set_option maxHeartbeats 4000000 in
theorem t_X2_undoLatest {E : gE} {K : gM → Prop} {Q : Option Value → gM → Prop} (hK : ∀ z : gM, K z → Q none z) (M : gM)  (hs : s_X2_undoLatest M) (hQ : K (f_X2_undoLatest M)) : gG E RX2 cX2_undoLatest 3 none (rm 0) 0 [(0, .ref (gla E 222))] [] M Q := by
  rw [s_X2_undoLatest] at hs
  rw [f_X2_undoLatest] at hQ
  refine g_aload_n 0 dX2_undoLatest_0 rfl ?_
  refine g_aload_n 0 dX2_undoLatest_1 rfl ?_
  refine g_getI 222 fd_X2_21 dF_Hi rfl dX2_undoLatest_2 ?_
  refine g_bipush (v := 16) dX2_undoLatest_5 (by decide) ?_
  refine g_iadd dX2_undoLatest_7 ?_
  refine g_iconst (v := 1) dX2_undoLatest_8 (by decide) ?_
  refine g_isub dX2_undoLatest_9 ?_
  refine g_bipush (v := 16) dX2_undoLatest_10 (by decide) ?_
  refine g_irem dX2_undoLatest_12 (by decide) ?_
  refine g_putI 222 fd_X2_21 dF_Hi rfl dX2_undoLatest_13 (fun M1 hM1 => ?_)
  have hQ := bndQ hQ M1 hM1; have hs := bndS hs M1 hM1
  refine g_aload_n 0 dX2_undoLatest_16 rfl ?_
  refine g_dup dX2_undoLatest_17 rfl ?_
  refine g_getI 222 fd_X2_25 dF_Hi rfl dX2_undoLatest_18 ?_
  refine g_iconst (v := 1) dX2_undoLatest_21 (by decide) ?_
  refine g_isub dX2_undoLatest_22 ?_
  refine g_putI 222 fd_X2_25 dF_Hi rfl dX2_undoLatest_23 (fun M2 hM2 => ?_)
  have hQ := bndQ hQ M2 hM2; have hs := bndS hs M2 hM2
  refine g_aload_n 0 dX2_undoLatest_26 rfl ?_
  refine g_getR 222 224 fd_X2_15 dF_Hi rfl rfl dX2_undoLatest_27 ?_
  refine g_aload_n 0 dX2_undoLatest_30 rfl ?_
  refine g_getI 222 fd_X2_21 dF_Hi rfl dX2_undoLatest_31 ?_
  have h3 := hs.1; have hs := hs.2
  refine g_iald 224 dF_Hi_numbers h3 dX2_undoLatest_34 ?_
  refine g_topI (fun v4 hv4 => ?_)
  have hQ := bndQ hQ v4 hv4; have hs := bndS hs v4 hv4
  refine g_istore_n _ dX2_undoLatest_35 (by decide) rfl ?_
  refine g_aload_n 1 dX2_undoLatest_36 rfl ?_
  refine g_getR 222 225 fd_X2_18 dF_Hi rfl rfl dX2_undoLatest_37 ?_
  refine g_aload_n 1 dX2_undoLatest_40 rfl ?_
  refine g_getI 222 fd_X2_21 dF_Hi rfl dX2_undoLatest_41 ?_
  have h5 := hs.1; have hs := hs.2
  refine g_iald 225 dF_Hi_befores h5 dX2_undoLatest_44 ?_
  refine g_topI (fun v6 hv6 => ?_)
  have hQ := bndQ hQ v6 hv6; have hs := bndS hs v6 hv6
  refine g_istore_n _ dX2_undoLatest_45 (by decide) rfl ?_
  refine g_aload_n 2 dX2_undoLatest_46 rfl ?_
  refine g_getR 222 223 fd_X2_9 dF_Hi rfl rfl dX2_undoLatest_47 ?_
  refine g_aload_n 2 dX2_undoLatest_50 rfl ?_
  refine g_getI 222 fd_X2_21 dF_Hi rfl dX2_undoLatest_51 ?_
  have h7 := hs.1; have hs := hs.2
  refine g_iald 223 dF_Hi_kinds h7 dX2_undoLatest_54 ?_
  by_cases c17 : (rdI M2 64 0 0 (nn (rdI M2 62 0 0 0))) = 0
  · have hs := ifSt hs c17; have hQ := ifQt hQ c17
    refine g_tin 84 (k := 0) (z := 0) (off := 29) c17 dX2_undoLatest_55 (by decide) (by decide) (by decide) rfl (by decide) ?_
    refine g_aload_n 2 dX2_undoLatest_84 rfl ?_
    refine g_getR 222 (rgC 0) fd_X2_28 dF_Hi rfl rfl dX2_undoLatest_85 ?_
    refine g_getR (rgC 0) (rgC 0 + 4) fd_X2_38 (dF_Rg lt02) rfl rfl dX2_undoLatest_88 ?_
    refine g_iload_n 1 dX2_undoLatest_91 rfl ?_
    have h8 := hs.1; have hs := hs.2
    refine g_aald (rgC 0 + 4) (paC 0 (nn v4)) rfl (dF_Rg_papers lt02) h8 (aj_Pa _ _) dX2_undoLatest_92 ?_
    refine g_iload_n 0 dX2_undoLatest_93 rfl ?_
    refine g_putI (paC 0 (nn v4)) fd_X2_44 (dF_Pa lt02 (vpL h8)) rfl dX2_undoLatest_94 (fun M9 hM9 => ?_)
    have hQ := bndQ hQ M9 hM9; have hs := bndS hs M9 hM9
    refine g_goto 156 dX2_undoLatest_97 (by decide) ?_
    exact g_vret rfl dX2_undoLatest_156 (hK _ hQ)
  have hs := ifSf hs c17; have hQ := ifQf hQ c17
  by_cases c18 : (rdI M2 64 0 0 (nn (rdI M2 62 0 0 0))) = 1
  · have hs := ifSt hs c18; have hQ := ifQt hQ c18
    refine g_tin 100 (k := 1) (z := 1) (off := 45) c18 dX2_undoLatest_55 (by decide) (by decide) (by decide) rfl (by decide) ?_
    refine g_aload_n 2 dX2_undoLatest_100 rfl ?_
    refine g_getR 222 (rgC 0) fd_X2_28 dF_Hi rfl rfl dX2_undoLatest_101 ?_
    refine g_getR (rgC 0) (rgC 0 + 4) fd_X2_38 (dF_Rg lt02) rfl rfl dX2_undoLatest_104 ?_
    refine g_iload_n 1 dX2_undoLatest_107 rfl ?_
    have h10 := hs.1; have hs := hs.2
    refine g_aald (rgC 0 + 4) (paC 0 (nn v4)) rfl (dF_Rg_papers lt02) h10 (aj_Pa _ _) dX2_undoLatest_108 ?_
    refine g_iload_n 0 dX2_undoLatest_109 rfl ?_
    refine g_putI (paC 0 (nn v4)) fd_X2_49 (dF_Pa lt02 (vpL h10)) rfl dX2_undoLatest_110 (fun M11 hM11 => ?_)
    have hQ := bndQ hQ M11 hM11; have hs := bndS hs M11 hM11
    refine g_goto 156 dX2_undoLatest_113 (by decide) ?_
    exact g_vret rfl dX2_undoLatest_156 (hK _ hQ)
  have hs := ifSf hs c18; have hQ := ifQf hQ c18
  by_cases c19 : (rdI M2 64 0 0 (nn (rdI M2 62 0 0 0))) = 2
  · have hs := ifSt hs c19; have hQ := ifQt hQ c19
    refine g_tin 116 (k := 2) (z := 2) (off := 61) c19 dX2_undoLatest_55 (by decide) (by decide) (by decide) rfl (by decide) ?_
    refine g_aload_n 2 dX2_undoLatest_116 rfl ?_
    refine g_getR 222 (rgC 0) fd_X2_28 dF_Hi rfl rfl dX2_undoLatest_117 ?_
    refine g_iload_n 0 dX2_undoLatest_120 rfl ?_
    refine g_putI (rgC 0) fd_X2_52 (dF_Rg lt02) rfl dX2_undoLatest_121 (fun M12 hM12 => ?_)
    have hQ := bndQ hQ M12 hM12; have hs := bndS hs M12 hM12
    refine g_goto 156 dX2_undoLatest_124 (by decide) ?_
    exact g_vret rfl dX2_undoLatest_156 (hK _ hQ)
  have hs := ifSf hs c19; have hQ := ifQf hQ c19
  by_cases c20 : (rdI M2 64 0 0 (nn (rdI M2 62 0 0 0))) = 3
  · have hs := ifSt hs c20; have hQ := ifQt hQ c20
    refine g_tin 127 (k := 3) (z := 3) (off := 72) c20 dX2_undoLatest_55 (by decide) (by decide) (by decide) rfl (by decide) ?_
    refine g_aload_n 2 dX2_undoLatest_127 rfl ?_
    refine g_getR 222 (rgC 0) fd_X2_28 dF_Hi rfl rfl dX2_undoLatest_128 ?_
    refine g_getR (rgC 0) (rgC 0 + 2) fd_X2_55 (dF_Rg lt02) rfl rfl dX2_undoLatest_131 ?_
    refine g_iload_n 1 dX2_undoLatest_134 rfl ?_
    have h13 := hs.1; have hs := hs.2
    refine g_aald (rgC 0 + 2) (peC 0 (nn v4)) rfl (dF_Rg_persons lt02) h13 (aj_Pe _ _) dX2_undoLatest_135 ?_
    refine g_iload_n 0 dX2_undoLatest_136 rfl ?_
    refine g_putI (peC 0 (nn v4)) fd_X2_59 (dF_Pe lt02 (vpL h13)) rfl dX2_undoLatest_137 (fun M14 hM14 => ?_)
    have hQ := bndQ hQ M14 hM14; have hs := bndS hs M14 hM14
    refine g_goto 156 dX2_undoLatest_140 (by decide) ?_
    exact g_vret rfl dX2_undoLatest_156 (hK _ hQ)
  have hs := ifSf hs c20; have hQ := ifQf hQ c20
  refine g_tdf 143 dX2_undoLatest_55 (fun h1 h2 => by have ec17 : ¬ Int32.toInt (rdI M2 64 0 0 (nn (rdI M2 62 0 0 0))) = 0 := ne_ti c17 (by decide); have ec18 : ¬ Int32.toInt (rdI M2 64 0 0 (nn (rdI M2 62 0 0 0))) = 1 := ne_ti c18 (by decide); have ec19 : ¬ Int32.toInt (rdI M2 64 0 0 (nn (rdI M2 62 0 0 0))) = 2 := ne_ti c19 (by decide); have ec20 : ¬ Int32.toInt (rdI M2 64 0 0 (nn (rdI M2 62 0 0 0))) = 3 := ne_ti c20 (by decide); exfalso; omega) (by decide) ?_
  refine g_aload_n 2 dX2_undoLatest_143 rfl ?_
  refine g_getR 222 (rgC 0) fd_X2_28 dF_Hi rfl rfl dX2_undoLatest_144 ?_
  refine g_getR (rgC 0) (rgC 0 + 4) fd_X2_38 (dF_Rg lt02) rfl rfl dX2_undoLatest_147 ?_
  refine g_iload_n 1 dX2_undoLatest_150 rfl ?_
  have h15 := hs.1; have hs := hs.2
  refine g_aald (rgC 0 + 4) (paC 0 (nn v4)) rfl (dF_Rg_papers lt02) h15 (aj_Pa _ _) dX2_undoLatest_151 ?_
  refine g_iconst (v := 0) dX2_undoLatest_152 (by decide) ?_
  refine g_putZ (paC 0 (nn v4)) fd_X2_64 (Or.inl rfl) (dF_Pa lt02 (vpL h15)) rfl dX2_undoLatest_153 (fun M16 hM16 => ?_)
  have hQ := bndQ hQ M16 hM16; have hs := bndS hs M16 hM16
  exact g_vret rfl dX2_undoLatest_156 (hK _ hQ)
theorem c_X2_undoLatest (E : gE) (M : gM)  (hs : s_X2_undoLatest M) : gC E yX2_undoLatest cX2_undoLatest 3 none (rm 0) [.ref (gla E 222)] M (fun o N => o = none ∧ N = f_X2_undoLatest M) :=
  gC.of (by decide +kernel) (Nat.le_of_ble_eq_true rfl) rfl (t_X2_undoLatest (K := fun z => z = f_X2_undoLatest M) (fun z hz => ⟨rfl, hz⟩) M hs rfl)
def f_X3_clear (M : gM) (r : Nat) (l : Nat) : gM :=
  bnd (wrI M 13 r l 0 0) fun M1 =>
  (bnd (wrI M1 14 r l 0 2) fun M2 =>
  (bnd (wrI M2 15 r l 0 0) fun M3 =>
  (bnd (wrI M3 16 r l 0 0) fun M4 =>
  (bnd (wrI M4 17 r l 0 0) fun M5 =>
  (bnd (wrI M5 18 r l 0 0) fun M6 =>
  (M6))))))
def s_X3_clear (M : gM) (r : Nat) (l : Nat) : Prop :=
  bndP (wrI M 13 r l 0 0) fun M1 =>
  (bndP (wrI M1 14 r l 0 2) fun M2 =>
  (bndP (wrI M2 15 r l 0 0) fun M3 =>
  (bndP (wrI M3 16 r l 0 0) fun M4 =>
  (bndP (wrI M4 17 r l 0 0) fun M5 =>
  (bndP (wrI M5 18 r l 0 0) fun M6 =>
  (True))))))
theorem o_X3_clear (M : gM) (r : Nat) (l : Nat) : offW [13, 14, 15, 16, 17, 18] M (f_X3_clear M r l) := by
  rw [f_X3_clear]
  refine offB (offR.wI (by decide)) (fun M1 oM1 => ?_)
  refine offB (oM1.wI (by decide)) (fun M2 oM2 => ?_)
  refine offB (oM2.wI (by decide)) (fun M3 oM3 => ?_)
  refine offB (oM3.wI (by decide)) (fun M4 oM4 => ?_)
  refine offB (oM4.wI (by decide)) (fun M5 oM5 => ?_)
  refine offB (oM5.wI (by decide)) (fun M6 oM6 => ?_)
  exact oM6
set_option maxRecDepth 100000 in
set_option maxHeartbeats 4000000 in
theorem t_X3_clear {E : gE} {K : gM → Prop} {Q : Option Value → gM → Prop} (hK : ∀ z : gM, K z → Q none z) (M : gM) (r : Nat) (l : Nat) (hr : r < 2) (hl : l < 2) (hs : s_X3_clear M r l) (hQ : K (f_X3_clear M r l)) : gG E RX3 cX3_clear 1 none (rm 0) 0 [(0, .ref (gla E (laC r l)))] [] M Q := by
  rw [s_X3_clear] at hs
  rw [f_X3_clear] at hQ
  refine g_aload_n 0 dX3_clear_0 rfl ?_
  refine g_iconst (v := 0) dX3_clear_1 (by decide) ?_
  refine g_putZ (laC r l) fd_X3_7 (Or.inl rfl) (dF_La hr hl) rfl dX3_clear_2 (fun M1 hM1 => ?_)
  have hQ := bndQ hQ M1 hM1; have hs := bndS hs M1 hM1
  refine g_aload_n 0 dX3_clear_5 rfl ?_
  refine g_iconst (v := 2) dX3_clear_6 (by decide) ?_
  refine g_putI (laC r l) fd_X3_13 (dF_La hr hl) rfl dX3_clear_7 (fun M2 hM2 => ?_)
  have hQ := bndQ hQ M2 hM2; have hs := bndS hs M2 hM2
  refine g_aload_n 0 dX3_clear_10 rfl ?_
  refine g_iconst (v := 0) dX3_clear_11 (by decide) ?_
  refine g_putZ (laC r l) fd_X3_17 (Or.inl rfl) (dF_La hr hl) rfl dX3_clear_12 (fun M3 hM3 => ?_)
  have hQ := bndQ hQ M3 hM3; have hs := bndS hs M3 hM3
  refine g_aload_n 0 dX3_clear_15 rfl ?_
  refine g_iconst (v := 0) dX3_clear_16 (by decide) ?_
  refine g_putZ (laC r l) fd_X3_20 (Or.inl rfl) (dF_La hr hl) rfl dX3_clear_17 (fun M4 hM4 => ?_)
  have hQ := bndQ hQ M4 hM4; have hs := bndS hs M4 hM4
  refine g_aload_n 0 dX3_clear_20 rfl ?_
  refine g_iconst (v := 0) dX3_clear_21 (by decide) ?_
  refine g_putZ (laC r l) fd_X3_23 (Or.inl rfl) (dF_La hr hl) rfl dX3_clear_22 (fun M5 hM5 => ?_)
  have hQ := bndQ hQ M5 hM5; have hs := bndS hs M5 hM5
  refine g_aload_n 0 dX3_clear_25 rfl ?_
  refine g_iconst (v := 0) dX3_clear_26 (by decide) ?_
  refine g_putZ (laC r l) fd_X3_26 (Or.inl rfl) (dF_La hr hl) rfl dX3_clear_27 (fun M6 hM6 => ?_)
  have hQ := bndQ hQ M6 hM6; have hs := bndS hs M6 hM6
  exact g_vret rfl dX3_clear_30 (hK _ hQ)
theorem c_X3_clear (E : gE) (M : gM) (r : Nat) (l : Nat) (hr : r < 2) (hl : l < 2) (hs : s_X3_clear M r l) : gC E yX3_clear cX3_clear 1 none (rm 0) [.ref (gla E (laC r l))] M (fun o N => o = none ∧ N = f_X3_clear M r l) :=
  gC.of (by decide +kernel) (Nat.le_of_ble_eq_true rfl) rfl (t_X3_clear (K := fun z => z = f_X3_clear M r l) (fun z hz => ⟨rfl, hz⟩) M r l hr hl hs rfl)
def f_X5_clear (M : gM) (r : Nat) (q : Nat) : gM :=
  bnd (wrI M 29 r q 0 0) fun M1 =>
  (bnd (wrI M1 30 r q 0 0) fun M2 =>
  (bnd (wrI M2 31 r q 0 0) fun M3 =>
  (bnd (wrI M3 32 r q 0 (-1)) fun M4 =>
  (bnd (wrI M4 33 r q 0 (-1)) fun M5 =>
  (bnd (wrI M5 34 r q 0 0) fun M6 =>
  (bnd (wrI M6 35 r q 0 0) fun M7 =>
  (M7)))))))
def s_X5_clear (M : gM) (r : Nat) (q : Nat) : Prop :=
  bndP (wrI M 29 r q 0 0) fun M1 =>
  (bndP (wrI M1 30 r q 0 0) fun M2 =>
  (bndP (wrI M2 31 r q 0 0) fun M3 =>
  (bndP (wrI M3 32 r q 0 (-1)) fun M4 =>
  (bndP (wrI M4 33 r q 0 (-1)) fun M5 =>
  (bndP (wrI M5 34 r q 0 0) fun M6 =>
  (bndP (wrI M6 35 r q 0 0) fun M7 =>
  (True)))))))
theorem o_X5_clear (M : gM) (r : Nat) (q : Nat) : offW [29, 30, 31, 32, 33, 34, 35] M (f_X5_clear M r q) := by
  rw [f_X5_clear]
  refine offB (offR.wI (by decide)) (fun M1 oM1 => ?_)
  refine offB (oM1.wI (by decide)) (fun M2 oM2 => ?_)
  refine offB (oM2.wI (by decide)) (fun M3 oM3 => ?_)
  refine offB (oM3.wI (by decide)) (fun M4 oM4 => ?_)
  refine offB (oM4.wI (by decide)) (fun M5 oM5 => ?_)
  refine offB (oM5.wI (by decide)) (fun M6 oM6 => ?_)
  refine offB (oM6.wI (by decide)) (fun M7 oM7 => ?_)
  exact oM7
set_option maxRecDepth 100000 in
set_option maxHeartbeats 4000000 in
theorem t_X5_clear {E : gE} {K : gM → Prop} {Q : Option Value → gM → Prop} (hK : ∀ z : gM, K z → Q none z) (M : gM) (r : Nat) (q : Nat) (hr : r < 2) (hq : q < 12) (hs : s_X5_clear M r q) (hQ : K (f_X5_clear M r q)) : gG E RX5 cX5_clear 1 none (rm 0) 0 [(0, .ref (gla E (paC r q)))] [] M Q := by
  rw [s_X5_clear] at hs
  rw [f_X5_clear] at hQ
  refine g_aload_n 0 dX5_clear_0 rfl ?_
  refine g_iconst (v := 0) dX5_clear_1 (by decide) ?_
  refine g_putZ (paC r q) fd_X5_27 (Or.inl rfl) (dF_Pa hr hq) rfl dX5_clear_2 (fun M1 hM1 => ?_)
  have hQ := bndQ hQ M1 hM1; have hs := bndS hs M1 hM1
  refine g_aload_n 0 dX5_clear_5 rfl ?_
  refine g_iconst (v := 0) dX5_clear_6 (by decide) ?_
  refine g_putI (paC r q) fd_X5_31 (dF_Pa hr hq) rfl dX5_clear_7 (fun M2 hM2 => ?_)
  have hQ := bndQ hQ M2 hM2; have hs := bndS hs M2 hM2
  refine g_aload_n 0 dX5_clear_10 rfl ?_
  refine g_iconst (v := 0) dX5_clear_11 (by decide) ?_
  refine g_putI (paC r q) fd_X5_35 (dF_Pa hr hq) rfl dX5_clear_12 (fun M3 hM3 => ?_)
  have hQ := bndQ hQ M3 hM3; have hs := bndS hs M3 hM3
  refine g_aload_n 0 dX5_clear_15 rfl ?_
  refine g_iconst (v := (-1)) dX5_clear_16 (by decide) ?_
  refine g_putI (paC r q) fd_X5_38 (dF_Pa hr hq) rfl dX5_clear_17 (fun M4 hM4 => ?_)
  have hQ := bndQ hQ M4 hM4; have hs := bndS hs M4 hM4
  refine g_aload_n 0 dX5_clear_20 rfl ?_
  refine g_iconst (v := (-1)) dX5_clear_21 (by decide) ?_
  refine g_putI (paC r q) fd_X5_41 (dF_Pa hr hq) rfl dX5_clear_22 (fun M5 hM5 => ?_)
  have hQ := bndQ hQ M5 hM5; have hs := bndS hs M5 hM5
  refine g_aload_n 0 dX5_clear_25 rfl ?_
  refine g_iconst (v := 0) dX5_clear_26 (by decide) ?_
  refine g_putZ (paC r q) fd_X5_44 (Or.inl rfl) (dF_Pa hr hq) rfl dX5_clear_27 (fun M6 hM6 => ?_)
  have hQ := bndQ hQ M6 hM6; have hs := bndS hs M6 hM6
  refine g_aload_n 0 dX5_clear_30 rfl ?_
  refine g_iconst (v := 0) dX5_clear_31 (by decide) ?_
  refine g_putI (paC r q) fd_X5_47 (dF_Pa hr hq) rfl dX5_clear_32 (fun M7 hM7 => ?_)
  have hQ := bndQ hQ M7 hM7; have hs := bndS hs M7 hM7
  exact g_vret rfl dX5_clear_35 (hK _ hQ)
theorem c_X5_clear (E : gE) (M : gM) (r : Nat) (q : Nat) (hr : r < 2) (hq : q < 12) (hs : s_X5_clear M r q) : gC E yX5_clear cX5_clear 1 none (rm 0) [.ref (gla E (paC r q))] M (fun o N => o = none ∧ N = f_X5_clear M r q) :=
  gC.of (by decide +kernel) (Nat.le_of_ble_eq_true rfl) rfl (t_X5_clear (K := fun z => z = f_X5_clear M r q) (fun z hz => ⟨rfl, hz⟩) M r q hr hq hs rfl)
def f_X5_isLost (M : gM) (r : Nat) (q : Nat) : Int32 :=
  if (rdI M 33 r q 0) = (-1) then
    (0)
  else
    (1)
def s_X5_isLost (M : gM) (r : Nat) (q : Nat) : Prop :=
  if (rdI M 33 r q 0) = (-1) then
    (True)
  else
    (True)
set_option maxRecDepth 100000 in
set_option maxHeartbeats 4000000 in
theorem t_X5_isLost {E : gE} {K : Int32 → Prop} {Q : Option Value → gM → Prop} {M : gM} (hK : ∀ z : Int32, K z → Q (some (.int z)) M)  (r : Nat) (q : Nat) (hr : r < 2) (hq : q < 12) (hs : s_X5_isLost M r q) (hQ : K (f_X5_isLost M r q)) : gG E RX5 cX5_isLost 1 (some .boolean) (rm 0) 0 [(0, .ref (gla E (paC r q)))] [] M Q := by
  rw [s_X5_isLost] at hs
  rw [f_X5_isLost] at hQ
  refine g_aload_n 0 dX5_isLost_0 rfl ?_
  refine g_getI (paC r q) fd_X5_41 (dF_Pa hr hq) rfl dX5_isLost_1 ?_
  refine g_iconst (v := (-1)) dX5_isLost_4 (by decide) ?_
  refine g_icmp_eq 12 dX5_isLost_5 (by decide) (fun c1 => ?_) (fun c1 => ?_)
  · have hs := ifSt hs c1; have hQ := ifQt hQ c1
    refine g_iconst (v := 0) dX5_isLost_12 (by decide) ?_
    exact g_zret rfl (Or.inl rfl) dX5_isLost_13 (hK _ hQ)
  · have hs := ifSf hs c1; have hQ := ifQf hQ c1
    refine g_iconst (v := 1) dX5_isLost_8 (by decide) ?_
    refine g_goto 13 dX5_isLost_9 (by decide) ?_
    exact g_zret rfl (Or.inr rfl) dX5_isLost_13 (hK _ hQ)
theorem c_X5_isLost (E : gE) (M : gM) (r : Nat) (q : Nat) (hr : r < 2) (hq : q < 12) (hs : s_X5_isLost M r q) : gC E yX5_isLost cX5_isLost 1 (some .boolean) (rm 0) [.ref (gla E (paC r q))] M (fun o N => o = some (.int (f_X5_isLost M r q)) ∧ N = M) :=
  gC.of (by decide +kernel) (Nat.le_of_ble_eq_true rfl) rfl (t_X5_isLost (K := fun z => z = f_X5_isLost M r q) (fun z hz => by rw [hz]; exact ⟨rfl, rfl⟩) r q hr hq hs rfl)
def f_X5_isWitness (M : gM) (r : Nat) (q : Nat) (x1 : Int32) : Int32 :=
  if (((rdI M 30 r q 0) >>> (x1 &&& 31)) &&& 1) = 0 then
    (0)
  else
    (1)
def s_X5_isWitness (M : gM) (r : Nat) (q : Nat) (x1 : Int32) : Prop :=
  if (((rdI M 30 r q 0) >>> (x1 &&& 31)) &&& 1) = 0 then
    (True)
  else
    (True)
set_option maxRecDepth 100000 in
set_option maxHeartbeats 4000000 in
theorem t_X5_isWitness {E : gE} {K : Int32 → Prop} {Q : Option Value → gM → Prop} {M : gM} (hK : ∀ z : Int32, K z → Q (some (.int z)) M)  (r : Nat) (q : Nat) (x1 : Int32) (hr : r < 2) (hq : q < 12) (hs : s_X5_isWitness M r q x1) (hQ : K (f_X5_isWitness M r q x1)) : gG E RX5 cX5_isWitness 2 (some .boolean) (rm 0) 0 [(0, .ref (gla E (paC r q))), (1, .int x1)] [] M Q := by
  rw [s_X5_isWitness] at hs
  rw [f_X5_isWitness] at hQ
  refine g_aload_n 0 dX5_isWitness_0 rfl ?_
  refine g_getI (paC r q) fd_X5_31 (dF_Pa hr hq) rfl dX5_isWitness_1 ?_
  refine g_iload_n 1 dX5_isWitness_4 rfl ?_
  refine g_ishr dX5_isWitness_5 ?_
  refine g_iconst (v := 1) dX5_isWitness_6 (by decide) ?_
  refine g_iand dX5_isWitness_7 ?_
  refine g_if_eq 15 dX5_isWitness_8 (by decide) (fun c1 => ?_) (fun c1 => ?_)
  · have hs := ifSt hs c1; have hQ := ifQt hQ c1
    refine g_iconst (v := 0) dX5_isWitness_15 (by decide) ?_
    exact g_zret rfl (Or.inl rfl) dX5_isWitness_16 (hK _ hQ)
  · have hs := ifSf hs c1; have hQ := ifQf hQ c1
    refine g_iconst (v := 1) dX5_isWitness_11 (by decide) ?_
    refine g_goto 16 dX5_isWitness_12 (by decide) ?_
    exact g_zret rfl (Or.inr rfl) dX5_isWitness_16 (hK _ hQ)
theorem c_X5_isWitness (E : gE) (M : gM) (r : Nat) (q : Nat) (hr : r < 2) (hq : q < 12) (x1 : Int32) (hs : s_X5_isWitness M r q x1) : gC E yX5_isWitness cX5_isWitness 2 (some .boolean) (rm 0) [.ref (gla E (paC r q)), .int x1] M (fun o N => o = some (.int (f_X5_isWitness M r q x1)) ∧ N = M) :=
  gC.of (by decide +kernel) (Nat.le_of_ble_eq_true rfl) rfl (t_X5_isWitness (K := fun z => z = f_X5_isWitness M r q x1) (fun z hz => by rw [hz]; exact ⟨rfl, rfl⟩) r q x1 hr hq hs rfl)
def f_X5_strikes (M : gM) (r : Nat) (q : Nat) (x1 : Int32) : Int32 :=
  if (((rdI M 31 r q 0) >>> (x1 &&& 31)) &&& 1) = 0 then
    (0)
  else
    (1)
def s_X5_strikes (M : gM) (r : Nat) (q : Nat) (x1 : Int32) : Prop :=
  if (((rdI M 31 r q 0) >>> (x1 &&& 31)) &&& 1) = 0 then
    (True)
  else
    (True)
set_option maxRecDepth 100000 in
set_option maxHeartbeats 4000000 in
theorem t_X5_strikes {E : gE} {K : Int32 → Prop} {Q : Option Value → gM → Prop} {M : gM} (hK : ∀ z : Int32, K z → Q (some (.int z)) M)  (r : Nat) (q : Nat) (x1 : Int32) (hr : r < 2) (hq : q < 12) (hs : s_X5_strikes M r q x1) (hQ : K (f_X5_strikes M r q x1)) : gG E RX5 cX5_strikes 2 (some .boolean) (rm 0) 0 [(0, .ref (gla E (paC r q))), (1, .int x1)] [] M Q := by
  rw [s_X5_strikes] at hs
  rw [f_X5_strikes] at hQ
  refine g_aload_n 0 dX5_strikes_0 rfl ?_
  refine g_getI (paC r q) fd_X5_35 (dF_Pa hr hq) rfl dX5_strikes_1 ?_
  refine g_iload_n 1 dX5_strikes_4 rfl ?_
  refine g_ishr dX5_strikes_5 ?_
  refine g_iconst (v := 1) dX5_strikes_6 (by decide) ?_
  refine g_iand dX5_strikes_7 ?_
  refine g_if_eq 15 dX5_strikes_8 (by decide) (fun c1 => ?_) (fun c1 => ?_)
  · have hs := ifSt hs c1; have hQ := ifQt hQ c1
    refine g_iconst (v := 0) dX5_strikes_15 (by decide) ?_
    exact g_zret rfl (Or.inl rfl) dX5_strikes_16 (hK _ hQ)
  · have hs := ifSf hs c1; have hQ := ifQf hQ c1
    refine g_iconst (v := 1) dX5_strikes_11 (by decide) ?_
    refine g_goto 16 dX5_strikes_12 (by decide) ?_
    exact g_zret rfl (Or.inr rfl) dX5_strikes_16 (hK _ hQ)
theorem c_X5_strikes (E : gE) (M : gM) (r : Nat) (q : Nat) (hr : r < 2) (hq : q < 12) (x1 : Int32) (hs : s_X5_strikes M r q x1) : gC E yX5_strikes cX5_strikes 2 (some .boolean) (rm 0) [.ref (gla E (paC r q)), .int x1] M (fun o N => o = some (.int (f_X5_strikes M r q x1)) ∧ N = M) :=
  gC.of (by decide +kernel) (Nat.le_of_ble_eq_true rfl) rfl (t_X5_strikes (K := fun z => z = f_X5_strikes M r q x1) (fun z hz => by rw [hz]; exact ⟨rfl, rfl⟩) r q x1 hr hq hs rfl)
def f_X5_givesTo_44 (M : gM) (r : Nat) (q : Nat) (x1 : Int32)  : Int32 :=
  if (rdI M 32 r q 0) = x1 then
    (1)
  else
    (0)
def s_X5_givesTo_44 (M : gM) (r : Nat) (q : Nat) (x1 : Int32)  : Prop :=
  if (rdI M 32 r q 0) = x1 then
    (True)
  else
    (True)
set_option maxRecDepth 100000 in
set_option maxHeartbeats 4000000 in
theorem t_X5_givesTo_44 {E : gE} {K : Int32 → Prop} {Q : Option Value → gM → Prop} {M : gM} (hK : ∀ z : Int32, K z → Q (some (.int z)) M) (r : Nat) (q : Nat) (x1 : Int32) (hr : r < 2) (hq : q < 12)  (hs : s_X5_givesTo_44 M r q x1 ) (hQ : K (f_X5_givesTo_44 M r q x1 )) : gG E RX5 cX5_givesTo 3 (some .boolean) (rm 0) 44 [(0, .ref (gla E (paC r q))), (1, .int x1)] [] M Q := by
  rw [s_X5_givesTo_44] at hs
  rw [f_X5_givesTo_44] at hQ
  refine g_aload_n 0 dX5_givesTo_44 rfl ?_
  refine g_getI (paC r q) fd_X5_38 (dF_Pa hr hq) rfl dX5_givesTo_45 ?_
  refine g_iload_n 1 dX5_givesTo_48 rfl ?_
  refine g_icmp_ne 56 dX5_givesTo_49 (by decide) (fun c7 => ?_) (fun c7 => ?_)
  · have hs := ifSf hs c7; have hQ := ifQf hQ c7
    refine g_iconst (v := 0) dX5_givesTo_56 (by decide) ?_
    exact g_zret rfl (Or.inl rfl) dX5_givesTo_57 (hK _ hQ)
  · have hs := ifSt hs c7; have hQ := ifQt hQ c7
    refine g_iconst (v := 1) dX5_givesTo_52 (by decide) ?_
    refine g_goto 57 dX5_givesTo_53 (by decide) ?_
    exact g_zret rfl (Or.inr rfl) dX5_givesTo_57 (hK _ hQ)
def f_X5_givesTo_2 (M : gM) (r : Nat) (q : Nat) (x1 : Int32)  : Nat → Int32 → Int32
  | 0, _ => 0
  | n + 1, x2 =>
    if (rdI M 35 r q 0) ≤ x2 then
      (f_X5_givesTo_44 M r q x1)
    else
      (if 6 ≤ x2 then
        (f_X5_givesTo_44 M r q x1)
      else
        (if (rdI M 37 r q (nn x2)) = x1 then
          (1)
        else
          (if (rdI M 40 r q (nn x2)) = x1 then
            (1)
          else
            (f_X5_givesTo_2 M r q x1 n (x2 + 1)))))
def s_X5_givesTo_2 (M : gM) (r : Nat) (q : Nat) (x1 : Int32)  : Nat → Int32 → Prop
  | 0, _ => False
  | n + 1, x2 =>
    if (rdI M 35 r q 0) ≤ x2 then
      (s_X5_givesTo_44 M r q x1)
    else
      (if 6 ≤ x2 then
        (s_X5_givesTo_44 M r q x1)
      else
        ((vp_in x2 6) ∧
        (if (rdI M 37 r q (nn x2)) = x1 then
          (True)
        else
          ((vp_in x2 6) ∧
          (if (rdI M 40 r q (nn x2)) = x1 then
            (True)
          else
            (s_X5_givesTo_2 M r q x1 n (x2 + 1)))))))
set_option maxRecDepth 100000 in
set_option maxHeartbeats 4000000 in
theorem t_X5_givesTo_2 {E : gE} {K : Int32 → Prop} {Q : Option Value → gM → Prop} {M : gM} (hK : ∀ z : Int32, K z → Q (some (.int z)) M) (r : Nat) (q : Nat) (x1 : Int32) (hr : r < 2) (hq : q < 12)  : ∀ (n : Nat) (x2 : Int32) , s_X5_givesTo_2 M r q x1  n x2 → K (f_X5_givesTo_2 M r q x1  n x2) → gG E RX5 cX5_givesTo 3 (some .boolean) (rm 0) 2 [(0, .ref (gla E (paC r q))), (1, .int x1), (2, .int x2)] [] M Q := by
  intro n
  induction n with
  | zero => intro x2 hs hQ; exact (hs : False).elim
  | succ n ih =>
    intro x2 hs hQ
    rw [s_X5_givesTo_2] at hs
    rw [f_X5_givesTo_2] at hQ
    refine g_iload_n 2 dX5_givesTo_2 rfl ?_
    refine g_aload_n 0 dX5_givesTo_3 rfl ?_
    refine g_getI (paC r q) fd_X5_47 (dF_Pa hr hq) rfl dX5_givesTo_4 ?_
    refine g_icmp_ge 44 dX5_givesTo_7 (by decide) (fun c1 => ?_) (fun c1 => ?_)
    · have hs := ifSt hs c1; have hQ := ifQt hQ c1
      refine g_sub [0, 1] _ rfl ?_
      exact t_X5_givesTo_44 hK r q x1 hr hq hs hQ
    · have hs := ifSf hs c1; have hQ := ifQf hQ c1
      refine g_iload_n 2 dX5_givesTo_10 rfl ?_
      refine g_bipush (v := 6) dX5_givesTo_11 (by decide) ?_
      refine g_icmp_ge 44 dX5_givesTo_13 (by decide) (fun c2 => ?_) (fun c2 => ?_)
      · have hs := ifSt hs c2; have hQ := ifQt hQ c2
        refine g_sub [0, 1] _ rfl ?_
        exact t_X5_givesTo_44 hK r q x1 hr hq hs hQ
      · have hs := ifSf hs c2; have hQ := ifQf hQ c2
        refine g_aload_n 0 dX5_givesTo_16 rfl ?_
        refine g_getR (paC r q) (paC r q + 2) fd_X5_15 (dF_Pa hr hq) rfl rfl dX5_givesTo_17 ?_
        refine g_iload_n 2 dX5_givesTo_20 rfl ?_
        have h3 := hs.1; have hs := hs.2
        refine g_iald (paC r q + 2) (dF_Pa_giveTo hr hq) h3 dX5_givesTo_21 ?_
        refine g_iload_n 1 dX5_givesTo_22 rfl ?_
        refine g_icmp_eq 36 dX5_givesTo_23 (by decide) (fun c4 => ?_) (fun c4 => ?_)
        · have hs := ifSt hs c4; have hQ := ifQt hQ c4
          refine g_iconst (v := 1) dX5_givesTo_36 (by decide) ?_
          exact g_zret rfl (Or.inr rfl) dX5_givesTo_37 (hK _ hQ)
        · have hs := ifSf hs c4; have hQ := ifQf hQ c4
          refine g_aload_n 0 dX5_givesTo_26 rfl ?_
          refine g_getR (paC r q) (paC r q + 5) fd_X5_24 (dF_Pa hr hq) rfl rfl dX5_givesTo_27 ?_
          refine g_iload_n 2 dX5_givesTo_30 rfl ?_
          have h5 := hs.1; have hs := hs.2
          refine g_iald (paC r q + 5) (dF_Pa_giveElse hr hq) h5 dX5_givesTo_31 ?_
          refine g_iload_n 1 dX5_givesTo_32 rfl ?_
          refine g_icmp_ne 38 dX5_givesTo_33 (by decide) (fun c6 => ?_) (fun c6 => ?_)
          · have hs := ifSf hs c6; have hQ := ifQf hQ c6
            refine g_iinc 2 (v := x2 + 1) _ dX5_givesTo_38 rfl rfl (by decide) rfl ?_
            refine g_goto 2 dX5_givesTo_41 (by decide) ?_
            refine g_sub [1, 2, 0] _ rfl ?_
            exact ih (x2 + 1) hs hQ
          · have hs := ifSt hs c6; have hQ := ifQt hQ c6
            refine g_iconst (v := 1) dX5_givesTo_36 (by decide) ?_
            exact g_zret rfl (Or.inr rfl) dX5_givesTo_37 (hK _ hQ)
def f_X5_givesTo (M : gM) (r : Nat) (q : Nat) (x1 : Int32) : Int32 :=
  f_X5_givesTo_2 M r q x1 FU 0
def s_X5_givesTo (M : gM) (r : Nat) (q : Nat) (x1 : Int32) : Prop :=
  s_X5_givesTo_2 M r q x1 FU 0
set_option maxRecDepth 100000 in
set_option maxHeartbeats 4000000 in
theorem t_X5_givesTo {E : gE} {K : Int32 → Prop} {Q : Option Value → gM → Prop} {M : gM} (hK : ∀ z : Int32, K z → Q (some (.int z)) M)  (r : Nat) (q : Nat) (x1 : Int32) (hr : r < 2) (hq : q < 12) (hs : s_X5_givesTo M r q x1) (hQ : K (f_X5_givesTo M r q x1)) : gG E RX5 cX5_givesTo 3 (some .boolean) (rm 0) 0 [(0, .ref (gla E (paC r q))), (1, .int x1)] [] M Q := by
  rw [s_X5_givesTo] at hs
  rw [f_X5_givesTo] at hQ
  refine g_iconst (v := 0) dX5_givesTo_0 (by decide) ?_
  refine g_istore_n _ dX5_givesTo_1 (by decide) rfl ?_
  refine g_sub [1, 2, 0] _ rfl ?_
  exact t_X5_givesTo_2 hK r q x1 hr hq FU 0 hs hQ
theorem c_X5_givesTo (E : gE) (M : gM) (r : Nat) (q : Nat) (hr : r < 2) (hq : q < 12) (x1 : Int32) (hs : s_X5_givesTo M r q x1) : gC E yX5_givesTo cX5_givesTo 3 (some .boolean) (rm 0) [.ref (gla E (paC r q)), .int x1] M (fun o N => o = some (.int (f_X5_givesTo M r q x1)) ∧ N = M) :=
  gC.of (by decide +kernel) (Nat.le_of_ble_eq_true rfl) rfl (t_X5_givesTo (K := fun z => z = f_X5_givesTo M r q x1) (fun z hz => by rw [hz]; exact ⟨rfl, rfl⟩) r q x1 hr hq hs rfl)
def f_X6_isMortal (M : gM) (r : Nat) (p : Nat) : Int32 :=
  if (rdI M 20 r p 0) = (-1) then
    (0)
  else
    (1)
def s_X6_isMortal (M : gM) (r : Nat) (p : Nat) : Prop :=
  if (rdI M 20 r p 0) = (-1) then
    (True)
  else
    (True)
set_option maxRecDepth 100000 in
set_option maxHeartbeats 4000000 in
theorem t_X6_isMortal {E : gE} {K : Int32 → Prop} {Q : Option Value → gM → Prop} {M : gM} (hK : ∀ z : Int32, K z → Q (some (.int z)) M)  (r : Nat) (p : Nat) (hr : r < 2) (hp : p < 10) (hs : s_X6_isMortal M r p) (hQ : K (f_X6_isMortal M r p)) : gG E RX6 cX6_isMortal 1 (some .boolean) (rm 0) 0 [(0, .ref (gla E (peC r p)))] [] M Q := by
  rw [s_X6_isMortal] at hs
  rw [f_X6_isMortal] at hQ
  refine g_aload_n 0 dX6_isMortal_0 rfl ?_
  refine g_getI (peC r p) fd_X6_9 (dF_Pe hr hp) rfl dX6_isMortal_1 ?_
  refine g_iconst (v := (-1)) dX6_isMortal_4 (by decide) ?_
  refine g_icmp_eq 12 dX6_isMortal_5 (by decide) (fun c1 => ?_) (fun c1 => ?_)
  · have hs := ifSt hs c1; have hQ := ifQt hQ c1
    refine g_iconst (v := 0) dX6_isMortal_12 (by decide) ?_
    exact g_zret rfl (Or.inl rfl) dX6_isMortal_13 (hK _ hQ)
  · have hs := ifSf hs c1; have hQ := ifQf hQ c1
    refine g_iconst (v := 1) dX6_isMortal_8 (by decide) ?_
    refine g_goto 13 dX6_isMortal_9 (by decide) ?_
    exact g_zret rfl (Or.inr rfl) dX6_isMortal_13 (hK _ hQ)
theorem c_X6_isMortal (E : gE) (M : gM) (r : Nat) (p : Nat) (hr : r < 2) (hp : p < 10) (hs : s_X6_isMortal M r p) : gC E yX6_isMortal cX6_isMortal 1 (some .boolean) (rm 0) [.ref (gla E (peC r p))] M (fun o N => o = some (.int (f_X6_isMortal M r p)) ∧ N = M) :=
  gC.of (by decide +kernel) (Nat.le_of_ble_eq_true rfl) rfl (t_X6_isMortal (K := fun z => z = f_X6_isMortal M r p) (fun z hz => by rw [hz]; exact ⟨rfl, rfl⟩) r p hr hp hs rfl)
def f_X6_livesOn_16 (M : gM) (r : Nat) (p : Nat)  : Int32 :=
  1
def s_X6_livesOn_16 (M : gM) (r : Nat) (p : Nat)  : Prop :=
  True
set_option maxRecDepth 100000 in
set_option maxHeartbeats 4000000 in
theorem t_X6_livesOn_16 {E : gE} {K : Int32 → Prop} {Q : Option Value → gM → Prop} {M : gM} (hK : ∀ z : Int32, K z → Q (some (.int z)) M) (r : Nat) (p : Nat) (hr : r < 2) (hp : p < 10)  (hs : s_X6_livesOn_16 M r p ) (hQ : K (f_X6_livesOn_16 M r p )) : gG E RX6 cX6_livesOn 2 (some .boolean) (rm 0) 16 [] [] M Q := by
  rw [s_X6_livesOn_16] at hs
  rw [f_X6_livesOn_16] at hQ
  refine g_iconst (v := 1) dX6_livesOn_16 (by decide) ?_
  refine g_goto 21 dX6_livesOn_17 (by decide) ?_
  exact g_zret rfl (Or.inr rfl) dX6_livesOn_21 (hK _ hQ)
def f_X6_livesOn (M : gM) (r : Nat) (p : Nat) (x1 : Int32) : Int32 :=
  if (rdI M 20 r p 0) = (-1) then
    (f_X6_livesOn_16 M r p)
  else
    (if (rdI M 20 r p 0) ≤ x1 then
      (0)
    else
      (f_X6_livesOn_16 M r p))
def s_X6_livesOn (M : gM) (r : Nat) (p : Nat) (x1 : Int32) : Prop :=
  if (rdI M 20 r p 0) = (-1) then
    (s_X6_livesOn_16 M r p)
  else
    (if (rdI M 20 r p 0) ≤ x1 then
      (True)
    else
      (s_X6_livesOn_16 M r p))
set_option maxRecDepth 100000 in
set_option maxHeartbeats 4000000 in
theorem t_X6_livesOn {E : gE} {K : Int32 → Prop} {Q : Option Value → gM → Prop} {M : gM} (hK : ∀ z : Int32, K z → Q (some (.int z)) M)  (r : Nat) (p : Nat) (x1 : Int32) (hr : r < 2) (hp : p < 10) (hs : s_X6_livesOn M r p x1) (hQ : K (f_X6_livesOn M r p x1)) : gG E RX6 cX6_livesOn 2 (some .boolean) (rm 0) 0 [(0, .ref (gla E (peC r p))), (1, .int x1)] [] M Q := by
  rw [s_X6_livesOn] at hs
  rw [f_X6_livesOn] at hQ
  refine g_aload_n 0 dX6_livesOn_0 rfl ?_
  refine g_getI (peC r p) fd_X6_9 (dF_Pe hr hp) rfl dX6_livesOn_1 ?_
  refine g_iconst (v := (-1)) dX6_livesOn_4 (by decide) ?_
  refine g_icmp_eq 16 dX6_livesOn_5 (by decide) (fun c1 => ?_) (fun c1 => ?_)
  · have hs := ifSt hs c1; have hQ := ifQt hQ c1
    refine g_sub [] _ rfl ?_
    exact t_X6_livesOn_16 hK r p hr hp hs hQ
  · have hs := ifSf hs c1; have hQ := ifQf hQ c1
    refine g_aload_n 0 dX6_livesOn_8 rfl ?_
    refine g_getI (peC r p) fd_X6_9 (dF_Pe hr hp) rfl dX6_livesOn_9 ?_
    refine g_iload_n 1 dX6_livesOn_12 rfl ?_
    refine g_icmp_le 20 dX6_livesOn_13 (by decide) (fun c2 => ?_) (fun c2 => ?_)
    · have hs := ifSt hs c2; have hQ := ifQt hQ c2
      refine g_iconst (v := 0) dX6_livesOn_20 (by decide) ?_
      exact g_zret rfl (Or.inl rfl) dX6_livesOn_21 (hK _ hQ)
    · have hs := ifSf hs c2; have hQ := ifQf hQ c2
      refine g_sub [] _ rfl ?_
      exact t_X6_livesOn_16 hK r p hr hp hs hQ
theorem c_X6_livesOn (E : gE) (M : gM) (r : Nat) (p : Nat) (hr : r < 2) (hp : p < 10) (x1 : Int32) (hs : s_X6_livesOn M r p x1) : gC E yX6_livesOn cX6_livesOn 2 (some .boolean) (rm 0) [.ref (gla E (peC r p)), .int x1] M (fun o N => o = some (.int (f_X6_livesOn M r p x1)) ∧ N = M) :=
  gC.of (by decide +kernel) (Nat.le_of_ble_eq_true rfl) rfl (t_X6_livesOn (K := fun z => z = f_X6_livesOn M r p x1) (fun z hz => by rw [hz]; exact ⟨rfl, rfl⟩) r p x1 hr hp hs rfl)
def f_X7_isPerson_22 (M : gM) (r : Nat)  : Int32 :=
  0
def s_X7_isPerson_22 (M : gM) (r : Nat)  : Prop :=
  True
set_option maxRecDepth 100000 in
set_option maxHeartbeats 4000000 in
theorem t_X7_isPerson_22 {E : gE} {K : Int32 → Prop} {Q : Option Value → gM → Prop} {M : gM} (hK : ∀ z : Int32, K z → Q (some (.int z)) M) (r : Nat) (hr : r < 2)  (hs : s_X7_isPerson_22 M r ) (hQ : K (f_X7_isPerson_22 M r )) : gG E RX7 cX7_isPerson 2 (some .boolean) (rm 0) 22 [] [] M Q := by
  rw [s_X7_isPerson_22] at hs
  rw [f_X7_isPerson_22] at hQ
  refine g_iconst (v := 0) dX7_isPerson_22 (by decide) ?_
  exact g_zret rfl (Or.inl rfl) dX7_isPerson_23 (hK _ hQ)
def f_X7_isPerson (M : gM) (r : Nat) (x1 : Int32) : Int32 :=
  if x1 < 0 then
    (f_X7_isPerson_22 M r)
  else
    (if (rdI M 5 r 0 0) ≤ x1 then
      (f_X7_isPerson_22 M r)
    else
      (if 10 ≤ x1 then
        (f_X7_isPerson_22 M r)
      else
        (1)))
def s_X7_isPerson (M : gM) (r : Nat) (x1 : Int32) : Prop :=
  if x1 < 0 then
    (s_X7_isPerson_22 M r)
  else
    (if (rdI M 5 r 0 0) ≤ x1 then
      (s_X7_isPerson_22 M r)
    else
      (if 10 ≤ x1 then
        (s_X7_isPerson_22 M r)
      else
        (True)))
set_option maxRecDepth 100000 in
set_option maxHeartbeats 4000000 in
theorem t_X7_isPerson {E : gE} {K : Int32 → Prop} {Q : Option Value → gM → Prop} {M : gM} (hK : ∀ z : Int32, K z → Q (some (.int z)) M)  (r : Nat) (x1 : Int32) (hr : r < 2) (hs : s_X7_isPerson M r x1) (hQ : K (f_X7_isPerson M r x1)) : gG E RX7 cX7_isPerson 2 (some .boolean) (rm 0) 0 [(0, .ref (gla E (rgC r))), (1, .int x1)] [] M Q := by
  rw [s_X7_isPerson] at hs
  rw [f_X7_isPerson] at hQ
  refine g_iload_n 1 dX7_isPerson_0 rfl ?_
  refine g_if_lt 22 dX7_isPerson_1 (by decide) (fun c1 => ?_) (fun c1 => ?_)
  · have hs := ifSt hs c1; have hQ := ifQt hQ c1
    refine g_sub [] _ rfl ?_
    exact t_X7_isPerson_22 hK r hr hs hQ
  · have hs := ifSf hs c1; have hQ := ifQf hQ c1
    refine g_iload_n 1 dX7_isPerson_4 rfl ?_
    refine g_aload_n 0 dX7_isPerson_5 rfl ?_
    refine g_getI (rgC r) fd_X7_60 (dF_Rg hr) rfl dX7_isPerson_6 ?_
    refine g_icmp_ge 22 dX7_isPerson_9 (by decide) (fun c2 => ?_) (fun c2 => ?_)
    · have hs := ifSt hs c2; have hQ := ifQt hQ c2
      refine g_sub [] _ rfl ?_
      exact t_X7_isPerson_22 hK r hr hs hQ
    · have hs := ifSf hs c2; have hQ := ifQf hQ c2
      refine g_iload_n 1 dX7_isPerson_12 rfl ?_
      refine g_bipush (v := 10) dX7_isPerson_13 (by decide) ?_
      refine g_icmp_ge 22 dX7_isPerson_15 (by decide) (fun c3 => ?_) (fun c3 => ?_)
      · have hs := ifSt hs c3; have hQ := ifQt hQ c3
        refine g_sub [] _ rfl ?_
        exact t_X7_isPerson_22 hK r hr hs hQ
      · have hs := ifSf hs c3; have hQ := ifQf hQ c3
        refine g_iconst (v := 1) dX7_isPerson_18 (by decide) ?_
        refine g_goto 23 dX7_isPerson_19 (by decide) ?_
        exact g_zret rfl (Or.inr rfl) dX7_isPerson_23 (hK _ hQ)
theorem c_X7_isPerson (E : gE) (M : gM) (r : Nat) (hr : r < 2) (x1 : Int32) (hs : s_X7_isPerson M r x1) : gC E yX7_isPerson cX7_isPerson 2 (some .boolean) (rm 0) [.ref (gla E (rgC r)), .int x1] M (fun o N => o = some (.int (f_X7_isPerson M r x1)) ∧ N = M) :=
  gC.of (by decide +kernel) (Nat.le_of_ble_eq_true rfl) rfl (t_X7_isPerson (K := fun z => z = f_X7_isPerson M r x1) (fun z hz => by rw [hz]; exact ⟨rfl, rfl⟩) r x1 hr hs rfl)
def f_X7_isThing_22 (M : gM) (r : Nat)  : Int32 :=
  0
def s_X7_isThing_22 (M : gM) (r : Nat)  : Prop :=
  True
set_option maxRecDepth 100000 in
set_option maxHeartbeats 4000000 in
theorem t_X7_isThing_22 {E : gE} {K : Int32 → Prop} {Q : Option Value → gM → Prop} {M : gM} (hK : ∀ z : Int32, K z → Q (some (.int z)) M) (r : Nat) (hr : r < 2)  (hs : s_X7_isThing_22 M r ) (hQ : K (f_X7_isThing_22 M r )) : gG E RX7 cX7_isThing 2 (some .boolean) (rm 0) 22 [] [] M Q := by
  rw [s_X7_isThing_22] at hs
  rw [f_X7_isThing_22] at hQ
  refine g_iconst (v := 0) dX7_isThing_22 (by decide) ?_
  exact g_zret rfl (Or.inl rfl) dX7_isThing_23 (hK _ hQ)
def f_X7_isThing (M : gM) (r : Nat) (x1 : Int32) : Int32 :=
  if x1 < 0 then
    (f_X7_isThing_22 M r)
  else
    (if (rdI M 6 r 0 0) ≤ x1 then
      (f_X7_isThing_22 M r)
    else
      (if 8 ≤ x1 then
        (f_X7_isThing_22 M r)
      else
        (1)))
def s_X7_isThing (M : gM) (r : Nat) (x1 : Int32) : Prop :=
  if x1 < 0 then
    (s_X7_isThing_22 M r)
  else
    (if (rdI M 6 r 0 0) ≤ x1 then
      (s_X7_isThing_22 M r)
    else
      (if 8 ≤ x1 then
        (s_X7_isThing_22 M r)
      else
        (True)))
set_option maxRecDepth 100000 in
set_option maxHeartbeats 4000000 in
theorem t_X7_isThing {E : gE} {K : Int32 → Prop} {Q : Option Value → gM → Prop} {M : gM} (hK : ∀ z : Int32, K z → Q (some (.int z)) M)  (r : Nat) (x1 : Int32) (hr : r < 2) (hs : s_X7_isThing M r x1) (hQ : K (f_X7_isThing M r x1)) : gG E RX7 cX7_isThing 2 (some .boolean) (rm 0) 0 [(0, .ref (gla E (rgC r))), (1, .int x1)] [] M Q := by
  rw [s_X7_isThing] at hs
  rw [f_X7_isThing] at hQ
  refine g_iload_n 1 dX7_isThing_0 rfl ?_
  refine g_if_lt 22 dX7_isThing_1 (by decide) (fun c1 => ?_) (fun c1 => ?_)
  · have hs := ifSt hs c1; have hQ := ifQt hQ c1
    refine g_sub [] _ rfl ?_
    exact t_X7_isThing_22 hK r hr hs hQ
  · have hs := ifSf hs c1; have hQ := ifQf hQ c1
    refine g_iload_n 1 dX7_isThing_4 rfl ?_
    refine g_aload_n 0 dX7_isThing_5 rfl ?_
    refine g_getI (rgC r) fd_X7_63 (dF_Rg hr) rfl dX7_isThing_6 ?_
    refine g_icmp_ge 22 dX7_isThing_9 (by decide) (fun c2 => ?_) (fun c2 => ?_)
    · have hs := ifSt hs c2; have hQ := ifQt hQ c2
      refine g_sub [] _ rfl ?_
      exact t_X7_isThing_22 hK r hr hs hQ
    · have hs := ifSf hs c2; have hQ := ifQf hQ c2
      refine g_iload_n 1 dX7_isThing_12 rfl ?_
      refine g_bipush (v := 8) dX7_isThing_13 (by decide) ?_
      refine g_icmp_ge 22 dX7_isThing_15 (by decide) (fun c3 => ?_) (fun c3 => ?_)
      · have hs := ifSt hs c3; have hQ := ifQt hQ c3
        refine g_sub [] _ rfl ?_
        exact t_X7_isThing_22 hK r hr hs hQ
      · have hs := ifSf hs c3; have hQ := ifQf hQ c3
        refine g_iconst (v := 1) dX7_isThing_18 (by decide) ?_
        refine g_goto 23 dX7_isThing_19 (by decide) ?_
        exact g_zret rfl (Or.inr rfl) dX7_isThing_23 (hK _ hQ)
theorem c_X7_isThing (E : gE) (M : gM) (r : Nat) (hr : r < 2) (x1 : Int32) (hs : s_X7_isThing M r x1) : gC E yX7_isThing cX7_isThing 2 (some .boolean) (rm 0) [.ref (gla E (rgC r)), .int x1] M (fun o N => o = some (.int (f_X7_isThing M r x1)) ∧ N = M) :=
  gC.of (by decide +kernel) (Nat.le_of_ble_eq_true rfl) rfl (t_X7_isThing (K := fun z => z = f_X7_isThing M r x1) (fun z hz => by rw [hz]; exact ⟨rfl, rfl⟩) r x1 hr hs rfl)
def f_X7_isPaper_22 (M : gM) (r : Nat)  : Int32 :=
  0
def s_X7_isPaper_22 (M : gM) (r : Nat)  : Prop :=
  True
set_option maxRecDepth 100000 in
set_option maxHeartbeats 4000000 in
theorem t_X7_isPaper_22 {E : gE} {K : Int32 → Prop} {Q : Option Value → gM → Prop} {M : gM} (hK : ∀ z : Int32, K z → Q (some (.int z)) M) (r : Nat) (hr : r < 2)  (hs : s_X7_isPaper_22 M r ) (hQ : K (f_X7_isPaper_22 M r )) : gG E RX7 cX7_isPaper 2 (some .boolean) (rm 0) 22 [] [] M Q := by
  rw [s_X7_isPaper_22] at hs
  rw [f_X7_isPaper_22] at hQ
  refine g_iconst (v := 0) dX7_isPaper_22 (by decide) ?_
  exact g_zret rfl (Or.inl rfl) dX7_isPaper_23 (hK _ hQ)
def f_X7_isPaper (M : gM) (r : Nat) (x1 : Int32) : Int32 :=
  if x1 < 0 then
    (f_X7_isPaper_22 M r)
  else
    (if (rdI M 7 r 0 0) ≤ x1 then
      (f_X7_isPaper_22 M r)
    else
      (if 12 ≤ x1 then
        (f_X7_isPaper_22 M r)
      else
        (1)))
def s_X7_isPaper (M : gM) (r : Nat) (x1 : Int32) : Prop :=
  if x1 < 0 then
    (s_X7_isPaper_22 M r)
  else
    (if (rdI M 7 r 0 0) ≤ x1 then
      (s_X7_isPaper_22 M r)
    else
      (if 12 ≤ x1 then
        (s_X7_isPaper_22 M r)
      else
        (True)))
set_option maxRecDepth 100000 in
set_option maxHeartbeats 4000000 in
theorem t_X7_isPaper {E : gE} {K : Int32 → Prop} {Q : Option Value → gM → Prop} {M : gM} (hK : ∀ z : Int32, K z → Q (some (.int z)) M)  (r : Nat) (x1 : Int32) (hr : r < 2) (hs : s_X7_isPaper M r x1) (hQ : K (f_X7_isPaper M r x1)) : gG E RX7 cX7_isPaper 2 (some .boolean) (rm 0) 0 [(0, .ref (gla E (rgC r))), (1, .int x1)] [] M Q := by
  rw [s_X7_isPaper] at hs
  rw [f_X7_isPaper] at hQ
  refine g_iload_n 1 dX7_isPaper_0 rfl ?_
  refine g_if_lt 22 dX7_isPaper_1 (by decide) (fun c1 => ?_) (fun c1 => ?_)
  · have hs := ifSt hs c1; have hQ := ifQt hQ c1
    refine g_sub [] _ rfl ?_
    exact t_X7_isPaper_22 hK r hr hs hQ
  · have hs := ifSf hs c1; have hQ := ifQf hQ c1
    refine g_iload_n 1 dX7_isPaper_4 rfl ?_
    refine g_aload_n 0 dX7_isPaper_5 rfl ?_
    refine g_getI (rgC r) fd_X7_66 (dF_Rg hr) rfl dX7_isPaper_6 ?_
    refine g_icmp_ge 22 dX7_isPaper_9 (by decide) (fun c2 => ?_) (fun c2 => ?_)
    · have hs := ifSt hs c2; have hQ := ifQt hQ c2
      refine g_sub [] _ rfl ?_
      exact t_X7_isPaper_22 hK r hr hs hQ
    · have hs := ifSf hs c2; have hQ := ifQf hQ c2
      refine g_iload_n 1 dX7_isPaper_12 rfl ?_
      refine g_bipush (v := 12) dX7_isPaper_13 (by decide) ?_
      refine g_icmp_ge 22 dX7_isPaper_15 (by decide) (fun c3 => ?_) (fun c3 => ?_)
      · have hs := ifSt hs c3; have hQ := ifQt hQ c3
        refine g_sub [] _ rfl ?_
        exact t_X7_isPaper_22 hK r hr hs hQ
      · have hs := ifSf hs c3; have hQ := ifQf hQ c3
        refine g_iconst (v := 1) dX7_isPaper_18 (by decide) ?_
        refine g_goto 23 dX7_isPaper_19 (by decide) ?_
        exact g_zret rfl (Or.inr rfl) dX7_isPaper_23 (hK _ hQ)
theorem c_X7_isPaper (E : gE) (M : gM) (r : Nat) (hr : r < 2) (x1 : Int32) (hs : s_X7_isPaper M r x1) : gC E yX7_isPaper cX7_isPaper 2 (some .boolean) (rm 0) [.ref (gla E (rgC r)), .int x1] M (fun o N => o = some (.int (f_X7_isPaper M r x1)) ∧ N = M) :=
  gC.of (by decide +kernel) (Nat.le_of_ble_eq_true rfl) rfl (t_X7_isPaper (K := fun z => z = f_X7_isPaper M r x1) (fun z hz => by rw [hz]; exact ⟨rfl, rfl⟩) r x1 hr hs rfl)
def f_X7_addPerson (M : gM) (r : Nat) (x1 : Int32) : gM :=
  if (rdI M 5 r 0 0) < 10 then
    (bnd (wrI M 19 r (nn (rdI M 5 r 0 0)) 0 x1) fun M3 =>
    (bnd (wrI M3 20 r (nn (rdI M 5 r 0 0)) 0 (-1)) fun M4 =>
    (bnd (wrI M4 21 r (nn (rdI M 5 r 0 0)) 0 0) fun M5 =>
    (bnd (wrI M5 5 r 0 0 ((rdI M5 5 r 0 0) + 1)) fun M6 =>
    (M6)))))
  else
    (M)
def s_X7_addPerson (M : gM) (r : Nat) (x1 : Int32) : Prop :=
  if (rdI M 5 r 0 0) < 10 then
    ((vp_in (rdI M 5 r 0 0) 10) ∧
    (bndP (wrI M 19 r (nn (rdI M 5 r 0 0)) 0 x1) fun M3 =>
    (bndP (wrI M3 20 r (nn (rdI M 5 r 0 0)) 0 (-1)) fun M4 =>
    (bndP (wrI M4 21 r (nn (rdI M 5 r 0 0)) 0 0) fun M5 =>
    (bndP (wrI M5 5 r 0 0 ((rdI M5 5 r 0 0) + 1)) fun M6 =>
    (True))))))
  else
    (True)
theorem o_X7_addPerson (M : gM) (r : Nat) (x1 : Int32) : offW [5, 19, 20, 21] M (f_X7_addPerson M r x1) := by
  rw [f_X7_addPerson]
  refine offI ?_ ?_
  · refine offB (offR.wI (by decide)) (fun M3 oM3 => ?_)
    refine offB (oM3.wI (by decide)) (fun M4 oM4 => ?_)
    refine offB (oM4.wI (by decide)) (fun M5 oM5 => ?_)
    refine offB (oM5.wI (by decide)) (fun M6 oM6 => ?_)
    exact oM6
  · exact offR
set_option maxRecDepth 100000 in
set_option maxHeartbeats 4000000 in
theorem t_X7_addPerson {E : gE} {K : gM → Prop} {Q : Option Value → gM → Prop} (hK : ∀ z : gM, K z → Q none z) (M : gM) (r : Nat) (x1 : Int32) (hr : r < 2) (hs : s_X7_addPerson M r x1) (hQ : K (f_X7_addPerson M r x1)) : gG E RX7 cX7_addPerson 3 none (rm 0) 0 [(0, .ref (gla E (rgC r))), (1, .int x1)] [] M Q := by
  rw [s_X7_addPerson] at hs
  rw [f_X7_addPerson] at hQ
  refine g_aload_n 0 dX7_addPerson_0 rfl ?_
  refine g_getI (rgC r) fd_X7_60 (dF_Rg hr) rfl dX7_addPerson_1 ?_
  refine g_bipush (v := 10) dX7_addPerson_4 (by decide) ?_
  refine g_icmp_lt 10 dX7_addPerson_6 (by decide) (fun c1 => ?_) (fun c1 => ?_)
  · have hs := ifSt hs c1; have hQ := ifQt hQ c1
    refine g_aload_n 0 dX7_addPerson_10 rfl ?_
    refine g_getR (rgC r) (rgC r + 2) fd_X7_19 (dF_Rg hr) rfl rfl dX7_addPerson_11 ?_
    refine g_aload_n 0 dX7_addPerson_14 rfl ?_
    refine g_getI (rgC r) fd_X7_60 (dF_Rg hr) rfl dX7_addPerson_15 ?_
    have h2 := hs.1; have hs := hs.2
    refine g_aald (rgC r + 2) (peC r (nn (rdI M 5 r 0 0))) rfl (dF_Rg_persons hr) h2 (aj_Pe _ _) dX7_addPerson_18 ?_
    refine g_astore_n _ dX7_addPerson_19 (by decide) rfl ?_
    refine g_aload_n 0 dX7_addPerson_20 rfl ?_
    refine g_iload_n 2 dX7_addPerson_21 rfl ?_
    refine g_putI (peC r (nn (rdI M 5 r 0 0))) fd_X7_72 (dF_Pe hr (vpL h2)) rfl dX7_addPerson_22 (fun M3 hM3 => ?_)
    have hQ := bndQ hQ M3 hM3; have hs := bndS hs M3 hM3
    refine g_aload_n 0 dX7_addPerson_25 rfl ?_
    refine g_iconst (v := (-1)) dX7_addPerson_26 (by decide) ?_
    refine g_putI (peC r (nn (rdI M 5 r 0 0))) fd_X7_75 (dF_Pe hr (vpL h2)) rfl dX7_addPerson_27 (fun M4 hM4 => ?_)
    have hQ := bndQ hQ M4 hM4; have hs := bndS hs M4 hM4
    refine g_aload_n 0 dX7_addPerson_30 rfl ?_
    refine g_iconst (v := 0) dX7_addPerson_31 (by decide) ?_
    refine g_putI (peC r (nn (rdI M 5 r 0 0))) fd_X7_78 (dF_Pe hr (vpL h2)) rfl dX7_addPerson_32 (fun M5 hM5 => ?_)
    have hQ := bndQ hQ M5 hM5; have hs := bndS hs M5 hM5
    refine g_aload_n 1 dX7_addPerson_35 rfl ?_
    refine g_dup dX7_addPerson_36 rfl ?_
    refine g_getI (rgC r) fd_X7_60 (dF_Rg hr) rfl dX7_addPerson_37 ?_
    refine g_iconst (v := 1) dX7_addPerson_40 (by decide) ?_
    refine g_iadd dX7_addPerson_41 ?_
    refine g_putI (rgC r) fd_X7_60 (dF_Rg hr) rfl dX7_addPerson_42 (fun M6 hM6 => ?_)
    have hQ := bndQ hQ M6 hM6; have hs := bndS hs M6 hM6
    exact g_vret rfl dX7_addPerson_45 (hK _ hQ)
  · have hs := ifSf hs c1; have hQ := ifQf hQ c1
    exact g_vret rfl dX7_addPerson_9 (hK _ hQ)
theorem c_X7_addPerson (E : gE) (M : gM) (r : Nat) (hr : r < 2) (x1 : Int32) (hs : s_X7_addPerson M r x1) : gC E yX7_addPerson cX7_addPerson 3 none (rm 0) [.ref (gla E (rgC r)), .int x1] M (fun o N => o = none ∧ N = f_X7_addPerson M r x1) :=
  gC.of (by decide +kernel) (Nat.le_of_ble_eq_true rfl) rfl (t_X7_addPerson (K := fun z => z = f_X7_addPerson M r x1) (fun z hz => ⟨rfl, hz⟩) M r x1 hr hs rfl)
def f_X7_addThing (M : gM) (r : Nat) (x1 : Int32) (x2 : Int32) (x3 : Int32) : gM :=
  if (rdI M 6 r 0 0) < 8 then
    (bnd (wrI M 22 r (nn (rdI M 6 r 0 0)) 0 x1) fun M3 =>
    (bnd (wrI M3 23 r (nn (rdI M 6 r 0 0)) 0 x2) fun M4 =>
    (bnd (wrI M4 24 r (nn (rdI M 6 r 0 0)) 0 x3) fun M5 =>
    (bnd (wrI M5 6 r 0 0 ((rdI M5 6 r 0 0) + 1)) fun M6 =>
    (M6)))))
  else
    (M)
def s_X7_addThing (M : gM) (r : Nat) (x1 : Int32) (x2 : Int32) (x3 : Int32) : Prop :=
  if (rdI M 6 r 0 0) < 8 then
    ((vp_in (rdI M 6 r 0 0) 8) ∧
    (bndP (wrI M 22 r (nn (rdI M 6 r 0 0)) 0 x1) fun M3 =>
    (bndP (wrI M3 23 r (nn (rdI M 6 r 0 0)) 0 x2) fun M4 =>
    (bndP (wrI M4 24 r (nn (rdI M 6 r 0 0)) 0 x3) fun M5 =>
    (bndP (wrI M5 6 r 0 0 ((rdI M5 6 r 0 0) + 1)) fun M6 =>
    (True))))))
  else
    (True)
theorem o_X7_addThing (M : gM) (r : Nat) (x1 : Int32) (x2 : Int32) (x3 : Int32) : offW [6, 22, 23, 24] M (f_X7_addThing M r x1 x2 x3) := by
  rw [f_X7_addThing]
  refine offI ?_ ?_
  · refine offB (offR.wI (by decide)) (fun M3 oM3 => ?_)
    refine offB (oM3.wI (by decide)) (fun M4 oM4 => ?_)
    refine offB (oM4.wI (by decide)) (fun M5 oM5 => ?_)
    refine offB (oM5.wI (by decide)) (fun M6 oM6 => ?_)
    exact oM6
  · exact offR
set_option maxRecDepth 100000 in
set_option maxHeartbeats 4000000 in
theorem t_X7_addThing {E : gE} {K : gM → Prop} {Q : Option Value → gM → Prop} (hK : ∀ z : gM, K z → Q none z) (M : gM) (r : Nat) (x1 : Int32) (x2 : Int32) (x3 : Int32) (hr : r < 2) (hs : s_X7_addThing M r x1 x2 x3) (hQ : K (f_X7_addThing M r x1 x2 x3)) : gG E RX7 cX7_addThing 5 none (rm 0) 0 [(0, .ref (gla E (rgC r))), (1, .int x1), (2, .int x2), (3, .int x3)] [] M Q := by
  rw [s_X7_addThing] at hs
  rw [f_X7_addThing] at hQ
  refine g_aload_n 0 dX7_addThing_0 rfl ?_
  refine g_getI (rgC r) fd_X7_63 (dF_Rg hr) rfl dX7_addThing_1 ?_
  refine g_bipush (v := 8) dX7_addThing_4 (by decide) ?_
  refine g_icmp_lt 10 dX7_addThing_6 (by decide) (fun c1 => ?_) (fun c1 => ?_)
  · have hs := ifSt hs c1; have hQ := ifQt hQ c1
    refine g_aload_n 0 dX7_addThing_10 rfl ?_
    refine g_getR (rgC r) (rgC r + 3) fd_X7_25 (dF_Rg hr) rfl rfl dX7_addThing_11 ?_
    refine g_aload_n 0 dX7_addThing_14 rfl ?_
    refine g_getI (rgC r) fd_X7_63 (dF_Rg hr) rfl dX7_addThing_15 ?_
    have h2 := hs.1; have hs := hs.2
    refine g_aald (rgC r + 3) (thC r (nn (rdI M 6 r 0 0))) rfl (dF_Rg_things hr) h2 (aj_Th _ _) dX7_addThing_18 ?_
    refine g_astore _ dX7_addThing_19 (by decide) rfl ?_
    refine g_aload 0 dX7_addThing_21 rfl ?_
    refine g_iload_n 2 dX7_addThing_23 rfl ?_
    refine g_putI (thC r (nn (rdI M 6 r 0 0))) fd_X7_81 (dF_Th hr (vpL h2)) rfl dX7_addThing_24 (fun M3 hM3 => ?_)
    have hQ := bndQ hQ M3 hM3; have hs := bndS hs M3 hM3
    refine g_aload 0 dX7_addThing_27 rfl ?_
    refine g_iload_n 3 dX7_addThing_29 rfl ?_
    refine g_putI (thC r (nn (rdI M 6 r 0 0))) fd_X7_84 (dF_Th hr (vpL h2)) rfl dX7_addThing_30 (fun M4 hM4 => ?_)
    have hQ := bndQ hQ M4 hM4; have hs := bndS hs M4 hM4
    refine g_aload 0 dX7_addThing_33 rfl ?_
    refine g_iload_n 4 dX7_addThing_35 rfl ?_
    refine g_putI (thC r (nn (rdI M 6 r 0 0))) fd_X7_87 (dF_Th hr (vpL h2)) rfl dX7_addThing_36 (fun M5 hM5 => ?_)
    have hQ := bndQ hQ M5 hM5; have hs := bndS hs M5 hM5
    refine g_aload_n 1 dX7_addThing_39 rfl ?_
    refine g_dup dX7_addThing_40 rfl ?_
    refine g_getI (rgC r) fd_X7_63 (dF_Rg hr) rfl dX7_addThing_41 ?_
    refine g_iconst (v := 1) dX7_addThing_44 (by decide) ?_
    refine g_iadd dX7_addThing_45 ?_
    refine g_putI (rgC r) fd_X7_63 (dF_Rg hr) rfl dX7_addThing_46 (fun M6 hM6 => ?_)
    have hQ := bndQ hQ M6 hM6; have hs := bndS hs M6 hM6
    exact g_vret rfl dX7_addThing_49 (hK _ hQ)
  · have hs := ifSf hs c1; have hQ := ifQf hQ c1
    exact g_vret rfl dX7_addThing_9 (hK _ hQ)
theorem c_X7_addThing (E : gE) (M : gM) (r : Nat) (hr : r < 2) (x1 : Int32) (x2 : Int32) (x3 : Int32) (hs : s_X7_addThing M r x1 x2 x3) : gC E yX7_addThing cX7_addThing 5 none (rm 0) [.ref (gla E (rgC r)), .int x1, .int x2, .int x3] M (fun o N => o = none ∧ N = f_X7_addThing M r x1 x2 x3) :=
  gC.of (by decide +kernel) (Nat.le_of_ble_eq_true rfl) rfl (t_X7_addThing (K := fun z => z = f_X7_addThing M r x1 x2 x3) (fun z hz => ⟨rfl, hz⟩) M r x1 x2 x3 hr hs rfl)
def f_X7_addWedding (M : gM) (r : Nat) (x1 : Int32) (x2 : Int32) (x3 : Int32) : gM :=
  if (rdI M 8 r 0 0) < 6 then
    (bnd (wrI M 10 r 0 (nn (rdI M 8 r 0 0)) x1) fun M3 =>
    (bnd (wrI M3 11 r 0 (nn (rdI M3 8 r 0 0)) x2) fun M5 =>
    (bnd (wrI M5 12 r 0 (nn (rdI M5 8 r 0 0)) x3) fun M7 =>
    (bnd (wrI M7 8 r 0 0 ((rdI M7 8 r 0 0) + 1)) fun M8 =>
    (M8)))))
  else
    (M)
def s_X7_addWedding (M : gM) (r : Nat) (x1 : Int32) (x2 : Int32) (x3 : Int32) : Prop :=
  if (rdI M 8 r 0 0) < 6 then
    ((vp_in (rdI M 8 r 0 0) 6) ∧
    (bndP (wrI M 10 r 0 (nn (rdI M 8 r 0 0)) x1) fun M3 =>
    ((vp_in (rdI M3 8 r 0 0) 6) ∧
    (bndP (wrI M3 11 r 0 (nn (rdI M3 8 r 0 0)) x2) fun M5 =>
    ((vp_in (rdI M5 8 r 0 0) 6) ∧
    (bndP (wrI M5 12 r 0 (nn (rdI M5 8 r 0 0)) x3) fun M7 =>
    (bndP (wrI M7 8 r 0 0 ((rdI M7 8 r 0 0) + 1)) fun M8 =>
    (True))))))))
  else
    (True)
theorem o_X7_addWedding (M : gM) (r : Nat) (x1 : Int32) (x2 : Int32) (x3 : Int32) : offW [8, 10, 11, 12] M (f_X7_addWedding M r x1 x2 x3) := by
  rw [f_X7_addWedding]
  refine offI ?_ ?_
  · refine offB (offR.wI (by decide)) (fun M3 oM3 => ?_)
    refine offB (oM3.wI (by decide)) (fun M5 oM5 => ?_)
    refine offB (oM5.wI (by decide)) (fun M7 oM7 => ?_)
    refine offB (oM7.wI (by decide)) (fun M8 oM8 => ?_)
    exact oM8
  · exact offR
set_option maxRecDepth 100000 in
set_option maxHeartbeats 4000000 in
theorem t_X7_addWedding {E : gE} {K : gM → Prop} {Q : Option Value → gM → Prop} (hK : ∀ z : gM, K z → Q none z) (M : gM) (r : Nat) (x1 : Int32) (x2 : Int32) (x3 : Int32) (hr : r < 2) (hs : s_X7_addWedding M r x1 x2 x3) (hQ : K (f_X7_addWedding M r x1 x2 x3)) : gG E RX7 cX7_addWedding 4 none (rm 0) 0 [(0, .ref (gla E (rgC r))), (1, .int x1), (2, .int x2), (3, .int x3)] [] M Q := by
  rw [s_X7_addWedding] at hs
  rw [f_X7_addWedding] at hQ
  refine g_aload_n 0 dX7_addWedding_0 rfl ?_
  refine g_getI (rgC r) fd_X7_69 (dF_Rg hr) rfl dX7_addWedding_1 ?_
  refine g_bipush (v := 6) dX7_addWedding_4 (by decide) ?_
  refine g_icmp_lt 10 dX7_addWedding_6 (by decide) (fun c1 => ?_) (fun c1 => ?_)
  · have hs := ifSt hs c1; have hQ := ifQt hQ c1
    refine g_aload_n 0 dX7_addWedding_10 rfl ?_
    refine g_getR (rgC r) (rgC r + 6) fd_X7_39 (dF_Rg hr) rfl rfl dX7_addWedding_11 ?_
    refine g_aload_n 0 dX7_addWedding_14 rfl ?_
    refine g_getI (rgC r) fd_X7_69 (dF_Rg hr) rfl dX7_addWedding_15 ?_
    refine g_iload_n 1 dX7_addWedding_18 rfl ?_
    have h2 := hs.1; have hs := hs.2
    refine g_iast (rgC r + 6) (dF_Rg_wedOne hr) h2 dX7_addWedding_19 (fun M3 hM3 => ?_)
    have hQ := bndQ hQ M3 hM3; have hs := bndS hs M3 hM3
    refine g_aload_n 0 dX7_addWedding_20 rfl ?_
    refine g_getR (rgC r) (rgC r + 7) fd_X7_42 (dF_Rg hr) rfl rfl dX7_addWedding_21 ?_
    refine g_aload_n 0 dX7_addWedding_24 rfl ?_
    refine g_getI (rgC r) fd_X7_69 (dF_Rg hr) rfl dX7_addWedding_25 ?_
    refine g_iload_n 2 dX7_addWedding_28 rfl ?_
    have h4 := hs.1; have hs := hs.2
    refine g_iast (rgC r + 7) (dF_Rg_wedOther hr) h4 dX7_addWedding_29 (fun M5 hM5 => ?_)
    have hQ := bndQ hQ M5 hM5; have hs := bndS hs M5 hM5
    refine g_aload_n 0 dX7_addWedding_30 rfl ?_
    refine g_getR (rgC r) (rgC r + 8) fd_X7_45 (dF_Rg hr) rfl rfl dX7_addWedding_31 ?_
    refine g_aload_n 0 dX7_addWedding_34 rfl ?_
    refine g_getI (rgC r) fd_X7_69 (dF_Rg hr) rfl dX7_addWedding_35 ?_
    refine g_iload_n 3 dX7_addWedding_38 rfl ?_
    have h6 := hs.1; have hs := hs.2
    refine g_iast (rgC r + 8) (dF_Rg_wedDay hr) h6 dX7_addWedding_39 (fun M7 hM7 => ?_)
    have hQ := bndQ hQ M7 hM7; have hs := bndS hs M7 hM7
    refine g_aload_n 0 dX7_addWedding_40 rfl ?_
    refine g_dup dX7_addWedding_41 rfl ?_
    refine g_getI (rgC r) fd_X7_69 (dF_Rg hr) rfl dX7_addWedding_42 ?_
    refine g_iconst (v := 1) dX7_addWedding_45 (by decide) ?_
    refine g_iadd dX7_addWedding_46 ?_
    refine g_putI (rgC r) fd_X7_69 (dF_Rg hr) rfl dX7_addWedding_47 (fun M8 hM8 => ?_)
    have hQ := bndQ hQ M8 hM8; have hs := bndS hs M8 hM8
    exact g_vret rfl dX7_addWedding_50 (hK _ hQ)
  · have hs := ifSf hs c1; have hQ := ifQf hQ c1
    exact g_vret rfl dX7_addWedding_9 (hK _ hQ)
theorem c_X7_addWedding (E : gE) (M : gM) (r : Nat) (hr : r < 2) (x1 : Int32) (x2 : Int32) (x3 : Int32) (hs : s_X7_addWedding M r x1 x2 x3) : gC E yX7_addWedding cX7_addWedding 4 none (rm 0) [.ref (gla E (rgC r)), .int x1, .int x2, .int x3] M (fun o N => o = none ∧ N = f_X7_addWedding M r x1 x2 x3) :=
  gC.of (by decide +kernel) (Nat.le_of_ble_eq_true rfl) rfl (t_X7_addWedding (K := fun z => z = f_X7_addWedding M r x1 x2 x3) (fun z hz => ⟨rfl, hz⟩) M r x1 x2 x3 hr hs rfl)
def f_X7_addFilledPaper_60 (r : Nat) (x1 : Int32)  : Nat → gM → Int32 → gM
  | 0, M, _ => M
  | n + 1, M, x2 =>
    if x2 ≤ x1 then
      (bnd (wrI M 9 r 0 (nn x1) (rdI M 7 r 0 0)) fun M9 =>
      (bnd (wrI M9 7 r 0 0 ((rdI M9 7 r 0 0) + 1)) fun M10 =>
      (M10)))
    else
      (bnd (wrI M 9 r 0 (nn x2) (rdI M 9 r 0 (nn (x2 - 1)))) fun M13 =>
      (f_X7_addFilledPaper_60 r x1 n M13 (x2 + (-1))))
def s_X7_addFilledPaper_60 (r : Nat) (x1 : Int32)  : Nat → gM → Int32 → Prop
  | 0, _, _ => False
  | n + 1, M, x2 =>
    if x2 ≤ x1 then
      ((vp_in x1 12) ∧
      (bndP (wrI M 9 r 0 (nn x1) (rdI M 7 r 0 0)) fun M9 =>
      (bndP (wrI M9 7 r 0 0 ((rdI M9 7 r 0 0) + 1)) fun M10 =>
      (True))))
    else
      ((vp_in (x2 - 1) 12) ∧
      ((vp_in x2 12) ∧
      (bndP (wrI M 9 r 0 (nn x2) (rdI M 9 r 0 (nn (x2 - 1)))) fun M13 =>
      (s_X7_addFilledPaper_60 r x1 n M13 (x2 + (-1))))))
theorem o_X7_addFilledPaper_60 (r : Nat) (x1 : Int32)  : ∀ (n : Nat) (M : gM) (x2 : Int32), offW [7, 9] M (f_X7_addFilledPaper_60 r x1  n M x2) := by
  intro n
  induction n with
  | zero => intro M x2; exact offR
  | succ n ih =>
    intro M x2
    rw [f_X7_addFilledPaper_60]
    refine offI ?_ ?_
    · refine offB (offR.wI (by decide)) (fun M9 oM9 => ?_)
      refine offB (oM9.wI (by decide)) (fun M10 oM10 => ?_)
      exact oM10
    · refine offB (offR.wI (by decide)) (fun M13 oM13 => ?_)
      exact oM13.tr (ih M13 (x2 + (-1)))
set_option maxRecDepth 100000 in
set_option maxHeartbeats 4000000 in
theorem t_X7_addFilledPaper_60 {E : gE} {K : gM → Prop} {Q : Option Value → gM → Prop} (hK : ∀ z : gM, K z → Q none z) (r : Nat) (x1 : Int32) (hr : r < 2)  : ∀ (n : Nat) (M : gM) (x2 : Int32) , s_X7_addFilledPaper_60 r x1  n M x2 → K (f_X7_addFilledPaper_60 r x1  n M x2) → gG E RX7 cX7_addFilledPaper 3 none (rm 0) 60 [(0, .ref (gla E (rgC r))), (1, .int x1), (2, .int x2)] [] M Q := by
  intro n
  induction n with
  | zero => intro M x2 hs hQ; exact (hs : False).elim
  | succ n ih =>
    intro M x2 hs hQ
    rw [s_X7_addFilledPaper_60] at hs
    rw [f_X7_addFilledPaper_60] at hQ
    refine g_iload_n 2 dX7_addFilledPaper_60 rfl ?_
    refine g_iload_n 1 dX7_addFilledPaper_61 rfl ?_
    refine g_icmp_le 85 dX7_addFilledPaper_62 (by decide) (fun c7 => ?_) (fun c7 => ?_)
    · have hs := ifSt hs c7; have hQ := ifQt hQ c7
      refine g_aload_n 0 dX7_addFilledPaper_85 rfl ?_
      refine g_getR (rgC r) (rgC r + 5) fd_X7_35 (dF_Rg hr) rfl rfl dX7_addFilledPaper_86 ?_
      refine g_iload_n 1 dX7_addFilledPaper_89 rfl ?_
      refine g_aload_n 0 dX7_addFilledPaper_90 rfl ?_
      refine g_getI (rgC r) fd_X7_66 (dF_Rg hr) rfl dX7_addFilledPaper_91 ?_
      have h8 := hs.1; have hs := hs.2
      refine g_iast (rgC r + 5) (dF_Rg_latestFirst hr) h8 dX7_addFilledPaper_94 (fun M9 hM9 => ?_)
      have hQ := bndQ hQ M9 hM9; have hs := bndS hs M9 hM9
      refine g_aload_n 0 dX7_addFilledPaper_95 rfl ?_
      refine g_dup dX7_addFilledPaper_96 rfl ?_
      refine g_getI (rgC r) fd_X7_66 (dF_Rg hr) rfl dX7_addFilledPaper_97 ?_
      refine g_iconst (v := 1) dX7_addFilledPaper_100 (by decide) ?_
      refine g_iadd dX7_addFilledPaper_101 ?_
      refine g_putI (rgC r) fd_X7_66 (dF_Rg hr) rfl dX7_addFilledPaper_102 (fun M10 hM10 => ?_)
      have hQ := bndQ hQ M10 hM10; have hs := bndS hs M10 hM10
      exact g_vret rfl dX7_addFilledPaper_105 (hK _ hQ)
    · have hs := ifSf hs c7; have hQ := ifQf hQ c7
      refine g_aload_n 0 dX7_addFilledPaper_65 rfl ?_
      refine g_getR (rgC r) (rgC r + 5) fd_X7_35 (dF_Rg hr) rfl rfl dX7_addFilledPaper_66 ?_
      refine g_iload_n 2 dX7_addFilledPaper_69 rfl ?_
      refine g_aload_n 0 dX7_addFilledPaper_70 rfl ?_
      refine g_getR (rgC r) (rgC r + 5) fd_X7_35 (dF_Rg hr) rfl rfl dX7_addFilledPaper_71 ?_
      refine g_iload_n 2 dX7_addFilledPaper_74 rfl ?_
      refine g_iconst (v := 1) dX7_addFilledPaper_75 (by decide) ?_
      refine g_isub dX7_addFilledPaper_76 ?_
      have h11 := hs.1; have hs := hs.2
      refine g_iald (rgC r + 5) (dF_Rg_latestFirst hr) h11 dX7_addFilledPaper_77 ?_
      have h12 := hs.1; have hs := hs.2
      refine g_iast (rgC r + 5) (dF_Rg_latestFirst hr) h12 dX7_addFilledPaper_78 (fun M13 hM13 => ?_)
      have hQ := bndQ hQ M13 hM13; have hs := bndS hs M13 hM13
      refine g_iinc 2 (v := x2 + (-1)) _ dX7_addFilledPaper_79 rfl rfl (by decide) rfl ?_
      refine g_goto 60 dX7_addFilledPaper_82 (by decide) ?_
      refine g_sub [1, 2, 0] _ rfl ?_
      exact ih M13 (x2 + (-1)) hs hQ
def f_X7_addFilledPaper_12 (M : gM) (r : Nat)  : Nat → Int32 → gM
  | 0, _ => M
  | n + 1, x1 =>
    if (rdI M 7 r 0 0) ≤ x1 then
      (f_X7_addFilledPaper_60 r x1 FU M (rdI M 7 r 0 0))
    else
      (if (rdI M 26 r (nn (rdI M 9 r 0 (nn x1))) 0) ≤ (rdI M 26 r (nn (rdI M 7 r 0 0)) 0) then
        (f_X7_addFilledPaper_60 r x1 FU M (rdI M 7 r 0 0))
      else
        (f_X7_addFilledPaper_12 M r n (x1 + 1)))
def s_X7_addFilledPaper_12 (M : gM) (r : Nat)  : Nat → Int32 → Prop
  | 0, _ => False
  | n + 1, x1 =>
    if (rdI M 7 r 0 0) ≤ x1 then
      (s_X7_addFilledPaper_60 r x1 FU M (rdI M 7 r 0 0))
    else
      ((vp_in x1 12) ∧
      ((vp_in (rdI M 9 r 0 (nn x1)) 12) ∧
      ((vp_in (rdI M 7 r 0 0) 12) ∧
      (if (rdI M 26 r (nn (rdI M 9 r 0 (nn x1))) 0) ≤ (rdI M 26 r (nn (rdI M 7 r 0 0)) 0) then
        (s_X7_addFilledPaper_60 r x1 FU M (rdI M 7 r 0 0))
      else
        (s_X7_addFilledPaper_12 M r n (x1 + 1))))))
theorem o_X7_addFilledPaper_12 (M : gM) (r : Nat)  : ∀ (n : Nat) (x1 : Int32), offW [7, 9] M (f_X7_addFilledPaper_12 M r  n x1) := by
  intro n
  induction n with
  | zero => intro x1; exact offR
  | succ n ih =>
    intro x1
    rw [f_X7_addFilledPaper_12]
    refine offI ?_ ?_
    · exact (o_X7_addFilledPaper_60 r x1 FU M (rdI M 7 r 0 0))
    · refine offI ?_ ?_
      · exact (o_X7_addFilledPaper_60 r x1 FU M (rdI M 7 r 0 0))
      · exact (ih (x1 + 1))
set_option maxRecDepth 100000 in
set_option maxHeartbeats 4000000 in
theorem t_X7_addFilledPaper_12 {E : gE} {K : gM → Prop} {Q : Option Value → gM → Prop} (hK : ∀ z : gM, K z → Q none z) (M : gM) (r : Nat) (hr : r < 2)  : ∀ (n : Nat) (x1 : Int32) , s_X7_addFilledPaper_12 M r  n x1 → K (f_X7_addFilledPaper_12 M r  n x1) → gG E RX7 cX7_addFilledPaper 3 none (rm 0) 12 [(0, .ref (gla E (rgC r))), (1, .int x1)] [] M Q := by
  intro n
  induction n with
  | zero => intro x1 hs hQ; exact (hs : False).elim
  | succ n ih =>
    intro x1 hs hQ
    rw [s_X7_addFilledPaper_12] at hs
    rw [f_X7_addFilledPaper_12] at hQ
    refine g_iload_n 1 dX7_addFilledPaper_12 rfl ?_
    refine g_aload_n 0 dX7_addFilledPaper_13 rfl ?_
    refine g_getI (rgC r) fd_X7_66 (dF_Rg hr) rfl dX7_addFilledPaper_14 ?_
    refine g_icmp_ge 55 dX7_addFilledPaper_17 (by decide) (fun c2 => ?_) (fun c2 => ?_)
    · have hs := ifSt hs c2; have hQ := ifQt hQ c2
      refine g_aload_n 0 dX7_addFilledPaper_55 rfl ?_
      refine g_getI (rgC r) fd_X7_66 (dF_Rg hr) rfl dX7_addFilledPaper_56 ?_
      refine g_istore_n _ dX7_addFilledPaper_59 (by decide) rfl ?_
      refine g_sub [1, 2, 0] _ rfl ?_
      exact t_X7_addFilledPaper_60 hK r x1 hr FU M (rdI M 7 r 0 0) hs hQ
    · have hs := ifSf hs c2; have hQ := ifQf hQ c2
      refine g_aload_n 0 dX7_addFilledPaper_20 rfl ?_
      refine g_getR (rgC r) (rgC r + 4) fd_X7_31 (dF_Rg hr) rfl rfl dX7_addFilledPaper_21 ?_
      refine g_aload_n 0 dX7_addFilledPaper_24 rfl ?_
      refine g_getR (rgC r) (rgC r + 5) fd_X7_35 (dF_Rg hr) rfl rfl dX7_addFilledPaper_25 ?_
      refine g_iload_n 1 dX7_addFilledPaper_28 rfl ?_
      have h3 := hs.1; have hs := hs.2
      refine g_iald (rgC r + 5) (dF_Rg_latestFirst hr) h3 dX7_addFilledPaper_29 ?_
      have h4 := hs.1; have hs := hs.2
      refine g_aald (rgC r + 4) (paC r (nn (rdI M 9 r 0 (nn x1)))) rfl (dF_Rg_papers hr) h4 (aj_Pa _ _) dX7_addFilledPaper_30 ?_
      refine g_getI (paC r (nn (rdI M 9 r 0 (nn x1)))) fd_X7_90 (dF_Pa hr (vpL h4)) rfl dX7_addFilledPaper_31 ?_
      refine g_aload_n 0 dX7_addFilledPaper_34 rfl ?_
      refine g_getR (rgC r) (rgC r + 4) fd_X7_31 (dF_Rg hr) rfl rfl dX7_addFilledPaper_35 ?_
      refine g_aload_n 0 dX7_addFilledPaper_38 rfl ?_
      refine g_getI (rgC r) fd_X7_66 (dF_Rg hr) rfl dX7_addFilledPaper_39 ?_
      have h5 := hs.1; have hs := hs.2
      refine g_aald (rgC r + 4) (paC r (nn (rdI M 7 r 0 0))) rfl (dF_Rg_papers hr) h5 (aj_Pa _ _) dX7_addFilledPaper_42 ?_
      refine g_getI (paC r (nn (rdI M 7 r 0 0))) fd_X7_90 (dF_Pa hr (vpL h5)) rfl dX7_addFilledPaper_43 ?_
      refine g_icmp_le 55 dX7_addFilledPaper_46 (by decide) (fun c6 => ?_) (fun c6 => ?_)
      · have hs := ifSt hs c6; have hQ := ifQt hQ c6
        refine g_aload_n 0 dX7_addFilledPaper_55 rfl ?_
        refine g_getI (rgC r) fd_X7_66 (dF_Rg hr) rfl dX7_addFilledPaper_56 ?_
        refine g_istore_n _ dX7_addFilledPaper_59 (by decide) rfl ?_
        refine g_sub [1, 2, 0] _ rfl ?_
        exact t_X7_addFilledPaper_60 hK r x1 hr FU M (rdI M 7 r 0 0) hs hQ
      · have hs := ifSf hs c6; have hQ := ifQf hQ c6
        refine g_iinc 1 (v := x1 + 1) _ dX7_addFilledPaper_49 rfl rfl (by decide) rfl ?_
        refine g_goto 12 dX7_addFilledPaper_52 (by decide) ?_
        refine g_sub [1, 0] _ rfl ?_
        exact ih (x1 + 1) hs hQ
def f_X7_addFilledPaper (M : gM) (r : Nat) : gM :=
  if (rdI M 7 r 0 0) < 12 then
    (f_X7_addFilledPaper_12 M r FU 0)
  else
    (M)
def s_X7_addFilledPaper (M : gM) (r : Nat) : Prop :=
  if (rdI M 7 r 0 0) < 12 then
    (s_X7_addFilledPaper_12 M r FU 0)
  else
    (True)
theorem o_X7_addFilledPaper (M : gM) (r : Nat) : offW [7, 9] M (f_X7_addFilledPaper M r) := by
  rw [f_X7_addFilledPaper]
  refine offI ?_ ?_
  · exact (o_X7_addFilledPaper_12 M r FU 0)
  · exact offR
set_option maxRecDepth 100000 in
set_option maxHeartbeats 4000000 in
theorem t_X7_addFilledPaper {E : gE} {K : gM → Prop} {Q : Option Value → gM → Prop} (hK : ∀ z : gM, K z → Q none z) (M : gM) (r : Nat) (hr : r < 2) (hs : s_X7_addFilledPaper M r) (hQ : K (f_X7_addFilledPaper M r)) : gG E RX7 cX7_addFilledPaper 3 none (rm 0) 0 [(0, .ref (gla E (rgC r)))] [] M Q := by
  rw [s_X7_addFilledPaper] at hs
  rw [f_X7_addFilledPaper] at hQ
  refine g_aload_n 0 dX7_addFilledPaper_0 rfl ?_
  refine g_getI (rgC r) fd_X7_66 (dF_Rg hr) rfl dX7_addFilledPaper_1 ?_
  refine g_bipush (v := 12) dX7_addFilledPaper_4 (by decide) ?_
  refine g_icmp_lt 10 dX7_addFilledPaper_6 (by decide) (fun c1 => ?_) (fun c1 => ?_)
  · have hs := ifSt hs c1; have hQ := ifQt hQ c1
    refine g_iconst (v := 0) dX7_addFilledPaper_10 (by decide) ?_
    refine g_istore_n _ dX7_addFilledPaper_11 (by decide) rfl ?_
    refine g_sub [1, 0] _ rfl ?_
    exact t_X7_addFilledPaper_12 hK M r hr FU 0 hs hQ
  · have hs := ifSf hs c1; have hQ := ifQf hQ c1
    exact g_vret rfl dX7_addFilledPaper_9 (hK _ hQ)
theorem c_X7_addFilledPaper (E : gE) (M : gM) (r : Nat) (hr : r < 2) (hs : s_X7_addFilledPaper M r) : gC E yX7_addFilledPaper cX7_addFilledPaper 3 none (rm 0) [.ref (gla E (rgC r))] M (fun o N => o = none ∧ N = f_X7_addFilledPaper M r) :=
  gC.of (by decide +kernel) (Nat.le_of_ble_eq_true rfl) rfl (t_X7_addFilledPaper (K := fun z => z = f_X7_addFilledPaper M r) (fun z hz => ⟨rfl, hz⟩) M r hr hs rfl)
def f_X7_childrenOf_4 (M : gM) (r : Nat) (x1 : Int32)  : Nat → Int32 → Int32 → Int32
  | 0, _, _ => 0
  | n + 1, x2, x3 =>
    if (rdI M 5 r 0 0) ≤ x3 then
      (x2)
    else
      (bnd (x2 ||| ((((rdI M 21 r (nn x3) 0) >>> (x1 &&& 31)) &&& 1) <<< (x3 &&& 31))) fun v3 =>
      (f_X7_childrenOf_4 M r x1 n v3 (x3 + 1)))
def s_X7_childrenOf_4 (M : gM) (r : Nat) (x1 : Int32)  : Nat → Int32 → Int32 → Prop
  | 0, _, _ => False
  | n + 1, x2, x3 =>
    if (rdI M 5 r 0 0) ≤ x3 then
      (True)
    else
      ((vp_in x3 10) ∧
      (bndP (x2 ||| ((((rdI M 21 r (nn x3) 0) >>> (x1 &&& 31)) &&& 1) <<< (x3 &&& 31))) fun v3 =>
      (s_X7_childrenOf_4 M r x1 n v3 (x3 + 1))))
set_option maxRecDepth 100000 in
set_option maxHeartbeats 4000000 in
theorem t_X7_childrenOf_4 {E : gE} {K : Int32 → Prop} {Q : Option Value → gM → Prop} {M : gM} (hK : ∀ z : Int32, K z → Q (some (.int z)) M) (r : Nat) (x1 : Int32) (hr : r < 2)  : ∀ (n : Nat) (x2 : Int32) (x3 : Int32) , s_X7_childrenOf_4 M r x1  n x2 x3 → K (f_X7_childrenOf_4 M r x1  n x2 x3) → gG E RX7 cX7_childrenOf 4 (some .int) (rm 0) 4 [(0, .ref (gla E (rgC r))), (1, .int x1), (2, .int x2), (3, .int x3)] [] M Q := by
  intro n
  induction n with
  | zero => intro x2 x3 hs hQ; exact (hs : False).elim
  | succ n ih =>
    intro x2 x3 hs hQ
    rw [s_X7_childrenOf_4] at hs
    rw [f_X7_childrenOf_4] at hQ
    refine g_iload_n 3 dX7_childrenOf_4 rfl ?_
    refine g_aload_n 0 dX7_childrenOf_5 rfl ?_
    refine g_getI (rgC r) fd_X7_60 (dF_Rg hr) rfl dX7_childrenOf_6 ?_
    refine g_icmp_ge 36 dX7_childrenOf_9 (by decide) (fun c1 => ?_) (fun c1 => ?_)
    · have hs := ifSt hs c1; have hQ := ifQt hQ c1
      refine g_iload_n 2 dX7_childrenOf_36 rfl ?_
      exact g_iret rfl dX7_childrenOf_37 (hK _ hQ)
    · have hs := ifSf hs c1; have hQ := ifQf hQ c1
      refine g_iload_n 2 dX7_childrenOf_12 rfl ?_
      refine g_aload_n 0 dX7_childrenOf_13 rfl ?_
      refine g_getR (rgC r) (rgC r + 2) fd_X7_19 (dF_Rg hr) rfl rfl dX7_childrenOf_14 ?_
      refine g_iload_n 3 dX7_childrenOf_17 rfl ?_
      have h2 := hs.1; have hs := hs.2
      refine g_aald (rgC r + 2) (peC r (nn x3)) rfl (dF_Rg_persons hr) h2 (aj_Pe _ _) dX7_childrenOf_18 ?_
      refine g_getI (peC r (nn x3)) fd_X7_78 (dF_Pe hr (vpL h2)) rfl dX7_childrenOf_19 ?_
      refine g_iload_n 1 dX7_childrenOf_22 rfl ?_
      refine g_ishr dX7_childrenOf_23 ?_
      refine g_iconst (v := 1) dX7_childrenOf_24 (by decide) ?_
      refine g_iand dX7_childrenOf_25 ?_
      refine g_iload_n 3 dX7_childrenOf_26 rfl ?_
      refine g_ishl dX7_childrenOf_27 ?_
      refine g_ior dX7_childrenOf_28 ?_
      refine g_topI (fun v3 hv3 => ?_)
      have hQ := bndQ hQ v3 hv3; have hs := bndS hs v3 hv3
      refine g_istore_n _ dX7_childrenOf_29 (by decide) rfl ?_
      refine g_iinc 3 (v := x3 + 1) _ dX7_childrenOf_30 rfl rfl (by decide) rfl ?_
      refine g_goto 4 dX7_childrenOf_33 (by decide) ?_
      refine g_sub [2, 3, 1, 0] _ rfl ?_
      exact ih v3 (x3 + 1) hs hQ
def f_X7_childrenOf (M : gM) (r : Nat) (x1 : Int32) : Int32 :=
  f_X7_childrenOf_4 M r x1 FU 0 0
def s_X7_childrenOf (M : gM) (r : Nat) (x1 : Int32) : Prop :=
  s_X7_childrenOf_4 M r x1 FU 0 0
set_option maxRecDepth 100000 in
set_option maxHeartbeats 4000000 in
theorem t_X7_childrenOf {E : gE} {K : Int32 → Prop} {Q : Option Value → gM → Prop} {M : gM} (hK : ∀ z : Int32, K z → Q (some (.int z)) M)  (r : Nat) (x1 : Int32) (hr : r < 2) (hs : s_X7_childrenOf M r x1) (hQ : K (f_X7_childrenOf M r x1)) : gG E RX7 cX7_childrenOf 4 (some .int) (rm 0) 0 [(0, .ref (gla E (rgC r))), (1, .int x1)] [] M Q := by
  rw [s_X7_childrenOf] at hs
  rw [f_X7_childrenOf] at hQ
  refine g_iconst (v := 0) dX7_childrenOf_0 (by decide) ?_
  refine g_istore_n _ dX7_childrenOf_1 (by decide) rfl ?_
  refine g_iconst (v := 0) dX7_childrenOf_2 (by decide) ?_
  refine g_istore_n _ dX7_childrenOf_3 (by decide) rfl ?_
  refine g_sub [2, 3, 1, 0] _ rfl ?_
  exact t_X7_childrenOf_4 hK r x1 hr FU 0 0 hs hQ
theorem c_X7_childrenOf (E : gE) (M : gM) (r : Nat) (hr : r < 2) (x1 : Int32) (hs : s_X7_childrenOf M r x1) : gC E yX7_childrenOf cX7_childrenOf 4 (some .int) (rm 0) [.ref (gla E (rgC r)), .int x1] M (fun o N => o = some (.int (f_X7_childrenOf M r x1)) ∧ N = M) :=
  gC.of (by decide +kernel) (Nat.le_of_ble_eq_true rfl) rfl (t_X7_childrenOf (K := fun z => z = f_X7_childrenOf M r x1) (fun z hz => by rw [hz]; exact ⟨rfl, rfl⟩) r x1 hr hs rfl)
def f_X7_lastWedUpTo_111 (M : gM) (r : Nat) (x1 : Int32) (x2 : Int32) (x4 : Int32) (x5 : Int32) (y0 : Int32) (k8 : Int32 → Int32 → Int32 → Int32) : Int32 :=
  k8 y0 x4 (x5 + 1)
def s_X7_lastWedUpTo_111 (M : gM) (r : Nat) (x1 : Int32) (x2 : Int32) (x4 : Int32) (x5 : Int32) (y0 : Int32) (q8 : Int32 → Int32 → Int32 → Prop) : Prop :=
  q8 y0 x4 (x5 + 1)
set_option maxRecDepth 100000 in
set_option maxHeartbeats 4000000 in
theorem t_X7_lastWedUpTo_111 {E : gE} {K : Int32 → Prop} {Q : Option Value → gM → Prop} {M : gM} (hK : ∀ z : Int32, K z → Q (some (.int z)) M) (r : Nat) (x1 : Int32) (x2 : Int32) (x4 : Int32) (x5 : Int32) (y0 : Int32) (hr : r < 2) (k8 : Int32 → Int32 → Int32 → Int32) (q8 : Int32 → Int32 → Int32 → Prop) (hk8 : ∀ (x3 : Int32) (x4 : Int32) (x5 : Int32) , q8 x3 x4 x5 → K (k8 x3 x4 x5) → gG E RX7 cX7_lastWedUpTo 7 (some .int) (rm 0) 8 [(0, .ref (gla E (rgC r))), (1, .int x1), (2, .int x2), (3, .int x3), (4, .int x4), (5, .int x5)] [] M Q) (hs : s_X7_lastWedUpTo_111 M r x1 x2 x4 x5 y0 q8) (hQ : K (f_X7_lastWedUpTo_111 M r x1 x2 x4 x5 y0 k8)) : gG E RX7 cX7_lastWedUpTo 7 (some .int) (rm 0) 111 [(0, .ref (gla E (rgC r))), (1, .int x1), (2, .int x2), (4, .int x4), (5, .int x5)] [.int y0] M Q := by
  rw [s_X7_lastWedUpTo_111] at hs
  rw [f_X7_lastWedUpTo_111] at hQ
  refine g_istore_n _ dX7_lastWedUpTo_111 (by decide) rfl ?_
  refine g_iinc 5 (v := x5 + 1) _ dX7_lastWedUpTo_112 rfl rfl (by decide) rfl ?_
  refine g_goto 8 dX7_lastWedUpTo_115 (by decide) ?_
  refine g_sub [2, 3, 4, 1, 5, 0] _ rfl ?_
  exact hk8 y0 x4 (x5 + 1) hs hQ
def f_X7_lastWedUpTo_44 (M : gM) (r : Nat) (x1 : Int32) (x2 : Int32) (x3 : Int32) (x4 : Int32) (x5 : Int32) (y0 : Int32) (k8 : Int32 → Int32 → Int32 → Int32) : Int32 :=
  if y0 = 0 then
    (k8 x3 x4 (x5 + 1))
  else
    (if x2 < (rdI M 12 r 0 (nn x5)) then
      (k8 x3 x4 (x5 + 1))
    else
      (if (rdI M 12 r 0 (nn x5)) < x4 then
        (k8 x3 x4 (x5 + 1))
      else
        (if (rdI M 10 r 0 (nn x5)) = x1 then
          (f_X7_lastWedUpTo_111 M r x1 x2 (rdI M 12 r 0 (nn x5)) x5 (rdI M 11 r 0 (nn x5)) k8)
        else
          (f_X7_lastWedUpTo_111 M r x1 x2 (rdI M 12 r 0 (nn x5)) x5 (rdI M 10 r 0 (nn x5)) k8))))
def s_X7_lastWedUpTo_44 (M : gM) (r : Nat) (x1 : Int32) (x2 : Int32) (x3 : Int32) (x4 : Int32) (x5 : Int32) (y0 : Int32) (q8 : Int32 → Int32 → Int32 → Prop) : Prop :=
  if y0 = 0 then
    (q8 x3 x4 (x5 + 1))
  else
    ((vp_in x5 6) ∧
    (if x2 < (rdI M 12 r 0 (nn x5)) then
      (q8 x3 x4 (x5 + 1))
    else
      ((vp_in x5 6) ∧
      (if (rdI M 12 r 0 (nn x5)) < x4 then
        (q8 x3 x4 (x5 + 1))
      else
        ((vp_in x5 6) ∧
        ((vp_in x5 6) ∧
        (if (rdI M 10 r 0 (nn x5)) = x1 then
          ((vp_in x5 6) ∧
          (s_X7_lastWedUpTo_111 M r x1 x2 (rdI M 12 r 0 (nn x5)) x5 (rdI M 11 r 0 (nn x5)) q8))
        else
          ((vp_in x5 6) ∧
          (s_X7_lastWedUpTo_111 M r x1 x2 (rdI M 12 r 0 (nn x5)) x5 (rdI M 10 r 0 (nn x5)) q8)))))))))
set_option maxRecDepth 100000 in
set_option maxHeartbeats 4000000 in
theorem t_X7_lastWedUpTo_44 {E : gE} {K : Int32 → Prop} {Q : Option Value → gM → Prop} {M : gM} (hK : ∀ z : Int32, K z → Q (some (.int z)) M) (r : Nat) (x1 : Int32) (x2 : Int32) (x3 : Int32) (x4 : Int32) (x5 : Int32) (y0 : Int32) (hr : r < 2) (k8 : Int32 → Int32 → Int32 → Int32) (q8 : Int32 → Int32 → Int32 → Prop) (hk8 : ∀ (x3 : Int32) (x4 : Int32) (x5 : Int32) , q8 x3 x4 x5 → K (k8 x3 x4 x5) → gG E RX7 cX7_lastWedUpTo 7 (some .int) (rm 0) 8 [(0, .ref (gla E (rgC r))), (1, .int x1), (2, .int x2), (3, .int x3), (4, .int x4), (5, .int x5)] [] M Q) (hs : s_X7_lastWedUpTo_44 M r x1 x2 x3 x4 x5 y0 q8) (hQ : K (f_X7_lastWedUpTo_44 M r x1 x2 x3 x4 x5 y0 k8)) : gG E RX7 cX7_lastWedUpTo 7 (some .int) (rm 0) 44 [(0, .ref (gla E (rgC r))), (1, .int x1), (2, .int x2), (3, .int x3), (4, .int x4), (5, .int x5)] [.int y0] M Q := by
  rw [s_X7_lastWedUpTo_44] at hs
  rw [f_X7_lastWedUpTo_44] at hQ
  refine g_istore _ dX7_lastWedUpTo_44 (by decide) rfl ?_
  refine g_iload 0 dX7_lastWedUpTo_46 rfl ?_
  refine g_if_eq 112 dX7_lastWedUpTo_48 (by decide) (fun c6 => ?_) (fun c6 => ?_)
  · have hs := ifSt hs c6; have hQ := ifQt hQ c6
    refine g_iinc 6 (v := x5 + 1) _ dX7_lastWedUpTo_112 rfl rfl (by decide) rfl ?_
    refine g_goto 8 dX7_lastWedUpTo_115 (by decide) ?_
    refine g_sub [2, 3, 4, 5, 6, 0] _ rfl ?_
    exact hk8 x3 x4 (x5 + 1) hs hQ
  · have hs := ifSf hs c6; have hQ := ifQf hQ c6
    refine g_aload_n 1 dX7_lastWedUpTo_51 rfl ?_
    refine g_getR (rgC r) (rgC r + 8) fd_X7_45 (dF_Rg hr) rfl rfl dX7_lastWedUpTo_52 ?_
    refine g_iload 6 dX7_lastWedUpTo_55 rfl ?_
    have h7 := hs.1; have hs := hs.2
    refine g_iald (rgC r + 8) (dF_Rg_wedDay hr) h7 dX7_lastWedUpTo_57 ?_
    refine g_iload_n 3 dX7_lastWedUpTo_58 rfl ?_
    refine g_icmp_gt 112 dX7_lastWedUpTo_59 (by decide) (fun c8 => ?_) (fun c8 => ?_)
    · have hs := ifSt hs c8; have hQ := ifQt hQ c8
      refine g_iinc 6 (v := x5 + 1) _ dX7_lastWedUpTo_112 rfl rfl (by decide) rfl ?_
      refine g_goto 8 dX7_lastWedUpTo_115 (by decide) ?_
      refine g_sub [2, 3, 4, 5, 6, 0] _ rfl ?_
      exact hk8 x3 x4 (x5 + 1) hs hQ
    · have hs := ifSf hs c8; have hQ := ifQf hQ c8
      refine g_aload_n 1 dX7_lastWedUpTo_62 rfl ?_
      refine g_getR (rgC r) (rgC r + 8) fd_X7_45 (dF_Rg hr) rfl rfl dX7_lastWedUpTo_63 ?_
      refine g_iload 6 dX7_lastWedUpTo_66 rfl ?_
      have h9 := hs.1; have hs := hs.2
      refine g_iald (rgC r + 8) (dF_Rg_wedDay hr) h9 dX7_lastWedUpTo_68 ?_
      refine g_iload 5 dX7_lastWedUpTo_69 rfl ?_
      refine g_icmp_lt 112 dX7_lastWedUpTo_71 (by decide) (fun c10 => ?_) (fun c10 => ?_)
      · have hs := ifSt hs c10; have hQ := ifQt hQ c10
        refine g_iinc 6 (v := x5 + 1) _ dX7_lastWedUpTo_112 rfl rfl (by decide) rfl ?_
        refine g_goto 8 dX7_lastWedUpTo_115 (by decide) ?_
        refine g_sub [2, 3, 4, 5, 6, 0] _ rfl ?_
        exact hk8 x3 x4 (x5 + 1) hs hQ
      · have hs := ifSf hs c10; have hQ := ifQf hQ c10
        refine g_aload_n 1 dX7_lastWedUpTo_74 rfl ?_
        refine g_getR (rgC r) (rgC r + 8) fd_X7_45 (dF_Rg hr) rfl rfl dX7_lastWedUpTo_75 ?_
        refine g_iload 6 dX7_lastWedUpTo_78 rfl ?_
        have h11 := hs.1; have hs := hs.2
        refine g_iald (rgC r + 8) (dF_Rg_wedDay hr) h11 dX7_lastWedUpTo_80 ?_
        refine g_istore _ dX7_lastWedUpTo_81 (by decide) rfl ?_
        refine g_aload_n 2 dX7_lastWedUpTo_83 rfl ?_
        refine g_getR (rgC r) (rgC r + 6) fd_X7_39 (dF_Rg hr) rfl rfl dX7_lastWedUpTo_84 ?_
        refine g_iload 6 dX7_lastWedUpTo_87 rfl ?_
        have h12 := hs.1; have hs := hs.2
        refine g_iald (rgC r + 6) (dF_Rg_wedOne hr) h12 dX7_lastWedUpTo_89 ?_
        refine g_iload_n 3 dX7_lastWedUpTo_90 rfl ?_
        refine g_icmp_ne 104 dX7_lastWedUpTo_91 (by decide) (fun c13 => ?_) (fun c13 => ?_)
        · have hs := ifSf hs c13; have hQ := ifQf hQ c13
          refine g_aload_n 2 dX7_lastWedUpTo_104 rfl ?_
          refine g_getR (rgC r) (rgC r + 6) fd_X7_39 (dF_Rg hr) rfl rfl dX7_lastWedUpTo_105 ?_
          refine g_iload 6 dX7_lastWedUpTo_108 rfl ?_
          have h14 := hs.1; have hs := hs.2
          refine g_iald (rgC r + 6) (dF_Rg_wedOne hr) h14 dX7_lastWedUpTo_110 ?_
          refine g_sub [2, 3, 4, 0, 6] _ rfl ?_
          exact t_X7_lastWedUpTo_111 hK r x1 x2 (rdI M 12 r 0 (nn x5)) x5 (rdI M 10 r 0 (nn x5)) hr k8 q8 hk8 hs hQ
        · have hs := ifSt hs c13; have hQ := ifQt hQ c13
          refine g_aload_n 2 dX7_lastWedUpTo_94 rfl ?_
          refine g_getR (rgC r) (rgC r + 7) fd_X7_42 (dF_Rg hr) rfl rfl dX7_lastWedUpTo_95 ?_
          refine g_iload 6 dX7_lastWedUpTo_98 rfl ?_
          have h15 := hs.1; have hs := hs.2
          refine g_iald (rgC r + 7) (dF_Rg_wedOther hr) h15 dX7_lastWedUpTo_100 ?_
          refine g_goto 111 dX7_lastWedUpTo_101 (by decide) ?_
          refine g_sub [2, 3, 4, 0, 6] _ rfl ?_
          exact t_X7_lastWedUpTo_111 hK r x1 x2 (rdI M 12 r 0 (nn x5)) x5 (rdI M 11 r 0 (nn x5)) hr k8 q8 hk8 hs hQ
def f_X7_lastWedUpTo_39 (M : gM) (r : Nat) (x1 : Int32) (x2 : Int32) (x3 : Int32) (x4 : Int32) (x5 : Int32) (k8 : Int32 → Int32 → Int32 → Int32) : Int32 :=
  f_X7_lastWedUpTo_44 M r x1 x2 x3 x4 x5 1 k8
def s_X7_lastWedUpTo_39 (M : gM) (r : Nat) (x1 : Int32) (x2 : Int32) (x3 : Int32) (x4 : Int32) (x5 : Int32) (q8 : Int32 → Int32 → Int32 → Prop) : Prop :=
  s_X7_lastWedUpTo_44 M r x1 x2 x3 x4 x5 1 q8
set_option maxRecDepth 100000 in
set_option maxHeartbeats 4000000 in
theorem t_X7_lastWedUpTo_39 {E : gE} {K : Int32 → Prop} {Q : Option Value → gM → Prop} {M : gM} (hK : ∀ z : Int32, K z → Q (some (.int z)) M) (r : Nat) (x1 : Int32) (x2 : Int32) (x3 : Int32) (x4 : Int32) (x5 : Int32) (hr : r < 2) (k8 : Int32 → Int32 → Int32 → Int32) (q8 : Int32 → Int32 → Int32 → Prop) (hk8 : ∀ (x3 : Int32) (x4 : Int32) (x5 : Int32) , q8 x3 x4 x5 → K (k8 x3 x4 x5) → gG E RX7 cX7_lastWedUpTo 7 (some .int) (rm 0) 8 [(0, .ref (gla E (rgC r))), (1, .int x1), (2, .int x2), (3, .int x3), (4, .int x4), (5, .int x5)] [] M Q) (hs : s_X7_lastWedUpTo_39 M r x1 x2 x3 x4 x5 q8) (hQ : K (f_X7_lastWedUpTo_39 M r x1 x2 x3 x4 x5 k8)) : gG E RX7 cX7_lastWedUpTo 7 (some .int) (rm 0) 39 [(0, .ref (gla E (rgC r))), (1, .int x1), (2, .int x2), (3, .int x3), (4, .int x4), (5, .int x5)] [] M Q := by
  rw [s_X7_lastWedUpTo_39] at hs
  rw [f_X7_lastWedUpTo_39] at hQ
  refine g_iconst (v := 1) dX7_lastWedUpTo_39 (by decide) ?_
  refine g_goto 44 dX7_lastWedUpTo_40 (by decide) ?_
  exact t_X7_lastWedUpTo_44 hK r x1 x2 x3 x4 x5 1 hr k8 q8 hk8 hs hQ
def f_X7_lastWedUpTo_8 (M : gM) (r : Nat) (x1 : Int32) (x2 : Int32)  : Nat → Int32 → Int32 → Int32 → Int32
  | 0, _, _, _ => 0
  | n + 1, x3, x4, x5 =>
    if (rdI M 8 r 0 0) ≤ x5 then
      (x3)
    else
      (if (rdI M 10 r 0 (nn x5)) = x1 then
        (f_X7_lastWedUpTo_39 M r x1 x2 x3 x4 x5 (f_X7_lastWedUpTo_8 M r x1 x2 n))
      else
        (if (rdI M 11 r 0 (nn x5)) = x1 then
          (f_X7_lastWedUpTo_39 M r x1 x2 x3 x4 x5 (f_X7_lastWedUpTo_8 M r x1 x2 n))
        else
          (f_X7_lastWedUpTo_44 M r x1 x2 x3 x4 x5 0 (f_X7_lastWedUpTo_8 M r x1 x2 n))))
def s_X7_lastWedUpTo_8 (M : gM) (r : Nat) (x1 : Int32) (x2 : Int32)  : Nat → Int32 → Int32 → Int32 → Prop
  | 0, _, _, _ => False
  | n + 1, x3, x4, x5 =>
    if (rdI M 8 r 0 0) ≤ x5 then
      (True)
    else
      ((vp_in x5 6) ∧
      (if (rdI M 10 r 0 (nn x5)) = x1 then
        (s_X7_lastWedUpTo_39 M r x1 x2 x3 x4 x5 (s_X7_lastWedUpTo_8 M r x1 x2 n))
      else
        ((vp_in x5 6) ∧
        (if (rdI M 11 r 0 (nn x5)) = x1 then
          (s_X7_lastWedUpTo_39 M r x1 x2 x3 x4 x5 (s_X7_lastWedUpTo_8 M r x1 x2 n))
        else
          (s_X7_lastWedUpTo_44 M r x1 x2 x3 x4 x5 0 (s_X7_lastWedUpTo_8 M r x1 x2 n))))))
set_option maxRecDepth 100000 in
set_option maxHeartbeats 4000000 in
theorem t_X7_lastWedUpTo_8 {E : gE} {K : Int32 → Prop} {Q : Option Value → gM → Prop} {M : gM} (hK : ∀ z : Int32, K z → Q (some (.int z)) M) (r : Nat) (x1 : Int32) (x2 : Int32) (hr : r < 2)  : ∀ (n : Nat) (x3 : Int32) (x4 : Int32) (x5 : Int32) , s_X7_lastWedUpTo_8 M r x1 x2  n x3 x4 x5 → K (f_X7_lastWedUpTo_8 M r x1 x2  n x3 x4 x5) → gG E RX7 cX7_lastWedUpTo 7 (some .int) (rm 0) 8 [(0, .ref (gla E (rgC r))), (1, .int x1), (2, .int x2), (3, .int x3), (4, .int x4), (5, .int x5)] [] M Q := by
  intro n
  induction n with
  | zero => intro x3 x4 x5 hs hQ; exact (hs : False).elim
  | succ n ih =>
    intro x3 x4 x5 hs hQ
    rw [s_X7_lastWedUpTo_8] at hs
    rw [f_X7_lastWedUpTo_8] at hQ
    refine g_iload 5 dX7_lastWedUpTo_8 rfl ?_
    refine g_aload_n 0 dX7_lastWedUpTo_10 rfl ?_
    refine g_getI (rgC r) fd_X7_69 (dF_Rg hr) rfl dX7_lastWedUpTo_11 ?_
    refine g_icmp_ge 118 dX7_lastWedUpTo_14 (by decide) (fun c1 => ?_) (fun c1 => ?_)
    · have hs := ifSt hs c1; have hQ := ifQt hQ c1
      refine g_iload_n 3 dX7_lastWedUpTo_118 rfl ?_
      exact g_iret rfl dX7_lastWedUpTo_119 (hK _ hQ)
    · have hs := ifSf hs c1; have hQ := ifQf hQ c1
      refine g_aload_n 0 dX7_lastWedUpTo_17 rfl ?_
      refine g_getR (rgC r) (rgC r + 6) fd_X7_39 (dF_Rg hr) rfl rfl dX7_lastWedUpTo_18 ?_
      refine g_iload 5 dX7_lastWedUpTo_21 rfl ?_
      have h2 := hs.1; have hs := hs.2
      refine g_iald (rgC r + 6) (dF_Rg_wedOne hr) h2 dX7_lastWedUpTo_23 ?_
      refine g_iload_n 1 dX7_lastWedUpTo_24 rfl ?_
      refine g_icmp_eq 39 dX7_lastWedUpTo_25 (by decide) (fun c3 => ?_) (fun c3 => ?_)
      · have hs := ifSt hs c3; have hQ := ifQt hQ c3
        exact t_X7_lastWedUpTo_39 hK r x1 x2 x3 x4 x5 hr (f_X7_lastWedUpTo_8 M r x1 x2 n) (s_X7_lastWedUpTo_8 M r x1 x2 n) ih hs hQ
      · have hs := ifSf hs c3; have hQ := ifQf hQ c3
        refine g_aload_n 0 dX7_lastWedUpTo_28 rfl ?_
        refine g_getR (rgC r) (rgC r + 7) fd_X7_42 (dF_Rg hr) rfl rfl dX7_lastWedUpTo_29 ?_
        refine g_iload 5 dX7_lastWedUpTo_32 rfl ?_
        have h4 := hs.1; have hs := hs.2
        refine g_iald (rgC r + 7) (dF_Rg_wedOther hr) h4 dX7_lastWedUpTo_34 ?_
        refine g_iload_n 1 dX7_lastWedUpTo_35 rfl ?_
        refine g_icmp_ne 43 dX7_lastWedUpTo_36 (by decide) (fun c5 => ?_) (fun c5 => ?_)
        · have hs := ifSf hs c5; have hQ := ifQf hQ c5
          refine g_iconst (v := 0) dX7_lastWedUpTo_43 (by decide) ?_
          exact t_X7_lastWedUpTo_44 hK r x1 x2 x3 x4 x5 0 hr (f_X7_lastWedUpTo_8 M r x1 x2 n) (s_X7_lastWedUpTo_8 M r x1 x2 n) ih hs hQ
        · have hs := ifSt hs c5; have hQ := ifQt hQ c5
          exact t_X7_lastWedUpTo_39 hK r x1 x2 x3 x4 x5 hr (f_X7_lastWedUpTo_8 M r x1 x2 n) (s_X7_lastWedUpTo_8 M r x1 x2 n) ih hs hQ
def f_X7_lastWedUpTo (M : gM) (r : Nat) (x1 : Int32) (x2 : Int32) : Int32 :=
  f_X7_lastWedUpTo_8 M r x1 x2 FU (-1) (-1) 0
def s_X7_lastWedUpTo (M : gM) (r : Nat) (x1 : Int32) (x2 : Int32) : Prop :=
  s_X7_lastWedUpTo_8 M r x1 x2 FU (-1) (-1) 0
set_option maxRecDepth 100000 in
set_option maxHeartbeats 4000000 in
theorem t_X7_lastWedUpTo {E : gE} {K : Int32 → Prop} {Q : Option Value → gM → Prop} {M : gM} (hK : ∀ z : Int32, K z → Q (some (.int z)) M)  (r : Nat) (x1 : Int32) (x2 : Int32) (hr : r < 2) (hs : s_X7_lastWedUpTo M r x1 x2) (hQ : K (f_X7_lastWedUpTo M r x1 x2)) : gG E RX7 cX7_lastWedUpTo 7 (some .int) (rm 0) 0 [(0, .ref (gla E (rgC r))), (1, .int x1), (2, .int x2)] [] M Q := by
  rw [s_X7_lastWedUpTo] at hs
  rw [f_X7_lastWedUpTo] at hQ
  refine g_iconst (v := (-1)) dX7_lastWedUpTo_0 (by decide) ?_
  refine g_istore_n _ dX7_lastWedUpTo_1 (by decide) rfl ?_
  refine g_iconst (v := (-1)) dX7_lastWedUpTo_2 (by decide) ?_
  refine g_istore _ dX7_lastWedUpTo_3 (by decide) rfl ?_
  refine g_iconst (v := 0) dX7_lastWedUpTo_5 (by decide) ?_
  refine g_istore _ dX7_lastWedUpTo_6 (by decide) rfl ?_
  refine g_sub [3, 4, 5, 2, 1, 0] _ rfl ?_
  exact t_X7_lastWedUpTo_8 hK r x1 x2 hr FU (-1) (-1) 0 hs hQ
theorem c_X7_lastWedUpTo (E : gE) (M : gM) (r : Nat) (hr : r < 2) (x1 : Int32) (x2 : Int32) (hs : s_X7_lastWedUpTo M r x1 x2) : gC E yX7_lastWedUpTo cX7_lastWedUpTo 7 (some .int) (rm 0) [.ref (gla E (rgC r)), .int x1, .int x2] M (fun o N => o = some (.int (f_X7_lastWedUpTo M r x1 x2)) ∧ N = M) :=
  gC.of (by decide +kernel) (Nat.le_of_ble_eq_true rfl) rfl (t_X7_lastWedUpTo (K := fun z => z = f_X7_lastWedUpTo M r x1 x2) (fun z hz => by rw [hz]; exact ⟨rfl, rfl⟩) r x1 x2 hr hs rfl)
def f_X7_wasWedBetween_39 (M : gM) (r : Nat) (x1 : Int32) (x2 : Int32) (x3 : Int32) (x4 : Int32) (y0 : Int32) (k3 : Int32 → Int32) : Int32 :=
  if y0 = 0 then
    (k3 (x4 + 1))
  else
    (if (rdI M 12 r 0 (nn x4)) ≤ x2 then
      (k3 (x4 + 1))
    else
      (if x3 ≤ (rdI M 12 r 0 (nn x4)) then
        (k3 (x4 + 1))
      else
        (1)))
def s_X7_wasWedBetween_39 (M : gM) (r : Nat) (x1 : Int32) (x2 : Int32) (x3 : Int32) (x4 : Int32) (y0 : Int32) (q3 : Int32 → Prop) : Prop :=
  if y0 = 0 then
    (q3 (x4 + 1))
  else
    ((vp_in x4 6) ∧
    (if (rdI M 12 r 0 (nn x4)) ≤ x2 then
      (q3 (x4 + 1))
    else
      ((vp_in x4 6) ∧
      (if x3 ≤ (rdI M 12 r 0 (nn x4)) then
        (q3 (x4 + 1))
      else
        (True)))))
set_option maxRecDepth 100000 in
set_option maxHeartbeats 4000000 in
theorem t_X7_wasWedBetween_39 {E : gE} {K : Int32 → Prop} {Q : Option Value → gM → Prop} {M : gM} (hK : ∀ z : Int32, K z → Q (some (.int z)) M) (r : Nat) (x1 : Int32) (x2 : Int32) (x3 : Int32) (x4 : Int32) (y0 : Int32) (hr : r < 2) (k3 : Int32 → Int32) (q3 : Int32 → Prop) (hk3 : ∀ (x4 : Int32) , q3 x4 → K (k3 x4) → gG E RX7 cX7_wasWedBetween 6 (some .boolean) (rm 0) 3 [(0, .ref (gla E (rgC r))), (1, .int x1), (2, .int x2), (3, .int x3), (4, .int x4)] [] M Q) (hs : s_X7_wasWedBetween_39 M r x1 x2 x3 x4 y0 q3) (hQ : K (f_X7_wasWedBetween_39 M r x1 x2 x3 x4 y0 k3)) : gG E RX7 cX7_wasWedBetween 6 (some .boolean) (rm 0) 39 [(0, .ref (gla E (rgC r))), (1, .int x1), (2, .int x2), (3, .int x3), (4, .int x4)] [.int y0] M Q := by
  rw [s_X7_wasWedBetween_39] at hs
  rw [f_X7_wasWedBetween_39] at hQ
  refine g_istore _ dX7_wasWedBetween_39 (by decide) rfl ?_
  refine g_iload 0 dX7_wasWedBetween_41 rfl ?_
  refine g_if_eq 70 dX7_wasWedBetween_43 (by decide) (fun c6 => ?_) (fun c6 => ?_)
  · have hs := ifSt hs c6; have hQ := ifQt hQ c6
    refine g_iinc 5 (v := x4 + 1) _ dX7_wasWedBetween_70 rfl rfl (by decide) rfl ?_
    refine g_goto 3 dX7_wasWedBetween_73 (by decide) ?_
    refine g_sub [2, 3, 4, 5, 0] _ rfl ?_
    exact hk3 (x4 + 1) hs hQ
  · have hs := ifSf hs c6; have hQ := ifQf hQ c6
    refine g_aload_n 1 dX7_wasWedBetween_46 rfl ?_
    refine g_getR (rgC r) (rgC r + 8) fd_X7_45 (dF_Rg hr) rfl rfl dX7_wasWedBetween_47 ?_
    refine g_iload 5 dX7_wasWedBetween_50 rfl ?_
    have h7 := hs.1; have hs := hs.2
    refine g_iald (rgC r + 8) (dF_Rg_wedDay hr) h7 dX7_wasWedBetween_52 ?_
    refine g_iload_n 3 dX7_wasWedBetween_53 rfl ?_
    refine g_icmp_le 70 dX7_wasWedBetween_54 (by decide) (fun c8 => ?_) (fun c8 => ?_)
    · have hs := ifSt hs c8; have hQ := ifQt hQ c8
      refine g_iinc 5 (v := x4 + 1) _ dX7_wasWedBetween_70 rfl rfl (by decide) rfl ?_
      refine g_goto 3 dX7_wasWedBetween_73 (by decide) ?_
      refine g_sub [2, 3, 4, 5, 0] _ rfl ?_
      exact hk3 (x4 + 1) hs hQ
    · have hs := ifSf hs c8; have hQ := ifQf hQ c8
      refine g_aload_n 1 dX7_wasWedBetween_57 rfl ?_
      refine g_getR (rgC r) (rgC r + 8) fd_X7_45 (dF_Rg hr) rfl rfl dX7_wasWedBetween_58 ?_
      refine g_iload 5 dX7_wasWedBetween_61 rfl ?_
      have h9 := hs.1; have hs := hs.2
      refine g_iald (rgC r + 8) (dF_Rg_wedDay hr) h9 dX7_wasWedBetween_63 ?_
      refine g_iload_n 4 dX7_wasWedBetween_64 rfl ?_
      refine g_icmp_ge 70 dX7_wasWedBetween_65 (by decide) (fun c10 => ?_) (fun c10 => ?_)
      · have hs := ifSt hs c10; have hQ := ifQt hQ c10
        refine g_iinc 5 (v := x4 + 1) _ dX7_wasWedBetween_70 rfl rfl (by decide) rfl ?_
        refine g_goto 3 dX7_wasWedBetween_73 (by decide) ?_
        refine g_sub [2, 3, 4, 5, 0] _ rfl ?_
        exact hk3 (x4 + 1) hs hQ
      · have hs := ifSf hs c10; have hQ := ifQf hQ c10
        refine g_iconst (v := 1) dX7_wasWedBetween_68 (by decide) ?_
        exact g_zret rfl (Or.inr rfl) dX7_wasWedBetween_69 (hK _ hQ)
def f_X7_wasWedBetween_34 (M : gM) (r : Nat) (x1 : Int32) (x2 : Int32) (x3 : Int32) (x4 : Int32) (k3 : Int32 → Int32) : Int32 :=
  f_X7_wasWedBetween_39 M r x1 x2 x3 x4 1 k3
def s_X7_wasWedBetween_34 (M : gM) (r : Nat) (x1 : Int32) (x2 : Int32) (x3 : Int32) (x4 : Int32) (q3 : Int32 → Prop) : Prop :=
  s_X7_wasWedBetween_39 M r x1 x2 x3 x4 1 q3
set_option maxRecDepth 100000 in
set_option maxHeartbeats 4000000 in
theorem t_X7_wasWedBetween_34 {E : gE} {K : Int32 → Prop} {Q : Option Value → gM → Prop} {M : gM} (hK : ∀ z : Int32, K z → Q (some (.int z)) M) (r : Nat) (x1 : Int32) (x2 : Int32) (x3 : Int32) (x4 : Int32) (hr : r < 2) (k3 : Int32 → Int32) (q3 : Int32 → Prop) (hk3 : ∀ (x4 : Int32) , q3 x4 → K (k3 x4) → gG E RX7 cX7_wasWedBetween 6 (some .boolean) (rm 0) 3 [(0, .ref (gla E (rgC r))), (1, .int x1), (2, .int x2), (3, .int x3), (4, .int x4)] [] M Q) (hs : s_X7_wasWedBetween_34 M r x1 x2 x3 x4 q3) (hQ : K (f_X7_wasWedBetween_34 M r x1 x2 x3 x4 k3)) : gG E RX7 cX7_wasWedBetween 6 (some .boolean) (rm 0) 34 [(0, .ref (gla E (rgC r))), (1, .int x1), (2, .int x2), (3, .int x3), (4, .int x4)] [] M Q := by
  rw [s_X7_wasWedBetween_34] at hs
  rw [f_X7_wasWedBetween_34] at hQ
  refine g_iconst (v := 1) dX7_wasWedBetween_34 (by decide) ?_
  refine g_goto 39 dX7_wasWedBetween_35 (by decide) ?_
  exact t_X7_wasWedBetween_39 hK r x1 x2 x3 x4 1 hr k3 q3 hk3 hs hQ
def f_X7_wasWedBetween_3 (M : gM) (r : Nat) (x1 : Int32) (x2 : Int32) (x3 : Int32)  : Nat → Int32 → Int32
  | 0, _ => 0
  | n + 1, x4 =>
    if (rdI M 8 r 0 0) ≤ x4 then
      (0)
    else
      (if (rdI M 10 r 0 (nn x4)) = x1 then
        (f_X7_wasWedBetween_34 M r x1 x2 x3 x4 (f_X7_wasWedBetween_3 M r x1 x2 x3 n))
      else
        (if (rdI M 11 r 0 (nn x4)) = x1 then
          (f_X7_wasWedBetween_34 M r x1 x2 x3 x4 (f_X7_wasWedBetween_3 M r x1 x2 x3 n))
        else
          (f_X7_wasWedBetween_39 M r x1 x2 x3 x4 0 (f_X7_wasWedBetween_3 M r x1 x2 x3 n))))
def s_X7_wasWedBetween_3 (M : gM) (r : Nat) (x1 : Int32) (x2 : Int32) (x3 : Int32)  : Nat → Int32 → Prop
  | 0, _ => False
  | n + 1, x4 =>
    if (rdI M 8 r 0 0) ≤ x4 then
      (True)
    else
      ((vp_in x4 6) ∧
      (if (rdI M 10 r 0 (nn x4)) = x1 then
        (s_X7_wasWedBetween_34 M r x1 x2 x3 x4 (s_X7_wasWedBetween_3 M r x1 x2 x3 n))
      else
        ((vp_in x4 6) ∧
        (if (rdI M 11 r 0 (nn x4)) = x1 then
          (s_X7_wasWedBetween_34 M r x1 x2 x3 x4 (s_X7_wasWedBetween_3 M r x1 x2 x3 n))
        else
          (s_X7_wasWedBetween_39 M r x1 x2 x3 x4 0 (s_X7_wasWedBetween_3 M r x1 x2 x3 n))))))
set_option maxRecDepth 100000 in
set_option maxHeartbeats 4000000 in
theorem t_X7_wasWedBetween_3 {E : gE} {K : Int32 → Prop} {Q : Option Value → gM → Prop} {M : gM} (hK : ∀ z : Int32, K z → Q (some (.int z)) M) (r : Nat) (x1 : Int32) (x2 : Int32) (x3 : Int32) (hr : r < 2)  : ∀ (n : Nat) (x4 : Int32) , s_X7_wasWedBetween_3 M r x1 x2 x3  n x4 → K (f_X7_wasWedBetween_3 M r x1 x2 x3  n x4) → gG E RX7 cX7_wasWedBetween 6 (some .boolean) (rm 0) 3 [(0, .ref (gla E (rgC r))), (1, .int x1), (2, .int x2), (3, .int x3), (4, .int x4)] [] M Q := by
  intro n
  induction n with
  | zero => intro x4 hs hQ; exact (hs : False).elim
  | succ n ih =>
    intro x4 hs hQ
    rw [s_X7_wasWedBetween_3] at hs
    rw [f_X7_wasWedBetween_3] at hQ
    refine g_iload 4 dX7_wasWedBetween_3 rfl ?_
    refine g_aload_n 0 dX7_wasWedBetween_5 rfl ?_
    refine g_getI (rgC r) fd_X7_69 (dF_Rg hr) rfl dX7_wasWedBetween_6 ?_
    refine g_icmp_ge 76 dX7_wasWedBetween_9 (by decide) (fun c1 => ?_) (fun c1 => ?_)
    · have hs := ifSt hs c1; have hQ := ifQt hQ c1
      refine g_iconst (v := 0) dX7_wasWedBetween_76 (by decide) ?_
      exact g_zret rfl (Or.inl rfl) dX7_wasWedBetween_77 (hK _ hQ)
    · have hs := ifSf hs c1; have hQ := ifQf hQ c1
      refine g_aload_n 0 dX7_wasWedBetween_12 rfl ?_
      refine g_getR (rgC r) (rgC r + 6) fd_X7_39 (dF_Rg hr) rfl rfl dX7_wasWedBetween_13 ?_
      refine g_iload 4 dX7_wasWedBetween_16 rfl ?_
      have h2 := hs.1; have hs := hs.2
      refine g_iald (rgC r + 6) (dF_Rg_wedOne hr) h2 dX7_wasWedBetween_18 ?_
      refine g_iload_n 1 dX7_wasWedBetween_19 rfl ?_
      refine g_icmp_eq 34 dX7_wasWedBetween_20 (by decide) (fun c3 => ?_) (fun c3 => ?_)
      · have hs := ifSt hs c3; have hQ := ifQt hQ c3
        exact t_X7_wasWedBetween_34 hK r x1 x2 x3 x4 hr (f_X7_wasWedBetween_3 M r x1 x2 x3 n) (s_X7_wasWedBetween_3 M r x1 x2 x3 n) ih hs hQ
      · have hs := ifSf hs c3; have hQ := ifQf hQ c3
        refine g_aload_n 0 dX7_wasWedBetween_23 rfl ?_
        refine g_getR (rgC r) (rgC r + 7) fd_X7_42 (dF_Rg hr) rfl rfl dX7_wasWedBetween_24 ?_
        refine g_iload 4 dX7_wasWedBetween_27 rfl ?_
        have h4 := hs.1; have hs := hs.2
        refine g_iald (rgC r + 7) (dF_Rg_wedOther hr) h4 dX7_wasWedBetween_29 ?_
        refine g_iload_n 1 dX7_wasWedBetween_30 rfl ?_
        refine g_icmp_ne 38 dX7_wasWedBetween_31 (by decide) (fun c5 => ?_) (fun c5 => ?_)
        · have hs := ifSf hs c5; have hQ := ifQf hQ c5
          refine g_iconst (v := 0) dX7_wasWedBetween_38 (by decide) ?_
          exact t_X7_wasWedBetween_39 hK r x1 x2 x3 x4 0 hr (f_X7_wasWedBetween_3 M r x1 x2 x3 n) (s_X7_wasWedBetween_3 M r x1 x2 x3 n) ih hs hQ
        · have hs := ifSt hs c5; have hQ := ifQt hQ c5
          exact t_X7_wasWedBetween_34 hK r x1 x2 x3 x4 hr (f_X7_wasWedBetween_3 M r x1 x2 x3 n) (s_X7_wasWedBetween_3 M r x1 x2 x3 n) ih hs hQ
def f_X7_wasWedBetween (M : gM) (r : Nat) (x1 : Int32) (x2 : Int32) (x3 : Int32) : Int32 :=
  f_X7_wasWedBetween_3 M r x1 x2 x3 FU 0
def s_X7_wasWedBetween (M : gM) (r : Nat) (x1 : Int32) (x2 : Int32) (x3 : Int32) : Prop :=
  s_X7_wasWedBetween_3 M r x1 x2 x3 FU 0
set_option maxRecDepth 100000 in
set_option maxHeartbeats 4000000 in
theorem t_X7_wasWedBetween {E : gE} {K : Int32 → Prop} {Q : Option Value → gM → Prop} {M : gM} (hK : ∀ z : Int32, K z → Q (some (.int z)) M)  (r : Nat) (x1 : Int32) (x2 : Int32) (x3 : Int32) (hr : r < 2) (hs : s_X7_wasWedBetween M r x1 x2 x3) (hQ : K (f_X7_wasWedBetween M r x1 x2 x3)) : gG E RX7 cX7_wasWedBetween 6 (some .boolean) (rm 0) 0 [(0, .ref (gla E (rgC r))), (1, .int x1), (2, .int x2), (3, .int x3)] [] M Q := by
  rw [s_X7_wasWedBetween] at hs
  rw [f_X7_wasWedBetween] at hQ
  refine g_iconst (v := 0) dX7_wasWedBetween_0 (by decide) ?_
  refine g_istore _ dX7_wasWedBetween_1 (by decide) rfl ?_
  refine g_sub [1, 2, 3, 4, 0] _ rfl ?_
  exact t_X7_wasWedBetween_3 hK r x1 x2 x3 hr FU 0 hs hQ
theorem c_X7_wasWedBetween (E : gE) (M : gM) (r : Nat) (hr : r < 2) (x1 : Int32) (x2 : Int32) (x3 : Int32) (hs : s_X7_wasWedBetween M r x1 x2 x3) : gC E yX7_wasWedBetween cX7_wasWedBetween 6 (some .boolean) (rm 0) [.ref (gla E (rgC r)), .int x1, .int x2, .int x3] M (fun o N => o = some (.int (f_X7_wasWedBetween M r x1 x2 x3)) ∧ N = M) :=
  gC.of (by decide +kernel) (Nat.le_of_ble_eq_true rfl) rfl (t_X7_wasWedBetween (K := fun z => z = f_X7_wasWedBetween M r x1 x2 x3) (fun z hz => by rw [hz]; exact ⟨rfl, rfl⟩) r x1 x2 x3 hr hs rfl)
def f_X7_nextOfKin_32 (M : gM) (r : Nat) (x1 : Int32) (x2 : Int32) (x3 : Int32) (k4 : Int32 → Int32 → Int32) : Int32 :=
  if ((rdI M 21 r (nn x3) 0) &&& x1) = 0 then
    (k4 x2 (x3 + 1))
  else
    (bnd (x2 ||| (1 <<< (x3 &&& 31))) fun v7 =>
    (k4 v7 (x3 + 1)))
def s_X7_nextOfKin_32 (M : gM) (r : Nat) (x1 : Int32) (x2 : Int32) (x3 : Int32) (q4 : Int32 → Int32 → Prop) : Prop :=
  (vp_in x3 10) ∧
  (if ((rdI M 21 r (nn x3) 0) &&& x1) = 0 then
    (q4 x2 (x3 + 1))
  else
    (bndP (x2 ||| (1 <<< (x3 &&& 31))) fun v7 =>
    (q4 v7 (x3 + 1))))
set_option maxRecDepth 100000 in
set_option maxHeartbeats 4000000 in
theorem t_X7_nextOfKin_32 {E : gE} {K : Int32 → Prop} {Q : Option Value → gM → Prop} {M : gM} (hK : ∀ z : Int32, K z → Q (some (.int z)) M) (r : Nat) (x1 : Int32) (x2 : Int32) (x3 : Int32) (hr : r < 2) (k4 : Int32 → Int32 → Int32) (q4 : Int32 → Int32 → Prop) (hk4 : ∀ (x2 : Int32) (x3 : Int32) , q4 x2 x3 → K (k4 x2 x3) → gG E RX7 cX7_nextOfKin 4 (some .int) (rm 0) 4 [(0, .ref (gla E (rgC r))), (1, .int x1), (2, .int x2), (3, .int x3)] [] M Q) (hs : s_X7_nextOfKin_32 M r x1 x2 x3 q4) (hQ : K (f_X7_nextOfKin_32 M r x1 x2 x3 k4)) : gG E RX7 cX7_nextOfKin 4 (some .int) (rm 0) 32 [(0, .ref (gla E (rgC r))), (1, .int x1), (2, .int x2), (3, .int x3)] [] M Q := by
  rw [s_X7_nextOfKin_32] at hs
  rw [f_X7_nextOfKin_32] at hQ
  refine g_aload_n 0 dX7_nextOfKin_32 rfl ?_
  refine g_getR (rgC r) (rgC r + 2) fd_X7_19 (dF_Rg hr) rfl rfl dX7_nextOfKin_33 ?_
  refine g_iload_n 3 dX7_nextOfKin_36 rfl ?_
  have h5 := hs.1; have hs := hs.2
  refine g_aald (rgC r + 2) (peC r (nn x3)) rfl (dF_Rg_persons hr) h5 (aj_Pe _ _) dX7_nextOfKin_37 ?_
  refine g_getI (peC r (nn x3)) fd_X7_78 (dF_Pe hr (vpL h5)) rfl dX7_nextOfKin_38 ?_
  refine g_iload_n 1 dX7_nextOfKin_41 rfl ?_
  refine g_iand dX7_nextOfKin_42 ?_
  refine g_if_eq 52 dX7_nextOfKin_43 (by decide) (fun c6 => ?_) (fun c6 => ?_)
  · have hs := ifSt hs c6; have hQ := ifQt hQ c6
    refine g_iinc 3 (v := x3 + 1) _ dX7_nextOfKin_52 rfl rfl (by decide) rfl ?_
    refine g_goto 4 dX7_nextOfKin_55 (by decide) ?_
    refine g_sub [1, 2, 3, 0] _ rfl ?_
    exact hk4 x2 (x3 + 1) hs hQ
  · have hs := ifSf hs c6; have hQ := ifQf hQ c6
    refine g_iload_n 2 dX7_nextOfKin_46 rfl ?_
    refine g_iconst (v := 1) dX7_nextOfKin_47 (by decide) ?_
    refine g_iload_n 3 dX7_nextOfKin_48 rfl ?_
    refine g_ishl dX7_nextOfKin_49 ?_
    refine g_ior dX7_nextOfKin_50 ?_
    refine g_topI (fun v7 hv7 => ?_)
    have hQ := bndQ hQ v7 hv7; have hs := bndS hs v7 hv7
    refine g_istore_n _ dX7_nextOfKin_51 (by decide) rfl ?_
    refine g_iinc 3 (v := x3 + 1) _ dX7_nextOfKin_52 rfl rfl (by decide) rfl ?_
    refine g_goto 4 dX7_nextOfKin_55 (by decide) ?_
    refine g_sub [2, 3, 1, 0] _ rfl ?_
    exact hk4 v7 (x3 + 1) hs hQ
def f_X7_nextOfKin_4 (M : gM) (r : Nat) (x1 : Int32)  : Nat → Int32 → Int32 → Int32
  | 0, _, _ => 0
  | n + 1, x2, x3 =>
    if (rdI M 5 r 0 0) ≤ x3 then
      (x2)
    else
      (if ((x1 >>> (x3 &&& 31)) &&& 1) = 0 then
        (f_X7_nextOfKin_32 M r x1 x2 x3 (f_X7_nextOfKin_4 M r x1 n))
      else
        (bnd (x2 ||| (rdI M 21 r (nn x3) 0)) fun v4 =>
        (f_X7_nextOfKin_32 M r x1 v4 x3 (f_X7_nextOfKin_4 M r x1 n))))
def s_X7_nextOfKin_4 (M : gM) (r : Nat) (x1 : Int32)  : Nat → Int32 → Int32 → Prop
  | 0, _, _ => False
  | n + 1, x2, x3 =>
    if (rdI M 5 r 0 0) ≤ x3 then
      (True)
    else
      (if ((x1 >>> (x3 &&& 31)) &&& 1) = 0 then
        (s_X7_nextOfKin_32 M r x1 x2 x3 (s_X7_nextOfKin_4 M r x1 n))
      else
        ((vp_in x3 10) ∧
        (bndP (x2 ||| (rdI M 21 r (nn x3) 0)) fun v4 =>
        (s_X7_nextOfKin_32 M r x1 v4 x3 (s_X7_nextOfKin_4 M r x1 n)))))
set_option maxRecDepth 100000 in
set_option maxHeartbeats 4000000 in
theorem t_X7_nextOfKin_4 {E : gE} {K : Int32 → Prop} {Q : Option Value → gM → Prop} {M : gM} (hK : ∀ z : Int32, K z → Q (some (.int z)) M) (r : Nat) (x1 : Int32) (hr : r < 2)  : ∀ (n : Nat) (x2 : Int32) (x3 : Int32) , s_X7_nextOfKin_4 M r x1  n x2 x3 → K (f_X7_nextOfKin_4 M r x1  n x2 x3) → gG E RX7 cX7_nextOfKin 4 (some .int) (rm 0) 4 [(0, .ref (gla E (rgC r))), (1, .int x1), (2, .int x2), (3, .int x3)] [] M Q := by
  intro n
  induction n with
  | zero => intro x2 x3 hs hQ; exact (hs : False).elim
  | succ n ih =>
    intro x2 x3 hs hQ
    rw [s_X7_nextOfKin_4] at hs
    rw [f_X7_nextOfKin_4] at hQ
    refine g_iload_n 3 dX7_nextOfKin_4 rfl ?_
    refine g_aload_n 0 dX7_nextOfKin_5 rfl ?_
    refine g_getI (rgC r) fd_X7_60 (dF_Rg hr) rfl dX7_nextOfKin_6 ?_
    refine g_icmp_ge 58 dX7_nextOfKin_9 (by decide) (fun c1 => ?_) (fun c1 => ?_)
    · have hs := ifSt hs c1; have hQ := ifQt hQ c1
      refine g_iload_n 2 dX7_nextOfKin_58 rfl ?_
      exact g_iret rfl dX7_nextOfKin_59 (hK _ hQ)
    · have hs := ifSf hs c1; have hQ := ifQf hQ c1
      refine g_iload_n 1 dX7_nextOfKin_12 rfl ?_
      refine g_iload_n 3 dX7_nextOfKin_13 rfl ?_
      refine g_ishr dX7_nextOfKin_14 ?_
      refine g_iconst (v := 1) dX7_nextOfKin_15 (by decide) ?_
      refine g_iand dX7_nextOfKin_16 ?_
      refine g_if_eq 32 dX7_nextOfKin_17 (by decide) (fun c2 => ?_) (fun c2 => ?_)
      · have hs := ifSt hs c2; have hQ := ifQt hQ c2
        exact t_X7_nextOfKin_32 hK r x1 x2 x3 hr (f_X7_nextOfKin_4 M r x1 n) (s_X7_nextOfKin_4 M r x1 n) ih hs hQ
      · have hs := ifSf hs c2; have hQ := ifQf hQ c2
        refine g_iload_n 2 dX7_nextOfKin_20 rfl ?_
        refine g_aload_n 0 dX7_nextOfKin_21 rfl ?_
        refine g_getR (rgC r) (rgC r + 2) fd_X7_19 (dF_Rg hr) rfl rfl dX7_nextOfKin_22 ?_
        refine g_iload_n 3 dX7_nextOfKin_25 rfl ?_
        have h3 := hs.1; have hs := hs.2
        refine g_aald (rgC r + 2) (peC r (nn x3)) rfl (dF_Rg_persons hr) h3 (aj_Pe _ _) dX7_nextOfKin_26 ?_
        refine g_getI (peC r (nn x3)) fd_X7_78 (dF_Pe hr (vpL h3)) rfl dX7_nextOfKin_27 ?_
        refine g_ior dX7_nextOfKin_30 ?_
        refine g_topI (fun v4 hv4 => ?_)
        have hQ := bndQ hQ v4 hv4; have hs := bndS hs v4 hv4
        refine g_istore_n _ dX7_nextOfKin_31 (by decide) rfl ?_
        refine g_sub [1, 2, 0, 3] _ rfl ?_
        exact t_X7_nextOfKin_32 hK r x1 v4 x3 hr (f_X7_nextOfKin_4 M r x1 n) (s_X7_nextOfKin_4 M r x1 n) ih hs hQ
def f_X7_nextOfKin (M : gM) (r : Nat) (x1 : Int32) : Int32 :=
  f_X7_nextOfKin_4 M r x1 FU 0 0
def s_X7_nextOfKin (M : gM) (r : Nat) (x1 : Int32) : Prop :=
  s_X7_nextOfKin_4 M r x1 FU 0 0
set_option maxRecDepth 100000 in
set_option maxHeartbeats 4000000 in
theorem t_X7_nextOfKin {E : gE} {K : Int32 → Prop} {Q : Option Value → gM → Prop} {M : gM} (hK : ∀ z : Int32, K z → Q (some (.int z)) M)  (r : Nat) (x1 : Int32) (hr : r < 2) (hs : s_X7_nextOfKin M r x1) (hQ : K (f_X7_nextOfKin M r x1)) : gG E RX7 cX7_nextOfKin 4 (some .int) (rm 0) 0 [(0, .ref (gla E (rgC r))), (1, .int x1)] [] M Q := by
  rw [s_X7_nextOfKin] at hs
  rw [f_X7_nextOfKin] at hQ
  refine g_iconst (v := 0) dX7_nextOfKin_0 (by decide) ?_
  refine g_istore_n _ dX7_nextOfKin_1 (by decide) rfl ?_
  refine g_iconst (v := 0) dX7_nextOfKin_2 (by decide) ?_
  refine g_istore_n _ dX7_nextOfKin_3 (by decide) rfl ?_
  refine g_sub [2, 3, 1, 0] _ rfl ?_
  exact t_X7_nextOfKin_4 hK r x1 hr FU 0 0 hs hQ
theorem c_X7_nextOfKin (E : gE) (M : gM) (r : Nat) (hr : r < 2) (x1 : Int32) (hs : s_X7_nextOfKin M r x1) : gC E yX7_nextOfKin cX7_nextOfKin 4 (some .int) (rm 0) [.ref (gla E (rgC r)), .int x1] M (fun o N => o = some (.int (f_X7_nextOfKin M r x1)) ∧ N = M) :=
  gC.of (by decide +kernel) (Nat.le_of_ble_eq_true rfl) rfl (t_X7_nextOfKin (K := fun z => z = f_X7_nextOfKin M r x1) (fun z hz => by rw [hz]; exact ⟨rfl, rfl⟩) r x1 hr hs rfl)
def f_X7_diesAheadOf_38 (M : gM) (r : Nat)  : Int32 :=
  1
def s_X7_diesAheadOf_38 (M : gM) (r : Nat)  : Prop :=
  True
set_option maxRecDepth 100000 in
set_option maxHeartbeats 4000000 in
theorem t_X7_diesAheadOf_38 {E : gE} {K : Int32 → Prop} {Q : Option Value → gM → Prop} {M : gM} (hK : ∀ z : Int32, K z → Q (some (.int z)) M) (r : Nat) (hr : r < 2)  (hs : s_X7_diesAheadOf_38 M r ) (hQ : K (f_X7_diesAheadOf_38 M r )) : gG E RX7 cX7_diesAheadOf 5 (some .boolean) (rm 0) 38 [] [] M Q := by
  rw [s_X7_diesAheadOf_38] at hs
  rw [f_X7_diesAheadOf_38] at hQ
  refine g_iconst (v := 1) dX7_diesAheadOf_38 (by decide) ?_
  refine g_goto 43 dX7_diesAheadOf_39 (by decide) ?_
  exact g_zret rfl (Or.inr rfl) dX7_diesAheadOf_43 (hK _ hQ)
def f_X7_diesAheadOf_42 (M : gM) (r : Nat)  : Int32 :=
  0
def s_X7_diesAheadOf_42 (M : gM) (r : Nat)  : Prop :=
  True
set_option maxRecDepth 100000 in
set_option maxHeartbeats 4000000 in
theorem t_X7_diesAheadOf_42 {E : gE} {K : Int32 → Prop} {Q : Option Value → gM → Prop} {M : gM} (hK : ∀ z : Int32, K z → Q (some (.int z)) M) (r : Nat) (hr : r < 2)  (hs : s_X7_diesAheadOf_42 M r ) (hQ : K (f_X7_diesAheadOf_42 M r )) : gG E RX7 cX7_diesAheadOf 5 (some .boolean) (rm 0) 42 [] [] M Q := by
  rw [s_X7_diesAheadOf_42] at hs
  rw [f_X7_diesAheadOf_42] at hQ
  refine g_iconst (v := 0) dX7_diesAheadOf_42 (by decide) ?_
  exact g_zret rfl (Or.inl rfl) dX7_diesAheadOf_43 (hK _ hQ)
def f_X7_diesAheadOf (M : gM) (r : Nat) (x1 : Int32) (x2 : Int32) : Int32 :=
  if (rdI M 20 r (nn x1) 0) < (rdI M 20 r (nn x2) 0) then
    (f_X7_diesAheadOf_38 M r)
  else
    (if (rdI M 20 r (nn x1) 0) = (rdI M 20 r (nn x2) 0) then
      (if x2 ≤ x1 then
        (f_X7_diesAheadOf_42 M r)
      else
        (f_X7_diesAheadOf_38 M r))
    else
      (f_X7_diesAheadOf_42 M r))
def s_X7_diesAheadOf (M : gM) (r : Nat) (x1 : Int32) (x2 : Int32) : Prop :=
  (vp_in x1 10) ∧
  ((vp_in x2 10) ∧
  (if (rdI M 20 r (nn x1) 0) < (rdI M 20 r (nn x2) 0) then
    (s_X7_diesAheadOf_38 M r)
  else
    (if (rdI M 20 r (nn x1) 0) = (rdI M 20 r (nn x2) 0) then
      (if x2 ≤ x1 then
        (s_X7_diesAheadOf_42 M r)
      else
        (s_X7_diesAheadOf_38 M r))
    else
      (s_X7_diesAheadOf_42 M r))))
set_option maxRecDepth 100000 in
set_option maxHeartbeats 4000000 in
theorem t_X7_diesAheadOf {E : gE} {K : Int32 → Prop} {Q : Option Value → gM → Prop} {M : gM} (hK : ∀ z : Int32, K z → Q (some (.int z)) M)  (r : Nat) (x1 : Int32) (x2 : Int32) (hr : r < 2) (hs : s_X7_diesAheadOf M r x1 x2) (hQ : K (f_X7_diesAheadOf M r x1 x2)) : gG E RX7 cX7_diesAheadOf 5 (some .boolean) (rm 0) 0 [(0, .ref (gla E (rgC r))), (1, .int x1), (2, .int x2)] [] M Q := by
  rw [s_X7_diesAheadOf] at hs
  rw [f_X7_diesAheadOf] at hQ
  refine g_aload_n 0 dX7_diesAheadOf_0 rfl ?_
  refine g_getR (rgC r) (rgC r + 2) fd_X7_19 (dF_Rg hr) rfl rfl dX7_diesAheadOf_1 ?_
  refine g_iload_n 1 dX7_diesAheadOf_4 rfl ?_
  have h1 := hs.1; have hs := hs.2
  refine g_aald (rgC r + 2) (peC r (nn x1)) rfl (dF_Rg_persons hr) h1 (aj_Pe _ _) dX7_diesAheadOf_5 ?_
  refine g_getI (peC r (nn x1)) fd_X7_75 (dF_Pe hr (vpL h1)) rfl dX7_diesAheadOf_6 ?_
  refine g_istore_n _ dX7_diesAheadOf_9 (by decide) rfl ?_
  refine g_aload_n 1 dX7_diesAheadOf_10 rfl ?_
  refine g_getR (rgC r) (rgC r + 2) fd_X7_19 (dF_Rg hr) rfl rfl dX7_diesAheadOf_11 ?_
  refine g_iload_n 3 dX7_diesAheadOf_14 rfl ?_
  have h2 := hs.1; have hs := hs.2
  refine g_aald (rgC r + 2) (peC r (nn x2)) rfl (dF_Rg_persons hr) h2 (aj_Pe _ _) dX7_diesAheadOf_15 ?_
  refine g_getI (peC r (nn x2)) fd_X7_75 (dF_Pe hr (vpL h2)) rfl dX7_diesAheadOf_16 ?_
  refine g_istore _ dX7_diesAheadOf_19 (by decide) rfl ?_
  refine g_iload_n 1 dX7_diesAheadOf_21 rfl ?_
  refine g_iload 0 dX7_diesAheadOf_22 rfl ?_
  refine g_icmp_lt 38 dX7_diesAheadOf_24 (by decide) (fun c3 => ?_) (fun c3 => ?_)
  · have hs := ifSt hs c3; have hQ := ifQt hQ c3
    refine g_sub [] _ rfl ?_
    exact t_X7_diesAheadOf_38 hK r hr hs hQ
  · have hs := ifSf hs c3; have hQ := ifQf hQ c3
    refine g_iload_n 1 dX7_diesAheadOf_27 rfl ?_
    refine g_iload 0 dX7_diesAheadOf_28 rfl ?_
    refine g_icmp_ne 42 dX7_diesAheadOf_30 (by decide) (fun c4 => ?_) (fun c4 => ?_)
    · have hs := ifSf hs c4; have hQ := ifQf hQ c4
      refine g_sub [] _ rfl ?_
      exact t_X7_diesAheadOf_42 hK r hr hs hQ
    · have hs := ifSt hs c4; have hQ := ifQt hQ c4
      refine g_iload_n 3 dX7_diesAheadOf_33 rfl ?_
      refine g_iload_n 4 dX7_diesAheadOf_34 rfl ?_
      refine g_icmp_ge 42 dX7_diesAheadOf_35 (by decide) (fun c5 => ?_) (fun c5 => ?_)
      · have hs := ifSt hs c5; have hQ := ifQt hQ c5
        refine g_sub [] _ rfl ?_
        exact t_X7_diesAheadOf_42 hK r hr hs hQ
      · have hs := ifSf hs c5; have hQ := ifQf hQ c5
        refine g_sub [] _ rfl ?_
        exact t_X7_diesAheadOf_38 hK r hr hs hQ
theorem c_X7_diesAheadOf (E : gE) (M : gM) (r : Nat) (hr : r < 2) (x1 : Int32) (x2 : Int32) (hs : s_X7_diesAheadOf M r x1 x2) : gC E yX7_diesAheadOf cX7_diesAheadOf 5 (some .boolean) (rm 0) [.ref (gla E (rgC r)), .int x1, .int x2] M (fun o N => o = some (.int (f_X7_diesAheadOf M r x1 x2)) ∧ N = M) :=
  gC.of (by decide +kernel) (Nat.le_of_ble_eq_true rfl) rfl (t_X7_diesAheadOf (K := fun z => z = f_X7_diesAheadOf M r x1 x2) (fun z hz => by rw [hz]; exact ⟨rfl, rfl⟩) r x1 x2 hr hs rfl)
def f_Jx29ce0_ordinal_8abf5 (M : gM) (oo : Nat) : Int32 :=
  nI oo
def s_Jx29ce0_ordinal_8abf5 (M : gM) (oo : Nat) : Prop :=
  True
set_option maxRecDepth 100000 in
set_option maxHeartbeats 4000000 in
theorem t_Jx29ce0_ordinal_8abf5 {E : gE} {K : Int32 → Prop} {Q : Option Value → gM → Prop} {M : gM} (hK : ∀ z : Int32, K z → Q (some (.int z)) M)  (oo : Nat) (hoo : oo < 26) (hs : s_Jx29ce0_ordinal_8abf5 M oo) (hQ : K (f_Jx29ce0_ordinal_8abf5 M oo)) : gG E RJx29ce0 cJx29ce0_ordinal_8abf5 1 (some .int) (rm 0) 0 [(0, .ref (gad E oo))] [] M Q := by
  rw [s_Jx29ce0_ordinal_8abf5] at hs
  rw [f_Jx29ce0_ordinal_8abf5] at hQ
  refine g_aload_n 0 dJx29ce0_ordinal_8abf5_0 rfl ?_
  refine g_ordf hoo ol_Jx29ce0_7 dJx29ce0_ordinal_8abf5_1 ?_
  exact g_iret rfl dJx29ce0_ordinal_8abf5_4 (hK _ hQ)
theorem c_Jx29ce0_ordinal_8abf5 (E : gE) (M : gM) (oo : Nat) (hoo : oo < 26) (hs : s_Jx29ce0_ordinal_8abf5 M oo) : gC E yJx29ce0_ordinal_8abf5 cJx29ce0_ordinal_8abf5 1 (some .int) (rm 0) [.ref (gad E oo)] M (fun o N => o = some (.int (f_Jx29ce0_ordinal_8abf5 M oo)) ∧ N = M) :=
  gC.of (by decide +kernel) (Nat.le_of_ble_eq_true rfl) rfl (t_Jx29ce0_ordinal_8abf5 (K := fun z => z = f_Jx29ce0_ordinal_8abf5 M oo) (fun z hz => by rw [hz]; exact ⟨rfl, rfl⟩) oo hoo hs rfl)
def f_J6_bitCount_0f7a4 (M : gM) (x0 : Int32) : Int32 :=
  bnd (x0 - ((iush x0 1) &&& 1431655765)) fun v1 =>
  (bnd ((v1 &&& 858993459) + ((iush v1 2) &&& 858993459)) fun v2 =>
  (bnd ((v2 + (iush v2 4)) &&& 252645135) fun v3 =>
  (bnd ((v3 + (iush v3 8)) + (iush (v3 + (iush v3 8)) 16)) fun v4 =>
  (v4 &&& 63))))
def s_J6_bitCount_0f7a4 (M : gM) (x0 : Int32) : Prop :=
  bndP (x0 - ((iush x0 1) &&& 1431655765)) fun v1 =>
  (bndP ((v1 &&& 858993459) + ((iush v1 2) &&& 858993459)) fun v2 =>
  (bndP ((v2 + (iush v2 4)) &&& 252645135) fun v3 =>
  (bndP ((v3 + (iush v3 8)) + (iush (v3 + (iush v3 8)) 16)) fun v4 =>
  (True))))
set_option maxRecDepth 100000 in
set_option maxHeartbeats 4000000 in
theorem t_J6_bitCount_0f7a4 {E : gE} {K : Int32 → Prop} {Q : Option Value → gM → Prop} {M : gM} (hK : ∀ z : Int32, K z → Q (some (.int z)) M)  (x0 : Int32)  (hs : s_J6_bitCount_0f7a4 M x0) (hQ : K (f_J6_bitCount_0f7a4 M x0)) : gG E RJ6 cJ6_bitCount_0f7a4 1 (some .int) (rm 0) 0 [(0, .int x0)] [] M Q := by
  rw [s_J6_bitCount_0f7a4] at hs
  rw [f_J6_bitCount_0f7a4] at hQ
  refine g_iload_n 0 dJ6_bitCount_0f7a4_0 rfl ?_
  refine g_iload_n 0 dJ6_bitCount_0f7a4_1 rfl ?_
  refine g_iconst (v := 1) dJ6_bitCount_0f7a4_2 (by decide) ?_
  refine g_iushr dJ6_bitCount_0f7a4_3 ?_
  refine g_ldcw kc_J6_265 dJ6_bitCount_0f7a4_4 ?_
  refine g_iand dJ6_bitCount_0f7a4_7 ?_
  refine g_isub dJ6_bitCount_0f7a4_8 ?_
  refine g_topI (fun v1 hv1 => ?_)
  have hQ := bndQ hQ v1 hv1; have hs := bndS hs v1 hv1
  refine g_istore_n _ dJ6_bitCount_0f7a4_9 (by decide) rfl ?_
  refine g_iload_n 0 dJ6_bitCount_0f7a4_10 rfl ?_
  refine g_ldcw kc_J6_266 dJ6_bitCount_0f7a4_11 ?_
  refine g_iand dJ6_bitCount_0f7a4_14 ?_
  refine g_iload_n 0 dJ6_bitCount_0f7a4_15 rfl ?_
  refine g_iconst (v := 2) dJ6_bitCount_0f7a4_16 (by decide) ?_
  refine g_iushr dJ6_bitCount_0f7a4_17 ?_
  refine g_ldcw kc_J6_266 dJ6_bitCount_0f7a4_18 ?_
  refine g_iand dJ6_bitCount_0f7a4_21 ?_
  refine g_iadd dJ6_bitCount_0f7a4_22 ?_
  refine g_topI (fun v2 hv2 => ?_)
  have hQ := bndQ hQ v2 hv2; have hs := bndS hs v2 hv2
  refine g_istore_n _ dJ6_bitCount_0f7a4_23 (by decide) rfl ?_
  refine g_iload_n 0 dJ6_bitCount_0f7a4_24 rfl ?_
  refine g_iload_n 0 dJ6_bitCount_0f7a4_25 rfl ?_
  refine g_iconst (v := 4) dJ6_bitCount_0f7a4_26 (by decide) ?_
  refine g_iushr dJ6_bitCount_0f7a4_27 ?_
  refine g_iadd dJ6_bitCount_0f7a4_28 ?_
  refine g_ldcw kc_J6_267 dJ6_bitCount_0f7a4_29 ?_
  refine g_iand dJ6_bitCount_0f7a4_32 ?_
  refine g_topI (fun v3 hv3 => ?_)
  have hQ := bndQ hQ v3 hv3; have hs := bndS hs v3 hv3
  refine g_istore_n _ dJ6_bitCount_0f7a4_33 (by decide) rfl ?_
  refine g_iload_n 0 dJ6_bitCount_0f7a4_34 rfl ?_
  refine g_iload_n 0 dJ6_bitCount_0f7a4_35 rfl ?_
  refine g_bipush (v := 8) dJ6_bitCount_0f7a4_36 (by decide) ?_
  refine g_iushr dJ6_bitCount_0f7a4_38 ?_
  refine g_iadd dJ6_bitCount_0f7a4_39 ?_
  refine g_istore_n _ dJ6_bitCount_0f7a4_40 (by decide) rfl ?_
  refine g_iload_n 0 dJ6_bitCount_0f7a4_41 rfl ?_
  refine g_iload_n 0 dJ6_bitCount_0f7a4_42 rfl ?_
  refine g_bipush (v := 16) dJ6_bitCount_0f7a4_43 (by decide) ?_
  refine g_iushr dJ6_bitCount_0f7a4_45 ?_
  refine g_iadd dJ6_bitCount_0f7a4_46 ?_
  refine g_topI (fun v4 hv4 => ?_)
  have hQ := bndQ hQ v4 hv4; have hs := bndS hs v4 hv4
  refine g_istore_n _ dJ6_bitCount_0f7a4_47 (by decide) rfl ?_
  refine g_iload_n 0 dJ6_bitCount_0f7a4_48 rfl ?_
  refine g_bipush (v := 63) dJ6_bitCount_0f7a4_49 (by decide) ?_
  refine g_iand dJ6_bitCount_0f7a4_51 ?_
  exact g_iret rfl dJ6_bitCount_0f7a4_52 (hK _ hQ)
theorem c_J6_bitCount_0f7a4 (E : gE) (M : gM) (x0 : Int32) (hs : s_J6_bitCount_0f7a4 M x0) : gC E yJ6_bitCount_0f7a4 cJ6_bitCount_0f7a4 1 (some .int) (rm 0) [.int x0] M (fun o N => o = some (.int (f_J6_bitCount_0f7a4 M x0)) ∧ N = M) :=
  gC.of (by decide +kernel) (Nat.le_of_ble_eq_true rfl) rfl (t_J6_bitCount_0f7a4 (K := fun z => z = f_J6_bitCount_0f7a4 M x0) (fun z hz => by rw [hz]; exact ⟨rfl, rfl⟩) x0 hs rfl)
def f_J0_coder_7d493 (M : gM) (w : Nat) : Int32 :=
  if (1 : Int32) = 0 then
    (1)
  else
    (0)
def s_J0_coder_7d493 (M : gM) (w : Nat) : Prop :=
  if (1 : Int32) = 0 then
    (True)
  else
    (True)
set_option maxRecDepth 100000 in
set_option maxHeartbeats 4000000 in
theorem t_J0_coder_7d493 {E : gE} {K : Int32 → Prop} {Q : Option Value → gM → Prop} {M : gM} (hK : ∀ z : Int32, K z → Q (some (.int z)) M)  (w : Nat) (hw : w < 23) (hs : s_J0_coder_7d493 M w) (hQ : K (f_J0_coder_7d493 M w)) : gG E RJ0 cJ0_coder_7d493 1 (some .byte) (rm 0) 0 [(0, .ref (gstr E w))] [] M Q := by
  rw [s_J0_coder_7d493] at hs
  rw [f_J0_coder_7d493] at hQ
  refine g_cs cs_J0_38 dJ0_coder_7d493_0 ?_
  refine g_if_eq 13 dJ0_coder_7d493_3 (by decide) (fun c1 => ?_) (fun c1 => ?_)
  · have hs := ifSt hs c1; have hQ := ifQt hQ c1
    refine g_iconst (v := 1) dJ0_coder_7d493_13 (by decide) ?_
    exact g_byret rfl rfl dJ0_coder_7d493_14 (hK _ hQ)
  · have hs := ifSf hs c1; have hQ := ifQf hQ c1
    refine g_aload_n 0 dJ0_coder_7d493_6 rfl ?_
    refine g_scoder hw jl_J0_15 dJ0_coder_7d493_7 ?_
    refine g_goto 14 dJ0_coder_7d493_10 (by decide) ?_
    exact g_byret rfl rfl dJ0_coder_7d493_14 (hK _ hQ)
theorem c_J0_coder_7d493 (E : gE) (M : gM) (w : Nat) (hw : w < 23) (hs : s_J0_coder_7d493 M w) : gC E yJ0_coder_7d493 cJ0_coder_7d493 1 (some .byte) (rm 0) [.ref (gstr E w)] M (fun o N => o = some (.int (f_J0_coder_7d493 M w)) ∧ N = M) :=
  gC.of (by decide +kernel) (Nat.le_of_ble_eq_true rfl) rfl (t_J0_coder_7d493 (K := fun z => z = f_J0_coder_7d493 M w) (fun z hz => by rw [hz]; exact ⟨rfl, rfl⟩) w hw hs rfl)
def f_J0_isLatin1_aae02_17 (M : gM) (w : Nat)  : Int32 :=
  0
def s_J0_isLatin1_aae02_17 (M : gM) (w : Nat)  : Prop :=
  True
set_option maxRecDepth 100000 in
set_option maxHeartbeats 4000000 in
theorem t_J0_isLatin1_aae02_17 {E : gE} {K : Int32 → Prop} {Q : Option Value → gM → Prop} {M : gM} (hK : ∀ z : Int32, K z → Q (some (.int z)) M) (w : Nat) (hw : w < 23)  (hs : s_J0_isLatin1_aae02_17 M w ) (hQ : K (f_J0_isLatin1_aae02_17 M w )) : gG E RJ0 cJ0_isLatin1_aae02 1 (some .boolean) (rm 0) 17 [] [] M Q := by
  rw [s_J0_isLatin1_aae02_17] at hs
  rw [f_J0_isLatin1_aae02_17] at hQ
  refine g_iconst (v := 0) dJ0_isLatin1_aae02_17 (by decide) ?_
  exact g_zret rfl (Or.inl rfl) dJ0_isLatin1_aae02_18 (hK _ hQ)
def f_J0_isLatin1_aae02 (M : gM) (w : Nat) : Int32 :=
  if (1 : Int32) = 0 then
    (f_J0_isLatin1_aae02_17 M w)
  else
    (if (0 : Int32) = 0 then
      (1)
    else
      (f_J0_isLatin1_aae02_17 M w))
def s_J0_isLatin1_aae02 (M : gM) (w : Nat) : Prop :=
  if (1 : Int32) = 0 then
    (s_J0_isLatin1_aae02_17 M w)
  else
    (if (0 : Int32) = 0 then
      (True)
    else
      (s_J0_isLatin1_aae02_17 M w))
set_option maxRecDepth 100000 in
set_option maxHeartbeats 4000000 in
theorem t_J0_isLatin1_aae02 {E : gE} {K : Int32 → Prop} {Q : Option Value → gM → Prop} {M : gM} (hK : ∀ z : Int32, K z → Q (some (.int z)) M)  (w : Nat) (hw : w < 23) (hs : s_J0_isLatin1_aae02 M w) (hQ : K (f_J0_isLatin1_aae02 M w)) : gG E RJ0 cJ0_isLatin1_aae02 1 (some .boolean) (rm 0) 0 [(0, .ref (gstr E w))] [] M Q := by
  rw [s_J0_isLatin1_aae02] at hs
  rw [f_J0_isLatin1_aae02] at hQ
  refine g_cs cs_J0_38 dJ0_isLatin1_aae02_0 ?_
  refine g_if_eq 17 dJ0_isLatin1_aae02_3 (by decide) (fun c1 => ?_) (fun c1 => ?_)
  · have hs := ifSt hs c1; have hQ := ifQt hQ c1
    refine g_sub [] _ rfl ?_
    exact t_J0_isLatin1_aae02_17 hK w hw hs hQ
  · have hs := ifSf hs c1; have hQ := ifQf hQ c1
    refine g_aload_n 0 dJ0_isLatin1_aae02_6 rfl ?_
    refine g_scoder hw jl_J0_15 dJ0_isLatin1_aae02_7 ?_
    refine g_if_ne 17 dJ0_isLatin1_aae02_10 (by decide) (fun c2 => ?_) (fun c2 => ?_)
    · have hs := ifSf hs c2; have hQ := ifQf hQ c2
      refine g_sub [] _ rfl ?_
      exact t_J0_isLatin1_aae02_17 hK w hw hs hQ
    · have hs := ifSt hs c2; have hQ := ifQt hQ c2
      refine g_iconst (v := 1) dJ0_isLatin1_aae02_13 (by decide) ?_
      refine g_goto 18 dJ0_isLatin1_aae02_14 (by decide) ?_
      exact g_zret rfl (Or.inr rfl) dJ0_isLatin1_aae02_18 (hK _ hQ)
theorem c_J0_isLatin1_aae02 (E : gE) (M : gM) (w : Nat) (hw : w < 23) (hs : s_J0_isLatin1_aae02 M w) : gC E yJ0_isLatin1_aae02 cJ0_isLatin1_aae02 1 (some .boolean) (rm 0) [.ref (gstr E w)] M (fun o N => o = some (.int (f_J0_isLatin1_aae02 M w)) ∧ N = M) :=
  gC.of (by decide +kernel) (Nat.le_of_ble_eq_true rfl) rfl (t_J0_isLatin1_aae02 (K := fun z => z = f_J0_isLatin1_aae02 M w) (fun z hz => by rw [hz]; exact ⟨rfl, rfl⟩) w hw hs rfl)
def f_J7_fill_d0a16_6 (x1 : Int64) (x4 : Int32)  : Nat → gM → Int32 → gM
  | 0, M, _ => M
  | n + 1, M, x3 =>
    if x4 ≤ x3 then
      (M)
    else
      (bnd (wrJ M 61 0 0 (nn x3) x1) fun M3 =>
      (f_J7_fill_d0a16_6 x1 x4 n M3 (x3 + 1)))
def s_J7_fill_d0a16_6 (x1 : Int64) (x4 : Int32)  : Nat → gM → Int32 → Prop
  | 0, _, _ => False
  | n + 1, M, x3 =>
    if x4 ≤ x3 then
      (True)
    else
      ((vp_in x3 11) ∧
      (bndP (wrJ M 61 0 0 (nn x3) x1) fun M3 =>
      (s_J7_fill_d0a16_6 x1 x4 n M3 (x3 + 1))))
theorem o_J7_fill_d0a16_6 (x1 : Int64) (x4 : Int32)  : ∀ (n : Nat) (M : gM) (x3 : Int32), offW [61] M (f_J7_fill_d0a16_6 x1 x4  n M x3) := by
  intro n
  induction n with
  | zero => intro M x3; exact offR
  | succ n ih =>
    intro M x3
    rw [f_J7_fill_d0a16_6]
    refine offI ?_ ?_
    · exact offR
    · refine offB (offR.wJ (by decide)) (fun M3 oM3 => ?_)
      exact oM3.tr (ih M3 (x3 + 1))
set_option maxRecDepth 100000 in
set_option maxHeartbeats 4000000 in
theorem t_J7_fill_d0a16_6 {E : gE} {K : gM → Prop} {Q : Option Value → gM → Prop} (hK : ∀ z : gM, K z → Q none z) (x1 : Int64) (x4 : Int32)   : ∀ (n : Nat) (M : gM) (x3 : Int32) , s_J7_fill_d0a16_6 x1 x4  n M x3 → K (f_J7_fill_d0a16_6 x1 x4  n M x3) → gG E RJ7 cJ7_fill_d0a16 5 none (rm 0) 6 [(0, .ref (gla E 221)), (1, .long x1), (3, .int x3), (4, .int x4)] [] M Q := by
  intro n
  induction n with
  | zero => intro M x3 hs hQ; exact (hs : False).elim
  | succ n ih =>
    intro M x3 hs hQ
    rw [s_J7_fill_d0a16_6] at hs
    rw [f_J7_fill_d0a16_6] at hQ
    refine g_iload_n 2 dJ7_fill_d0a16_6 rfl ?_
    refine g_iload 3 dJ7_fill_d0a16_7 rfl ?_
    refine g_icmp_ge 22 dJ7_fill_d0a16_9 (by decide) (fun c1 => ?_) (fun c1 => ?_)
    · have hs := ifSt hs c1; have hQ := ifQt hQ c1
      exact g_vret rfl dJ7_fill_d0a16_22 (hK _ hQ)
    · have hs := ifSf hs c1; have hQ := ifQf hQ c1
      refine g_aload_n 0 dJ7_fill_d0a16_12 rfl ?_
      refine g_iload_n 2 dJ7_fill_d0a16_13 rfl ?_
      refine g_lload_n 1 dJ7_fill_d0a16_14 rfl ?_
      have h2 := hs.1; have hs := hs.2
      refine g_last 221 dF_Es_parts h2 dJ7_fill_d0a16_15 (fun M3 hM3 => ?_)
      have hQ := bndQ hQ M3 hM3; have hs := bndS hs M3 hM3
      refine g_iinc 2 (v := x3 + 1) _ dJ7_fill_d0a16_16 rfl rfl (by decide) rfl ?_
      refine g_goto 6 dJ7_fill_d0a16_19 (by decide) ?_
      refine g_sub [1, 2, 0, 3] _ rfl ?_
      exact ih M3 (x3 + 1) hs hQ
def f_J7_fill_d0a16 (M : gM) (x1 : Int64) : gM :=
  f_J7_fill_d0a16_6 x1 11 FU M 0
def s_J7_fill_d0a16 (M : gM) (x1 : Int64) : Prop :=
  s_J7_fill_d0a16_6 x1 11 FU M 0
theorem o_J7_fill_d0a16 (M : gM) (x1 : Int64) : offW [61] M (f_J7_fill_d0a16 M x1) := by
  rw [f_J7_fill_d0a16]
  exact (o_J7_fill_d0a16_6 x1 11 FU M 0)
set_option maxRecDepth 100000 in
set_option maxHeartbeats 4000000 in
theorem t_J7_fill_d0a16 {E : gE} {K : gM → Prop} {Q : Option Value → gM → Prop} (hK : ∀ z : gM, K z → Q none z) (M : gM) (x1 : Int64)  (hs : s_J7_fill_d0a16 M x1) (hQ : K (f_J7_fill_d0a16 M x1)) : gG E RJ7 cJ7_fill_d0a16 5 none (rm 0) 0 [(0, .ref (gla E 221)), (1, .long x1)] [] M Q := by
  rw [s_J7_fill_d0a16] at hs
  rw [f_J7_fill_d0a16] at hQ
  refine g_iconst (v := 0) dJ7_fill_d0a16_0 (by decide) ?_
  refine g_istore_n _ dJ7_fill_d0a16_1 (by decide) rfl ?_
  refine g_aload_n 1 dJ7_fill_d0a16_2 rfl ?_
  refine g_alen (v := 11) 221 rfl dF_Es_parts rfl dJ7_fill_d0a16_3 ?_
  refine g_istore _ dJ7_fill_d0a16_4 (by decide) rfl ?_
  refine g_sub [2, 3, 1, 0] _ rfl ?_
  exact t_J7_fill_d0a16_6 hK x1 11 FU M 0 hs hQ
theorem c_J7_fill_d0a16 (E : gE) (M : gM) (x1 : Int64) (hs : s_J7_fill_d0a16 M x1) : gC E yJ7_fill_d0a16 cJ7_fill_d0a16 5 none (rm 0) [.ref (gla E 221), .long x1] M (fun o N => o = none ∧ N = f_J7_fill_d0a16 M x1) :=
  gC.of (by decide +kernel) (Nat.le_of_ble_eq_true rfl) rfl (t_J7_fill_d0a16 (K := fun z => z = f_J7_fill_d0a16 M x1) (fun z hz => ⟨rfl, hz⟩) M x1 hs rfl)
def f_X2_keep (M : gM) (x1 : Int32) (x2 : Int32) (x3 : Int32) : gM :=
  bnd (wrI M 64 0 0 (nn (rdI M 62 0 0 0)) x1) fun M2 =>
  (bnd (wrI M2 65 0 0 (nn (rdI M2 62 0 0 0)) x2) fun M4 =>
  (bnd (wrI M4 66 0 0 (nn (rdI M4 62 0 0 0)) x3) fun M6 =>
  (bnd (wrI M6 62 0 0 0 (((rdI M6 62 0 0 0) + 1) - ((rdI M6 62 0 0 0) + 1) / 16 * 16)) fun M7 =>
  (bnd (wrI M7 63 0 0 0 (mn ((rdI M7 63 0 0 0) + 1) 16)) fun M8 =>
  (M8)))))
def s_X2_keep (M : gM) (x1 : Int32) (x2 : Int32) (x3 : Int32) : Prop :=
  (vp_in (rdI M 62 0 0 0) 16) ∧
  (bndP (wrI M 64 0 0 (nn (rdI M 62 0 0 0)) x1) fun M2 =>
  ((vp_in (rdI M2 62 0 0 0) 16) ∧
  (bndP (wrI M2 65 0 0 (nn (rdI M2 62 0 0 0)) x2) fun M4 =>
  ((vp_in (rdI M4 62 0 0 0) 16) ∧
  (bndP (wrI M4 66 0 0 (nn (rdI M4 62 0 0 0)) x3) fun M6 =>
  (bndP (wrI M6 62 0 0 0 (((rdI M6 62 0 0 0) + 1) - ((rdI M6 62 0 0 0) + 1) / 16 * 16)) fun M7 =>
  (bndP (wrI M7 63 0 0 0 (mn ((rdI M7 63 0 0 0) + 1) 16)) fun M8 =>
  (True))))))))
theorem o_X2_keep (M : gM) (x1 : Int32) (x2 : Int32) (x3 : Int32) : offW [62, 63, 64, 65, 66] M (f_X2_keep M x1 x2 x3) := by
  rw [f_X2_keep]
  refine offB (offR.wI (by decide)) (fun M2 oM2 => ?_)
  refine offB (oM2.wI (by decide)) (fun M4 oM4 => ?_)
  refine offB (oM4.wI (by decide)) (fun M6 oM6 => ?_)
  refine offB (oM6.wI (by decide)) (fun M7 oM7 => ?_)
  refine offB (oM7.wI (by decide)) (fun M8 oM8 => ?_)
  exact oM8
set_option maxRecDepth 100000 in
set_option maxHeartbeats 4000000 in
theorem t_X2_keep {E : gE} {K : gM → Prop} {Q : Option Value → gM → Prop} (hK : ∀ z : gM, K z → Q none z) (M : gM) (x1 : Int32) (x2 : Int32) (x3 : Int32)  (hs : s_X2_keep M x1 x2 x3) (hQ : K (f_X2_keep M x1 x2 x3)) : gG E RX2 cX2_keep 4 none (rm 1) 0 [(0, .ref (gla E 222)), (1, .int x1), (2, .int x2), (3, .int x3)] [] M Q := by
  rw [s_X2_keep] at hs
  rw [f_X2_keep] at hQ
  refine g_aload_n 0 dX2_keep_0 rfl ?_
  refine g_getR 222 223 fd_X2_9 dF_Hi rfl rfl dX2_keep_1 ?_
  refine g_aload_n 0 dX2_keep_4 rfl ?_
  refine g_getI 222 fd_X2_21 dF_Hi rfl dX2_keep_5 ?_
  refine g_iload_n 1 dX2_keep_8 rfl ?_
  have h1 := hs.1; have hs := hs.2
  refine g_iast 223 dF_Hi_kinds h1 dX2_keep_9 (fun M2 hM2 => ?_)
  have hQ := bndQ hQ M2 hM2; have hs := bndS hs M2 hM2
  refine g_aload_n 0 dX2_keep_10 rfl ?_
  refine g_getR 222 224 fd_X2_15 dF_Hi rfl rfl dX2_keep_11 ?_
  refine g_aload_n 0 dX2_keep_14 rfl ?_
  refine g_getI 222 fd_X2_21 dF_Hi rfl dX2_keep_15 ?_
  refine g_iload_n 2 dX2_keep_18 rfl ?_
  have h3 := hs.1; have hs := hs.2
  refine g_iast 224 dF_Hi_numbers h3 dX2_keep_19 (fun M4 hM4 => ?_)
  have hQ := bndQ hQ M4 hM4; have hs := bndS hs M4 hM4
  refine g_aload_n 0 dX2_keep_20 rfl ?_
  refine g_getR 222 225 fd_X2_18 dF_Hi rfl rfl dX2_keep_21 ?_
  refine g_aload_n 0 dX2_keep_24 rfl ?_
  refine g_getI 222 fd_X2_21 dF_Hi rfl dX2_keep_25 ?_
  refine g_iload_n 3 dX2_keep_28 rfl ?_
  have h5 := hs.1; have hs := hs.2
  refine g_iast 225 dF_Hi_befores h5 dX2_keep_29 (fun M6 hM6 => ?_)
  have hQ := bndQ hQ M6 hM6; have hs := bndS hs M6 hM6
  refine g_aload_n 0 dX2_keep_30 rfl ?_
  refine g_aload_n 0 dX2_keep_31 rfl ?_
  refine g_getI 222 fd_X2_21 dF_Hi rfl dX2_keep_32 ?_
  refine g_iconst (v := 1) dX2_keep_35 (by decide) ?_
  refine g_iadd dX2_keep_36 ?_
  refine g_bipush (v := 16) dX2_keep_37 (by decide) ?_
  refine g_irem dX2_keep_39 (by decide) ?_
  refine g_putI 222 fd_X2_21 dF_Hi rfl dX2_keep_40 (fun M7 hM7 => ?_)
  have hQ := bndQ hQ M7 hM7; have hs := bndS hs M7 hM7
  refine g_aload_n 0 dX2_keep_43 rfl ?_
  refine g_aload_n 0 dX2_keep_44 rfl ?_
  refine g_getI 222 fd_X2_25 dF_Hi rfl dX2_keep_45 ?_
  refine g_iconst (v := 1) dX2_keep_48 (by decide) ?_
  refine g_iadd dX2_keep_49 ?_
  refine g_bipush (v := 16) dX2_keep_50 (by decide) ?_
  refine g_mmin ml_X2_32 ms_min ms_ini mc_min ⟨by decide, Nat.le_of_ble_eq_true rfl, Nat.zero_le _, Nat.zero_le _⟩ dX2_keep_52 ?_
  refine g_putI 222 fd_X2_25 dF_Hi rfl dX2_keep_55 (fun M8 hM8 => ?_)
  have hQ := bndQ hQ M8 hM8; have hs := bndS hs M8 hM8
  exact g_vret rfl dX2_keep_58 (hK _ hQ)
theorem c_X2_keep (E : gE) (M : gM) (x1 : Int32) (x2 : Int32) (x3 : Int32) (hs : s_X2_keep M x1 x2 x3) : gC E yX2_keep cX2_keep 4 none (rm 1) [.ref (gla E 222), .int x1, .int x2, .int x3] M (fun o N => o = none ∧ N = f_X2_keep M x1 x2 x3) :=
  gC.of (by decide +kernel) (Nat.le_of_ble_eq_true rfl) rfl (t_X2_keep (K := fun z => z = f_X2_keep M x1 x2 x3) (fun z hz => ⟨rfl, hz⟩) M x1 x2 x3 hs rfl)
def f_X7_clear_2 (r : Nat)  : Nat → gM → Int32 → gM
  | 0, M, _ => M
  | n + 1, M, x1 =>
    if 2 ≤ x1 then
      (bnd (wrI M 4 r 0 0 0) fun M2 =>
      (bnd (wrI M2 5 r 0 0 0) fun M3 =>
      (bnd (wrI M3 6 r 0 0 0) fun M4 =>
      (bnd (wrI M4 7 r 0 0 0) fun M5 =>
      (bnd (wrI M5 8 r 0 0 0) fun M6 =>
      (M6))))))
    else
      (bnd (f_X3_clear M r (nn x1)) fun M9 =>
      (f_X7_clear_2 r n M9 (x1 + 1)))
def s_X7_clear_2 (r : Nat)  : Nat → gM → Int32 → Prop
  | 0, _, _ => False
  | n + 1, M, x1 =>
    if 2 ≤ x1 then
      (bndP (wrI M 4 r 0 0 0) fun M2 =>
      (bndP (wrI M2 5 r 0 0 0) fun M3 =>
      (bndP (wrI M3 6 r 0 0 0) fun M4 =>
      (bndP (wrI M4 7 r 0 0 0) fun M5 =>
      (bndP (wrI M5 8 r 0 0 0) fun M6 =>
      (True))))))
    else
      ((vp_in x1 2) ∧
      ((s_X3_clear M r (nn x1)) ∧
      (bndP (f_X3_clear M r (nn x1)) fun M9 =>
      (s_X7_clear_2 r n M9 (x1 + 1)))))
theorem o_X7_clear_2 (r : Nat)  : ∀ (n : Nat) (M : gM) (x1 : Int32), offW [4, 5, 6, 7, 8, 13, 14, 15, 16, 17, 18] M (f_X7_clear_2 r  n M x1) := by
  intro n
  induction n with
  | zero => intro M x1; exact offR
  | succ n ih =>
    intro M x1
    rw [f_X7_clear_2]
    refine offI ?_ ?_
    · refine offB (offR.wI (by decide)) (fun M2 oM2 => ?_)
      refine offB (oM2.wI (by decide)) (fun M3 oM3 => ?_)
      refine offB (oM3.wI (by decide)) (fun M4 oM4 => ?_)
      refine offB (oM4.wI (by decide)) (fun M5 oM5 => ?_)
      refine offB (oM5.wI (by decide)) (fun M6 oM6 => ?_)
      exact oM6
    · refine offB (offR.tr ((o_X3_clear M r (nn x1)).mono (by decide))) (fun M9 oM9 => ?_)
      exact oM9.tr (ih M9 (x1 + 1))
set_option maxRecDepth 100000 in
set_option maxHeartbeats 4000000 in
theorem t_X7_clear_2 {E : gE} {K : gM → Prop} {Q : Option Value → gM → Prop} (hK : ∀ z : gM, K z → Q none z) (r : Nat) (hr : r < 2)  : ∀ (n : Nat) (M : gM) (x1 : Int32) , s_X7_clear_2 r  n M x1 → K (f_X7_clear_2 r  n M x1) → gG E RX7 cX7_clear 2 none (rm 1) 2 [(0, .ref (gla E (rgC r))), (1, .int x1)] [] M Q := by
  intro n
  induction n with
  | zero => intro M x1 hs hQ; exact (hs : False).elim
  | succ n ih =>
    intro M x1 hs hQ
    rw [s_X7_clear_2] at hs
    rw [f_X7_clear_2] at hQ
    refine g_iload_n 1 dX7_clear_2 rfl ?_
    refine g_iconst (v := 2) dX7_clear_3 (by decide) ?_
    refine g_icmp_ge 22 dX7_clear_4 (by decide) (fun c1 => ?_) (fun c1 => ?_)
    · have hs := ifSt hs c1; have hQ := ifQt hQ c1
      refine g_aload_n 0 dX7_clear_22 rfl ?_
      refine g_iconst (v := 0) dX7_clear_23 (by decide) ?_
      refine g_putI (rgC r) fd_X7_56 (dF_Rg hr) rfl dX7_clear_24 (fun M2 hM2 => ?_)
      have hQ := bndQ hQ M2 hM2; have hs := bndS hs M2 hM2
      refine g_aload_n 0 dX7_clear_27 rfl ?_
      refine g_iconst (v := 0) dX7_clear_28 (by decide) ?_
      refine g_putI (rgC r) fd_X7_60 (dF_Rg hr) rfl dX7_clear_29 (fun M3 hM3 => ?_)
      have hQ := bndQ hQ M3 hM3; have hs := bndS hs M3 hM3
      refine g_aload_n 0 dX7_clear_32 rfl ?_
      refine g_iconst (v := 0) dX7_clear_33 (by decide) ?_
      refine g_putI (rgC r) fd_X7_63 (dF_Rg hr) rfl dX7_clear_34 (fun M4 hM4 => ?_)
      have hQ := bndQ hQ M4 hM4; have hs := bndS hs M4 hM4
      refine g_aload_n 0 dX7_clear_37 rfl ?_
      refine g_iconst (v := 0) dX7_clear_38 (by decide) ?_
      refine g_putI (rgC r) fd_X7_66 (dF_Rg hr) rfl dX7_clear_39 (fun M5 hM5 => ?_)
      have hQ := bndQ hQ M5 hM5; have hs := bndS hs M5 hM5
      refine g_aload_n 0 dX7_clear_42 rfl ?_
      refine g_iconst (v := 0) dX7_clear_43 (by decide) ?_
      refine g_putI (rgC r) fd_X7_69 (dF_Rg hr) rfl dX7_clear_44 (fun M6 hM6 => ?_)
      have hQ := bndQ hQ M6 hM6; have hs := bndS hs M6 hM6
      exact g_vret rfl dX7_clear_47 (hK _ hQ)
    · have hs := ifSf hs c1; have hQ := ifQf hQ c1
      refine g_aload_n 0 dX7_clear_7 rfl ?_
      refine g_getR (rgC r) (rgC r + 1) fd_X7_11 (dF_Rg hr) rfl rfl dX7_clear_8 ?_
      refine g_iload_n 1 dX7_clear_11 rfl ?_
      have h7 := hs.1; have hs := hs.2
      refine g_aald (rgC r + 1) (laC r (nn x1)) rfl (dF_Rg_lands hr) h7 (aj_La _ _) dX7_clear_12 ?_
      have h8 := hs.1; have hs := hs.2
      refine g_callV (As := []) (st := []) (laC r (nn x1)) (c_X3_clear E M r (nn x1) hr (vpL h7) h8) mt_X3_clear ml_X7_55 (dF_La hr (vpL h7)) rfl rfl sg_X3_clear rfl (by decide) (Nat.le_of_ble_eq_true rfl) dX7_clear_13 ?_
      rintro _ M9 ⟨rfl, hM9⟩
      have hQ := bndQ hQ M9 hM9; have hs := bndS hs M9 hM9
      refine g_iinc 1 (v := x1 + 1) _ dX7_clear_16 rfl rfl (by decide) rfl ?_
      refine g_goto 2 dX7_clear_19 (by decide) ?_
      refine g_sub [1, 0] _ rfl ?_
      exact ih M9 (x1 + 1) hs hQ
def f_X7_clear (M : gM) (r : Nat) : gM :=
  f_X7_clear_2 r FU M 0
def s_X7_clear (M : gM) (r : Nat) : Prop :=
  s_X7_clear_2 r FU M 0
theorem o_X7_clear (M : gM) (r : Nat) : offW [4, 5, 6, 7, 8, 13, 14, 15, 16, 17, 18] M (f_X7_clear M r) := by
  rw [f_X7_clear]
  exact (o_X7_clear_2 r FU M 0)
set_option maxRecDepth 100000 in
set_option maxHeartbeats 4000000 in
theorem t_X7_clear {E : gE} {K : gM → Prop} {Q : Option Value → gM → Prop} (hK : ∀ z : gM, K z → Q none z) (M : gM) (r : Nat) (hr : r < 2) (hs : s_X7_clear M r) (hQ : K (f_X7_clear M r)) : gG E RX7 cX7_clear 2 none (rm 1) 0 [(0, .ref (gla E (rgC r)))] [] M Q := by
  rw [s_X7_clear] at hs
  rw [f_X7_clear] at hQ
  refine g_iconst (v := 0) dX7_clear_0 (by decide) ?_
  refine g_istore_n _ dX7_clear_1 (by decide) rfl ?_
  refine g_sub [1, 0] _ rfl ?_
  exact t_X7_clear_2 hK r hr FU M 0 hs hQ
theorem c_X7_clear (E : gE) (M : gM) (r : Nat) (hr : r < 2) (hs : s_X7_clear M r) : gC E yX7_clear cX7_clear 2 none (rm 1) [.ref (gla E (rgC r))] M (fun o N => o = none ∧ N = f_X7_clear M r) :=
  gC.of (by decide +kernel) (Nat.le_of_ble_eq_true rfl) rfl (t_X7_clear (K := fun z => z = f_X7_clear M r) (fun z hz => ⟨rfl, hz⟩) M r hr hs rfl)
def f_X7_lostPapers_4 (M : gM) (r : Nat)  : Nat → Int32 → Int32 → Int32
  | 0, _, _ => 0
  | n + 1, x1, x2 =>
    if (rdI M 7 r 0 0) ≤ x2 then
      (x1)
    else
      (if (f_X5_isLost M r (nn x2)) = 0 then
        (f_X7_lostPapers_4 M r n (x1 + 0) (x2 + 1))
      else
        (f_X7_lostPapers_4 M r n (x1 + 1) (x2 + 1)))
def s_X7_lostPapers_4 (M : gM) (r : Nat)  : Nat → Int32 → Int32 → Prop
  | 0, _, _ => False
  | n + 1, x1, x2 =>
    if (rdI M 7 r 0 0) ≤ x2 then
      (True)
    else
      ((vp_in x2 12) ∧
      ((s_X5_isLost M r (nn x2)) ∧
      (if (f_X5_isLost M r (nn x2)) = 0 then
        (s_X7_lostPapers_4 M r n (x1 + 0) (x2 + 1))
      else
        (s_X7_lostPapers_4 M r n (x1 + 1) (x2 + 1)))))
set_option maxRecDepth 100000 in
set_option maxHeartbeats 4000000 in
theorem t_X7_lostPapers_4 {E : gE} {K : Int32 → Prop} {Q : Option Value → gM → Prop} {M : gM} (hK : ∀ z : Int32, K z → Q (some (.int z)) M) (r : Nat) (hr : r < 2)  : ∀ (n : Nat) (x1 : Int32) (x2 : Int32) , s_X7_lostPapers_4 M r  n x1 x2 → K (f_X7_lostPapers_4 M r  n x1 x2) → gG E RX7 cX7_lostPapers 3 (some .int) (rm 1) 4 [(0, .ref (gla E (rgC r))), (1, .int x1), (2, .int x2)] [] M Q := by
  intro n
  induction n with
  | zero => intro x1 x2 hs hQ; exact (hs : False).elim
  | succ n ih =>
    intro x1 x2 hs hQ
    rw [s_X7_lostPapers_4] at hs
    rw [f_X7_lostPapers_4] at hQ
    refine g_iload_n 2 dX7_lostPapers_4 rfl ?_
    refine g_aload_n 0 dX7_lostPapers_5 rfl ?_
    refine g_getI (rgC r) fd_X7_66 (dF_Rg hr) rfl dX7_lostPapers_6 ?_
    refine g_icmp_ge 38 dX7_lostPapers_9 (by decide) (fun c1 => ?_) (fun c1 => ?_)
    · have hs := ifSt hs c1; have hQ := ifQt hQ c1
      refine g_iload_n 1 dX7_lostPapers_38 rfl ?_
      exact g_iret rfl dX7_lostPapers_39 (hK _ hQ)
    · have hs := ifSf hs c1; have hQ := ifQf hQ c1
      refine g_iload_n 1 dX7_lostPapers_12 rfl ?_
      refine g_aload_n 0 dX7_lostPapers_13 rfl ?_
      refine g_getR (rgC r) (rgC r + 4) fd_X7_31 (dF_Rg hr) rfl rfl dX7_lostPapers_14 ?_
      refine g_iload_n 2 dX7_lostPapers_17 rfl ?_
      have h2 := hs.1; have hs := hs.2
      refine g_aald (rgC r + 4) (paC r (nn x2)) rfl (dF_Rg_papers hr) h2 (aj_Pa _ _) dX7_lostPapers_18 ?_
      have h3 := hs.1; have hs := hs.2
      refine g_callV (As := []) (st := [.int x1]) (paC r (nn x2)) (c_X5_isLost E M r (nn x2) hr (vpL h2) h3) mt_X5_isLost ml_X7_93 (dF_Pa hr (vpL h2)) rfl rfl sg_X5_isLost rfl (by decide) (Nat.le_of_ble_eq_true rfl) dX7_lostPapers_19 ?_
      rintro _ _ ⟨q1, q2⟩; rw [q1, q2]; clear q1 q2
      refine g_if_eq 29 dX7_lostPapers_22 (by decide) (fun c4 => ?_) (fun c4 => ?_)
      · have hs := ifSt hs c4; have hQ := ifQt hQ c4
        refine g_iconst (v := 0) dX7_lostPapers_29 (by decide) ?_
        refine g_iadd dX7_lostPapers_30 ?_
        refine g_istore_n _ dX7_lostPapers_31 (by decide) rfl ?_
        refine g_iinc 2 (v := x2 + 1) _ dX7_lostPapers_32 rfl rfl (by decide) rfl ?_
        refine g_goto 4 dX7_lostPapers_35 (by decide) ?_
        refine g_sub [2, 1, 0] _ rfl ?_
        exact ih (x1 + 0) (x2 + 1) hs hQ
      · have hs := ifSf hs c4; have hQ := ifQf hQ c4
        refine g_iconst (v := 1) dX7_lostPapers_25 (by decide) ?_
        refine g_goto 30 dX7_lostPapers_26 (by decide) ?_
        refine g_iadd dX7_lostPapers_30 ?_
        refine g_istore_n _ dX7_lostPapers_31 (by decide) rfl ?_
        refine g_iinc 2 (v := x2 + 1) _ dX7_lostPapers_32 rfl rfl (by decide) rfl ?_
        refine g_goto 4 dX7_lostPapers_35 (by decide) ?_
        refine g_sub [2, 1, 0] _ rfl ?_
        exact ih (x1 + 1) (x2 + 1) hs hQ
def f_X7_lostPapers (M : gM) (r : Nat) : Int32 :=
  f_X7_lostPapers_4 M r FU 0 0
def s_X7_lostPapers (M : gM) (r : Nat) : Prop :=
  s_X7_lostPapers_4 M r FU 0 0
set_option maxRecDepth 100000 in
set_option maxHeartbeats 4000000 in
theorem t_X7_lostPapers {E : gE} {K : Int32 → Prop} {Q : Option Value → gM → Prop} {M : gM} (hK : ∀ z : Int32, K z → Q (some (.int z)) M)  (r : Nat) (hr : r < 2) (hs : s_X7_lostPapers M r) (hQ : K (f_X7_lostPapers M r)) : gG E RX7 cX7_lostPapers 3 (some .int) (rm 1) 0 [(0, .ref (gla E (rgC r)))] [] M Q := by
  rw [s_X7_lostPapers] at hs
  rw [f_X7_lostPapers] at hQ
  refine g_iconst (v := 0) dX7_lostPapers_0 (by decide) ?_
  refine g_istore_n _ dX7_lostPapers_1 (by decide) rfl ?_
  refine g_iconst (v := 0) dX7_lostPapers_2 (by decide) ?_
  refine g_istore_n _ dX7_lostPapers_3 (by decide) rfl ?_
  refine g_sub [2, 1, 0] _ rfl ?_
  exact t_X7_lostPapers_4 hK r hr FU 0 0 hs hQ
theorem c_X7_lostPapers (E : gE) (M : gM) (r : Nat) (hr : r < 2) (hs : s_X7_lostPapers M r) : gC E yX7_lostPapers cX7_lostPapers 3 (some .int) (rm 1) [.ref (gla E (rgC r))] M (fun o N => o = some (.int (f_X7_lostPapers M r)) ∧ N = M) :=
  gC.of (by decide +kernel) (Nat.le_of_ble_eq_true rfl) rfl (t_X7_lostPapers (K := fun z => z = f_X7_lostPapers M r) (fun z hz => by rw [hz]; exact ⟨rfl, rfl⟩) r hr hs rfl)
def f_X7_deaths_4 (M : gM) (r : Nat)  : Nat → Int32 → Int32 → Int32
  | 0, _, _ => 0
  | n + 1, x1, x2 =>
    if (rdI M 5 r 0 0) ≤ x2 then
      (x1)
    else
      (if (f_X6_isMortal M r (nn x2)) = 0 then
        (f_X7_deaths_4 M r n (x1 + 0) (x2 + 1))
      else
        (f_X7_deaths_4 M r n (x1 + 1) (x2 + 1)))
def s_X7_deaths_4 (M : gM) (r : Nat)  : Nat → Int32 → Int32 → Prop
  | 0, _, _ => False
  | n + 1, x1, x2 =>
    if (rdI M 5 r 0 0) ≤ x2 then
      (True)
    else
      ((vp_in x2 10) ∧
      ((s_X6_isMortal M r (nn x2)) ∧
      (if (f_X6_isMortal M r (nn x2)) = 0 then
        (s_X7_deaths_4 M r n (x1 + 0) (x2 + 1))
      else
        (s_X7_deaths_4 M r n (x1 + 1) (x2 + 1)))))
set_option maxRecDepth 100000 in
set_option maxHeartbeats 4000000 in
theorem t_X7_deaths_4 {E : gE} {K : Int32 → Prop} {Q : Option Value → gM → Prop} {M : gM} (hK : ∀ z : Int32, K z → Q (some (.int z)) M) (r : Nat) (hr : r < 2)  : ∀ (n : Nat) (x1 : Int32) (x2 : Int32) , s_X7_deaths_4 M r  n x1 x2 → K (f_X7_deaths_4 M r  n x1 x2) → gG E RX7 cX7_deaths 3 (some .int) (rm 1) 4 [(0, .ref (gla E (rgC r))), (1, .int x1), (2, .int x2)] [] M Q := by
  intro n
  induction n with
  | zero => intro x1 x2 hs hQ; exact (hs : False).elim
  | succ n ih =>
    intro x1 x2 hs hQ
    rw [s_X7_deaths_4] at hs
    rw [f_X7_deaths_4] at hQ
    refine g_iload_n 2 dX7_deaths_4 rfl ?_
    refine g_aload_n 0 dX7_deaths_5 rfl ?_
    refine g_getI (rgC r) fd_X7_60 (dF_Rg hr) rfl dX7_deaths_6 ?_
    refine g_icmp_ge 38 dX7_deaths_9 (by decide) (fun c1 => ?_) (fun c1 => ?_)
    · have hs := ifSt hs c1; have hQ := ifQt hQ c1
      refine g_iload_n 1 dX7_deaths_38 rfl ?_
      exact g_iret rfl dX7_deaths_39 (hK _ hQ)
    · have hs := ifSf hs c1; have hQ := ifQf hQ c1
      refine g_iload_n 1 dX7_deaths_12 rfl ?_
      refine g_aload_n 0 dX7_deaths_13 rfl ?_
      refine g_getR (rgC r) (rgC r + 2) fd_X7_19 (dF_Rg hr) rfl rfl dX7_deaths_14 ?_
      refine g_iload_n 2 dX7_deaths_17 rfl ?_
      have h2 := hs.1; have hs := hs.2
      refine g_aald (rgC r + 2) (peC r (nn x2)) rfl (dF_Rg_persons hr) h2 (aj_Pe _ _) dX7_deaths_18 ?_
      have h3 := hs.1; have hs := hs.2
      refine g_callV (As := []) (st := [.int x1]) (peC r (nn x2)) (c_X6_isMortal E M r (nn x2) hr (vpL h2) h3) mt_X6_isMortal ml_X7_97 (dF_Pe hr (vpL h2)) rfl rfl sg_X6_isMortal rfl (by decide) (Nat.le_of_ble_eq_true rfl) dX7_deaths_19 ?_
      rintro _ _ ⟨q1, q2⟩; rw [q1, q2]; clear q1 q2
      refine g_if_eq 29 dX7_deaths_22 (by decide) (fun c4 => ?_) (fun c4 => ?_)
      · have hs := ifSt hs c4; have hQ := ifQt hQ c4
        refine g_iconst (v := 0) dX7_deaths_29 (by decide) ?_
        refine g_iadd dX7_deaths_30 ?_
        refine g_istore_n _ dX7_deaths_31 (by decide) rfl ?_
        refine g_iinc 2 (v := x2 + 1) _ dX7_deaths_32 rfl rfl (by decide) rfl ?_
        refine g_goto 4 dX7_deaths_35 (by decide) ?_
        refine g_sub [2, 1, 0] _ rfl ?_
        exact ih (x1 + 0) (x2 + 1) hs hQ
      · have hs := ifSf hs c4; have hQ := ifQf hQ c4
        refine g_iconst (v := 1) dX7_deaths_25 (by decide) ?_
        refine g_goto 30 dX7_deaths_26 (by decide) ?_
        refine g_iadd dX7_deaths_30 ?_
        refine g_istore_n _ dX7_deaths_31 (by decide) rfl ?_
        refine g_iinc 2 (v := x2 + 1) _ dX7_deaths_32 rfl rfl (by decide) rfl ?_
        refine g_goto 4 dX7_deaths_35 (by decide) ?_
        refine g_sub [2, 1, 0] _ rfl ?_
        exact ih (x1 + 1) (x2 + 1) hs hQ
def f_X7_deaths (M : gM) (r : Nat) : Int32 :=
  f_X7_deaths_4 M r FU 0 0
def s_X7_deaths (M : gM) (r : Nat) : Prop :=
  s_X7_deaths_4 M r FU 0 0
set_option maxRecDepth 100000 in
set_option maxHeartbeats 4000000 in
theorem t_X7_deaths {E : gE} {K : Int32 → Prop} {Q : Option Value → gM → Prop} {M : gM} (hK : ∀ z : Int32, K z → Q (some (.int z)) M)  (r : Nat) (hr : r < 2) (hs : s_X7_deaths M r) (hQ : K (f_X7_deaths M r)) : gG E RX7 cX7_deaths 3 (some .int) (rm 1) 0 [(0, .ref (gla E (rgC r)))] [] M Q := by
  rw [s_X7_deaths] at hs
  rw [f_X7_deaths] at hQ
  refine g_iconst (v := 0) dX7_deaths_0 (by decide) ?_
  refine g_istore_n _ dX7_deaths_1 (by decide) rfl ?_
  refine g_iconst (v := 0) dX7_deaths_2 (by decide) ?_
  refine g_istore_n _ dX7_deaths_3 (by decide) rfl ?_
  refine g_sub [2, 1, 0] _ rfl ?_
  exact t_X7_deaths_4 hK r hr FU 0 0 hs hQ
theorem c_X7_deaths (E : gE) (M : gM) (r : Nat) (hr : r < 2) (hs : s_X7_deaths M r) : gC E yX7_deaths cX7_deaths 3 (some .int) (rm 1) [.ref (gla E (rgC r))] M (fun o N => o = some (.int (f_X7_deaths M r)) ∧ N = M) :=
  gC.of (by decide +kernel) (Nat.le_of_ble_eq_true rfl) rfl (t_X7_deaths (K := fun z => z = f_X7_deaths M r) (fun z hz => by rw [hz]; exact ⟨rfl, rfl⟩) r hr hs rfl)
def f_X7_livingOn_4 (M : gM) (r : Nat) (x1 : Int32)  : Nat → Int32 → Int32 → Int32
  | 0, _, _ => 0
  | n + 1, x2, x3 =>
    if (rdI M 5 r 0 0) ≤ x3 then
      (x2)
    else
      (if (f_X6_livesOn M r (nn x3) x1) = 0 then
        (f_X7_livingOn_4 M r x1 n x2 (x3 + 1))
      else
        (bnd (x2 ||| (1 <<< (x3 &&& 31))) fun v5 =>
        (f_X7_livingOn_4 M r x1 n v5 (x3 + 1))))
def s_X7_livingOn_4 (M : gM) (r : Nat) (x1 : Int32)  : Nat → Int32 → Int32 → Prop
  | 0, _, _ => False
  | n + 1, x2, x3 =>
    if (rdI M 5 r 0 0) ≤ x3 then
      (True)
    else
      ((vp_in x3 10) ∧
      ((s_X6_livesOn M r (nn x3) x1) ∧
      (if (f_X6_livesOn M r (nn x3) x1) = 0 then
        (s_X7_livingOn_4 M r x1 n x2 (x3 + 1))
      else
        (bndP (x2 ||| (1 <<< (x3 &&& 31))) fun v5 =>
        (s_X7_livingOn_4 M r x1 n v5 (x3 + 1))))))
set_option maxRecDepth 100000 in
set_option maxHeartbeats 4000000 in
theorem t_X7_livingOn_4 {E : gE} {K : Int32 → Prop} {Q : Option Value → gM → Prop} {M : gM} (hK : ∀ z : Int32, K z → Q (some (.int z)) M) (r : Nat) (x1 : Int32) (hr : r < 2)  : ∀ (n : Nat) (x2 : Int32) (x3 : Int32) , s_X7_livingOn_4 M r x1  n x2 x3 → K (f_X7_livingOn_4 M r x1  n x2 x3) → gG E RX7 cX7_livingOn 4 (some .int) (rm 1) 4 [(0, .ref (gla E (rgC r))), (1, .int x1), (2, .int x2), (3, .int x3)] [] M Q := by
  intro n
  induction n with
  | zero => intro x2 x3 hs hQ; exact (hs : False).elim
  | succ n ih =>
    intro x2 x3 hs hQ
    rw [s_X7_livingOn_4] at hs
    rw [f_X7_livingOn_4] at hQ
    refine g_iload_n 3 dX7_livingOn_4 rfl ?_
    refine g_aload_n 0 dX7_livingOn_5 rfl ?_
    refine g_getI (rgC r) fd_X7_60 (dF_Rg hr) rfl dX7_livingOn_6 ?_
    refine g_icmp_ge 37 dX7_livingOn_9 (by decide) (fun c1 => ?_) (fun c1 => ?_)
    · have hs := ifSt hs c1; have hQ := ifQt hQ c1
      refine g_iload_n 2 dX7_livingOn_37 rfl ?_
      exact g_iret rfl dX7_livingOn_38 (hK _ hQ)
    · have hs := ifSf hs c1; have hQ := ifQf hQ c1
      refine g_aload_n 0 dX7_livingOn_12 rfl ?_
      refine g_getR (rgC r) (rgC r + 2) fd_X7_19 (dF_Rg hr) rfl rfl dX7_livingOn_13 ?_
      refine g_iload_n 3 dX7_livingOn_16 rfl ?_
      have h2 := hs.1; have hs := hs.2
      refine g_aald (rgC r + 2) (peC r (nn x3)) rfl (dF_Rg_persons hr) h2 (aj_Pe _ _) dX7_livingOn_17 ?_
      refine g_iload_n 1 dX7_livingOn_18 rfl ?_
      have h3 := hs.1; have hs := hs.2
      refine g_callV (As := [.int x1]) (st := []) (peC r (nn x3)) (c_X6_livesOn E M r (nn x3) hr (vpL h2) x1 h3) mt_X6_livesOn ml_X7_100 (dF_Pe hr (vpL h2)) rfl rfl sg_X6_livesOn rfl (by decide) (Nat.le_of_ble_eq_true rfl) dX7_livingOn_19 ?_
      rintro _ _ ⟨q1, q2⟩; rw [q1, q2]; clear q1 q2
      refine g_if_eq 31 dX7_livingOn_22 (by decide) (fun c4 => ?_) (fun c4 => ?_)
      · have hs := ifSt hs c4; have hQ := ifQt hQ c4
        refine g_iinc 3 (v := x3 + 1) _ dX7_livingOn_31 rfl rfl (by decide) rfl ?_
        refine g_goto 4 dX7_livingOn_34 (by decide) ?_
        refine g_sub [1, 2, 3, 0] _ rfl ?_
        exact ih x2 (x3 + 1) hs hQ
      · have hs := ifSf hs c4; have hQ := ifQf hQ c4
        refine g_iload_n 2 dX7_livingOn_25 rfl ?_
        refine g_iconst (v := 1) dX7_livingOn_26 (by decide) ?_
        refine g_iload_n 3 dX7_livingOn_27 rfl ?_
        refine g_ishl dX7_livingOn_28 ?_
        refine g_ior dX7_livingOn_29 ?_
        refine g_topI (fun v5 hv5 => ?_)
        have hQ := bndQ hQ v5 hv5; have hs := bndS hs v5 hv5
        refine g_istore_n _ dX7_livingOn_30 (by decide) rfl ?_
        refine g_iinc 3 (v := x3 + 1) _ dX7_livingOn_31 rfl rfl (by decide) rfl ?_
        refine g_goto 4 dX7_livingOn_34 (by decide) ?_
        refine g_sub [2, 3, 1, 0] _ rfl ?_
        exact ih v5 (x3 + 1) hs hQ
def f_X7_livingOn (M : gM) (r : Nat) (x1 : Int32) : Int32 :=
  f_X7_livingOn_4 M r x1 FU 0 0
def s_X7_livingOn (M : gM) (r : Nat) (x1 : Int32) : Prop :=
  s_X7_livingOn_4 M r x1 FU 0 0
set_option maxRecDepth 100000 in
set_option maxHeartbeats 4000000 in
theorem t_X7_livingOn {E : gE} {K : Int32 → Prop} {Q : Option Value → gM → Prop} {M : gM} (hK : ∀ z : Int32, K z → Q (some (.int z)) M)  (r : Nat) (x1 : Int32) (hr : r < 2) (hs : s_X7_livingOn M r x1) (hQ : K (f_X7_livingOn M r x1)) : gG E RX7 cX7_livingOn 4 (some .int) (rm 1) 0 [(0, .ref (gla E (rgC r))), (1, .int x1)] [] M Q := by
  rw [s_X7_livingOn] at hs
  rw [f_X7_livingOn] at hQ
  refine g_iconst (v := 0) dX7_livingOn_0 (by decide) ?_
  refine g_istore_n _ dX7_livingOn_1 (by decide) rfl ?_
  refine g_iconst (v := 0) dX7_livingOn_2 (by decide) ?_
  refine g_istore_n _ dX7_livingOn_3 (by decide) rfl ?_
  refine g_sub [2, 3, 1, 0] _ rfl ?_
  exact t_X7_livingOn_4 hK r x1 hr FU 0 0 hs hQ
theorem c_X7_livingOn (E : gE) (M : gM) (r : Nat) (hr : r < 2) (x1 : Int32) (hs : s_X7_livingOn M r x1) : gC E yX7_livingOn cX7_livingOn 4 (some .int) (rm 1) [.ref (gla E (rgC r)), .int x1] M (fun o N => o = some (.int (f_X7_livingOn M r x1)) ∧ N = M) :=
  gC.of (by decide +kernel) (Nat.le_of_ble_eq_true rfl) rfl (t_X7_livingOn (K := fun z => z = f_X7_livingOn M r x1) (fun z hz => by rw [hz]; exact ⟨rfl, rfl⟩) r x1 hr hs rfl)
def f_X7_deathBehind_64 (M : gM) (r : Nat) (x1 : Int32) (x3 : Int32) (k4 : Int32 → Int32 → Int32) : Int32 :=
  k4 x3 (x3 + 1)
def s_X7_deathBehind_64 (M : gM) (r : Nat) (x1 : Int32) (x3 : Int32) (q4 : Int32 → Int32 → Prop) : Prop :=
  q4 x3 (x3 + 1)
set_option maxRecDepth 100000 in
set_option maxHeartbeats 4000000 in
theorem t_X7_deathBehind_64 {E : gE} {K : Int32 → Prop} {Q : Option Value → gM → Prop} {M : gM} (hK : ∀ z : Int32, K z → Q (some (.int z)) M) (r : Nat) (x1 : Int32) (x3 : Int32) (hr : r < 2) (k4 : Int32 → Int32 → Int32) (q4 : Int32 → Int32 → Prop) (hk4 : ∀ (x2 : Int32) (x3 : Int32) , q4 x2 x3 → K (k4 x2 x3) → gG E RX7 cX7_deathBehind 5 (some .int) (rm 1) 4 [(0, .ref (gla E (rgC r))), (1, .int x1), (2, .int x2), (3, .int x3)] [] M Q) (hs : s_X7_deathBehind_64 M r x1 x3 q4) (hQ : K (f_X7_deathBehind_64 M r x1 x3 k4)) : gG E RX7 cX7_deathBehind 5 (some .int) (rm 1) 64 [(0, .ref (gla E (rgC r))), (1, .int x1), (3, .int x3)] [] M Q := by
  rw [s_X7_deathBehind_64] at hs
  rw [f_X7_deathBehind_64] at hQ
  refine g_iload_n 2 dX7_deathBehind_64 rfl ?_
  refine g_istore_n _ dX7_deathBehind_65 (by decide) rfl ?_
  refine g_iinc 3 (v := x3 + 1) _ dX7_deathBehind_66 rfl rfl (by decide) rfl ?_
  refine g_goto 4 dX7_deathBehind_69 (by decide) ?_
  refine g_sub [2, 3, 1, 0] _ rfl ?_
  exact hk4 x3 (x3 + 1) hs hQ
def f_X7_deathBehind_43 (M : gM) (r : Nat) (x1 : Int32) (x2 : Int32) (x3 : Int32) (y0 : Int32) (k4 : Int32 → Int32 → Int32) : Int32 :=
  if y0 = 0 then
    (k4 x2 (x3 + 1))
  else
    (if x2 = (-1) then
      (f_X7_deathBehind_64 M r x1 x3 k4)
    else
      (if (f_X7_diesAheadOf M r x3 x2) = 0 then
        (k4 x2 (x3 + 1))
      else
        (f_X7_deathBehind_64 M r x1 x3 k4)))
def s_X7_deathBehind_43 (M : gM) (r : Nat) (x1 : Int32) (x2 : Int32) (x3 : Int32) (y0 : Int32) (q4 : Int32 → Int32 → Prop) : Prop :=
  if y0 = 0 then
    (q4 x2 (x3 + 1))
  else
    (if x2 = (-1) then
      (s_X7_deathBehind_64 M r x1 x3 q4)
    else
      ((s_X7_diesAheadOf M r x3 x2) ∧
      (if (f_X7_diesAheadOf M r x3 x2) = 0 then
        (q4 x2 (x3 + 1))
      else
        (s_X7_deathBehind_64 M r x1 x3 q4))))
set_option maxRecDepth 100000 in
set_option maxHeartbeats 4000000 in
theorem t_X7_deathBehind_43 {E : gE} {K : Int32 → Prop} {Q : Option Value → gM → Prop} {M : gM} (hK : ∀ z : Int32, K z → Q (some (.int z)) M) (r : Nat) (x1 : Int32) (x2 : Int32) (x3 : Int32) (y0 : Int32) (hr : r < 2) (k4 : Int32 → Int32 → Int32) (q4 : Int32 → Int32 → Prop) (hk4 : ∀ (x2 : Int32) (x3 : Int32) , q4 x2 x3 → K (k4 x2 x3) → gG E RX7 cX7_deathBehind 5 (some .int) (rm 1) 4 [(0, .ref (gla E (rgC r))), (1, .int x1), (2, .int x2), (3, .int x3)] [] M Q) (hs : s_X7_deathBehind_43 M r x1 x2 x3 y0 q4) (hQ : K (f_X7_deathBehind_43 M r x1 x2 x3 y0 k4)) : gG E RX7 cX7_deathBehind 5 (some .int) (rm 1) 43 [(0, .ref (gla E (rgC r))), (1, .int x1), (2, .int x2), (3, .int x3)] [.int y0] M Q := by
  rw [s_X7_deathBehind_43] at hs
  rw [f_X7_deathBehind_43] at hQ
  refine g_istore _ dX7_deathBehind_43 (by decide) rfl ?_
  refine g_iload 0 dX7_deathBehind_45 rfl ?_
  refine g_if_eq 66 dX7_deathBehind_47 (by decide) (fun c8 => ?_) (fun c8 => ?_)
  · have hs := ifSt hs c8; have hQ := ifQt hQ c8
    refine g_iinc 4 (v := x3 + 1) _ dX7_deathBehind_66 rfl rfl (by decide) rfl ?_
    refine g_goto 4 dX7_deathBehind_69 (by decide) ?_
    refine g_sub [2, 3, 4, 0] _ rfl ?_
    exact hk4 x2 (x3 + 1) hs hQ
  · have hs := ifSf hs c8; have hQ := ifQf hQ c8
    refine g_iload_n 3 dX7_deathBehind_50 rfl ?_
    refine g_iconst (v := (-1)) dX7_deathBehind_51 (by decide) ?_
    refine g_icmp_eq 64 dX7_deathBehind_52 (by decide) (fun c9 => ?_) (fun c9 => ?_)
    · have hs := ifSt hs c9; have hQ := ifQt hQ c9
      refine g_sub [1, 2, 4] _ rfl ?_
      exact t_X7_deathBehind_64 hK r x1 x3 hr k4 q4 hk4 hs hQ
    · have hs := ifSf hs c9; have hQ := ifQf hQ c9
      refine g_aload_n 1 dX7_deathBehind_55 rfl ?_
      refine g_iload_n 4 dX7_deathBehind_56 rfl ?_
      refine g_iload_n 3 dX7_deathBehind_57 rfl ?_
      have h10 := hs.1; have hs := hs.2
      refine g_callV (As := [.int x3, .int x2]) (st := []) (rgC r) (c_X7_diesAheadOf E M r hr x3 x2 h10) mt_X7_diesAheadOf ml_X7_115 (dF_Rg hr) rfl rfl sg_X7_diesAheadOf rfl (by decide) (Nat.le_of_ble_eq_true rfl) dX7_deathBehind_58 ?_
      rintro _ _ ⟨q1, q2⟩; rw [q1, q2]; clear q1 q2
      refine g_if_eq 66 dX7_deathBehind_61 (by decide) (fun c11 => ?_) (fun c11 => ?_)
      · have hs := ifSt hs c11; have hQ := ifQt hQ c11
        refine g_iinc 4 (v := x3 + 1) _ dX7_deathBehind_66 rfl rfl (by decide) rfl ?_
        refine g_goto 4 dX7_deathBehind_69 (by decide) ?_
        refine g_sub [2, 3, 4, 0] _ rfl ?_
        exact hk4 x2 (x3 + 1) hs hQ
      · have hs := ifSf hs c11; have hQ := ifQf hQ c11
        refine g_sub [1, 2, 4] _ rfl ?_
        exact t_X7_deathBehind_64 hK r x1 x3 hr k4 q4 hk4 hs hQ
def f_X7_deathBehind_38 (M : gM) (r : Nat) (x1 : Int32) (x2 : Int32) (x3 : Int32) (k4 : Int32 → Int32 → Int32) : Int32 :=
  f_X7_deathBehind_43 M r x1 x2 x3 1 k4
def s_X7_deathBehind_38 (M : gM) (r : Nat) (x1 : Int32) (x2 : Int32) (x3 : Int32) (q4 : Int32 → Int32 → Prop) : Prop :=
  s_X7_deathBehind_43 M r x1 x2 x3 1 q4
set_option maxRecDepth 100000 in
set_option maxHeartbeats 4000000 in
theorem t_X7_deathBehind_38 {E : gE} {K : Int32 → Prop} {Q : Option Value → gM → Prop} {M : gM} (hK : ∀ z : Int32, K z → Q (some (.int z)) M) (r : Nat) (x1 : Int32) (x2 : Int32) (x3 : Int32) (hr : r < 2) (k4 : Int32 → Int32 → Int32) (q4 : Int32 → Int32 → Prop) (hk4 : ∀ (x2 : Int32) (x3 : Int32) , q4 x2 x3 → K (k4 x2 x3) → gG E RX7 cX7_deathBehind 5 (some .int) (rm 1) 4 [(0, .ref (gla E (rgC r))), (1, .int x1), (2, .int x2), (3, .int x3)] [] M Q) (hs : s_X7_deathBehind_38 M r x1 x2 x3 q4) (hQ : K (f_X7_deathBehind_38 M r x1 x2 x3 k4)) : gG E RX7 cX7_deathBehind 5 (some .int) (rm 1) 38 [(0, .ref (gla E (rgC r))), (1, .int x1), (2, .int x2), (3, .int x3)] [] M Q := by
  rw [s_X7_deathBehind_38] at hs
  rw [f_X7_deathBehind_38] at hQ
  refine g_iconst (v := 1) dX7_deathBehind_38 (by decide) ?_
  refine g_goto 43 dX7_deathBehind_39 (by decide) ?_
  exact t_X7_deathBehind_43 hK r x1 x2 x3 1 hr k4 q4 hk4 hs hQ
def f_X7_deathBehind_42 (M : gM) (r : Nat) (x1 : Int32) (x2 : Int32) (x3 : Int32) (k4 : Int32 → Int32 → Int32) : Int32 :=
  f_X7_deathBehind_43 M r x1 x2 x3 0 k4
def s_X7_deathBehind_42 (M : gM) (r : Nat) (x1 : Int32) (x2 : Int32) (x3 : Int32) (q4 : Int32 → Int32 → Prop) : Prop :=
  s_X7_deathBehind_43 M r x1 x2 x3 0 q4
set_option maxRecDepth 100000 in
set_option maxHeartbeats 4000000 in
theorem t_X7_deathBehind_42 {E : gE} {K : Int32 → Prop} {Q : Option Value → gM → Prop} {M : gM} (hK : ∀ z : Int32, K z → Q (some (.int z)) M) (r : Nat) (x1 : Int32) (x2 : Int32) (x3 : Int32) (hr : r < 2) (k4 : Int32 → Int32 → Int32) (q4 : Int32 → Int32 → Prop) (hk4 : ∀ (x2 : Int32) (x3 : Int32) , q4 x2 x3 → K (k4 x2 x3) → gG E RX7 cX7_deathBehind 5 (some .int) (rm 1) 4 [(0, .ref (gla E (rgC r))), (1, .int x1), (2, .int x2), (3, .int x3)] [] M Q) (hs : s_X7_deathBehind_42 M r x1 x2 x3 q4) (hQ : K (f_X7_deathBehind_42 M r x1 x2 x3 k4)) : gG E RX7 cX7_deathBehind 5 (some .int) (rm 1) 42 [(0, .ref (gla E (rgC r))), (1, .int x1), (2, .int x2), (3, .int x3)] [] M Q := by
  rw [s_X7_deathBehind_42] at hs
  rw [f_X7_deathBehind_42] at hQ
  refine g_iconst (v := 0) dX7_deathBehind_42 (by decide) ?_
  exact t_X7_deathBehind_43 hK r x1 x2 x3 0 hr k4 q4 hk4 hs hQ
def f_X7_deathBehind_4 (M : gM) (r : Nat) (x1 : Int32)  : Nat → Int32 → Int32 → Int32
  | 0, _, _ => 0
  | n + 1, x2, x3 =>
    if (rdI M 5 r 0 0) ≤ x3 then
      (x2)
    else
      (if (f_X6_isMortal M r (nn x3)) = 0 then
        (f_X7_deathBehind_42 M r x1 x2 x3 (f_X7_deathBehind_4 M r x1 n))
      else
        (if x1 = (-1) then
          (f_X7_deathBehind_38 M r x1 x2 x3 (f_X7_deathBehind_4 M r x1 n))
        else
          (if (f_X7_diesAheadOf M r x1 x3) = 0 then
            (f_X7_deathBehind_42 M r x1 x2 x3 (f_X7_deathBehind_4 M r x1 n))
          else
            (f_X7_deathBehind_38 M r x1 x2 x3 (f_X7_deathBehind_4 M r x1 n)))))
def s_X7_deathBehind_4 (M : gM) (r : Nat) (x1 : Int32)  : Nat → Int32 → Int32 → Prop
  | 0, _, _ => False
  | n + 1, x2, x3 =>
    if (rdI M 5 r 0 0) ≤ x3 then
      (True)
    else
      ((vp_in x3 10) ∧
      ((s_X6_isMortal M r (nn x3)) ∧
      (if (f_X6_isMortal M r (nn x3)) = 0 then
        (s_X7_deathBehind_42 M r x1 x2 x3 (s_X7_deathBehind_4 M r x1 n))
      else
        (if x1 = (-1) then
          (s_X7_deathBehind_38 M r x1 x2 x3 (s_X7_deathBehind_4 M r x1 n))
        else
          ((s_X7_diesAheadOf M r x1 x3) ∧
          (if (f_X7_diesAheadOf M r x1 x3) = 0 then
            (s_X7_deathBehind_42 M r x1 x2 x3 (s_X7_deathBehind_4 M r x1 n))
          else
            (s_X7_deathBehind_38 M r x1 x2 x3 (s_X7_deathBehind_4 M r x1 n))))))))
set_option maxRecDepth 100000 in
set_option maxHeartbeats 4000000 in
theorem t_X7_deathBehind_4 {E : gE} {K : Int32 → Prop} {Q : Option Value → gM → Prop} {M : gM} (hK : ∀ z : Int32, K z → Q (some (.int z)) M) (r : Nat) (x1 : Int32) (hr : r < 2)  : ∀ (n : Nat) (x2 : Int32) (x3 : Int32) , s_X7_deathBehind_4 M r x1  n x2 x3 → K (f_X7_deathBehind_4 M r x1  n x2 x3) → gG E RX7 cX7_deathBehind 5 (some .int) (rm 1) 4 [(0, .ref (gla E (rgC r))), (1, .int x1), (2, .int x2), (3, .int x3)] [] M Q := by
  intro n
  induction n with
  | zero => intro x2 x3 hs hQ; exact (hs : False).elim
  | succ n ih =>
    intro x2 x3 hs hQ
    rw [s_X7_deathBehind_4] at hs
    rw [f_X7_deathBehind_4] at hQ
    refine g_iload_n 3 dX7_deathBehind_4 rfl ?_
    refine g_aload_n 0 dX7_deathBehind_5 rfl ?_
    refine g_getI (rgC r) fd_X7_60 (dF_Rg hr) rfl dX7_deathBehind_6 ?_
    refine g_icmp_ge 72 dX7_deathBehind_9 (by decide) (fun c1 => ?_) (fun c1 => ?_)
    · have hs := ifSt hs c1; have hQ := ifQt hQ c1
      refine g_iload_n 2 dX7_deathBehind_72 rfl ?_
      exact g_iret rfl dX7_deathBehind_73 (hK _ hQ)
    · have hs := ifSf hs c1; have hQ := ifQf hQ c1
      refine g_aload_n 0 dX7_deathBehind_12 rfl ?_
      refine g_getR (rgC r) (rgC r + 2) fd_X7_19 (dF_Rg hr) rfl rfl dX7_deathBehind_13 ?_
      refine g_iload_n 3 dX7_deathBehind_16 rfl ?_
      have h2 := hs.1; have hs := hs.2
      refine g_aald (rgC r + 2) (peC r (nn x3)) rfl (dF_Rg_persons hr) h2 (aj_Pe _ _) dX7_deathBehind_17 ?_
      have h3 := hs.1; have hs := hs.2
      refine g_callV (As := []) (st := []) (peC r (nn x3)) (c_X6_isMortal E M r (nn x3) hr (vpL h2) h3) mt_X6_isMortal ml_X7_97 (dF_Pe hr (vpL h2)) rfl rfl sg_X6_isMortal rfl (by decide) (Nat.le_of_ble_eq_true rfl) dX7_deathBehind_18 ?_
      rintro _ _ ⟨q1, q2⟩; rw [q1, q2]; clear q1 q2
      refine g_if_eq 42 dX7_deathBehind_21 (by decide) (fun c4 => ?_) (fun c4 => ?_)
      · have hs := ifSt hs c4; have hQ := ifQt hQ c4
        exact t_X7_deathBehind_42 hK r x1 x2 x3 hr (f_X7_deathBehind_4 M r x1 n) (s_X7_deathBehind_4 M r x1 n) ih hs hQ
      · have hs := ifSf hs c4; have hQ := ifQf hQ c4
        refine g_iload_n 1 dX7_deathBehind_24 rfl ?_
        refine g_iconst (v := (-1)) dX7_deathBehind_25 (by decide) ?_
        refine g_icmp_eq 38 dX7_deathBehind_26 (by decide) (fun c5 => ?_) (fun c5 => ?_)
        · have hs := ifSt hs c5; have hQ := ifQt hQ c5
          exact t_X7_deathBehind_38 hK r x1 x2 x3 hr (f_X7_deathBehind_4 M r x1 n) (s_X7_deathBehind_4 M r x1 n) ih hs hQ
        · have hs := ifSf hs c5; have hQ := ifQf hQ c5
          refine g_aload_n 0 dX7_deathBehind_29 rfl ?_
          refine g_iload_n 1 dX7_deathBehind_30 rfl ?_
          refine g_iload_n 3 dX7_deathBehind_31 rfl ?_
          have h6 := hs.1; have hs := hs.2
          refine g_callV (As := [.int x1, .int x3]) (st := []) (rgC r) (c_X7_diesAheadOf E M r hr x1 x3 h6) mt_X7_diesAheadOf ml_X7_115 (dF_Rg hr) rfl rfl sg_X7_diesAheadOf rfl (by decide) (Nat.le_of_ble_eq_true rfl) dX7_deathBehind_32 ?_
          rintro _ _ ⟨q1, q2⟩; rw [q1, q2]; clear q1 q2
          refine g_if_eq 42 dX7_deathBehind_35 (by decide) (fun c7 => ?_) (fun c7 => ?_)
          · have hs := ifSt hs c7; have hQ := ifQt hQ c7
            exact t_X7_deathBehind_42 hK r x1 x2 x3 hr (f_X7_deathBehind_4 M r x1 n) (s_X7_deathBehind_4 M r x1 n) ih hs hQ
          · have hs := ifSf hs c7; have hQ := ifQf hQ c7
            exact t_X7_deathBehind_38 hK r x1 x2 x3 hr (f_X7_deathBehind_4 M r x1 n) (s_X7_deathBehind_4 M r x1 n) ih hs hQ
def f_X7_deathBehind (M : gM) (r : Nat) (x1 : Int32) : Int32 :=
  f_X7_deathBehind_4 M r x1 FU (-1) 0
def s_X7_deathBehind (M : gM) (r : Nat) (x1 : Int32) : Prop :=
  s_X7_deathBehind_4 M r x1 FU (-1) 0
set_option maxRecDepth 100000 in
set_option maxHeartbeats 4000000 in
theorem t_X7_deathBehind {E : gE} {K : Int32 → Prop} {Q : Option Value → gM → Prop} {M : gM} (hK : ∀ z : Int32, K z → Q (some (.int z)) M)  (r : Nat) (x1 : Int32) (hr : r < 2) (hs : s_X7_deathBehind M r x1) (hQ : K (f_X7_deathBehind M r x1)) : gG E RX7 cX7_deathBehind 5 (some .int) (rm 1) 0 [(0, .ref (gla E (rgC r))), (1, .int x1)] [] M Q := by
  rw [s_X7_deathBehind] at hs
  rw [f_X7_deathBehind] at hQ
  refine g_iconst (v := (-1)) dX7_deathBehind_0 (by decide) ?_
  refine g_istore_n _ dX7_deathBehind_1 (by decide) rfl ?_
  refine g_iconst (v := 0) dX7_deathBehind_2 (by decide) ?_
  refine g_istore_n _ dX7_deathBehind_3 (by decide) rfl ?_
  refine g_sub [2, 3, 1, 0] _ rfl ?_
  exact t_X7_deathBehind_4 hK r x1 hr FU (-1) 0 hs hQ
theorem c_X7_deathBehind (E : gE) (M : gM) (r : Nat) (hr : r < 2) (x1 : Int32) (hs : s_X7_deathBehind M r x1) : gC E yX7_deathBehind cX7_deathBehind 5 (some .int) (rm 1) [.ref (gla E (rgC r)), .int x1] M (fun o N => o = some (.int (f_X7_deathBehind M r x1)) ∧ N = M) :=
  gC.of (by decide +kernel) (Nat.le_of_ble_eq_true rfl) rfl (t_X7_deathBehind (K := fun z => z = f_X7_deathBehind M r x1) (fun z hz => by rw [hz]; exact ⟨rfl, rfl⟩) r x1 hr hs rfl)
def f_X7_nearer (M : gM) (x0 : Int32) (x1 : Int32) (x2 : Int32) : Int32 :=
  if x1 ≤ x2 then
    (mn x0 (mx x2 (x1 + 1)))
  else
    (x0)
def s_X7_nearer (M : gM) (x0 : Int32) (x1 : Int32) (x2 : Int32) : Prop :=
  if x1 ≤ x2 then
    (True)
  else
    (True)
set_option maxRecDepth 100000 in
set_option maxHeartbeats 4000000 in
theorem t_X7_nearer {E : gE} {K : Int32 → Prop} {Q : Option Value → gM → Prop} {M : gM} (hK : ∀ z : Int32, K z → Q (some (.int z)) M)  (x0 : Int32) (x1 : Int32) (x2 : Int32)  (hs : s_X7_nearer M x0 x1 x2) (hQ : K (f_X7_nearer M x0 x1 x2)) : gG E RX7 cX7_nearer 3 (some .int) (rm 1) 0 [(0, .int x0), (1, .int x1), (2, .int x2)] [] M Q := by
  rw [s_X7_nearer] at hs
  rw [f_X7_nearer] at hQ
  refine g_iload_n 2 dX7_nearer_0 rfl ?_
  refine g_iload_n 1 dX7_nearer_1 rfl ?_
  refine g_icmp_ge 9 dX7_nearer_2 (by decide) (fun c1 => ?_) (fun c1 => ?_)
  · have hs := ifSt hs c1; have hQ := ifQt hQ c1
    refine g_iload_n 0 dX7_nearer_9 rfl ?_
    refine g_iload_n 2 dX7_nearer_10 rfl ?_
    refine g_iload_n 1 dX7_nearer_11 rfl ?_
    refine g_iconst (v := 1) dX7_nearer_12 (by decide) ?_
    refine g_iadd dX7_nearer_13 ?_
    refine g_mmax ml_X7_123 ms_max ms_ini mc_max ⟨by decide, Nat.le_of_ble_eq_true rfl, Nat.zero_le _, Nat.zero_le _⟩ dX7_nearer_14 ?_
    refine g_mmin ml_X7_128 ms_min ms_ini mc_min ⟨by decide, Nat.le_of_ble_eq_true rfl, Nat.zero_le _, Nat.zero_le _⟩ dX7_nearer_17 ?_
    exact g_iret rfl dX7_nearer_20 (hK _ hQ)
  · have hs := ifSf hs c1; have hQ := ifQf hQ c1
    refine g_iload_n 0 dX7_nearer_5 rfl ?_
    refine g_goto 20 dX7_nearer_6 (by decide) ?_
    exact g_iret rfl dX7_nearer_20 (hK _ hQ)
theorem c_X7_nearer (E : gE) (M : gM) (x0 : Int32) (x1 : Int32) (x2 : Int32) (hs : s_X7_nearer M x0 x1 x2) : gC E yX7_nearer cX7_nearer 3 (some .int) (rm 1) [.int x0, .int x1, .int x2] M (fun o N => o = some (.int (f_X7_nearer M x0 x1 x2)) ∧ N = M) :=
  gC.of (by decide +kernel) (Nat.le_of_ble_eq_true rfl) rfl (t_X7_nearer (K := fun z => z = f_X7_nearer M x0 x1 x2) (fun z hz => by rw [hz]; exact ⟨rfl, rfl⟩) x0 x1 x2 hs rfl)
def f_J0_length_8abf5 (M : gM) (w : Nat) : Int32 :=
  (nI (strL w)) >>> ((f_J0_coder_7d493 M w) &&& 31)
def s_J0_length_8abf5 (M : gM) (w : Nat) : Prop :=
  (s_J0_coder_7d493 M w) ∧
  (True)
set_option maxRecDepth 100000 in
set_option maxHeartbeats 4000000 in
theorem t_J0_length_8abf5 {E : gE} {K : Int32 → Prop} {Q : Option Value → gM → Prop} {M : gM} (hK : ∀ z : Int32, K z → Q (some (.int z)) M)  (w : Nat) (hw : w < 23) (hs : s_J0_length_8abf5 M w) (hQ : K (f_J0_length_8abf5 M w)) : gG E RJ0 cJ0_length_8abf5 1 (some .int) (rm 1) 0 [(0, .ref (gstr E w))] [] M Q := by
  rw [s_J0_length_8abf5] at hs
  rw [f_J0_length_8abf5] at hQ
  refine g_aload_n 0 dJ0_length_8abf5_0 rfl ?_
  refine g_svalue hw jl_J0_9 dJ0_length_8abf5_1 ?_
  refine g_svlen hw dJ0_length_8abf5_4 ?_
  refine g_aload_n 0 dJ0_length_8abf5_5 rfl ?_
  have h1 := hs.1; have hs := hs.2
  refine g_callT (As := []) (st := [.int (nI (strL w))]) w hw (c_J0_coder_7d493 E M w hw h1) mt_J0_coder_7d493 ml_J0_335 rfl sg_J0_coder_7d493 rfl (by decide) (Nat.le_of_ble_eq_true rfl) dJ0_length_8abf5_6 ?_
  rintro _ _ ⟨q1, q2⟩; rw [q1, q2]; clear q1 q2
  refine g_ishr dJ0_length_8abf5_9 ?_
  exact g_iret rfl dJ0_length_8abf5_10 (hK _ hQ)
theorem c_J0_length_8abf5 (E : gE) (M : gM) (w : Nat) (hw : w < 23) (hs : s_J0_length_8abf5 M w) : gC E yJ0_length_8abf5 cJ0_length_8abf5 1 (some .int) (rm 1) [.ref (gstr E w)] M (fun o N => o = some (.int (f_J0_length_8abf5 M w)) ∧ N = M) :=
  gC.of (by decide +kernel) (Nat.le_of_ble_eq_true rfl) rfl (t_J0_length_8abf5 (K := fun z => z = f_J0_length_8abf5 M w) (fun z hz => by rw [hz]; exact ⟨rfl, rfl⟩) w hw hs rfl)
def f_X7_heirsOf_61 (M : gM) (r : Nat) (x1 : Int32) (x3 : Int32)  : Int32 :=
  (rdI M 21 r (nn x1) 0) &&& x3
def s_X7_heirsOf_61 (M : gM) (r : Nat) (x1 : Int32) (x3 : Int32)  : Prop :=
  (vp_in x1 10) ∧
  (True)
set_option maxRecDepth 100000 in
set_option maxHeartbeats 4000000 in
theorem t_X7_heirsOf_61 {E : gE} {K : Int32 → Prop} {Q : Option Value → gM → Prop} {M : gM} (hK : ∀ z : Int32, K z → Q (some (.int z)) M) (r : Nat) (x1 : Int32) (x3 : Int32) (hr : r < 2)  (hs : s_X7_heirsOf_61 M r x1 x3 ) (hQ : K (f_X7_heirsOf_61 M r x1 x3 )) : gG E RX7 cX7_heirsOf 6 (some .int) (rm 2) 61 [(0, .ref (gla E (rgC r))), (1, .int x1), (3, .int x3)] [] M Q := by
  rw [s_X7_heirsOf_61] at hs
  rw [f_X7_heirsOf_61] at hQ
  refine g_aload_n 0 dX7_heirsOf_61 rfl ?_
  refine g_getR (rgC r) (rgC r + 2) fd_X7_19 (dF_Rg hr) rfl rfl dX7_heirsOf_62 ?_
  refine g_iload_n 1 dX7_heirsOf_65 rfl ?_
  have h11 := hs.1; have hs := hs.2
  refine g_aald (rgC r + 2) (peC r (nn x1)) rfl (dF_Rg_persons hr) h11 (aj_Pe _ _) dX7_heirsOf_66 ?_
  refine g_getI (peC r (nn x1)) fd_X7_78 (dF_Pe hr (vpL h11)) rfl dX7_heirsOf_67 ?_
  refine g_iload_n 2 dX7_heirsOf_70 rfl ?_
  refine g_iand dX7_heirsOf_71 ?_
  exact g_iret rfl dX7_heirsOf_72 (hK _ hQ)
def f_X7_heirsOf (M : gM) (r : Nat) (x1 : Int32) : Int32 :=
  bnd (f_X7_livingOn M r (rdI M 20 r (nn x1) 0)) fun v3 =>
  (bnd ((f_X7_childrenOf M r x1) &&& v3) fun v5 =>
  (if v5 = 0 then
    (bnd (f_X7_lastWedUpTo M r x1 (rdI M 20 r (nn x1) 0)) fun v8 =>
    (if v8 = (-1) then
      (f_X7_heirsOf_61 M r x1 v3)
    else
      (if ((v3 >>> (v8 &&& 31)) &&& 1) = 0 then
        (f_X7_heirsOf_61 M r x1 v3)
      else
        (1 <<< (v8 &&& 31)))))
  else
    (v5)))
def s_X7_heirsOf (M : gM) (r : Nat) (x1 : Int32) : Prop :=
  (vp_in x1 10) ∧
  ((s_X7_livingOn M r (rdI M 20 r (nn x1) 0)) ∧
  (bndP (f_X7_livingOn M r (rdI M 20 r (nn x1) 0)) fun v3 =>
  ((s_X7_childrenOf M r x1) ∧
  (bndP ((f_X7_childrenOf M r x1) &&& v3) fun v5 =>
  (if v5 = 0 then
    ((s_X7_lastWedUpTo M r x1 (rdI M 20 r (nn x1) 0)) ∧
    (bndP (f_X7_lastWedUpTo M r x1 (rdI M 20 r (nn x1) 0)) fun v8 =>
    (if v8 = (-1) then
      (s_X7_heirsOf_61 M r x1 v3)
    else
      (if ((v3 >>> (v8 &&& 31)) &&& 1) = 0 then
        (s_X7_heirsOf_61 M r x1 v3)
      else
        (True)))))
  else
    (True))))))
set_option maxRecDepth 100000 in
set_option maxHeartbeats 4000000 in
theorem t_X7_heirsOf {E : gE} {K : Int32 → Prop} {Q : Option Value → gM → Prop} {M : gM} (hK : ∀ z : Int32, K z → Q (some (.int z)) M)  (r : Nat) (x1 : Int32) (hr : r < 2) (hs : s_X7_heirsOf M r x1) (hQ : K (f_X7_heirsOf M r x1)) : gG E RX7 cX7_heirsOf 6 (some .int) (rm 2) 0 [(0, .ref (gla E (rgC r))), (1, .int x1)] [] M Q := by
  rw [s_X7_heirsOf] at hs
  rw [f_X7_heirsOf] at hQ
  refine g_aload_n 0 dX7_heirsOf_0 rfl ?_
  refine g_getR (rgC r) (rgC r + 2) fd_X7_19 (dF_Rg hr) rfl rfl dX7_heirsOf_1 ?_
  refine g_iload_n 1 dX7_heirsOf_4 rfl ?_
  have h1 := hs.1; have hs := hs.2
  refine g_aald (rgC r + 2) (peC r (nn x1)) rfl (dF_Rg_persons hr) h1 (aj_Pe _ _) dX7_heirsOf_5 ?_
  refine g_getI (peC r (nn x1)) fd_X7_75 (dF_Pe hr (vpL h1)) rfl dX7_heirsOf_6 ?_
  refine g_istore_n _ dX7_heirsOf_9 (by decide) rfl ?_
  refine g_aload_n 1 dX7_heirsOf_10 rfl ?_
  refine g_iload_n 0 dX7_heirsOf_11 rfl ?_
  have h2 := hs.1; have hs := hs.2
  refine g_callV (As := [.int (rdI M 20 r (nn x1) 0)]) (st := []) (rgC r) (c_X7_livingOn E M r hr (rdI M 20 r (nn x1) 0) h2) mt_X7_livingOn ml_X7_104 (dF_Rg hr) rfl rfl sg_X7_livingOn rfl (by decide) (Nat.le_of_ble_eq_true rfl) dX7_heirsOf_12 ?_
  rintro _ _ ⟨q1, q2⟩; rw [q1, q2]; clear q1 q2
  refine g_topI (fun v3 hv3 => ?_)
  have hQ := bndQ hQ v3 hv3; have hs := bndS hs v3 hv3
  refine g_istore_n _ dX7_heirsOf_15 (by decide) rfl ?_
  refine g_aload_n 2 dX7_heirsOf_16 rfl ?_
  refine g_iload_n 3 dX7_heirsOf_17 rfl ?_
  have h4 := hs.1; have hs := hs.2
  refine g_callV (As := [.int x1]) (st := []) (rgC r) (c_X7_childrenOf E M r hr x1 h4) mt_X7_childrenOf ml_X7_108 (dF_Rg hr) rfl rfl sg_X7_childrenOf rfl (by decide) (Nat.le_of_ble_eq_true rfl) dX7_heirsOf_18 ?_
  rintro _ _ ⟨q1, q2⟩; rw [q1, q2]; clear q1 q2
  refine g_iload_n 0 dX7_heirsOf_21 rfl ?_
  refine g_iand dX7_heirsOf_22 ?_
  refine g_topI (fun v5 hv5 => ?_)
  have hQ := bndQ hQ v5 hv5; have hs := bndS hs v5 hv5
  refine g_istore _ dX7_heirsOf_23 (by decide) rfl ?_
  refine g_iload 0 dX7_heirsOf_25 rfl ?_
  refine g_if_eq 33 dX7_heirsOf_27 (by decide) (fun c6 => ?_) (fun c6 => ?_)
  · have hs := ifSt hs c6; have hQ := ifQt hQ c6
    refine g_aload_n 3 dX7_heirsOf_33 rfl ?_
    refine g_iload_n 4 dX7_heirsOf_34 rfl ?_
    refine g_iload_n 2 dX7_heirsOf_35 rfl ?_
    have h7 := hs.1; have hs := hs.2
    refine g_callV (As := [.int x1, .int (rdI M 20 r (nn x1) 0)]) (st := []) (rgC r) (c_X7_lastWedUpTo E M r hr x1 (rdI M 20 r (nn x1) 0) h7) mt_X7_lastWedUpTo ml_X7_111 (dF_Rg hr) rfl rfl sg_X7_lastWedUpTo rfl (by decide) (Nat.le_of_ble_eq_true rfl) dX7_heirsOf_36 ?_
    rintro _ _ ⟨q1, q2⟩; rw [q1, q2]; clear q1 q2
    refine g_topI (fun v8 hv8 => ?_)
    have hQ := bndQ hQ v8 hv8; have hs := bndS hs v8 hv8
    refine g_istore _ dX7_heirsOf_39 (by decide) rfl ?_
    refine g_iload 0 dX7_heirsOf_41 rfl ?_
    refine g_iconst (v := (-1)) dX7_heirsOf_43 (by decide) ?_
    refine g_icmp_eq 61 dX7_heirsOf_44 (by decide) (fun c9 => ?_) (fun c9 => ?_)
    · have hs := ifSt hs c9; have hQ := ifQt hQ c9
      refine g_sub [4, 5, 2] _ rfl ?_
      exact t_X7_heirsOf_61 hK r x1 v3 hr hs hQ
    · have hs := ifSf hs c9; have hQ := ifQf hQ c9
      refine g_iload_n 2 dX7_heirsOf_47 rfl ?_
      refine g_iload 0 dX7_heirsOf_48 rfl ?_
      refine g_ishr dX7_heirsOf_50 ?_
      refine g_iconst (v := 1) dX7_heirsOf_51 (by decide) ?_
      refine g_iand dX7_heirsOf_52 ?_
      refine g_if_eq 61 dX7_heirsOf_53 (by decide) (fun c10 => ?_) (fun c10 => ?_)
      · have hs := ifSt hs c10; have hQ := ifQt hQ c10
        refine g_sub [4, 5, 2] _ rfl ?_
        exact t_X7_heirsOf_61 hK r x1 v3 hr hs hQ
      · have hs := ifSf hs c10; have hQ := ifQf hQ c10
        refine g_iconst (v := 1) dX7_heirsOf_56 (by decide) ?_
        refine g_iload 0 dX7_heirsOf_57 rfl ?_
        refine g_ishl dX7_heirsOf_59 ?_
        exact g_iret rfl dX7_heirsOf_60 (hK _ hQ)
  · have hs := ifSf hs c6; have hQ := ifQf hQ c6
    refine g_iload 0 dX7_heirsOf_30 rfl ?_
    exact g_iret rfl dX7_heirsOf_32 (hK _ hQ)
theorem c_X7_heirsOf (E : gE) (M : gM) (r : Nat) (hr : r < 2) (x1 : Int32) (hs : s_X7_heirsOf M r x1) : gC E yX7_heirsOf cX7_heirsOf 6 (some .int) (rm 2) [.ref (gla E (rgC r)), .int x1] M (fun o N => o = some (.int (f_X7_heirsOf M r x1)) ∧ N = M) :=
  gC.of (by decide +kernel) (Nat.le_of_ble_eq_true rfl) rfl (t_X7_heirsOf (K := fun z => z = f_X7_heirsOf M r x1) (fun z hz => by rw [hz]; exact ⟨rfl, rfl⟩) r x1 hr hs rfl)
def f_X7_turnBehind_72 (M : gM) (r : Nat) (x1 : Int32) (x2 : Int32)  : Nat → Int32 → Int32 → Int32
  | 0, _, _ => 0
  | n + 1, x3, x4 =>
    if (rdI M 5 r 0 0) ≤ x4 then
      (x3)
    else
      (if x4 = x2 then
        (f_X7_turnBehind_72 M r x1 x2 n x3 (x4 + 1))
      else
        (if (f_X6_isMortal M r (nn x4)) = 0 then
          (f_X7_turnBehind_72 M r x1 x2 n x3 (x4 + 1))
        else
          (bnd (f_X7_nearer M x3 x1 (rdI M 20 r (nn x4) 0)) fun v16 =>
          (f_X7_turnBehind_72 M r x1 x2 n v16 (x4 + 1)))))
def s_X7_turnBehind_72 (M : gM) (r : Nat) (x1 : Int32) (x2 : Int32)  : Nat → Int32 → Int32 → Prop
  | 0, _, _ => False
  | n + 1, x3, x4 =>
    if (rdI M 5 r 0 0) ≤ x4 then
      (True)
    else
      (if x4 = x2 then
        (s_X7_turnBehind_72 M r x1 x2 n x3 (x4 + 1))
      else
        ((vp_in x4 10) ∧
        ((s_X6_isMortal M r (nn x4)) ∧
        (if (f_X6_isMortal M r (nn x4)) = 0 then
          (s_X7_turnBehind_72 M r x1 x2 n x3 (x4 + 1))
        else
          ((vp_in x4 10) ∧
          ((s_X7_nearer M x3 x1 (rdI M 20 r (nn x4) 0)) ∧
          (bndP (f_X7_nearer M x3 x1 (rdI M 20 r (nn x4) 0)) fun v16 =>
          (s_X7_turnBehind_72 M r x1 x2 n v16 (x4 + 1)))))))))
set_option maxRecDepth 100000 in
set_option maxHeartbeats 4000000 in
theorem t_X7_turnBehind_72 {E : gE} {K : Int32 → Prop} {Q : Option Value → gM → Prop} {M : gM} (hK : ∀ z : Int32, K z → Q (some (.int z)) M) (r : Nat) (x1 : Int32) (x2 : Int32) (hr : r < 2)  : ∀ (n : Nat) (x3 : Int32) (x4 : Int32) , s_X7_turnBehind_72 M r x1 x2  n x3 x4 → K (f_X7_turnBehind_72 M r x1 x2  n x3 x4) → gG E RX7 cX7_turnBehind 5 (some .int) (rm 2) 72 [(0, .ref (gla E (rgC r))), (1, .int x1), (2, .int x2), (3, .int x3), (4, .int x4)] [] M Q := by
  intro n
  induction n with
  | zero => intro x3 x4 hs hQ; exact (hs : False).elim
  | succ n ih =>
    intro x3 x4 hs hQ
    rw [s_X7_turnBehind_72] at hs
    rw [f_X7_turnBehind_72] at hQ
    refine g_iload 4 dX7_turnBehind_72 rfl ?_
    refine g_aload_n 0 dX7_turnBehind_74 rfl ?_
    refine g_getI (rgC r) fd_X7_60 (dF_Rg hr) rfl dX7_turnBehind_75 ?_
    refine g_icmp_ge 122 dX7_turnBehind_78 (by decide) (fun c9 => ?_) (fun c9 => ?_)
    · have hs := ifSt hs c9; have hQ := ifQt hQ c9
      refine g_iload_n 3 dX7_turnBehind_122 rfl ?_
      exact g_iret rfl dX7_turnBehind_123 (hK _ hQ)
    · have hs := ifSf hs c9; have hQ := ifQf hQ c9
      refine g_iload 4 dX7_turnBehind_81 rfl ?_
      refine g_iload_n 2 dX7_turnBehind_83 rfl ?_
      refine g_icmp_eq 116 dX7_turnBehind_84 (by decide) (fun c10 => ?_) (fun c10 => ?_)
      · have hs := ifSt hs c10; have hQ := ifQt hQ c10
        refine g_iinc 4 (v := x4 + 1) _ dX7_turnBehind_116 rfl rfl (by decide) rfl ?_
        refine g_goto 72 dX7_turnBehind_119 (by decide) ?_
        refine g_sub [1, 2, 3, 4, 0] _ rfl ?_
        exact ih x3 (x4 + 1) hs hQ
      · have hs := ifSf hs c10; have hQ := ifQf hQ c10
        refine g_aload_n 0 dX7_turnBehind_87 rfl ?_
        refine g_getR (rgC r) (rgC r + 2) fd_X7_19 (dF_Rg hr) rfl rfl dX7_turnBehind_88 ?_
        refine g_iload 4 dX7_turnBehind_91 rfl ?_
        have h11 := hs.1; have hs := hs.2
        refine g_aald (rgC r + 2) (peC r (nn x4)) rfl (dF_Rg_persons hr) h11 (aj_Pe _ _) dX7_turnBehind_93 ?_
        have h12 := hs.1; have hs := hs.2
        refine g_callV (As := []) (st := []) (peC r (nn x4)) (c_X6_isMortal E M r (nn x4) hr (vpL h11) h12) mt_X6_isMortal ml_X7_97 (dF_Pe hr (vpL h11)) rfl rfl sg_X6_isMortal rfl (by decide) (Nat.le_of_ble_eq_true rfl) dX7_turnBehind_94 ?_
        rintro _ _ ⟨q1, q2⟩; rw [q1, q2]; clear q1 q2
        refine g_if_eq 116 dX7_turnBehind_97 (by decide) (fun c13 => ?_) (fun c13 => ?_)
        · have hs := ifSt hs c13; have hQ := ifQt hQ c13
          refine g_iinc 4 (v := x4 + 1) _ dX7_turnBehind_116 rfl rfl (by decide) rfl ?_
          refine g_goto 72 dX7_turnBehind_119 (by decide) ?_
          refine g_sub [1, 2, 3, 4, 0] _ rfl ?_
          exact ih x3 (x4 + 1) hs hQ
        · have hs := ifSf hs c13; have hQ := ifQf hQ c13
          refine g_iload_n 3 dX7_turnBehind_100 rfl ?_
          refine g_iload_n 1 dX7_turnBehind_101 rfl ?_
          refine g_aload_n 0 dX7_turnBehind_102 rfl ?_
          refine g_getR (rgC r) (rgC r + 2) fd_X7_19 (dF_Rg hr) rfl rfl dX7_turnBehind_103 ?_
          refine g_iload 4 dX7_turnBehind_106 rfl ?_
          have h14 := hs.1; have hs := hs.2
          refine g_aald (rgC r + 2) (peC r (nn x4)) rfl (dF_Rg_persons hr) h14 (aj_Pe _ _) dX7_turnBehind_108 ?_
          refine g_getI (peC r (nn x4)) fd_X7_75 (dF_Pe hr (vpL h14)) rfl dX7_turnBehind_109 ?_
          have h15 := hs.1; have hs := hs.2
          refine g_callS (As := [.int x3, .int x1, .int (rdI M 20 r (nn x4) 0)]) (st := []) (c_X7_nearer E M x3 x1 (rdI M 20 r (nn x4) 0) h15) mt_X7_nearer ml_X7_119 sg_X7_nearer rfl (by decide) (Nat.le_of_ble_eq_true rfl) dX7_turnBehind_112 ?_
          rintro _ _ ⟨q1, q2⟩; rw [q1, q2]; clear q1 q2
          refine g_topI (fun v16 hv16 => ?_)
          have hQ := bndQ hQ v16 hv16; have hs := bndS hs v16 hv16
          refine g_istore_n _ dX7_turnBehind_115 (by decide) rfl ?_
          refine g_iinc 4 (v := x4 + 1) _ dX7_turnBehind_116 rfl rfl (by decide) rfl ?_
          refine g_goto 72 dX7_turnBehind_119 (by decide) ?_
          refine g_sub [2, 3, 4, 1, 0] _ rfl ?_
          exact ih v16 (x4 + 1) hs hQ
def f_X7_turnBehind_41 (M : gM) (r : Nat) (x1 : Int32) (x2 : Int32)  : Nat → Int32 → Int32 → Int32
  | 0, _, _ => 0
  | n + 1, x3, x4 =>
    if (rdI M 8 r 0 0) ≤ x4 then
      (f_X7_turnBehind_72 M r x1 x2 FU x3 0)
    else
      (bnd (f_X7_nearer M x3 x1 (rdI M 12 r 0 (nn x4))) fun v8 =>
      (f_X7_turnBehind_41 M r x1 x2 n v8 (x4 + 1)))
def s_X7_turnBehind_41 (M : gM) (r : Nat) (x1 : Int32) (x2 : Int32)  : Nat → Int32 → Int32 → Prop
  | 0, _, _ => False
  | n + 1, x3, x4 =>
    if (rdI M 8 r 0 0) ≤ x4 then
      (s_X7_turnBehind_72 M r x1 x2 FU x3 0)
    else
      ((vp_in x4 6) ∧
      ((s_X7_nearer M x3 x1 (rdI M 12 r 0 (nn x4))) ∧
      (bndP (f_X7_nearer M x3 x1 (rdI M 12 r 0 (nn x4))) fun v8 =>
      (s_X7_turnBehind_41 M r x1 x2 n v8 (x4 + 1)))))
set_option maxRecDepth 100000 in
set_option maxHeartbeats 4000000 in
theorem t_X7_turnBehind_41 {E : gE} {K : Int32 → Prop} {Q : Option Value → gM → Prop} {M : gM} (hK : ∀ z : Int32, K z → Q (some (.int z)) M) (r : Nat) (x1 : Int32) (x2 : Int32) (hr : r < 2)  : ∀ (n : Nat) (x3 : Int32) (x4 : Int32) , s_X7_turnBehind_41 M r x1 x2  n x3 x4 → K (f_X7_turnBehind_41 M r x1 x2  n x3 x4) → gG E RX7 cX7_turnBehind 5 (some .int) (rm 2) 41 [(0, .ref (gla E (rgC r))), (1, .int x1), (2, .int x2), (3, .int x3), (4, .int x4)] [] M Q := by
  intro n
  induction n with
  | zero => intro x3 x4 hs hQ; exact (hs : False).elim
  | succ n ih =>
    intro x3 x4 hs hQ
    rw [s_X7_turnBehind_41] at hs
    rw [f_X7_turnBehind_41] at hQ
    refine g_iload 4 dX7_turnBehind_41 rfl ?_
    refine g_aload_n 0 dX7_turnBehind_43 rfl ?_
    refine g_getI (rgC r) fd_X7_69 (dF_Rg hr) rfl dX7_turnBehind_44 ?_
    refine g_icmp_ge 69 dX7_turnBehind_47 (by decide) (fun c5 => ?_) (fun c5 => ?_)
    · have hs := ifSt hs c5; have hQ := ifQt hQ c5
      refine g_iconst (v := 0) dX7_turnBehind_69 (by decide) ?_
      refine g_istore _ dX7_turnBehind_70 (by decide) rfl ?_
      refine g_sub [1, 2, 3, 4, 0] _ rfl ?_
      exact t_X7_turnBehind_72 hK r x1 x2 hr FU x3 0 hs hQ
    · have hs := ifSf hs c5; have hQ := ifQf hQ c5
      refine g_iload_n 3 dX7_turnBehind_50 rfl ?_
      refine g_iload_n 1 dX7_turnBehind_51 rfl ?_
      refine g_aload_n 0 dX7_turnBehind_52 rfl ?_
      refine g_getR (rgC r) (rgC r + 8) fd_X7_45 (dF_Rg hr) rfl rfl dX7_turnBehind_53 ?_
      refine g_iload 4 dX7_turnBehind_56 rfl ?_
      have h6 := hs.1; have hs := hs.2
      refine g_iald (rgC r + 8) (dF_Rg_wedDay hr) h6 dX7_turnBehind_58 ?_
      have h7 := hs.1; have hs := hs.2
      refine g_callS (As := [.int x3, .int x1, .int (rdI M 12 r 0 (nn x4))]) (st := []) (c_X7_nearer E M x3 x1 (rdI M 12 r 0 (nn x4)) h7) mt_X7_nearer ml_X7_119 sg_X7_nearer rfl (by decide) (Nat.le_of_ble_eq_true rfl) dX7_turnBehind_59 ?_
      rintro _ _ ⟨q1, q2⟩; rw [q1, q2]; clear q1 q2
      refine g_topI (fun v8 hv8 => ?_)
      have hQ := bndQ hQ v8 hv8; have hs := bndS hs v8 hv8
      refine g_istore_n _ dX7_turnBehind_62 (by decide) rfl ?_
      refine g_iinc 4 (v := x4 + 1) _ dX7_turnBehind_63 rfl rfl (by decide) rfl ?_
      refine g_goto 41 dX7_turnBehind_66 (by decide) ?_
      refine g_sub [2, 3, 4, 1, 0] _ rfl ?_
      exact ih v8 (x4 + 1) hs hQ
def f_X7_turnBehind_7 (M : gM) (r : Nat) (x1 : Int32) (x2 : Int32)  : Nat → Int32 → Int32 → Int32
  | 0, _, _ => 0
  | n + 1, x3, x4 =>
    if (rdI M 7 r 0 0) ≤ x4 then
      (f_X7_turnBehind_41 M r x1 x2 FU x3 0)
    else
      (bnd (f_X7_nearer M x3 x1 (rdI M 26 r (nn x4) 0)) fun v4 =>
      (f_X7_turnBehind_7 M r x1 x2 n v4 (x4 + 1)))
def s_X7_turnBehind_7 (M : gM) (r : Nat) (x1 : Int32) (x2 : Int32)  : Nat → Int32 → Int32 → Prop
  | 0, _, _ => False
  | n + 1, x3, x4 =>
    if (rdI M 7 r 0 0) ≤ x4 then
      (s_X7_turnBehind_41 M r x1 x2 FU x3 0)
    else
      ((vp_in x4 12) ∧
      ((s_X7_nearer M x3 x1 (rdI M 26 r (nn x4) 0)) ∧
      (bndP (f_X7_nearer M x3 x1 (rdI M 26 r (nn x4) 0)) fun v4 =>
      (s_X7_turnBehind_7 M r x1 x2 n v4 (x4 + 1)))))
set_option maxRecDepth 100000 in
set_option maxHeartbeats 4000000 in
theorem t_X7_turnBehind_7 {E : gE} {K : Int32 → Prop} {Q : Option Value → gM → Prop} {M : gM} (hK : ∀ z : Int32, K z → Q (some (.int z)) M) (r : Nat) (x1 : Int32) (x2 : Int32) (hr : r < 2)  : ∀ (n : Nat) (x3 : Int32) (x4 : Int32) , s_X7_turnBehind_7 M r x1 x2  n x3 x4 → K (f_X7_turnBehind_7 M r x1 x2  n x3 x4) → gG E RX7 cX7_turnBehind 5 (some .int) (rm 2) 7 [(0, .ref (gla E (rgC r))), (1, .int x1), (2, .int x2), (3, .int x3), (4, .int x4)] [] M Q := by
  intro n
  induction n with
  | zero => intro x3 x4 hs hQ; exact (hs : False).elim
  | succ n ih =>
    intro x3 x4 hs hQ
    rw [s_X7_turnBehind_7] at hs
    rw [f_X7_turnBehind_7] at hQ
    refine g_iload 4 dX7_turnBehind_7 rfl ?_
    refine g_aload_n 0 dX7_turnBehind_9 rfl ?_
    refine g_getI (rgC r) fd_X7_66 (dF_Rg hr) rfl dX7_turnBehind_10 ?_
    refine g_icmp_ge 38 dX7_turnBehind_13 (by decide) (fun c1 => ?_) (fun c1 => ?_)
    · have hs := ifSt hs c1; have hQ := ifQt hQ c1
      refine g_iconst (v := 0) dX7_turnBehind_38 (by decide) ?_
      refine g_istore _ dX7_turnBehind_39 (by decide) rfl ?_
      refine g_sub [1, 2, 3, 4, 0] _ rfl ?_
      exact t_X7_turnBehind_41 hK r x1 x2 hr FU x3 0 hs hQ
    · have hs := ifSf hs c1; have hQ := ifQf hQ c1
      refine g_iload_n 3 dX7_turnBehind_16 rfl ?_
      refine g_iload_n 1 dX7_turnBehind_17 rfl ?_
      refine g_aload_n 0 dX7_turnBehind_18 rfl ?_
      refine g_getR (rgC r) (rgC r + 4) fd_X7_31 (dF_Rg hr) rfl rfl dX7_turnBehind_19 ?_
      refine g_iload 4 dX7_turnBehind_22 rfl ?_
      have h2 := hs.1; have hs := hs.2
      refine g_aald (rgC r + 4) (paC r (nn x4)) rfl (dF_Rg_papers hr) h2 (aj_Pa _ _) dX7_turnBehind_24 ?_
      refine g_getI (paC r (nn x4)) fd_X7_90 (dF_Pa hr (vpL h2)) rfl dX7_turnBehind_25 ?_
      have h3 := hs.1; have hs := hs.2
      refine g_callS (As := [.int x3, .int x1, .int (rdI M 26 r (nn x4) 0)]) (st := []) (c_X7_nearer E M x3 x1 (rdI M 26 r (nn x4) 0) h3) mt_X7_nearer ml_X7_119 sg_X7_nearer rfl (by decide) (Nat.le_of_ble_eq_true rfl) dX7_turnBehind_28 ?_
      rintro _ _ ⟨q1, q2⟩; rw [q1, q2]; clear q1 q2
      refine g_topI (fun v4 hv4 => ?_)
      have hQ := bndQ hQ v4 hv4; have hs := bndS hs v4 hv4
      refine g_istore_n _ dX7_turnBehind_31 (by decide) rfl ?_
      refine g_iinc 4 (v := x4 + 1) _ dX7_turnBehind_32 rfl rfl (by decide) rfl ?_
      refine g_goto 7 dX7_turnBehind_35 (by decide) ?_
      refine g_sub [2, 3, 4, 1, 0] _ rfl ?_
      exact ih v4 (x4 + 1) hs hQ
def f_X7_turnBehind (M : gM) (r : Nat) (x1 : Int32) (x2 : Int32) : Int32 :=
  f_X7_turnBehind_7 M r x1 x2 FU 10000 0
def s_X7_turnBehind (M : gM) (r : Nat) (x1 : Int32) (x2 : Int32) : Prop :=
  s_X7_turnBehind_7 M r x1 x2 FU 10000 0
set_option maxRecDepth 100000 in
set_option maxHeartbeats 4000000 in
theorem t_X7_turnBehind {E : gE} {K : Int32 → Prop} {Q : Option Value → gM → Prop} {M : gM} (hK : ∀ z : Int32, K z → Q (some (.int z)) M)  (r : Nat) (x1 : Int32) (x2 : Int32) (hr : r < 2) (hs : s_X7_turnBehind M r x1 x2) (hQ : K (f_X7_turnBehind M r x1 x2)) : gG E RX7 cX7_turnBehind 5 (some .int) (rm 2) 0 [(0, .ref (gla E (rgC r))), (1, .int x1), (2, .int x2)] [] M Q := by
  rw [s_X7_turnBehind] at hs
  rw [f_X7_turnBehind] at hQ
  refine g_sipush (v := 10000) dX7_turnBehind_0 (by decide) ?_
  refine g_istore_n _ dX7_turnBehind_3 (by decide) rfl ?_
  refine g_iconst (v := 0) dX7_turnBehind_4 (by decide) ?_
  refine g_istore _ dX7_turnBehind_5 (by decide) rfl ?_
  refine g_sub [2, 3, 4, 1, 0] _ rfl ?_
  exact t_X7_turnBehind_7 hK r x1 x2 hr FU 10000 0 hs hQ
theorem c_X7_turnBehind (E : gE) (M : gM) (r : Nat) (hr : r < 2) (x1 : Int32) (x2 : Int32) (hs : s_X7_turnBehind M r x1 x2) : gC E yX7_turnBehind cX7_turnBehind 5 (some .int) (rm 2) [.ref (gla E (rgC r)), .int x1, .int x2] M (fun o N => o = some (.int (f_X7_turnBehind M r x1 x2)) ∧ N = M) :=
  gC.of (by decide +kernel) (Nat.le_of_ble_eq_true rfl) rfl (t_X7_turnBehind (K := fun z => z = f_X7_turnBehind M r x1 x2) (fun z hz => by rw [hz]; exact ⟨rfl, rfl⟩) r x1 x2 hr hs rfl)
def f_J1_charAt_3b067 (M : gM) (w : Nat) (x1 : Int32) : Int32 :=
  nC ((strB w (nn x1)) &&& 255)
def s_J1_charAt_3b067 (M : gM) (w : Nat) (x1 : Int32) : Prop :=
  (¬ x1 < 0 ∧ x1 < (nI (strL w))) ∧
  ((vp_in x1 (strL w)) ∧
  ((narrow .char (.int (nC ((strB w (nn x1)) &&& 255))) = .int (nC ((strB w (nn x1)) &&& 255))) ∧
  (True)))
set_option maxRecDepth 100000 in
set_option maxHeartbeats 4000000 in
theorem t_J1_charAt_3b067 {E : gE} {K : Int32 → Prop} {Q : Option Value → gM → Prop} {M : gM} (hK : ∀ z : Int32, K z → Q (some (.int z)) M)  (w : Nat) (x1 : Int32) (hw : w < 23) (hs : s_J1_charAt_3b067 M w x1) (hQ : K (f_J1_charAt_3b067 M w x1)) : gG E RJ1 cJ1_charAt_3b067 2 (some .char) (rm 2) 0 [(0, .ref (gstv E w)), (1, .int x1)] [] M Q := by
  rw [s_J1_charAt_3b067] at hs
  rw [f_J1_charAt_3b067] at hQ
  refine g_iload_n 1 dJ1_charAt_3b067_0 rfl ?_
  refine g_aload_n 0 dJ1_charAt_3b067_1 rfl ?_
  refine g_svlen hw dJ1_charAt_3b067_2 ?_
  have h1 := hs.1; have hs := hs.2
  refine g_callS (As := [.int x1, .int (nI (strL w))]) (st := []) (c_J0_checkIndex_df160 E M x1 (nI (strL w)) h1) mt_J0_checkIndex_df160 ml_J1_9 sg_J0_checkIndex_df160 rfl (by decide) (Nat.le_of_ble_eq_true rfl) dJ1_charAt_3b067_3 ?_
  rintro _ _ ⟨q1, q2⟩; rw [q1, q2]; clear q1 q2
  refine g_aload_n 0 dJ1_charAt_3b067_6 rfl ?_
  refine g_iload_n 1 dJ1_charAt_3b067_7 rfl ?_
  have h2 := hs.1; have hs := hs.2
  refine g_svald hw h2 dJ1_charAt_3b067_8 ?_
  refine g_sipush (v := 255) dJ1_charAt_3b067_9 (by decide) ?_
  refine g_iand dJ1_charAt_3b067_12 ?_
  refine g_i2c dJ1_charAt_3b067_13 ?_
  have h3 := hs.1; have hs := hs.2
  exact g_cret rfl h3 dJ1_charAt_3b067_14 (hK _ hQ)
theorem c_J1_charAt_3b067 (E : gE) (M : gM) (w : Nat) (hw : w < 23) (x1 : Int32) (hs : s_J1_charAt_3b067 M w x1) : gC E yJ1_charAt_3b067 cJ1_charAt_3b067 2 (some .char) (rm 2) [.ref (gstv E w), .int x1] M (fun o N => o = some (.int (f_J1_charAt_3b067 M w x1)) ∧ N = M) :=
  gC.of (by decide +kernel) (Nat.le_of_ble_eq_true rfl) rfl (t_J1_charAt_3b067 (K := fun z => z = f_J1_charAt_3b067 M w x1) (fun z hz => by rw [hz]; exact ⟨rfl, rfl⟩) w x1 hw hs rfl)
def f_J0_charAt_5068e (M : gM) (w : Nat) (x1 : Int32) : Int32 :=
  if (f_J0_isLatin1_aae02 M w) = 0 then
    (0)
  else
    (f_J1_charAt_3b067 M w x1)
def s_J0_charAt_5068e (M : gM) (w : Nat) (x1 : Int32) : Prop :=
  (s_J0_isLatin1_aae02 M w) ∧
  (if (f_J0_isLatin1_aae02 M w) = 0 then
    (False)
  else
    ((s_J1_charAt_3b067 M w x1) ∧
    ((narrow .char (.int (f_J1_charAt_3b067 M w x1)) = .int (f_J1_charAt_3b067 M w x1)) ∧
    (True))))
set_option maxRecDepth 100000 in
set_option maxHeartbeats 4000000 in
theorem t_J0_charAt_5068e {E : gE} {K : Int32 → Prop} {Q : Option Value → gM → Prop} {M : gM} (hK : ∀ z : Int32, K z → Q (some (.int z)) M)  (w : Nat) (x1 : Int32) (hw : w < 23) (hs : s_J0_charAt_5068e M w x1) (hQ : K (f_J0_charAt_5068e M w x1)) : gG E RJ0 cJ0_charAt_5068e 2 (some .char) (rm 4) 0 [(0, .ref (gstr E w)), (1, .int x1)] [] M Q := by
  rw [s_J0_charAt_5068e] at hs
  rw [f_J0_charAt_5068e] at hQ
  refine g_aload_n 0 dJ0_charAt_5068e_0 rfl ?_
  have h1 := hs.1; have hs := hs.2
  refine g_callT (As := []) (st := []) w hw (c_J0_isLatin1_aae02 E M w hw h1) mt_J0_isLatin1_aae02 ml_J0_492 rfl sg_J0_isLatin1_aae02 rfl (by decide) (Nat.le_of_ble_eq_true rfl) dJ0_charAt_5068e_1 ?_
  rintro _ _ ⟨q1, q2⟩; rw [q1, q2]; clear q1 q2
  refine g_if_eq 16 dJ0_charAt_5068e_4 (by decide) (fun c2 => ?_) (fun c2 => ?_)
  · have hs := ifSt hs c2; have hQ := ifQt hQ c2
    refine g_aload_n 0 dJ0_charAt_5068e_16 rfl ?_
    refine g_svalue hw jl_J0_9 dJ0_charAt_5068e_17 ?_
    refine g_iload_n 1 dJ0_charAt_5068e_20 rfl ?_
    exact hs.elim
  · have hs := ifSf hs c2; have hQ := ifQf hQ c2
    refine g_aload_n 0 dJ0_charAt_5068e_7 rfl ?_
    refine g_svalue hw jl_J0_9 dJ0_charAt_5068e_8 ?_
    refine g_iload_n 1 dJ0_charAt_5068e_11 rfl ?_
    have h3 := hs.1; have hs := hs.2
    refine g_callS (As := [.ref (gstv E w), .int x1]) (st := []) (c_J1_charAt_3b067 E M w hw x1 h3) mt_J1_charAt_3b067 ml_J0_495 sg_J1_charAt_3b067 rfl (by decide) (Nat.le_of_ble_eq_true rfl) dJ0_charAt_5068e_12 ?_
    rintro _ _ ⟨q1, q2⟩; rw [q1, q2]; clear q1 q2
    have h4 := hs.1; have hs := hs.2
    exact g_cret rfl h4 dJ0_charAt_5068e_15 (hK _ hQ)
theorem c_J0_charAt_5068e (E : gE) (M : gM) (w : Nat) (hw : w < 23) (x1 : Int32) (hs : s_J0_charAt_5068e M w x1) : gC E yJ0_charAt_5068e cJ0_charAt_5068e 2 (some .char) (rm 4) [.ref (gstr E w), .int x1] M (fun o N => o = some (.int (f_J0_charAt_5068e M w x1)) ∧ N = M) :=
  gC.of (by decide +kernel) (Nat.le_of_ble_eq_true rfl) rfl (t_J0_charAt_5068e (K := fun z => z = f_J0_charAt_5068e M w x1) (fun z hz => by rw [hz]; exact ⟨rfl, rfl⟩) w x1 hw hs rfl)
end
