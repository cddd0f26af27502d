set_option linter.all false
noncomputable section
def wdW (E : gE) (b : Nat) (F : Nat → Nat → Nat) : va_W := (b, .inr (10, [.ref (F 0 0), .int 0, .int 0, .int (-1), .ref (F 1 0), .ref (F 2 0), .ref (F 3 0), .ref (F 4 0), .ref (F 5 0), .ref (F 6 0), .ref (F 7 0), .ref (F 8 0)])) :: (([] ++ [(F 0 0, .inl (gcA E 3, 1200, .inl (fun _ => 0)))]) ++ rgW E (F 1) 2 ++ rgW E (F 2) 2 ++ tkW E (F 3) (F 0 0) ++ trW E (F 4) (F 3 0) (F 2 0) ++ trW E (F 5) (F 3 0) (F 1 0) ++ lwW E (F 6) (F 1 0) ++ esW E (F 7) (F 1 0) (F 6 0) ++ hiW E (F 8) (F 1 0))
set_option maxRecDepth 100000 in
set_option maxHeartbeats 4000000 in
theorem nc_X12_init {E : gE} (b : Nat) : nCt E yX12_init cX12_init 1 (rmn 3 225 6387) [.ref (b)] [(b, .inr (10, [.null, .int 0, .int 0, .int 0, .null, .null, .null, .null, .null, .null, .null, .null]))] (wdW E b) 225 6387 := by
  refine nCt.of isIni (fun _ _ h => h) (by decide +kernel) (Nat.le_of_ble_eq_true rfl) rfl (fun sz => ?_)
  refine n_aload_n 0 dX12_init_0 rfl ?_
  refine n_objInit (gtbl_t tbin1 33 rfl rfl) noi noc ⟨Nat.le_of_ble_eq_true rfl, Nat.le_of_ble_eq_true rfl⟩ dX12_init_1 ?_
  refine n_aload_n 0 dX12_init_4 rfl ?_
  refine n_sipush (v := 1200) dX12_init_5 (by decide) ?_
  refine n_newa (atype := .byte) (ty := .byte) 3 (N := 1200) (a0 := (1200, .inl (fun _ => 0))) rfl rfl (fun _ _ h => h) (gtbl_t tbin1 90 rfl rfl) (fun _ => rfl) (by decide) (by decide) (by decide) ⟨Nat.le_of_ble_eq_true rfl, Nat.le_of_ble_eq_true rfl⟩ dX12_init_8 (fun q1 => ?_)
  refine n_eq (ws' := (b, .inr (10, [.null, .int 0, .int 0, .int 0, .null, .null, .null, .null, .null, .null, .null, .null])) :: ([] ++ [(q1, .inl (gcA E 3, 1200, .inl (fun _ => 0)))])) rfl ?_
  obtain ⟨P1, hP1⟩ : ∃ z : va_W, z = [] ++ [(q1, .inl (gcA E 3, 1200, .inl (fun _ => 0)))] := ⟨_, rfl⟩
  rw [← hP1]
  refine n_putF 0 fd_X12_9 rfl rfl (Nat.le_of_ble_eq_true rfl) rfl rfl dX12_init_10 ?_
  refine n_eq (ws' := (b, .inr (10, [.ref (q1), .int 0, .int 0, .int 0, .null, .null, .null, .null, .null, .null, .null, .null])) :: P1) rfl ?_
  refine n_aload_n 0 dX12_init_13 rfl ?_
  refine n_iconst (v := 0) dX12_init_14 (by decide) ?_
  refine n_put 0 fd_X12_13 rfl (Nat.le_of_ble_eq_true rfl) rfl rfl dX12_init_15 ?_
  refine n_eq (ws' := (b, .inr (10, [.ref (q1), .int 0, .int 0, .int 0, .null, .null, .null, .null, .null, .null, .null, .null])) :: P1) rfl ?_
  refine n_aload_n 0 dX12_init_18 rfl ?_
  refine n_iconst (v := 0) dX12_init_19 (by decide) ?_
  refine n_put 0 fd_X12_17 rfl (Nat.le_of_ble_eq_true rfl) rfl rfl dX12_init_20 ?_
  refine n_eq (ws' := (b, .inr (10, [.ref (q1), .int 0, .int 0, .int 0, .null, .null, .null, .null, .null, .null, .null, .null])) :: P1) rfl ?_
  refine n_aload_n 0 dX12_init_23 rfl ?_
  refine n_iconst (v := (-1)) dX12_init_24 (by decide) ?_
  refine n_put 0 fd_X12_20 rfl (Nat.le_of_ble_eq_true rfl) rfl rfl dX12_init_25 ?_
  refine n_eq (ws' := (b, .inr (10, [.ref (q1), .int 0, .int 0, .int (-1), .null, .null, .null, .null, .null, .null, .null, .null])) :: P1) rfl ?_
  refine n_aload_n 0 dX12_init_28 rfl ?_
  refine n_new 6 tyX7 (fs := [.null, .null, .null, .null, .null, .null, .null, .null, .int 0, .int 0, .int 0, .int 0, .int 0]) rfl un_X7 tyX7_ok (gtbl_t tbin1 36 rfl rfl) (gtbl_t tbin1 37 rfl rfl) (gtbl_t tbin1 2 rfl rfl) nd_X7 ⟨Nat.le_of_ble_eq_true rfl, Nat.le_of_ble_eq_true rfl⟩ dX12_init_29 (fun q2 => ?_)
  refine n_dup dX12_init_32 rfl ?_
  refine n_callI (As := []) (n := 0) (nc_X7_init (E := E) q2) nm_X7_init (gtbl_t tbin1 38 rfl rfl) ns_X7_init rfl ⟨rfl, rfl, Nat.le_of_ble_eq_true rfl, Nat.le_of_ble_eq_true rfl, Nat.le_of_ble_eq_true rfl, Nat.le_of_ble_eq_true rfl⟩ (Nat.le_of_ble_eq_true rfl) dX12_init_33 (fun f3 => ?_)
  refine n_eq (ws' := (b, .inr (10, [.ref (q1), .int 0, .int 0, .int (-1), .null, .null, .null, .null, .null, .null, .null, .null])) :: (P1 ++ rgW E (nA q2 f3) 2)) rfl ?_
  obtain ⟨P2, hP2⟩ : ∃ z : va_W, z = P1 ++ rgW E (nA q2 f3) 2 := ⟨_, rfl⟩
  rw [← hP2]
  refine n_putF 0 fd_X12_26 rfl rfl (Nat.le_of_ble_eq_true rfl) rfl rfl dX12_init_36 ?_
  refine n_eq (ws' := (b, .inr (10, [.ref (q1), .int 0, .int 0, .int (-1), .ref (q2), .null, .null, .null, .null, .null, .null, .null])) :: P2) rfl ?_
  refine n_aload_n 0 dX12_init_39 rfl ?_
  refine n_new 6 tyX7 (fs := [.null, .null, .null, .null, .null, .null, .null, .null, .int 0, .int 0, .int 0, .int 0, .int 0]) rfl un_X7 tyX7_ok (gtbl_t tbin1 36 rfl rfl) (gtbl_t tbin1 37 rfl rfl) (gtbl_t tbin1 2 rfl rfl) nd_X7 ⟨Nat.le_of_ble_eq_true rfl, Nat.le_of_ble_eq_true rfl⟩ dX12_init_40 (fun q4 => ?_)
  refine n_dup dX12_init_43 rfl ?_
  refine n_callI (As := []) (n := 0) (nc_X7_init (E := E) q4) nm_X7_init (gtbl_t tbin1 38 rfl rfl) ns_X7_init rfl ⟨rfl, rfl, Nat.le_of_ble_eq_true rfl, Nat.le_of_ble_eq_true rfl, Nat.le_of_ble_eq_true rfl, Nat.le_of_ble_eq_true rfl⟩ (Nat.le_of_ble_eq_true rfl) dX12_init_44 (fun f5 => ?_)
  refine n_eq (ws' := (b, .inr (10, [.ref (q1), .int 0, .int 0, .int (-1), .ref (q2), .null, .null, .null, .null, .null, .null, .null])) :: (P2 ++ rgW E (nA q4 f5) 2)) rfl ?_
  obtain ⟨P3, hP3⟩ : ∃ z : va_W, z = P2 ++ rgW E (nA q4 f5) 2 := ⟨_, rfl⟩
  rw [← hP3]
  refine n_putF 0 fd_X12_30 rfl rfl (Nat.le_of_ble_eq_true rfl) rfl rfl dX12_init_47 ?_
  refine n_eq (ws' := (b, .inr (10, [.ref (q1), .int 0, .int 0, .int (-1), .ref (q2), .ref (q4), .null, .null, .null, .null, .null, .null])) :: P3) rfl ?_
  refine n_aload_n 0 dX12_init_50 rfl ?_
  refine n_new 9 tyX11 (fs := [.null, .null, .null, .int 0, .null, .int 0, .int 0]) rfl un_X11 tyX11_ok (gtbl_t tbin2 78 rfl rfl) (gtbl_t tbin2 79 rfl rfl) (gtbl_t tbin1 7 rfl rfl) nd_X11 ⟨Nat.le_of_ble_eq_true rfl, Nat.le_of_ble_eq_true rfl⟩ dX12_init_51 (fun q6 => ?_)
  refine n_dup dX12_init_54 rfl ?_
  refine n_aload_n 0 dX12_init_55 rfl ?_
  refine n_get 0 fd_X12_9 rfl rfl dX12_init_56 ?_
  refine n_callI (As := [.ref (q1)]) (n := 1) (nc_X11_init (E := E) q6 q1) nm_X11_init (gtbl_t tbin2 80 rfl rfl) ns_X11_init rfl ⟨rfl, rfl, Nat.le_of_ble_eq_true rfl, Nat.le_of_ble_eq_true rfl, Nat.le_of_ble_eq_true rfl, Nat.le_of_ble_eq_true rfl⟩ (Nat.le_of_ble_eq_true rfl) dX12_init_59 (fun f7 => ?_)
  refine n_eq (ws' := (b, .inr (10, [.ref (q1), .int 0, .int 0, .int (-1), .ref (q2), .ref (q4), .null, .null, .null, .null, .null, .null])) :: (P3 ++ tkW E (nA q6 f7) (q1))) rfl ?_
  obtain ⟨P4, hP4⟩ : ∃ z : va_W, z = P3 ++ tkW E (nA q6 f7) (q1) := ⟨_, rfl⟩
  rw [← hP4]
  refine n_putF 0 fd_X12_38 rfl rfl (Nat.le_of_ble_eq_true rfl) rfl rfl dX12_init_62 ?_
  refine n_eq (ws' := (b, .inr (10, [.ref (q1), .int 0, .int 0, .int (-1), .ref (q2), .ref (q4), .ref (q6), .null, .null, .null, .null, .null])) :: P4) rfl ?_
  refine n_aload_n 0 dX12_init_65 rfl ?_
  refine n_new 7 tyX8 (fs := [.null, .null, .null, .null, .null, .int 0, .int 0, .int 0]) rfl un_X8 tyX8_ok (gtbl_t tbin2 114 rfl rfl) (gtbl_t tbin2 115 rfl rfl) (gtbl_t tbin1 10 rfl rfl) nd_X8 ⟨Nat.le_of_ble_eq_true rfl, Nat.le_of_ble_eq_true rfl⟩ dX12_init_66 (fun q8 => ?_)
  refine n_dup dX12_init_69 rfl ?_
  refine n_aload_n 0 dX12_init_70 rfl ?_
  refine n_get 0 fd_X12_38 rfl rfl dX12_init_71 ?_
  refine n_aload_n 0 dX12_init_74 rfl ?_
  refine n_get 0 fd_X12_30 rfl rfl dX12_init_75 ?_
  refine n_callI (As := [.ref (q6), .ref (q4)]) (n := 2) (nc_X8_init (E := E) q8 (q6) (q4)) nm_X8_init (gtbl_t tbin2 116 rfl rfl) ns_X8_init rfl ⟨rfl, rfl, Nat.le_of_ble_eq_true rfl, Nat.le_of_ble_eq_true rfl, Nat.le_of_ble_eq_true rfl, Nat.le_of_ble_eq_true rfl⟩ (Nat.le_of_ble_eq_true rfl) dX12_init_78 (fun f9 => ?_)
  refine n_eq (ws' := (b, .inr (10, [.ref (q1), .int 0, .int 0, .int (-1), .ref (q2), .ref (q4), .ref (q6), .null, .null, .null, .null, .null])) :: (P4 ++ trW E (nA q8 f9) (q6) (q4))) rfl ?_
  obtain ⟨P5, hP5⟩ : ∃ z : va_W, z = P4 ++ trW E (nA q8 f9) (q6) (q4) := ⟨_, rfl⟩
  rw [← hP5]
  refine n_putF 0 fd_X12_47 rfl rfl (Nat.le_of_ble_eq_true rfl) rfl rfl dX12_init_81 ?_
  refine n_eq (ws' := (b, .inr (10, [.ref (q1), .int 0, .int 0, .int (-1), .ref (q2), .ref (q4), .ref (q6), .ref (q8), .null, .null, .null, .null])) :: P5) rfl ?_
  refine n_aload_n 0 dX12_init_84 rfl ?_
  refine n_new 7 tyX8 (fs := [.null, .null, .null, .null, .null, .int 0, .int 0, .int 0]) rfl un_X8 tyX8_ok (gtbl_t tbin2 114 rfl rfl) (gtbl_t tbin2 115 rfl rfl) (gtbl_t tbin1 10 rfl rfl) nd_X8 ⟨Nat.le_of_ble_eq_true rfl, Nat.le_of_ble_eq_true rfl⟩ dX12_init_85 (fun q10 => ?_)
  refine n_dup dX12_init_88 rfl ?_
  refine n_aload_n 0 dX12_init_89 rfl ?_
  refine n_get 0 fd_X12_38 rfl rfl dX12_init_90 ?_
  refine n_aload_n 0 dX12_init_93 rfl ?_
  refine n_get 0 fd_X12_26 rfl rfl dX12_init_94 ?_
  refine n_callI (As := [.ref (q6), .ref (q2)]) (n := 2) (nc_X8_init (E := E) q10 (q6) (q2)) nm_X8_init (gtbl_t tbin2 116 rfl rfl) ns_X8_init rfl ⟨rfl, rfl, Nat.le_of_ble_eq_true rfl, Nat.le_of_ble_eq_true rfl, Nat.le_of_ble_eq_true rfl, Nat.le_of_ble_eq_true rfl⟩ (Nat.le_of_ble_eq_true rfl) dX12_init_97 (fun f11 => ?_)
  refine n_eq (ws' := (b, .inr (10, [.ref (q1), .int 0, .int 0, .int (-1), .ref (q2), .ref (q4), .ref (q6), .ref (q8), .null, .null, .null, .null])) :: (P5 ++ trW E (nA q10 f11) (q6) (q2))) rfl ?_
  obtain ⟨P6, hP6⟩ : ∃ z : va_W, z = P5 ++ trW E (nA q10 f11) (q6) (q2) := ⟨_, rfl⟩
  rw [← hP6]
  refine n_putF 0 fd_X12_51 rfl rfl (Nat.le_of_ble_eq_true rfl) rfl rfl dX12_init_100 ?_
  refine n_eq (ws' := (b, .inr (10, [.ref (q1), .int 0, .int 0, .int (-1), .ref (q2), .ref (q4), .ref (q6), .ref (q8), .ref (q10), .null, .null, .null])) :: P6) rfl ?_
  refine n_aload_n 0 dX12_init_103 rfl ?_
  refine n_new 3 tyX4 (fs := [.null, .null, .null, .null, .int 0, .int 0]) rfl un_X4 tyX4_ok (gtbl_t tbin2 147 rfl rfl) (gtbl_t tbin2 148 rfl rfl) (gtbl_t tbin1 11 rfl rfl) nd_X4 ⟨Nat.le_of_ble_eq_true rfl, Nat.le_of_ble_eq_true rfl⟩ dX12_init_104 (fun q12 => ?_)
  refine n_dup dX12_init_107 rfl ?_
  refine n_aload_n 0 dX12_init_108 rfl ?_
  refine n_get 0 fd_X12_26 rfl rfl dX12_init_109 ?_
  refine n_callI (As := [.ref (q2)]) (n := 1) (nc_X4_init (E := E) q12 (q2)) nm_X4_init (gtbl_t tbin2 149 rfl rfl) ns_X4_init rfl ⟨rfl, rfl, Nat.le_of_ble_eq_true rfl, Nat.le_of_ble_eq_true rfl, Nat.le_of_ble_eq_true rfl, Nat.le_of_ble_eq_true rfl⟩ (Nat.le_of_ble_eq_true rfl) dX12_init_112 (fun f13 => ?_)
  refine n_eq (ws' := (b, .inr (10, [.ref (q1), .int 0, .int 0, .int (-1), .ref (q2), .ref (q4), .ref (q6), .ref (q8), .ref (q10), .null, .null, .null])) :: (P6 ++ lwW E (nA q12 f13) (q2))) rfl ?_
  obtain ⟨P7, hP7⟩ : ∃ z : va_W, z = P6 ++ lwW E (nA q12 f13) (q2) := ⟨_, rfl⟩
  rw [← hP7]
  refine n_putF 0 fd_X12_59 rfl rfl (Nat.le_of_ble_eq_true rfl) rfl rfl dX12_init_115 ?_
  refine n_eq (ws' := (b, .inr (10, [.ref (q1), .int 0, .int 0, .int (-1), .ref (q2), .ref (q4), .ref (q6), .ref (q8), .ref (q10), .ref (q12), .null, .null])) :: P7) rfl ?_
  refine n_aload_n 0 dX12_init_118 rfl ?_
  refine n_new 0 tyX1 (fs := [.null, .null, .null, .long 0, .int 0, .int 0, .int 0, .int 0]) rfl un_X1 tyX1_ok (gtbl_t tbin2 178 rfl rfl) (gtbl_t tbin2 179 rfl rfl) (gtbl_t tbin1 12 rfl rfl) nd_X1 ⟨Nat.le_of_ble_eq_true rfl, Nat.le_of_ble_eq_true rfl⟩ dX12_init_119 (fun q14 => ?_)
  refine n_dup dX12_init_122 rfl ?_
  refine n_aload_n 0 dX12_init_123 rfl ?_
  refine n_get 0 fd_X12_26 rfl rfl dX12_init_124 ?_
  refine n_aload_n 0 dX12_init_127 rfl ?_
  refine n_get 0 fd_X12_59 rfl rfl dX12_init_128 ?_
  refine n_callI (As := [.ref (q2), .ref (q12)]) (n := 2) (nc_X1_init (E := E) q14 (q2) (q12)) nm_X1_init (gtbl_t tbin2 180 rfl rfl) ns_X1_init rfl ⟨rfl, rfl, Nat.le_of_ble_eq_true rfl, Nat.le_of_ble_eq_true rfl, Nat.le_of_ble_eq_true rfl, Nat.le_of_ble_eq_true rfl⟩ (Nat.le_of_ble_eq_true rfl) dX12_init_131 (fun f15 => ?_)
  refine n_eq (ws' := (b, .inr (10, [.ref (q1), .int 0, .int 0, .int (-1), .ref (q2), .ref (q4), .ref (q6), .ref (q8), .ref (q10), .ref (q12), .null, .null])) :: (P7 ++ esW E (nA q14 f15) (q2) (q12))) rfl ?_
  obtain ⟨P8, hP8⟩ : ∃ z : va_W, z = P7 ++ esW E (nA q14 f15) (q2) (q12) := ⟨_, rfl⟩
  rw [← hP8]
  refine n_putF 0 fd_X12_68 rfl rfl (Nat.le_of_ble_eq_true rfl) rfl rfl dX12_init_134 ?_
  refine n_eq (ws' := (b, .inr (10, [.ref (q1), .int 0, .int 0, .int (-1), .ref (q2), .ref (q4), .ref (q6), .ref (q8), .ref (q10), .ref (q12), .ref (q14), .null])) :: P8) rfl ?_
  refine n_aload_n 0 dX12_init_137 rfl ?_
  refine n_new 1 tyX2 (fs := [.null, .null, .null, .null, .int 0, .int 0]) rfl un_X2 tyX2_ok (gtbl_t tbin2 215 rfl rfl) (gtbl_t tbin2 216 rfl rfl) (gtbl_t tbin1 13 rfl rfl) nd_X2 ⟨Nat.le_of_ble_eq_true rfl, Nat.le_of_ble_eq_true rfl⟩ dX12_init_138 (fun q16 => ?_)
  refine n_dup dX12_init_141 rfl ?_
  refine n_aload_n 0 dX12_init_142 rfl ?_
  refine n_get 0 fd_X12_26 rfl rfl dX12_init_143 ?_
  refine n_callI (As := [.ref (q2)]) (n := 1) (nc_X2_init (E := E) q16 (q2)) nm_X2_init (gtbl_t tbin2 217 rfl rfl) ns_X2_init rfl ⟨rfl, rfl, Nat.le_of_ble_eq_true rfl, Nat.le_of_ble_eq_true rfl, Nat.le_of_ble_eq_true rfl, Nat.le_of_ble_eq_true rfl⟩ (Nat.le_of_ble_eq_true rfl) dX12_init_146 (fun f17 => ?_)
  refine n_eq (ws' := (b, .inr (10, [.ref (q1), .int 0, .int 0, .int (-1), .ref (q2), .ref (q4), .ref (q6), .ref (q8), .ref (q10), .ref (q12), .ref (q14), .null])) :: (P8 ++ hiW E (nA q16 f17) (q2))) rfl ?_
  obtain ⟨P9, hP9⟩ : ∃ z : va_W, z = P8 ++ hiW E (nA q16 f17) (q2) := ⟨_, rfl⟩
  rw [← hP9]
  refine n_putF 0 fd_X12_75 rfl rfl (Nat.le_of_ble_eq_true rfl) rfl rfl dX12_init_149 ?_
  refine n_eq (ws' := (b, .inr (10, [.ref (q1), .int 0, .int 0, .int (-1), .ref (q2), .ref (q4), .ref (q6), .ref (q8), .ref (q10), .ref (q12), .ref (q14), .ref (q16)])) :: P9) rfl ?_
  subst hP1 hP2 hP3 hP4 hP5 hP6 hP7 hP8 hP9
  exact n_vretE (ws1 := wdW E b) (fun k => match k with | 0 => (fun _ => q1) | 1 => nA q2 f3 | 2 => nA q4 f5 | 3 => nA q6 f7 | 4 => nA q8 f9 | 5 => nA q10 f11 | 6 => nA q12 f13 | 7 => nA q14 f15 | 8 => nA q16 f17 | _ => (fun _ => 0)) rfl ⟨Nat.le_of_ble_eq_true rfl, Nat.le_of_ble_eq_true rfl⟩ rfl dX12_init_152

end
