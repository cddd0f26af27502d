set_option linter.all false
noncomputable section
def tkW (E : gE) (a : Nat → Nat) (t : Nat) : va_W := [(a 0, .inr (9, [.ref (a 1), .ref (a 2), .ref (a 3), .int 0, .ref (t), .int 0, .int 0])), (a 1, .inl (gcA E 8, 1201, .inr (.inr (.inr (.inr (fun _ => some (gad E (nn (25 : Int32))))))))), (a 2, .inl (gcA E 0, 1201, .inl (fun _ => 0))), (a 3, .inl (gcA E 0, 1201, .inl (fun _ => 0)))]
def trW (E : gE) (a : Nat → Nat) (tk rg : Nat) : va_W := [(a 0, .inr (7, [.ref (tk), .ref (rg), .ref (a 1), .ref (a 2), .ref (a 3), .int 0, .int 0, .int 0])), (a 1, .inl (gcA E 0, 10, .inl (fun _ => 0))), (a 2, .inl (gcA E 0, 8, .inl (fun _ => 0))), (a 3, .inl (gcA E 0, 12, .inl (fun _ => 0)))]
def lwW (E : gE) (a : Nat → Nat) (rg : Nat) : va_W := [(a 0, .inr (3, [.ref (rg), .ref (a 1), .ref (a 2), .ref (a 3), .int 0, .int 0])), (a 1, .inl (gcA E 2, 12, .inl (fun _ => 0))), (a 2, .inl (gcA E 0, 12, .inl (fun _ => 0))), (a 3, .inl (gcA E 0, 12, .inl (fun _ => 0)))]
def esW (E : gE) (a : Nat → Nat) (rg lw : Nat) : va_W := [(a 0, .inr (0, [.ref (rg), .ref (lw), .ref (a 1), .long 1, .int 0, .int 0, .int 0, .int 0])), (a 1, .inl (gcA E 1, 11, .inr (.inl (fun _ => 0))))]
def hiW (E : gE) (a : Nat → Nat) (rg : Nat) : va_W := [(a 0, .inr (1, [.ref (rg), .ref (a 1), .ref (a 2), .ref (a 3), .int 0, .int 0])), (a 1, .inl (gcA E 0, 16, .inl (fun _ => 0))), (a 2, .inl (gcA E 0, 16, .inl (fun _ => 0))), (a 3, .inl (gcA E 0, 16, .inl (fun _ => 0)))]
set_option maxRecDepth 100000 in
set_option maxHeartbeats 4000000 in
theorem nc_X8_init {E : gE} (b tk rg : Nat) : nCt E yX8_init cX8_init 3 (rmn 1 3 30) [.ref (b), .ref (tk), .ref (rg)] [(b, .inr (7, [.null, .null, .null, .null, .null, .int 0, .int 0, .int 0]))] (fun f : Nat → Nat => trW E (nA b f) tk rg) 3 30 := by
  refine nCt.of isIni (fun _ _ h => h) (by decide +kernel) (Nat.le_of_ble_eq_true rfl) rfl (fun sz => ?_)
  refine n_aload_n 0 dX8_init_0 rfl ?_
  refine n_objInit (gtbl_t tbin2 119 rfl rfl) noi noc ⟨Nat.le_of_ble_eq_true rfl, Nat.le_of_ble_eq_true rfl⟩ dX8_init_1 ?_
  refine n_aload_n 0 dX8_init_4 rfl ?_
  refine n_bipush (v := 10) dX8_init_5 (by decide) ?_
  refine n_newa (atype := .int) (ty := .int) 0 (N := 10) (a0 := (10, .inl (fun _ => 0))) rfl rfl (fun _ _ h => h) (gtbl_t tbin1 91 rfl rfl) (fun _ => rfl) (by decide) (by decide) (by decide) ⟨Nat.le_of_ble_eq_true rfl, Nat.le_of_ble_eq_true rfl⟩ dX8_init_7 (fun q1 => ?_)
  refine n_putF 0 fd_X8_9 rfl rfl (Nat.le_of_ble_eq_true rfl) rfl rfl dX8_init_9 ?_
  refine n_aload_n 0 dX8_init_12 rfl ?_
  refine n_bipush (v := 8) dX8_init_13 (by decide) ?_
  refine n_newa (atype := .int) (ty := .int) 0 (N := 8) (a0 := (8, .inl (fun _ => 0))) rfl rfl (fun _ _ h => h) (gtbl_t tbin1 91 rfl rfl) (fun _ => rfl) (by decide) (by decide) (by decide) ⟨Nat.le_of_ble_eq_true rfl, Nat.le_of_ble_eq_true rfl⟩ dX8_init_15 (fun q2 => ?_)
  refine n_putF 0 fd_X8_15 rfl rfl (Nat.le_of_ble_eq_true rfl) rfl rfl dX8_init_17 ?_
  refine n_aload_n 0 dX8_init_20 rfl ?_
  refine n_bipush (v := 12) dX8_init_21 (by decide) ?_
  refine n_newa (atype := .int) (ty := .int) 0 (N := 12) (a0 := (12, .inl (fun _ => 0))) rfl rfl (fun _ _ h => h) (gtbl_t tbin1 91 rfl rfl) (fun _ => rfl) (by decide) (by decide) (by decide) ⟨Nat.le_of_ble_eq_true rfl, Nat.le_of_ble_eq_true rfl⟩ dX8_init_23 (fun q3 => ?_)
  refine n_putF 0 fd_X8_18 rfl rfl (Nat.le_of_ble_eq_true rfl) rfl rfl dX8_init_25 ?_
  refine n_aload_n 0 dX8_init_28 rfl ?_
  refine n_aload_n 1 dX8_init_29 rfl ?_
  refine n_putF 0 fd_X8_21 rfl rfl (Nat.le_of_ble_eq_true rfl) rfl rfl dX8_init_30 ?_
  refine n_aload_n 0 dX8_init_33 rfl ?_
  refine n_aload_n 2 dX8_init_34 rfl ?_
  refine n_putF 0 fd_X8_25 rfl rfl (Nat.le_of_ble_eq_true rfl) rfl rfl dX8_init_35 ?_
  exact n_vretE (ws1 := fun f : Nat → Nat => trW E (nA b f) tk rg) (fun i => [q1, q2, q3].getD i 0) rfl ⟨Nat.le_of_ble_eq_true rfl, Nat.le_of_ble_eq_true rfl⟩ rfl dX8_init_38

set_option maxRecDepth 100000 in
set_option maxHeartbeats 4000000 in
theorem nc_X4_init {E : gE} (b rg : Nat) : nCt E yX4_init cX4_init 2 (rmn 1 3 36) [.ref (b), .ref (rg)] [(b, .inr (3, [.null, .null, .null, .null, .int 0, .int 0]))] (fun f : Nat → Nat => lwW E (nA b f) rg) 3 36 := by
  refine nCt.of isIni (fun _ _ h => h) (by decide +kernel) (Nat.le_of_ble_eq_true rfl) rfl (fun sz => ?_)
  refine n_aload_n 0 dX4_init_0 rfl ?_
  refine n_objInit (gtbl_t tbin2 152 rfl rfl) noi noc ⟨Nat.le_of_ble_eq_true rfl, Nat.le_of_ble_eq_true rfl⟩ dX4_init_1 ?_
  refine n_aload_n 0 dX4_init_4 rfl ?_
  refine n_bipush (v := 12) dX4_init_5 (by decide) ?_
  refine n_newa (atype := .boolean) (ty := .boolean) 2 (N := 12) (a0 := (12, .inl (fun _ => 0))) rfl rfl (fun _ _ h => h) (gtbl_t tbin2 177 rfl rfl) (fun _ => rfl) (by decide) (by decide) (by decide) ⟨Nat.le_of_ble_eq_true rfl, Nat.le_of_ble_eq_true rfl⟩ dX4_init_7 (fun q1 => ?_)
  refine n_putF 0 fd_X4_9 rfl rfl (Nat.le_of_ble_eq_true rfl) rfl rfl dX4_init_9 ?_
  refine n_aload_n 0 dX4_init_12 rfl ?_
  refine n_bipush (v := 12) dX4_init_13 (by decide) ?_
  refine n_newa (atype := .int) (ty := .int) 0 (N := 12) (a0 := (12, .inl (fun _ => 0))) rfl rfl (fun _ _ h => h) (gtbl_t tbin1 91 rfl rfl) (fun _ => rfl) (by decide) (by decide) (by decide) ⟨Nat.le_of_ble_eq_true rfl, Nat.le_of_ble_eq_true rfl⟩ dX4_init_15 (fun q2 => ?_)
  refine n_putF 0 fd_X4_15 rfl rfl (Nat.le_of_ble_eq_true rfl) rfl rfl dX4_init_17 ?_
  refine n_aload_n 0 dX4_init_20 rfl ?_
  refine n_bipush (v := 12) dX4_init_21 (by decide) ?_
  refine n_newa (atype := .int) (ty := .int) 0 (N := 12) (a0 := (12, .inl (fun _ => 0))) rfl rfl (fun _ _ h => h) (gtbl_t tbin1 91 rfl rfl) (fun _ => rfl) (by decide) (by decide) (by decide) ⟨Nat.le_of_ble_eq_true rfl, Nat.le_of_ble_eq_true rfl⟩ dX4_init_23 (fun q3 => ?_)
  refine n_putF 0 fd_X4_19 rfl rfl (Nat.le_of_ble_eq_true rfl) rfl rfl dX4_init_25 ?_
  refine n_aload_n 0 dX4_init_28 rfl ?_
  refine n_aload_n 1 dX4_init_29 rfl ?_
  refine n_putF 0 fd_X4_22 rfl rfl (Nat.le_of_ble_eq_true rfl) rfl rfl dX4_init_30 ?_
  exact n_vretE (ws1 := fun f : Nat → Nat => lwW E (nA b f) rg) (fun i => [q1, q2, q3].getD i 0) rfl ⟨Nat.le_of_ble_eq_true rfl, Nat.le_of_ble_eq_true rfl⟩ rfl dX4_init_33

set_option maxRecDepth 100000 in
set_option maxHeartbeats 4000000 in
theorem nc_X1_init {E : gE} (b rg lw : Nat) : nCt E yX1_init cX1_init 3 (rmn 1 1 11) [.ref (b), .ref (rg), .ref (lw)] [(b, .inr (0, [.null, .null, .null, .long 0, .int 0, .int 0, .int 0, .int 0]))] (fun f : Nat → Nat => esW E (nA b f) rg lw) 1 11 := by
  refine nCt.of isIni (fun _ _ h => h) (by decide +kernel) (Nat.le_of_ble_eq_true rfl) rfl (fun sz => ?_)
  refine n_aload_n 0 dX1_init_0 rfl ?_
  refine n_objInit (gtbl_t tbin2 183 rfl rfl) noi noc ⟨Nat.le_of_ble_eq_true rfl, Nat.le_of_ble_eq_true rfl⟩ dX1_init_1 ?_
  refine n_aload_n 0 dX1_init_4 rfl ?_
  refine n_bipush (v := 11) dX1_init_5 (by decide) ?_
  refine n_newa (atype := .long) (ty := .long) 1 (N := 11) (a0 := (11, .inr (.inl (fun _ => 0)))) rfl rfl (fun _ _ h => h) (gtbl_t tbin2 214 rfl rfl) (fun _ => rfl) (by decide) (by decide) (by decide) ⟨Nat.le_of_ble_eq_true rfl, Nat.le_of_ble_eq_true rfl⟩ dX1_init_7 (fun q1 => ?_)
  refine n_putF 0 fd_X1_9 rfl rfl (Nat.le_of_ble_eq_true rfl) rfl rfl dX1_init_9 ?_
  refine n_aload_n 0 dX1_init_12 rfl ?_
  refine n_lconst (v := 1) dX1_init_13 (by decide) ?_
  refine n_put 0 fd_X1_15 rfl (Nat.le_of_ble_eq_true rfl) rfl rfl dX1_init_14 ?_
  refine n_aload_n 0 dX1_init_17 rfl ?_
  refine n_aload_n 1 dX1_init_18 rfl ?_
  refine n_putF 0 fd_X1_19 rfl rfl (Nat.le_of_ble_eq_true rfl) rfl rfl dX1_init_19 ?_
  refine n_aload_n 0 dX1_init_22 rfl ?_
  refine n_aload_n 2 dX1_init_23 rfl ?_
  refine n_putF 0 fd_X1_23 rfl rfl (Nat.le_of_ble_eq_true rfl) rfl rfl dX1_init_24 ?_
  exact n_vretE (ws1 := fun f : Nat → Nat => esW E (nA b f) rg lw) (fun i => [q1].getD i 0) rfl ⟨Nat.le_of_ble_eq_true rfl, Nat.le_of_ble_eq_true rfl⟩ rfl dX1_init_27

set_option maxRecDepth 100000 in
set_option maxHeartbeats 4000000 in
theorem nc_X2_init {E : gE} (b rg : Nat) : nCt E yX2_init cX2_init 2 (rmn 1 3 48) [.ref (b), .ref (rg)] [(b, .inr (1, [.null, .null, .null, .null, .int 0, .int 0]))] (fun f : Nat → Nat => hiW E (nA b f) rg) 3 48 := by
  refine nCt.of isIni (fun _ _ h => h) (by decide +kernel) (Nat.le_of_ble_eq_true rfl) rfl (fun sz => ?_)
  refine n_aload_n 0 dX2_init_0 rfl ?_
  refine n_objInit (gtbl_t tbin2 220 rfl rfl) noi noc ⟨Nat.le_of_ble_eq_true rfl, Nat.le_of_ble_eq_true rfl⟩ dX2_init_1 ?_
  refine n_aload_n 0 dX2_init_4 rfl ?_
  refine n_bipush (v := 16) dX2_init_5 (by decide) ?_
  refine n_newa (atype := .int) (ty := .int) 0 (N := 16) (a0 := (16, .inl (fun _ => 0))) rfl rfl (fun _ _ h => h) (gtbl_t tbin1 91 rfl rfl) (fun _ => rfl) (by decide) (by decide) (by decide) ⟨Nat.le_of_ble_eq_true rfl, Nat.le_of_ble_eq_true rfl⟩ dX2_init_7 (fun q1 => ?_)
  refine n_putF 0 fd_X2_9 rfl rfl (Nat.le_of_ble_eq_true rfl) rfl rfl dX2_init_9 ?_
  refine n_aload_n 0 dX2_init_12 rfl ?_
  refine n_bipush (v := 16) dX2_init_13 (by decide) ?_
  refine n_newa (atype := .int) (ty := .int) 0 (N := 16) (a0 := (16, .inl (fun _ => 0))) rfl rfl (fun _ _ h => h) (gtbl_t tbin1 91 rfl rfl) (fun _ => rfl) (by decide) (by decide) (by decide) ⟨Nat.le_of_ble_eq_true rfl, Nat.le_of_ble_eq_true rfl⟩ dX2_init_15 (fun q2 => ?_)
  refine n_putF 0 fd_X2_15 rfl rfl (Nat.le_of_ble_eq_true rfl) rfl rfl dX2_init_17 ?_
  refine n_aload_n 0 dX2_init_20 rfl ?_
  refine n_bipush (v := 16) dX2_init_21 (by decide) ?_
  refine n_newa (atype := .int) (ty := .int) 0 (N := 16) (a0 := (16, .inl (fun _ => 0))) rfl rfl (fun _ _ h => h) (gtbl_t tbin1 91 rfl rfl) (fun _ => rfl) (by decide) (by decide) (by decide) ⟨Nat.le_of_ble_eq_true rfl, Nat.le_of_ble_eq_true rfl⟩ dX2_init_23 (fun q3 => ?_)
  refine n_putF 0 fd_X2_18 rfl rfl (Nat.le_of_ble_eq_true rfl) rfl rfl dX2_init_25 ?_
  refine n_aload_n 0 dX2_init_28 rfl ?_
  refine n_iconst (v := 0) dX2_init_29 (by decide) ?_
  refine n_put 0 fd_X2_21 rfl (Nat.le_of_ble_eq_true rfl) rfl rfl dX2_init_30 ?_
  refine n_aload_n 0 dX2_init_33 rfl ?_
  refine n_iconst (v := 0) dX2_init_34 (by decide) ?_
  refine n_put 0 fd_X2_25 rfl (Nat.le_of_ble_eq_true rfl) rfl rfl dX2_init_35 ?_
  refine n_aload_n 0 dX2_init_38 rfl ?_
  refine n_aload_n 1 dX2_init_39 rfl ?_
  refine n_putF 0 fd_X2_28 rfl rfl (Nat.le_of_ble_eq_true rfl) rfl rfl dX2_init_40 ?_
  exact n_vretE (ws1 := fun f : Nat → Nat => hiW E (nA b f) rg) (fun i => [q1, q2, q3].getD i 0) rfl ⟨Nat.le_of_ble_eq_true rfl, Nat.le_of_ble_eq_true rfl⟩ rfl dX2_init_43

theorem tk_up {E : gE} {k : Nat} (hk : k < 1201) : va_up (fun j => if j < k then some (gad E 25) else none) (nI k).toNatClampNeg (some (gad E 25)) = fun j => if j < k + 1 then some (gad E 25) else none := by
  rw [nI_clamp (by omega)]
  funext j
  show (if j = k then some (gad E 25) else if j < k then some (gad E 25) else none) = if j < k + 1 then some (gad E 25) else none
  by_cases h : j = k
  · subst h; simp
  · by_cases h2 : j < k
    · rw [if_neg h, if_pos h2, if_pos (by omega)]
    · rw [if_neg h, if_neg h2, if_neg (by omega)]
set_option maxRecDepth 100000 in
set_option maxHeartbeats 4000000 in
theorem nl_X11 {E : gE} {b t q1 q2 q3 : Nat} {R : Room} {A : Nat → Prop} {Zf : List Frame → Array Value → State → State → Prop} {cs ss : Nat} (fin : nK E RX11 cX11_init 3 none R A isIni Zf cs ss 61 [(2, .int (nI 1201)), (0, .ref b), (1, .ref t)] [] [(b, .inr (9, [.ref (q1), .ref (q2), .ref (q3), .int 0, .ref (t), .int 0, .int 0])), (q1, .inl (gcA E 8, 1201, .inr (.inr (.inr (.inr (fun j => if j < 1201 then some (gad E 25) else none)))))), (q2, .inl (gcA E 0, 1201, .inl (fun _ => 0))), (q3, .inl (gcA E 0, 1201, .inl (fun _ => 0)))]) : ∀ n k : Nat, k + n = 1201 → nK E RX11 cX11_init 3 none R A isIni Zf cs ss 39 [(2, .int (nI k)), (0, .ref b), (1, .ref t)] [] [(b, .inr (9, [.ref (q1), .ref (q2), .ref (q3), .int 0, .ref (t), .int 0, .int 0])), (q1, .inl (gcA E 8, 1201, .inr (.inr (.inr (.inr (fun j => if j < k then some (gad E 25) else none)))))), (q2, .inl (gcA E 0, 1201, .inl (fun _ => 0))), (q3, .inl (gcA E 0, 1201, .inl (fun _ => 0)))] := by
  intro n
  induction n with
  | zero =>
    intro k hk
    obtain rfl : k = 1201 := by omega
    refine n_iload_n 0 dX11_init_39 rfl ?_
    refine n_sipush (v := 1200) dX11_init_40 (by decide) ?_
    refine n_icmp_gt 61 dX11_init_43 (by decide) (fun _ => fin) (fun c => absurd (by decide) c)
  | succ n ih =>
    intro k hk
    refine n_iload_n 0 dX11_init_39 rfl ?_
    refine n_sipush (v := nI 1200) dX11_init_40 (by decide) ?_
    refine n_icmp_gt 61 dX11_init_43 (by decide) (fun c => absurd c (nI_nlt (by omega) (by omega))) (fun _ => ?_)
    refine n_aload_n 1 dX11_init_46 rfl ?_
    refine n_get 0 fd_X11_11 rfl rfl dX11_init_47 ?_
    refine n_iload_n 0 dX11_init_50 rfl ?_
    refine n_tok 25 (by decide) tl_X11_28 dX11_init_51 ?_
    refine n_aste 1 (by decide) rfl (vp_in_nI (by omega) (by omega)) dX11_init_54 ?_
    rw [tk_up (by omega)]
    refine n_iinc 0 (v := nI (k + 1)) [(2, .int (nI (k + 1))), (0, .ref b), (1, .ref t)] dX11_init_55 rfl (nI_1 k) (by decide) rfl ?_
    refine n_goto 39 dX11_init_58 (by decide) ?_
    exact ih (k + 1) (by omega)
set_option maxRecDepth 100000 in
set_option maxHeartbeats 4000000 in
theorem nc_X11_init {E : gE} (b t : Nat) : nCt E yX11_init cX11_init 3 (rmn 1 3 3603) [.ref (b), .ref (t)] [(b, .inr (9, [.null, .null, .null, .int 0, .null, .int 0, .int 0]))] (fun f : Nat → Nat => tkW E (nA b f) t) 3 3603 := by
  refine nCt.of isIni (fun _ _ h => h) (by decide +kernel) (Nat.le_of_ble_eq_true rfl) rfl (fun sz => ?_)
  refine n_aload_n 0 dX11_init_0 rfl ?_
  refine n_objInit (gtbl_t tbin2 83 rfl rfl) noi noc ⟨Nat.le_of_ble_eq_true rfl, Nat.le_of_ble_eq_true rfl⟩ dX11_init_1 ?_
  refine n_aload_n 0 dX11_init_4 rfl ?_
  refine n_sipush (v := 1201) dX11_init_5 (by decide) ?_
  refine n_newq (C0 := "WillDeposit$Token") (N := 1201) 8 rfl (gtbl_t tbin2 84 rfl rfl) (by decide) (by decide) (by decide) (by decide) ⟨Nat.le_of_ble_eq_true rfl, Nat.le_of_ble_eq_true rfl⟩ dX11_init_8 (fun q1 => ?_)
  refine n_putF 0 fd_X11_11 rfl rfl (Nat.le_of_ble_eq_true rfl) rfl rfl dX11_init_11 ?_
  refine n_aload_n 0 dX11_init_14 rfl ?_
  refine n_sipush (v := 1201) dX11_init_15 (by decide) ?_
  refine n_newa (atype := .int) (ty := .int) 0 (N := 1201) (a0 := (1201, .inl (fun _ => 0))) rfl rfl (fun _ _ h => h) (gtbl_t tbin1 91 rfl rfl) (fun _ => rfl) (by decide) (by decide) (by decide) ⟨Nat.le_of_ble_eq_true rfl, Nat.le_of_ble_eq_true rfl⟩ dX11_init_18 (fun q2 => ?_)
  refine n_putF 0 fd_X11_17 rfl rfl (Nat.le_of_ble_eq_true rfl) rfl rfl dX11_init_20 ?_
  refine n_aload_n 0 dX11_init_23 rfl ?_
  refine n_sipush (v := 1201) dX11_init_24 (by decide) ?_
  refine n_newa (atype := .int) (ty := .int) 0 (N := 1201) (a0 := (1201, .inl (fun _ => 0))) rfl rfl (fun _ _ h => h) (gtbl_t tbin1 91 rfl rfl) (fun _ => rfl) (by decide) (by decide) (by decide) ⟨Nat.le_of_ble_eq_true rfl, Nat.le_of_ble_eq_true rfl⟩ dX11_init_27 (fun q3 => ?_)
  refine n_putF 0 fd_X11_21 rfl rfl (Nat.le_of_ble_eq_true rfl) rfl rfl dX11_init_29 ?_
  refine n_aload_n 0 dX11_init_32 rfl ?_
  refine n_aload_n 1 dX11_init_33 rfl ?_
  refine n_putF 0 fd_X11_24 rfl rfl (Nat.le_of_ble_eq_true rfl) rfl rfl dX11_init_34 ?_
  refine n_iconst (v := 0) dX11_init_37 (by decide) ?_
  refine n_istore_n [(2, .int 0), (0, .ref (b)), (1, .ref (t))] dX11_init_38 (by decide) rfl ?_
  have h0 : (0 : Int32) = nI 0 := rfl
  rw [h0]
  refine n_arq (fun j => if j < 0 then some (gad E 25) else none) 1 rfl (fun j _ => by simp) ?_
  refine nl_X11 (q1 := q1) (q2 := q2) (q3 := q3) ?_ 1201 0 rfl
  refine n_arq (fun _ => some (gad E (nn (25 : Int32)))) 1 rfl (fun j hj => by rw [if_pos hj]; rfl) ?_
  exact n_vretE (ws1 := fun f : Nat → Nat => tkW E (nA b f) t) (fun i => [q1, q2, q3].getD i 0) rfl ⟨Nat.le_of_ble_eq_true rfl, Nat.le_of_ble_eq_true rfl⟩ rfl dX11_init_61

end
