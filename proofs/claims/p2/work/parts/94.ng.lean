set_option linter.all false
noncomputable section
def mdW (E : gE) (a : Nat → Nat) (w fr nw nn : Nat → Int32) : va_W := [(a 0, .inr (11, [.int 0, .ref (a 1), .int 0, .ref (a 2), .ref (a 3), .ref (a 4), .ref (a 5), .ref (a 6), .ref (a 7), .ref (a 8), .int 0, .ref (a 9), .int 0, .int 0, .int 0, .int 0, .int 0, .int 0, .int 0, .int 0, .int 0, .int (-1), .ref (a 10), .int 0, .int 0, .ref (a 11), .ref (a 12), .int 0, .int 0, .int 0, .int 0, .ref (a 13), .int 0])), (a 1, .inl (gcA E 0, 1200, .inl (fun _ => 0))), (a 2, .inl (gcA E 0, 502, .inl (w))), (a 3, .inl (gcA E 0, 502, .inl (fr))), (a 4, .inl (gcA E 0, 12, .inl (fun _ => 0))), (a 5, .inl (gcA E 0, 12, .inl (fun _ => 0))), (a 6, .inl (gcA E 0, 65, .inl (nw))), (a 7, .inl (gcA E 0, 65, .inl (nn))), (a 8, .inl (gcA E 0, 1040, .inl (fun _ => 0))), (a 9, .inl (gcA E 0, 36, .inl (fun _ => 0))), (a 10, .inl (gcA E 2, 2, .inl (fun _ => 0))), (a 11, .inl (gcA E 1, 11, .inr (.inl (fun _ => 0)))), (a 12, .inl (gcA E 1, 11, .inr (.inl (fun _ => 0)))), (a 13, .inl (gcA E 0, 60, .inl (fun _ => 0)))]
def mZ : Nat → Int32 := fun _ => 0
def mFR : Nat → Int32 := upd (upd mZ 4 2) 9 2
def mNN (k : Nat) : Nat → Int32 := fun j => if j < k then (if j < 10 then (-2) else 0) else 0
def mCP (f : Nat → Int32) (k : Nat) : Nat → Int32 := fun j => if j < k then f j else 0
theorem mZ_up {k : Nat} : upd mZ k 0 = mZ := by
  funext j
  unfold upd
  by_cases h : j = k
  · rw [if_pos h]; rfl
  · rw [if_neg h]
theorem mNN_up {k : Nat} {v : Int32} (hv : v = if k < 10 then (-2) else 0) : upd (mNN k) k v = mNN (k + 1) := by
  funext j
  unfold upd mNN
  by_cases h : j = k
  · subst h
    rw [if_pos rfl, if_pos (by omega), hv]
  · rw [if_neg h]
    by_cases h2 : j < k
    · rw [if_pos h2, if_pos (show j < k + 1 by omega)]
    · rw [if_neg h2, if_neg (show ¬ j < k + 1 by omega)]
theorem mCP_up {f : Nat → Int32} {k : Nat} : upd (mCP f k) k (f k) = mCP f (k + 1) := by
  funext j
  unfold upd mCP
  by_cases h : j = k
  · subst h
    rw [if_pos rfl, if_pos (by omega)]
  · rw [if_neg h]
    by_cases h2 : j < k
    · rw [if_pos h2, if_pos (show j < k + 1 by omega)]
    · rw [if_neg h2, if_neg (show ¬ j < k + 1 by omega)]
theorem mCP_0 (f : Nat → Int32) : mCP f 0 = mZ := by
  funext j
  unfold mCP mZ
  rw [if_neg (by omega)]
theorem mNN_0 : mNN 0 = mZ := by
  funext j
  unfold mNN mZ
  rw [if_neg (by omega)]
set_option maxRecDepth 100000 in
set_option maxHeartbeats 4000000 in
theorem nl_b1 {E : gE} {a : Nat → Nat} {R : Room} {A : Nat → Prop} {Nm : State → Method → Prop} {Zf : List Frame → Array Value → State → State → Prop} {cs ss : Nat} (fin : nK E RX13 cX13_begins 2 none R A Nm Zf cs ss 22 [(1, .int (nI 502)), (0, .ref (a 0))] [] (mdW E a mZ mZ mZ mZ)) : ∀ n k : Nat, k + n = 502 → nK E RX13 cX13_begins 2 none R A Nm Zf cs ss 2 [(1, .int (nI k)), (0, .ref (a 0))] [] (mdW E a mZ mZ mZ mZ) := by
  intro n
  induction n with
  | zero =>
    intro k hk
    obtain rfl : k = 502 := by omega
    refine n_iload_n 0 dX13_begins_2 rfl ?_
    refine n_sipush (v := nI 502) dX13_begins_3 (by decide) ?_
    refine n_icmp_ge 22 dX13_begins_6 (by decide) (fun _ => fin) (fun c => absurd (Int32.le_refl _) c)
  | succ n ih =>
    intro k hk
    refine n_iload_n 0 dX13_begins_2 rfl ?_
    refine n_sipush (v := nI 502) dX13_begins_3 (by decide) ?_
    refine n_icmp_ge 22 dX13_begins_6 (by decide) (fun c => absurd c (nI_ge (by omega) (by omega))) (fun _ => ?_)
    refine n_aload_n 1 dX13_begins_9 rfl ?_
    refine n_get 0 fd_X13_16 rfl rfl dX13_begins_10 ?_
    refine n_iload_n 0 dX13_begins_13 rfl ?_
    refine n_iconst (v := 0) dX13_begins_14 (by decide) ?_
    refine n_iast 3 (f := mZ) rfl (vp_in_nI (by omega) (by omega)) dX13_begins_15 ?_
    rw [mZ_up]
    refine n_iinc 0 (v := nI (k + 1)) [(1, .int (nI (k + 1))), (0, .ref (a 0))] dX13_begins_16 rfl (nI_1 k) (by decide) rfl ?_
    refine n_goto 2 dX13_begins_19 (by decide) ?_
    exact ih (k + 1) (by omega)
set_option maxRecDepth 100000 in
set_option maxHeartbeats 4000000 in
theorem nl_b2 {E : gE} {a : Nat → Nat} {R : Room} {A : Nat → Prop} {Nm : State → Method → Prop} {Zf : List Frame → Array Value → State → State → Prop} {cs ss : Nat} (fin : nK E RX13 cX13_begins 2 none R A Nm Zf cs ss 54 [(1, .int (nI 65)), (0, .ref (a 0))] [] (mdW E a mZ mZ mZ (mNN 65))) : ∀ n k : Nat, k + n = 65 → nK E RX13 cX13_begins 2 none R A Nm Zf cs ss 24 [(1, .int (nI k)), (0, .ref (a 0))] [] (mdW E a mZ mZ mZ (mNN k)) := by
  intro n
  induction n with
  | zero =>
    intro k hk
    obtain rfl : k = 65 := by omega
    refine n_iload_n 0 dX13_begins_24 rfl ?_
    refine n_bipush (v := nI 65) dX13_begins_25 (by decide) ?_
    refine n_icmp_ge 54 dX13_begins_27 (by decide) (fun _ => fin) (fun c => absurd (Int32.le_refl _) c)
  | succ n ih =>
    intro k hk
    refine n_iload_n 0 dX13_begins_24 rfl ?_
    refine n_bipush (v := nI 65) dX13_begins_25 (by decide) ?_
    refine n_icmp_ge 54 dX13_begins_27 (by decide) (fun c => absurd c (nI_ge (by omega) (by omega))) (fun _ => ?_)
    refine n_aload_n 1 dX13_begins_30 rfl ?_
    refine n_get 0 fd_X13_28 rfl rfl dX13_begins_31 ?_
    refine n_iload_n 0 dX13_begins_34 rfl ?_
    refine n_iload_n 0 dX13_begins_35 rfl ?_
    refine n_bipush (v := nI 10) dX13_begins_36 (by decide) ?_
    have tail : ∀ v : Int32, v = (if k < 10 then (-2) else 0) → nK E RX13 cX13_begins 2 none R A Nm Zf cs ss 47 [(1, .int (nI k)), (0, .ref (a 0))] [.int v, .int (nI k), .ref (a 7)] (mdW E a mZ mZ mZ (mNN k)) := fun v hv => by
      refine n_iast 7 (f := mNN k) rfl (vp_in_nI (by omega) (by omega)) dX13_begins_47 ?_
      rw [nI_clamp (by omega), mNN_up hv]
      refine n_iinc 0 (v := nI (k + 1)) [(1, .int (nI (k + 1))), (0, .ref (a 0))] dX13_begins_48 rfl (nI_1 k) (by decide) rfl ?_
      refine n_goto 24 dX13_begins_51 (by decide) ?_
      exact ih (k + 1) (by omega)
    refine n_icmp_ge 46 dX13_begins_38 (by decide) (fun c => ?_) (fun c => ?_)
    · refine n_iconst (v := 0) dX13_begins_46 (by decide) ?_
      exact tail 0 (by rw [if_neg]; exact fun h => nI_ge h (by omega) c)
    · refine n_bipush (v := (-2)) dX13_begins_41 (by decide) ?_
      refine n_goto 47 dX13_begins_43 (by decide) ?_
      exact tail (-2) (by rw [if_pos]; rcases Nat.lt_or_ge k 10 with h | h; exact h; exact absurd (nI_le h (by omega)) c)
set_option maxRecDepth 100000 in
set_option maxHeartbeats 4000000 in
theorem nc_X13_begins {E : gE} (a : Nat → Nat) : nCt E yX13_begins cX13_begins 2 (rmn 0 0 0) [.ref (a 0)] (mdW E a mZ mZ mZ mZ) (fun _ : Unit => mdW E a mZ mFR mZ (mNN 65)) 0 0 := by
  refine nCt.of (fun _ _ => True) (fun _ _ _ => trivial) (by decide +kernel) (Nat.le_of_ble_eq_true rfl) rfl (fun sz => ?_)
  refine n_iconst (v := nI 0) dX13_begins_0 (by decide) ?_
  refine n_istore_n [(1, .int (nI 0)), (0, .ref (a 0))] dX13_begins_1 (by decide) rfl ?_
  refine nl_b1 ?_ 502 0 rfl
  refine n_iconst (v := nI 0) dX13_begins_22 (by decide) ?_
  refine n_istore_n [(1, .int (nI 0)), (0, .ref (a 0))] dX13_begins_23 (by decide) rfl ?_
  rw [show mdW E a mZ mZ mZ mZ = mdW E a mZ mZ mZ (mNN 0) by rw [mNN_0]]
  refine nl_b2 ?_ 65 0 rfl
  refine n_aload_n 1 dX13_begins_54 rfl ?_
  refine n_get 0 fd_X13_16 rfl rfl dX13_begins_55 ?_
  refine n_iconst (v := 4) dX13_begins_58 (by decide) ?_
  refine n_iconst (v := 2) dX13_begins_59 (by decide) ?_
  refine n_iast 3 (f := mZ) rfl (vpD (by decide)) dX13_begins_60 ?_
  refine n_aload_n 1 dX13_begins_61 rfl ?_
  refine n_get 0 fd_X13_16 rfl rfl dX13_begins_62 ?_
  refine n_bipush (v := 9) dX13_begins_65 (by decide) ?_
  refine n_iconst (v := 2) dX13_begins_67 (by decide) ?_
  refine n_iast 3 rfl (vpD (by decide)) dX13_begins_68 ?_
  refine n_aload_n 1 dX13_begins_69 rfl ?_
  refine n_get 0 fd_X13_41 rfl rfl dX13_begins_70 ?_
  refine n_iconst (v := 0) dX13_begins_73 (by decide) ?_
  refine n_iconst (v := 0) dX13_begins_74 (by decide) ?_
  refine n_zast 10 (f := mZ) rfl (vpD (by decide)) dX13_begins_75 ?_
  refine n_aload_n 1 dX13_begins_76 rfl ?_
  refine n_get 0 fd_X13_41 rfl rfl dX13_begins_77 ?_
  refine n_iconst (v := 1) dX13_begins_80 (by decide) ?_
  refine n_iconst (v := 0) dX13_begins_81 (by decide) ?_
  refine n_zast 10 rfl (vpD (by decide)) dX13_begins_82 ?_
  refine n_arc (x := .inl (gcA E 2, 2, .inl (upd (upd mZ (Int32.toNatClampNeg 0) (vp_nar .boolean 0)) (Int32.toNatClampNeg 1) (vp_nar .boolean 0)))) (y := .inl (gcA E 2, 2, .inl mZ)) 10 rfl (fun H h => by rw [show vp_nar .boolean 0 = 0 from rfl, mZ_up, mZ_up] at h; exact h) ?_
  exact n_vretE (ws1 := fun _ : Unit => mdW E a mZ mFR mZ (mNN 65)) () rfl ⟨Nat.le_of_ble_eq_true rfl, Nat.le_of_ble_eq_true rfl⟩ rfl dX13_begins_83
set_option maxRecDepth 100000 in
set_option maxHeartbeats 4000000 in
theorem nl_c1 {E : gE} {a : Nat → Nat} {R : Room} {A : Nat → Prop} {Nm : State → Method → Prop} {Zf : List Frame → Array Value → State → State → Prop} {cs ss : Nat} (fin : nK E RX13 cX13_becomes 2 none R A Nm Zf cs ss 27 [(1, .int (nI 502)), (0, .ref (a 0))] [] (mdW E a (mCP mFR 502) mFR mZ (mNN 65))) : ∀ n k : Nat, k + n = 502 → nK E RX13 cX13_becomes 2 none R A Nm Zf cs ss 2 [(1, .int (nI k)), (0, .ref (a 0))] [] (mdW E a (mCP mFR k) mFR mZ (mNN 65)) := by
  intro n
  induction n with
  | zero =>
    intro k hk
    obtain rfl : k = 502 := by omega
    refine n_iload_n 0 dX13_becomes_2 rfl ?_
    refine n_sipush (v := nI 502) dX13_becomes_3 (by decide) ?_
    refine n_icmp_ge 27 dX13_becomes_6 (by decide) (fun _ => fin) (fun c => absurd (Int32.le_refl _) c)
  | succ n ih =>
    intro k hk
    refine n_iload_n 0 dX13_becomes_2 rfl ?_
    refine n_sipush (v := nI 502) dX13_becomes_3 (by decide) ?_
    refine n_icmp_ge 27 dX13_becomes_6 (by decide) (fun c => absurd c (nI_ge (by omega) (by omega))) (fun _ => ?_)
    refine n_aload_n 1 dX13_becomes_9 rfl ?_
    refine n_get 0 fd_X13_13 rfl rfl dX13_becomes_10 ?_
    refine n_iload_n 0 dX13_becomes_13 rfl ?_
    refine n_aload_n 1 dX13_becomes_14 rfl ?_
    refine n_get 0 fd_X13_16 rfl rfl dX13_becomes_15 ?_
    refine n_iload_n 0 dX13_becomes_18 rfl ?_
    refine n_iald 3 (f := mFR) rfl (vp_in_nI (by omega) (by omega)) dX13_becomes_19 ?_
    refine n_iast 2 (f := mCP mFR k) rfl (vp_in_nI (by omega) (by omega)) dX13_becomes_20 ?_
    rw [nI_clamp (by omega), mCP_up]
    refine n_iinc 0 (v := nI (k + 1)) [(1, .int (nI (k + 1))), (0, .ref (a 0))] dX13_becomes_21 rfl (nI_1 k) (by decide) rfl ?_
    refine n_goto 2 dX13_becomes_24 (by decide) ?_
    exact ih (k + 1) (by omega)
set_option maxRecDepth 100000 in
set_option maxHeartbeats 4000000 in
theorem nl_c2 {E : gE} {a : Nat → Nat} {R : Room} {A : Nat → Prop} {Nm : State → Method → Prop} {Zf : List Frame → Array Value → State → State → Prop} {cs ss : Nat} (fin : nK E RX13 cX13_becomes 2 none R A Nm Zf cs ss 53 [(1, .int (nI 65)), (0, .ref (a 0))] [] (mdW E a (mCP mFR 502) mFR (mCP (mNN 65) 65) (mNN 65))) : ∀ n k : Nat, k + n = 65 → nK E RX13 cX13_becomes 2 none R A Nm Zf cs ss 29 [(1, .int (nI k)), (0, .ref (a 0))] [] (mdW E a (mCP mFR 502) mFR (mCP (mNN 65) k) (mNN 65)) := by
  intro n
  induction n with
  | zero =>
    intro k hk
    obtain rfl : k = 65 := by omega
    refine n_iload_n 0 dX13_becomes_29 rfl ?_
    refine n_bipush (v := nI 65) dX13_becomes_30 (by decide) ?_
    refine n_icmp_ge 53 dX13_becomes_32 (by decide) (fun _ => fin) (fun c => absurd (Int32.le_refl _) c)
  | succ n ih =>
    intro k hk
    refine n_iload_n 0 dX13_becomes_29 rfl ?_
    refine n_bipush (v := nI 65) dX13_becomes_30 (by decide) ?_
    refine n_icmp_ge 53 dX13_becomes_32 (by decide) (fun c => absurd c (nI_ge (by omega) (by omega))) (fun _ => ?_)
    refine n_aload_n 1 dX13_becomes_35 rfl ?_
    refine n_get 0 fd_X13_25 rfl rfl dX13_becomes_36 ?_
    refine n_iload_n 0 dX13_becomes_39 rfl ?_
    refine n_aload_n 1 dX13_becomes_40 rfl ?_
    refine n_get 0 fd_X13_28 rfl rfl dX13_becomes_41 ?_
    refine n_iload_n 0 dX13_becomes_44 rfl ?_
    refine n_iald 7 (f := mNN 65) rfl (vp_in_nI (by omega) (by omega)) dX13_becomes_45 ?_
    refine n_iast 6 (f := mCP (mNN 65) k) rfl (vp_in_nI (by omega) (by omega)) dX13_becomes_46 ?_
    rw [nI_clamp (by omega), mCP_up]
    refine n_iinc 0 (v := nI (k + 1)) [(1, .int (nI (k + 1))), (0, .ref (a 0))] dX13_becomes_47 rfl (nI_1 k) (by decide) rfl ?_
    refine n_goto 29 dX13_becomes_50 (by decide) ?_
    exact ih (k + 1) (by omega)
set_option maxRecDepth 100000 in
set_option maxHeartbeats 4000000 in
theorem nl_c3 {E : gE} {a : Nat → Nat} {R : Room} {A : Nat → Prop} {Nm : State → Method → Prop} {Zf : List Frame → Array Value → State → State → Prop} {cs ss : Nat} (fin : nK E RX13 cX13_becomes 2 none R A Nm Zf cs ss 79 [(1, .int (nI 12)), (0, .ref (a 0))] [] (mdW E a (mCP mFR 502) mFR (mCP (mNN 65) 65) (mNN 65))) : ∀ n k : Nat, k + n = 12 → nK E RX13 cX13_becomes 2 none R A Nm Zf cs ss 55 [(1, .int (nI k)), (0, .ref (a 0))] [] (mdW E a (mCP mFR 502) mFR (mCP (mNN 65) 65) (mNN 65)) := by
  intro n
  induction n with
  | zero =>
    intro k hk
    obtain rfl : k = 12 := by omega
    refine n_iload_n 0 dX13_becomes_55 rfl ?_
    refine n_bipush (v := nI 12) dX13_becomes_56 (by decide) ?_
    refine n_icmp_ge 79 dX13_becomes_58 (by decide) (fun _ => fin) (fun c => absurd (Int32.le_refl _) c)
  | succ n ih =>
    intro k hk
    refine n_iload_n 0 dX13_becomes_55 rfl ?_
    refine n_bipush (v := nI 12) dX13_becomes_56 (by decide) ?_
    refine n_icmp_ge 79 dX13_becomes_58 (by decide) (fun c => absurd c (nI_ge (by omega) (by omega))) (fun _ => ?_)
    refine n_aload_n 1 dX13_becomes_61 rfl ?_
    refine n_get 0 fd_X13_19 rfl rfl dX13_becomes_62 ?_
    refine n_iload_n 0 dX13_becomes_65 rfl ?_
    refine n_aload_n 1 dX13_becomes_66 rfl ?_
    refine n_get 0 fd_X13_22 rfl rfl dX13_becomes_67 ?_
    refine n_iload_n 0 dX13_becomes_70 rfl ?_
    refine n_iald 5 (f := mZ) rfl (vp_in_nI (by omega) (by omega)) dX13_becomes_71 ?_
    refine n_iast 4 (f := mZ) rfl (vp_in_nI (by omega) (by omega)) dX13_becomes_72 ?_
    rw [nI_clamp (by omega), show upd mZ k (mZ k) = mZ from mZ_up]
    refine n_iinc 0 (v := nI (k + 1)) [(1, .int (nI (k + 1))), (0, .ref (a 0))] dX13_becomes_73 rfl (nI_1 k) (by decide) rfl ?_
    refine n_goto 55 dX13_becomes_76 (by decide) ?_
    exact ih (k + 1) (by omega)
set_option maxRecDepth 100000 in
set_option maxHeartbeats 4000000 in
theorem nc_X13_becomes {E : gE} (a : Nat → Nat) : nCt E yX13_becomes cX13_becomes 2 (rmn 0 0 0) [.ref (a 0)] (mdW E a mZ mFR mZ (mNN 65)) (fun _ : Unit => mdW E a (mCP mFR 502) mFR (mCP (mNN 65) 65) (mNN 65)) 0 0 := by
  refine nCt.of (fun _ _ => True) (fun _ _ _ => trivial) (by decide +kernel) (Nat.le_of_ble_eq_true rfl) rfl (fun sz => ?_)
  refine n_iconst (v := nI 0) dX13_becomes_0 (by decide) ?_
  refine n_istore_n [(1, .int (nI 0)), (0, .ref (a 0))] dX13_becomes_1 (by decide) rfl ?_
  rw [show mdW E a mZ mFR mZ (mNN 65) = mdW E a (mCP mFR 0) mFR mZ (mNN 65) by rw [mCP_0]]
  refine nl_c1 ?_ 502 0 rfl
  refine n_iconst (v := nI 0) dX13_becomes_27 (by decide) ?_
  refine n_istore_n [(1, .int (nI 0)), (0, .ref (a 0))] dX13_becomes_28 (by decide) rfl ?_
  rw [show mdW E a (mCP mFR 502) mFR mZ (mNN 65) = mdW E a (mCP mFR 502) mFR (mCP (mNN 65) 0) (mNN 65) by rw [mCP_0]]
  refine nl_c2 ?_ 65 0 rfl
  refine n_iconst (v := nI 0) dX13_becomes_53 (by decide) ?_
  refine n_istore_n [(1, .int (nI 0)), (0, .ref (a 0))] dX13_becomes_54 (by decide) rfl ?_
  refine nl_c3 ?_ 12 0 rfl
  refine n_aload_n 1 dX13_becomes_79 rfl ?_
  refine n_iconst (v := 0) dX13_becomes_80 (by decide) ?_
  refine n_put 0 fd_X13_194 rfl (Nat.le_of_ble_eq_true rfl) rfl rfl dX13_becomes_81 ?_
  exact n_vretE (ws1 := fun _ : Unit => mdW E a (mCP mFR 502) mFR (mCP (mNN 65) 65) (mNN 65)) () rfl ⟨Nat.le_of_ble_eq_true rfl, Nat.le_of_ble_eq_true rfl⟩ rfl dX13_becomes_84
set_option maxRecDepth 100000 in
set_option maxHeartbeats 4000000 in
theorem nc_X13_init {E : gE} (b : Nat) : nCt E yX13_init cX13_init 1 (rmn 1 13 3518) [.ref (b)] [(b, .inr (11, [.int 0, .null, .int 0, .null, .null, .null, .null, .null, .null, .null, .int 0, .null, .int 0, .int 0, .int 0, .int 0, .int 0, .int 0, .int 0, .int 0, .int 0, .int 0, .null, .int 0, .int 0, .null, .null, .int 0, .int 0, .int 0, .int 0, .null, .int 0]))] (fun f : Nat → Nat => mdW E (nA b f) (mCP mFR 502) mFR (mCP (mNN 65) 65) (mNN 65)) 13 3518 := by
  refine nCt.of isIni (fun _ _ h => h) (by decide +kernel) (Nat.le_of_ble_eq_true rfl) rfl (fun sz => ?_)
  refine n_aload_n 0 dX13_init_0 rfl ?_
  refine n_objInit (gtbl_t tbin6 86 rfl rfl) noi noc ⟨Nat.le_of_ble_eq_true rfl, Nat.le_of_ble_eq_true rfl⟩ dX13_init_1 ?_
  refine n_aload_n 0 dX13_init_4 rfl ?_
  refine n_sipush (v := 1200) dX13_init_5 (by decide) ?_
  refine n_newa (atype := .int) (ty := .int) 0 (N := 1200) (a0 := (1200, .inl (fun _ => 0))) rfl rfl (fun _ _ h => h) (gtbl_t tbin1 91 rfl rfl) (fun _ => rfl) (by decide) (by decide) (by decide) ⟨Nat.le_of_ble_eq_true rfl, Nat.le_of_ble_eq_true rfl⟩ dX13_init_8 (fun q1 => ?_)
  refine n_eq (ws' := (b, .inr (11, [.int 0, .null, .int 0, .null, .null, .null, .null, .null, .null, .null, .int 0, .null, .int 0, .int 0, .int 0, .int 0, .int 0, .int 0, .int 0, .int 0, .int 0, .int 0, .null, .int 0, .int 0, .null, .null, .int 0, .int 0, .int 0, .int 0, .null, .int 0])) :: ([] ++ [(q1, .inl (gcA E 0, 1200, .inl (fun _ => 0)))])) rfl ?_
  obtain ⟨P1, hP1⟩ : ∃ z : va_W, z = [] ++ [(q1, .inl (gcA E 0, 1200, .inl (fun _ => 0)))] := ⟨_, rfl⟩
  rw [← hP1]
  refine n_putF 0 fd_X13_7 rfl rfl (Nat.le_of_ble_eq_true rfl) rfl rfl dX13_init_10 ?_
  refine n_eq (ws' := (b, .inr (11, [.int 0, .ref (q1), .int 0, .null, .null, .null, .null, .null, .null, .null, .int 0, .null, .int 0, .int 0, .int 0, .int 0, .int 0, .int 0, .int 0, .int 0, .int 0, .int 0, .null, .int 0, .int 0, .null, .null, .int 0, .int 0, .int 0, .int 0, .null, .int 0])) :: P1) rfl ?_
  refine n_aload_n 0 dX13_init_13 rfl ?_
  refine n_sipush (v := 502) dX13_init_14 (by decide) ?_
  refine n_newa (atype := .int) (ty := .int) 0 (N := 502) (a0 := (502, .inl (fun _ => 0))) rfl rfl (fun _ _ h => h) (gtbl_t tbin1 91 rfl rfl) (fun _ => rfl) (by decide) (by decide) (by decide) ⟨Nat.le_of_ble_eq_true rfl, Nat.le_of_ble_eq_true rfl⟩ dX13_init_17 (fun q2 => ?_)
  refine n_eq (ws' := (b, .inr (11, [.int 0, .ref (q1), .int 0, .null, .null, .null, .null, .null, .null, .null, .int 0, .null, .int 0, .int 0, .int 0, .int 0, .int 0, .int 0, .int 0, .int 0, .int 0, .int 0, .null, .int 0, .int 0, .null, .null, .int 0, .int 0, .int 0, .int 0, .null, .int 0])) :: (P1 ++ [(q2, .inl (gcA E 0, 502, .inl (fun _ => 0)))])) rfl ?_
  obtain ⟨P2, hP2⟩ : ∃ z : va_W, z = P1 ++ [(q2, .inl (gcA E 0, 502, .inl (fun _ => 0)))] := ⟨_, rfl⟩
  rw [← hP2]
  refine n_putF 0 fd_X13_13 rfl rfl (Nat.le_of_ble_eq_true rfl) rfl rfl dX13_init_19 ?_
  refine n_eq (ws' := (b, .inr (11, [.int 0, .ref (q1), .int 0, .ref (q2), .null, .null, .null, .null, .null, .null, .int 0, .null, .int 0, .int 0, .int 0, .int 0, .int 0, .int 0, .int 0, .int 0, .int 0, .int 0, .null, .int 0, .int 0, .null, .null, .int 0, .int 0, .int 0, .int 0, .null, .int 0])) :: P2) rfl ?_
  refine n_aload_n 0 dX13_init_22 rfl ?_
  refine n_sipush (v := 502) dX13_init_23 (by decide) ?_
  refine n_newa (atype := .int) (ty := .int) 0 (N := 502) (a0 := (502, .inl (fun _ => 0))) rfl rfl (fun _ _ h => h) (gtbl_t tbin1 91 rfl rfl) (fun _ => rfl) (by decide) (by decide) (by decide) ⟨Nat.le_of_ble_eq_true rfl, Nat.le_of_ble_eq_true rfl⟩ dX13_init_26 (fun q3 => ?_)
  refine n_eq (ws' := (b, .inr (11, [.int 0, .ref (q1), .int 0, .ref (q2), .null, .null, .null, .null, .null, .null, .int 0, .null, .int 0, .int 0, .int 0, .int 0, .int 0, .int 0, .int 0, .int 0, .int 0, .int 0, .null, .int 0, .int 0, .null, .null, .int 0, .int 0, .int 0, .int 0, .null, .int 0])) :: (P2 ++ [(q3, .inl (gcA E 0, 502, .inl (fun _ => 0)))])) rfl ?_
  obtain ⟨P3, hP3⟩ : ∃ z : va_W, z = P2 ++ [(q3, .inl (gcA E 0, 502, .inl (fun _ => 0)))] := ⟨_, rfl⟩
  rw [← hP3]
  refine n_putF 0 fd_X13_16 rfl rfl (Nat.le_of_ble_eq_true rfl) rfl rfl dX13_init_28 ?_
  refine n_eq (ws' := (b, .inr (11, [.int 0, .ref (q1), .int 0, .ref (q2), .ref (q3), .null, .null, .null, .null, .null, .int 0, .null, .int 0, .int 0, .int 0, .int 0, .int 0, .int 0, .int 0, .int 0, .int 0, .int 0, .null, .int 0, .int 0, .null, .null, .int 0, .int 0, .int 0, .int 0, .null, .int 0])) :: P3) rfl ?_
  refine n_aload_n 0 dX13_init_31 rfl ?_
  refine n_bipush (v := 12) dX13_init_32 (by decide) ?_
  refine n_newa (atype := .int) (ty := .int) 0 (N := 12) (a0 := (12, .inl (fun _ => 0))) rfl rfl (fun _ _ h => h) (gtbl_t tbin1 91 rfl rfl) (fun _ => rfl) (by decide) (by decide) (by decide) ⟨Nat.le_of_ble_eq_true rfl, Nat.le_of_ble_eq_true rfl⟩ dX13_init_34 (fun q4 => ?_)
  refine n_eq (ws' := (b, .inr (11, [.int 0, .ref (q1), .int 0, .ref (q2), .ref (q3), .null, .null, .null, .null, .null, .int 0, .null, .int 0, .int 0, .int 0, .int 0, .int 0, .int 0, .int 0, .int 0, .int 0, .int 0, .null, .int 0, .int 0, .null, .null, .int 0, .int 0, .int 0, .int 0, .null, .int 0])) :: (P3 ++ [(q4, .inl (gcA E 0, 12, .inl (fun _ => 0)))])) rfl ?_
  obtain ⟨P4, hP4⟩ : ∃ z : va_W, z = P3 ++ [(q4, .inl (gcA E 0, 12, .inl (fun _ => 0)))] := ⟨_, rfl⟩
  rw [← hP4]
  refine n_putF 0 fd_X13_19 rfl rfl (Nat.le_of_ble_eq_true rfl) rfl rfl dX13_init_36 ?_
  refine n_eq (ws' := (b, .inr (11, [.int 0, .ref (q1), .int 0, .ref (q2), .ref (q3), .ref (q4), .null, .null, .null, .null, .int 0, .null, .int 0, .int 0, .int 0, .int 0, .int 0, .int 0, .int 0, .int 0, .int 0, .int 0, .null, .int 0, .int 0, .null, .null, .int 0, .int 0, .int 0, .int 0, .null, .int 0])) :: P4) rfl ?_
  refine n_aload_n 0 dX13_init_39 rfl ?_
  refine n_bipush (v := 12) dX13_init_40 (by decide) ?_
  refine n_newa (atype := .int) (ty := .int) 0 (N := 12) (a0 := (12, .inl (fun _ => 0))) rfl rfl (fun _ _ h => h) (gtbl_t tbin1 91 rfl rfl) (fun _ => rfl) (by decide) (by decide) (by decide) ⟨Nat.le_of_ble_eq_true rfl, Nat.le_of_ble_eq_true rfl⟩ dX13_init_42 (fun q5 => ?_)
  refine n_eq (ws' := (b, .inr (11, [.int 0, .ref (q1), .int 0, .ref (q2), .ref (q3), .ref (q4), .null, .null, .null, .null, .int 0, .null, .int 0, .int 0, .int 0, .int 0, .int 0, .int 0, .int 0, .int 0, .int 0, .int 0, .null, .int 0, .int 0, .null, .null, .int 0, .int 0, .int 0, .int 0, .null, .int 0])) :: (P4 ++ [(q5, .inl (gcA E 0, 12, .inl (fun _ => 0)))])) rfl ?_
  obtain ⟨P5, hP5⟩ : ∃ z : va_W, z = P4 ++ [(q5, .inl (gcA E 0, 12, .inl (fun _ => 0)))] := ⟨_, rfl⟩
  rw [← hP5]
  refine n_putF 0 fd_X13_22 rfl rfl (Nat.le_of_ble_eq_true rfl) rfl rfl dX13_init_44 ?_
  refine n_eq (ws' := (b, .inr (11, [.int 0, .ref (q1), .int 0, .ref (q2), .ref (q3), .ref (q4), .ref (q5), .null, .null, .null, .int 0, .null, .int 0, .int 0, .int 0, .int 0, .int 0, .int 0, .int 0, .int 0, .int 0, .int 0, .null, .int 0, .int 0, .null, .null, .int 0, .int 0, .int 0, .int 0, .null, .int 0])) :: P5) rfl ?_
  refine n_aload_n 0 dX13_init_47 rfl ?_
  refine n_bipush (v := 65) dX13_init_48 (by decide) ?_
  refine n_newa (atype := .int) (ty := .int) 0 (N := 65) (a0 := (65, .inl (fun _ => 0))) rfl rfl (fun _ _ h => h) (gtbl_t tbin1 91 rfl rfl) (fun _ => rfl) (by decide) (by decide) (by decide) ⟨Nat.le_of_ble_eq_true rfl, Nat.le_of_ble_eq_true rfl⟩ dX13_init_50 (fun q6 => ?_)
  refine n_eq (ws' := (b, .inr (11, [.int 0, .ref (q1), .int 0, .ref (q2), .ref (q3), .ref (q4), .ref (q5), .null, .null, .null, .int 0, .null, .int 0, .int 0, .int 0, .int 0, .int 0, .int 0, .int 0, .int 0, .int 0, .int 0, .null, .int 0, .int 0, .null, .null, .int 0, .int 0, .int 0, .int 0, .null, .int 0])) :: (P5 ++ [(q6, .inl (gcA E 0, 65, .inl (fun _ => 0)))])) rfl ?_
  obtain ⟨P6, hP6⟩ : ∃ z : va_W, z = P5 ++ [(q6, .inl (gcA E 0, 65, .inl (fun _ => 0)))] := ⟨_, rfl⟩
  rw [← hP6]
  refine n_putF 0 fd_X13_25 rfl rfl (Nat.le_of_ble_eq_true rfl) rfl rfl dX13_init_52 ?_
  refine n_eq (ws' := (b, .inr (11, [.int 0, .ref (q1), .int 0, .ref (q2), .ref (q3), .ref (q4), .ref (q5), .ref (q6), .null, .null, .int 0, .null, .int 0, .int 0, .int 0, .int 0, .int 0, .int 0, .int 0, .int 0, .int 0, .int 0, .null, .int 0, .int 0, .null, .null, .int 0, .int 0, .int 0, .int 0, .null, .int 0])) :: P6) rfl ?_
  refine n_aload_n 0 dX13_init_55 rfl ?_
  refine n_bipush (v := 65) dX13_init_56 (by decide) ?_
  refine n_newa (atype := .int) (ty := .int) 0 (N := 65) (a0 := (65, .inl (fun _ => 0))) rfl rfl (fun _ _ h => h) (gtbl_t tbin1 91 rfl rfl) (fun _ => rfl) (by decide) (by decide) (by decide) ⟨Nat.le_of_ble_eq_true rfl, Nat.le_of_ble_eq_true rfl⟩ dX13_init_58 (fun q7 => ?_)
  refine n_eq (ws' := (b, .inr (11, [.int 0, .ref (q1), .int 0, .ref (q2), .ref (q3), .ref (q4), .ref (q5), .ref (q6), .null, .null, .int 0, .null, .int 0, .int 0, .int 0, .int 0, .int 0, .int 0, .int 0, .int 0, .int 0, .int 0, .null, .int 0, .int 0, .null, .null, .int 0, .int 0, .int 0, .int 0, .null, .int 0])) :: (P6 ++ [(q7, .inl (gcA E 0, 65, .inl (fun _ => 0)))])) rfl ?_
  obtain ⟨P7, hP7⟩ : ∃ z : va_W, z = P6 ++ [(q7, .inl (gcA E 0, 65, .inl (fun _ => 0)))] := ⟨_, rfl⟩
  rw [← hP7]
  refine n_putF 0 fd_X13_28 rfl rfl (Nat.le_of_ble_eq_true rfl) rfl rfl dX13_init_60 ?_
  refine n_eq (ws' := (b, .inr (11, [.int 0, .ref (q1), .int 0, .ref (q2), .ref (q3), .ref (q4), .ref (q5), .ref (q6), .ref (q7), .null, .int 0, .null, .int 0, .int 0, .int 0, .int 0, .int 0, .int 0, .int 0, .int 0, .int 0, .int 0, .null, .int 0, .int 0, .null, .null, .int 0, .int 0, .int 0, .int 0, .null, .int 0])) :: P7) rfl ?_
  refine n_aload_n 0 dX13_init_63 rfl ?_
  refine n_sipush (v := 1040) dX13_init_64 (by decide) ?_
  refine n_newa (atype := .int) (ty := .int) 0 (N := 1040) (a0 := (1040, .inl (fun _ => 0))) rfl rfl (fun _ _ h => h) (gtbl_t tbin1 91 rfl rfl) (fun _ => rfl) (by decide) (by decide) (by decide) ⟨Nat.le_of_ble_eq_true rfl, Nat.le_of_ble_eq_true rfl⟩ dX13_init_67 (fun q8 => ?_)
  refine n_eq (ws' := (b, .inr (11, [.int 0, .ref (q1), .int 0, .ref (q2), .ref (q3), .ref (q4), .ref (q5), .ref (q6), .ref (q7), .null, .int 0, .null, .int 0, .int 0, .int 0, .int 0, .int 0, .int 0, .int 0, .int 0, .int 0, .int 0, .null, .int 0, .int 0, .null, .null, .int 0, .int 0, .int 0, .int 0, .null, .int 0])) :: (P7 ++ [(q8, .inl (gcA E 0, 1040, .inl (fun _ => 0)))])) rfl ?_
  obtain ⟨P8, hP8⟩ : ∃ z : va_W, z = P7 ++ [(q8, .inl (gcA E 0, 1040, .inl (fun _ => 0)))] := ⟨_, rfl⟩
  rw [← hP8]
  refine n_putF 0 fd_X13_31 rfl rfl (Nat.le_of_ble_eq_true rfl) rfl rfl dX13_init_69 ?_
  refine n_eq (ws' := (b, .inr (11, [.int 0, .ref (q1), .int 0, .ref (q2), .ref (q3), .ref (q4), .ref (q5), .ref (q6), .ref (q7), .ref (q8), .int 0, .null, .int 0, .int 0, .int 0, .int 0, .int 0, .int 0, .int 0, .int 0, .int 0, .int 0, .null, .int 0, .int 0, .null, .null, .int 0, .int 0, .int 0, .int 0, .null, .int 0])) :: P8) rfl ?_
  refine n_aload_n 0 dX13_init_72 rfl ?_
  refine n_bipush (v := 36) dX13_init_73 (by decide) ?_
  refine n_newa (atype := .int) (ty := .int) 0 (N := 36) (a0 := (36, .inl (fun _ => 0))) rfl rfl (fun _ _ h => h) (gtbl_t tbin1 91 rfl rfl) (fun _ => rfl) (by decide) (by decide) (by decide) ⟨Nat.le_of_ble_eq_true rfl, Nat.le_of_ble_eq_true rfl⟩ dX13_init_75 (fun q9 => ?_)
  refine n_eq (ws' := (b, .inr (11, [.int 0, .ref (q1), .int 0, .ref (q2), .ref (q3), .ref (q4), .ref (q5), .ref (q6), .ref (q7), .ref (q8), .int 0, .null, .int 0, .int 0, .int 0, .int 0, .int 0, .int 0, .int 0, .int 0, .int 0, .int 0, .null, .int 0, .int 0, .null, .null, .int 0, .int 0, .int 0, .int 0, .null, .int 0])) :: (P8 ++ [(q9, .inl (gcA E 0, 36, .inl (fun _ => 0)))])) rfl ?_
  obtain ⟨P9, hP9⟩ : ∃ z : va_W, z = P8 ++ [(q9, .inl (gcA E 0, 36, .inl (fun _ => 0)))] := ⟨_, rfl⟩
  rw [← hP9]
  refine n_putF 0 fd_X13_34 rfl rfl (Nat.le_of_ble_eq_true rfl) rfl rfl dX13_init_77 ?_
  refine n_eq (ws' := (b, .inr (11, [.int 0, .ref (q1), .int 0, .ref (q2), .ref (q3), .ref (q4), .ref (q5), .ref (q6), .ref (q7), .ref (q8), .int 0, .ref (q9), .int 0, .int 0, .int 0, .int 0, .int 0, .int 0, .int 0, .int 0, .int 0, .int 0, .null, .int 0, .int 0, .null, .null, .int 0, .int 0, .int 0, .int 0, .null, .int 0])) :: P9) rfl ?_
  refine n_aload_n 0 dX13_init_80 rfl ?_
  refine n_iconst (v := (-1)) dX13_init_81 (by decide) ?_
  refine n_put 0 fd_X13_37 rfl (Nat.le_of_ble_eq_true rfl) rfl rfl dX13_init_82 ?_
  refine n_eq (ws' := (b, .inr (11, [.int 0, .ref (q1), .int 0, .ref (q2), .ref (q3), .ref (q4), .ref (q5), .ref (q6), .ref (q7), .ref (q8), .int 0, .ref (q9), .int 0, .int 0, .int 0, .int 0, .int 0, .int 0, .int 0, .int 0, .int 0, .int (-1), .null, .int 0, .int 0, .null, .null, .int 0, .int 0, .int 0, .int 0, .null, .int 0])) :: P9) rfl ?_
  refine n_aload_n 0 dX13_init_85 rfl ?_
  refine n_iconst (v := 2) dX13_init_86 (by decide) ?_
  refine n_newa (atype := .boolean) (ty := .boolean) 2 (N := 2) (a0 := (2, .inl (fun _ => 0))) rfl rfl (fun _ _ h => h) (gtbl_t tbin2 177 rfl rfl) (fun _ => rfl) (by decide) (by decide) (by decide) ⟨Nat.le_of_ble_eq_true rfl, Nat.le_of_ble_eq_true rfl⟩ dX13_init_87 (fun q10 => ?_)
  refine n_eq (ws' := (b, .inr (11, [.int 0, .ref (q1), .int 0, .ref (q2), .ref (q3), .ref (q4), .ref (q5), .ref (q6), .ref (q7), .ref (q8), .int 0, .ref (q9), .int 0, .int 0, .int 0, .int 0, .int 0, .int 0, .int 0, .int 0, .int 0, .int (-1), .null, .int 0, .int 0, .null, .null, .int 0, .int 0, .int 0, .int 0, .null, .int 0])) :: (P9 ++ [(q10, .inl (gcA E 2, 2, .inl (fun _ => 0)))])) rfl ?_
  obtain ⟨P10, hP10⟩ : ∃ z : va_W, z = P9 ++ [(q10, .inl (gcA E 2, 2, .inl (fun _ => 0)))] := ⟨_, rfl⟩
  rw [← hP10]
  refine n_putF 0 fd_X13_41 rfl rfl (Nat.le_of_ble_eq_true rfl) rfl rfl dX13_init_89 ?_
  refine n_eq (ws' := (b, .inr (11, [.int 0, .ref (q1), .int 0, .ref (q2), .ref (q3), .ref (q4), .ref (q5), .ref (q6), .ref (q7), .ref (q8), .int 0, .ref (q9), .int 0, .int 0, .int 0, .int 0, .int 0, .int 0, .int 0, .int 0, .int 0, .int (-1), .ref (q10), .int 0, .int 0, .null, .null, .int 0, .int 0, .int 0, .int 0, .null, .int 0])) :: P10) rfl ?_
  refine n_aload_n 0 dX13_init_92 rfl ?_
  refine n_bipush (v := 11) dX13_init_93 (by decide) ?_
  refine n_newa (atype := .long) (ty := .long) 1 (N := 11) (a0 := (11, .inr (.inl (fun _ => 0)))) rfl rfl (fun _ _ h => h) (gtbl_t tbin2 214 rfl rfl) (fun _ => rfl) (by decide) (by decide) (by decide) ⟨Nat.le_of_ble_eq_true rfl, Nat.le_of_ble_eq_true rfl⟩ dX13_init_95 (fun q11 => ?_)
  refine n_eq (ws' := (b, .inr (11, [.int 0, .ref (q1), .int 0, .ref (q2), .ref (q3), .ref (q4), .ref (q5), .ref (q6), .ref (q7), .ref (q8), .int 0, .ref (q9), .int 0, .int 0, .int 0, .int 0, .int 0, .int 0, .int 0, .int 0, .int 0, .int (-1), .ref (q10), .int 0, .int 0, .null, .null, .int 0, .int 0, .int 0, .int 0, .null, .int 0])) :: (P10 ++ [(q11, .inl (gcA E 1, 11, .inr (.inl (fun _ => 0))))])) rfl ?_
  obtain ⟨P11, hP11⟩ : ∃ z : va_W, z = P10 ++ [(q11, .inl (gcA E 1, 11, .inr (.inl (fun _ => 0))))] := ⟨_, rfl⟩
  rw [← hP11]
  refine n_putF 0 fd_X13_45 rfl rfl (Nat.le_of_ble_eq_true rfl) rfl rfl dX13_init_97 ?_
  refine n_eq (ws' := (b, .inr (11, [.int 0, .ref (q1), .int 0, .ref (q2), .ref (q3), .ref (q4), .ref (q5), .ref (q6), .ref (q7), .ref (q8), .int 0, .ref (q9), .int 0, .int 0, .int 0, .int 0, .int 0, .int 0, .int 0, .int 0, .int 0, .int (-1), .ref (q10), .int 0, .int 0, .ref (q11), .null, .int 0, .int 0, .int 0, .int 0, .null, .int 0])) :: P11) rfl ?_
  refine n_aload_n 0 dX13_init_100 rfl ?_
  refine n_bipush (v := 11) dX13_init_101 (by decide) ?_
  refine n_newa (atype := .long) (ty := .long) 1 (N := 11) (a0 := (11, .inr (.inl (fun _ => 0)))) rfl rfl (fun _ _ h => h) (gtbl_t tbin2 214 rfl rfl) (fun _ => rfl) (by decide) (by decide) (by decide) ⟨Nat.le_of_ble_eq_true rfl, Nat.le_of_ble_eq_true rfl⟩ dX13_init_103 (fun q12 => ?_)
  refine n_eq (ws' := (b, .inr (11, [.int 0, .ref (q1), .int 0, .ref (q2), .ref (q3), .ref (q4), .ref (q5), .ref (q6), .ref (q7), .ref (q8), .int 0, .ref (q9), .int 0, .int 0, .int 0, .int 0, .int 0, .int 0, .int 0, .int 0, .int 0, .int (-1), .ref (q10), .int 0, .int 0, .ref (q11), .null, .int 0, .int 0, .int 0, .int 0, .null, .int 0])) :: (P11 ++ [(q12, .inl (gcA E 1, 11, .inr (.inl (fun _ => 0))))])) rfl ?_
  obtain ⟨P12, hP12⟩ : ∃ z : va_W, z = P11 ++ [(q12, .inl (gcA E 1, 11, .inr (.inl (fun _ => 0))))] := ⟨_, rfl⟩
  rw [← hP12]
  refine n_putF 0 fd_X13_49 rfl rfl (Nat.le_of_ble_eq_true rfl) rfl rfl dX13_init_105 ?_
  refine n_eq (ws' := (b, .inr (11, [.int 0, .ref (q1), .int 0, .ref (q2), .ref (q3), .ref (q4), .ref (q5), .ref (q6), .ref (q7), .ref (q8), .int 0, .ref (q9), .int 0, .int 0, .int 0, .int 0, .int 0, .int 0, .int 0, .int 0, .int 0, .int (-1), .ref (q10), .int 0, .int 0, .ref (q11), .ref (q12), .int 0, .int 0, .int 0, .int 0, .null, .int 0])) :: P12) rfl ?_
  refine n_aload_n 0 dX13_init_108 rfl ?_
  refine n_bipush (v := 60) dX13_init_109 (by decide) ?_
  refine n_newa (atype := .int) (ty := .int) 0 (N := 60) (a0 := (60, .inl (fun _ => 0))) rfl rfl (fun _ _ h => h) (gtbl_t tbin1 91 rfl rfl) (fun _ => rfl) (by decide) (by decide) (by decide) ⟨Nat.le_of_ble_eq_true rfl, Nat.le_of_ble_eq_true rfl⟩ dX13_init_111 (fun q13 => ?_)
  refine n_eq (ws' := (b, .inr (11, [.int 0, .ref (q1), .int 0, .ref (q2), .ref (q3), .ref (q4), .ref (q5), .ref (q6), .ref (q7), .ref (q8), .int 0, .ref (q9), .int 0, .int 0, .int 0, .int 0, .int 0, .int 0, .int 0, .int 0, .int 0, .int (-1), .ref (q10), .int 0, .int 0, .ref (q11), .ref (q12), .int 0, .int 0, .int 0, .int 0, .null, .int 0])) :: (P12 ++ [(q13, .inl (gcA E 0, 60, .inl (fun _ => 0)))])) rfl ?_
  obtain ⟨P13, hP13⟩ : ∃ z : va_W, z = P12 ++ [(q13, .inl (gcA E 0, 60, .inl (fun _ => 0)))] := ⟨_, rfl⟩
  rw [← hP13]
  refine n_putF 0 fd_X13_52 rfl rfl (Nat.le_of_ble_eq_true rfl) rfl rfl dX13_init_113 ?_
  refine n_eq (ws' := (b, .inr (11, [.int 0, .ref (q1), .int 0, .ref (q2), .ref (q3), .ref (q4), .ref (q5), .ref (q6), .ref (q7), .ref (q8), .int 0, .ref (q9), .int 0, .int 0, .int 0, .int 0, .int 0, .int 0, .int 0, .int 0, .int 0, .int (-1), .ref (q10), .int 0, .int 0, .ref (q11), .ref (q12), .int 0, .int 0, .int 0, .int 0, .ref (q13), .int 0])) :: P13) rfl ?_
  subst hP1 hP2 hP3 hP4 hP5 hP6 hP7 hP8 hP9 hP10 hP11 hP12 hP13
  obtain ⟨a, ha⟩ : ∃ a : Nat → Nat, a = (nA b (fun i => [q1, q2, q3, q4, q5, q6, q7, q8, q9, q10, q11, q12, q13].getD i 0)) := ⟨_, rfl⟩
  refine n_eq (show _ = mdW E (nA b (fun i => [q1, q2, q3, q4, q5, q6, q7, q8, q9, q10, q11, q12, q13].getD i 0)) mZ mZ mZ mZ from rfl) ?_
  rw [← ha]
  have hb : b = a 0 := by rw [ha]; rfl
  rw [hb]
  refine n_aload_n 0 dX13_init_116 rfl ?_
  refine n_callV (As := []) (n := 0) 0 (nc_X13_begins (E := E) a) mt_X13_begins ml_X13_55 rfl rfl rfl sg_X13_begins rfl ⟨rfl, rfl, Nat.le_of_ble_eq_true rfl, Nat.le_of_ble_eq_true rfl, Nat.le_of_ble_eq_true rfl, Nat.le_of_ble_eq_true rfl⟩ (by decide) dX13_init_117 (fun _ => ?_)
  refine n_aload_n 0 dX13_init_120 rfl ?_
  refine n_callV (As := []) (n := 0) 0 (nc_X13_becomes (E := E) a) mt_X13_becomes ml_X13_58 rfl rfl rfl sg_X13_becomes rfl ⟨rfl, rfl, Nat.le_of_ble_eq_true rfl, Nat.le_of_ble_eq_true rfl, Nat.le_of_ble_eq_true rfl, Nat.le_of_ble_eq_true rfl⟩ (by decide) dX13_init_121 (fun _ => ?_)
  exact n_vretE (ws1 := fun f : Nat → Nat => mdW E (nA (a 0) f) (mCP mFR 502) mFR (mCP (mNN 65) 65) (mNN 65)) (fun i => a (i + 1)) rfl ⟨Nat.le_of_ble_eq_true rfl, Nat.le_of_ble_eq_true rfl⟩ rfl dX13_init_124

end
