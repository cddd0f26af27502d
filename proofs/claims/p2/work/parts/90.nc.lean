set_option linter.all false
noncomputable section
abbrev rmn (d mc ms : Nat) : Room := { frames := d, cells := mc, slots := ms, locals := d * 64 }
theorem noi : Cond.instanceMethod Lib.objectInit ∈ gtbl := (gtbl_t tbin1 34 rfl rfl)
theorem noc : Cond.code Lib.objectInit ⟨#[0xb1]⟩ 1 none ∈ gtbl := (gtbl_t tbin1 35 rfl rfl)
theorem nd_X1 : ∀ j, j < 8 → defaultValue (tyX1 j) = vp_V [.null, .null, .null, .long 0, .int 0, .int 0, .int 0, .int 0] j := fun j hj => by rcases (show j = 0 ∨ j = 1 ∨ j = 2 ∨ j = 3 ∨ j = 4 ∨ j = 5 ∨ j = 6 ∨ j = 7 by omega) with rfl | rfl | rfl | rfl | rfl | rfl | rfl | rfl <;> rfl
theorem nd_X2 : ∀ j, j < 6 → defaultValue (tyX2 j) = vp_V [.null, .null, .null, .null, .int 0, .int 0] j := fun j hj => by rcases (show j = 0 ∨ j = 1 ∨ j = 2 ∨ j = 3 ∨ j = 4 ∨ j = 5 by omega) with rfl | rfl | rfl | rfl | rfl | rfl <;> rfl
theorem nd_X3 : ∀ j, j < 6 → defaultValue (tyX3 j) = vp_V [.int 0, .int 0, .int 0, .int 0, .int 0, .int 0] j := fun j hj => by rcases (show j = 0 ∨ j = 1 ∨ j = 2 ∨ j = 3 ∨ j = 4 ∨ j = 5 by omega) with rfl | rfl | rfl | rfl | rfl | rfl <;> rfl
theorem nd_X4 : ∀ j, j < 6 → defaultValue (tyX4 j) = vp_V [.null, .null, .null, .null, .int 0, .int 0] j := fun j hj => by rcases (show j = 0 ∨ j = 1 ∨ j = 2 ∨ j = 3 ∨ j = 4 ∨ j = 5 by omega) with rfl | rfl | rfl | rfl | rfl | rfl <;> rfl
theorem nd_X5 : ∀ j, j < 16 → defaultValue (tyX5 j) = vp_V [.int 0, .int 0, .int 0, .int 0, .int 0, .int 0, .int 0, .int 0, .int 0, .int 0, .int 0, .null, .null, .null, .null, .null] j := fun j hj => by rcases (show j = 0 ∨ j = 1 ∨ j = 2 ∨ j = 3 ∨ j = 4 ∨ j = 5 ∨ j = 6 ∨ j = 7 ∨ j = 8 ∨ j = 9 ∨ j = 10 ∨ j = 11 ∨ j = 12 ∨ j = 13 ∨ j = 14 ∨ j = 15 by omega) with rfl | rfl | rfl | rfl | rfl | rfl | rfl | rfl | rfl | rfl | rfl | rfl | rfl | rfl | rfl | rfl <;> rfl
theorem nd_X6 : ∀ j, j < 3 → defaultValue (tyX6 j) = vp_V [.int 0, .int 0, .int 0] j := fun j hj => by rcases (show j = 0 ∨ j = 1 ∨ j = 2 by omega) with rfl | rfl | rfl <;> rfl
theorem nd_X7 : ∀ j, j < 13 → defaultValue (tyX7 j) = vp_V [.null, .null, .null, .null, .null, .null, .null, .null, .int 0, .int 0, .int 0, .int 0, .int 0] j := fun j hj => by rcases (show j = 0 ∨ j = 1 ∨ j = 2 ∨ j = 3 ∨ j = 4 ∨ j = 5 ∨ j = 6 ∨ j = 7 ∨ j = 8 ∨ j = 9 ∨ j = 10 ∨ j = 11 ∨ j = 12 by omega) with rfl | rfl | rfl | rfl | rfl | rfl | rfl | rfl | rfl | rfl | rfl | rfl | rfl <;> rfl
theorem nd_X8 : ∀ j, j < 8 → defaultValue (tyX8 j) = vp_V [.null, .null, .null, .null, .null, .int 0, .int 0, .int 0] j := fun j hj => by rcases (show j = 0 ∨ j = 1 ∨ j = 2 ∨ j = 3 ∨ j = 4 ∨ j = 5 ∨ j = 6 ∨ j = 7 by omega) with rfl | rfl | rfl | rfl | rfl | rfl | rfl | rfl <;> rfl
theorem nd_X9 : ∀ j, j < 3 → defaultValue (tyX9 j) = vp_V [.int 0, .int 0, .int 0] j := fun j hj => by rcases (show j = 0 ∨ j = 1 ∨ j = 2 by omega) with rfl | rfl | rfl <;> rfl
theorem nd_X11 : ∀ j, j < 7 → defaultValue (tyX11 j) = vp_V [.null, .null, .null, .int 0, .null, .int 0, .int 0] j := fun j hj => by rcases (show j = 0 ∨ j = 1 ∨ j = 2 ∨ j = 3 ∨ j = 4 ∨ j = 5 ∨ j = 6 by omega) with rfl | rfl | rfl | rfl | rfl | rfl | rfl <;> rfl
theorem nd_X12 : ∀ j, j < 12 → defaultValue (tyX12 j) = vp_V [.null, .int 0, .int 0, .int 0, .null, .null, .null, .null, .null, .null, .null, .null] j := fun j hj => by rcases (show j = 0 ∨ j = 1 ∨ j = 2 ∨ j = 3 ∨ j = 4 ∨ j = 5 ∨ j = 6 ∨ j = 7 ∨ j = 8 ∨ j = 9 ∨ j = 10 ∨ j = 11 by omega) with rfl | rfl | rfl | rfl | rfl | rfl | rfl | rfl | rfl | rfl | rfl | rfl <;> rfl
theorem nd_X13 : ∀ j, j < 33 → defaultValue (tyX13 j) = vp_V [.int 0, .null, .int 0, .null, .null, .null, .null, .null, .null, .null, .int 0, .null, .int 0, .int 0, .int 0, .int 0, .int 0, .int 0, .int 0, .int 0, .int 0, .int 0, .null, .int 0, .int 0, .null, .null, .int 0, .int 0, .int 0, .int 0, .null, .int 0] j := fun j hj => by rcases (show j = 0 ∨ j = 1 ∨ j = 2 ∨ j = 3 ∨ j = 4 ∨ j = 5 ∨ j = 6 ∨ j = 7 ∨ j = 8 ∨ j = 9 ∨ j = 10 ∨ j = 11 ∨ j = 12 ∨ j = 13 ∨ j = 14 ∨ j = 15 ∨ j = 16 ∨ j = 17 ∨ j = 18 ∨ j = 19 ∨ j = 20 ∨ j = 21 ∨ j = 22 ∨ j = 23 ∨ j = 24 ∨ j = 25 ∨ j = 26 ∨ j = 27 ∨ j = 28 ∨ j = 29 ∨ j = 30 ∨ j = 31 ∨ j = 32 by omega) with rfl | rfl | rfl | rfl | rfl | rfl | rfl | rfl | rfl | rfl | rfl | rfl | rfl | rfl | rfl | rfl | rfl | rfl | rfl | rfl | rfl | rfl | rfl | rfl | rfl | rfl | rfl | rfl | rfl | rfl | rfl | rfl | rfl <;> rfl
theorem nm_X1_init : gMi yX1_init cX1_init 3 := ⟨(gtbl_t tbin2 181 rfl rfl), (gtbl_t tbin1 12 rfl rfl), (gtbl_t tbin2 182 rfl rfl), by decide +kernel, by decide +kernel, rfl⟩
theorem ns_X1_init : (parseMethodDescriptor yX1_init.desc).map (fun d => d.parameters.length) = some 2 := by decide +kernel
theorem nm_X2_init : gMi yX2_init cX2_init 2 := ⟨(gtbl_t tbin2 218 rfl rfl), (gtbl_t tbin1 13 rfl rfl), (gtbl_t tbin2 219 rfl rfl), by decide +kernel, by decide +kernel, rfl⟩
theorem ns_X2_init : (parseMethodDescriptor yX2_init.desc).map (fun d => d.parameters.length) = some 1 := by decide +kernel
theorem nm_X3_init : gMi yX3_init cX3_init 1 := ⟨(gtbl_t tbin1 52 rfl rfl), (gtbl_t tbin1 3 rfl rfl), (gtbl_t tbin1 53 rfl rfl), by decide +kernel, by decide +kernel, rfl⟩
theorem ns_X3_init : (parseMethodDescriptor yX3_init.desc).map (fun d => d.parameters.length) = some 0 := by decide +kernel
theorem nm_X4_init : gMi yX4_init cX4_init 2 := ⟨(gtbl_t tbin2 150 rfl rfl), (gtbl_t tbin1 11 rfl rfl), (gtbl_t tbin2 151 rfl rfl), by decide +kernel, by decide +kernel, rfl⟩
theorem ns_X4_init : (parseMethodDescriptor yX4_init.desc).map (fun d => d.parameters.length) = some 1 := by decide +kernel
theorem nm_X5_init : gMi yX5_init cX5_init 1 := ⟨(gtbl_t tbin1 140 rfl rfl), (gtbl_t tbin1 6 rfl rfl), (gtbl_t tbin1 141 rfl rfl), by decide +kernel, by decide +kernel, rfl⟩
theorem ns_X5_init : (parseMethodDescriptor yX5_init.desc).map (fun d => d.parameters.length) = some 0 := by decide +kernel
theorem nm_X6_init : gMi yX6_init cX6_init 1 := ⟨(gtbl_t tbin1 94 rfl rfl), (gtbl_t tbin1 4 rfl rfl), (gtbl_t tbin1 95 rfl rfl), by decide +kernel, by decide +kernel, rfl⟩
theorem ns_X6_init : (parseMethodDescriptor yX6_init.desc).map (fun d => d.parameters.length) = some 0 := by decide +kernel
theorem nm_X7_init : gMi yX7_init cX7_init 2 := ⟨(gtbl_t tbin1 39 rfl rfl), (gtbl_t tbin1 2 rfl rfl), (gtbl_t tbin1 40 rfl rfl), by decide +kernel, by decide +kernel, rfl⟩
theorem ns_X7_init : (parseMethodDescriptor yX7_init.desc).map (fun d => d.parameters.length) = some 0 := by decide +kernel
theorem nm_X8_init : gMi yX8_init cX8_init 3 := ⟨(gtbl_t tbin2 117 rfl rfl), (gtbl_t tbin1 10 rfl rfl), (gtbl_t tbin2 118 rfl rfl), by decide +kernel, by decide +kernel, rfl⟩
theorem ns_X8_init : (parseMethodDescriptor yX8_init.desc).map (fun d => d.parameters.length) = some 2 := by decide +kernel
theorem nm_X9_init : gMi yX9_init cX9_init 1 := ⟨(gtbl_t tbin1 118 rfl rfl), (gtbl_t tbin1 5 rfl rfl), (gtbl_t tbin1 119 rfl rfl), by decide +kernel, by decide +kernel, rfl⟩
theorem ns_X9_init : (parseMethodDescriptor yX9_init.desc).map (fun d => d.parameters.length) = some 0 := by decide +kernel
theorem nm_X11_init : gMi yX11_init cX11_init 3 := ⟨(gtbl_t tbin2 81 rfl rfl), (gtbl_t tbin1 7 rfl rfl), (gtbl_t tbin2 82 rfl rfl), by decide +kernel, by decide +kernel, rfl⟩
theorem ns_X11_init : (parseMethodDescriptor yX11_init.desc).map (fun d => d.parameters.length) = some 1 := by decide +kernel
theorem nm_X12_init : gMi yX12_init cX12_init 1 := ⟨(gtbl_t tbin1 31 rfl rfl), (gtbl_t tbin1 1 rfl rfl), (gtbl_t tbin1 32 rfl rfl), by decide +kernel, by decide +kernel, rfl⟩
theorem ns_X12_init : (parseMethodDescriptor yX12_init.desc).map (fun d => d.parameters.length) = some 0 := by decide +kernel
theorem nm_X13_init : gMi yX13_init cX13_init 1 := ⟨(gtbl_t tbin6 84 rfl rfl), (gtbl_t tbin1 14 rfl rfl), (gtbl_t tbin6 85 rfl rfl), by decide +kernel, by decide +kernel, rfl⟩
theorem ns_X13_init : (parseMethodDescriptor yX13_init.desc).map (fun d => d.parameters.length) = some 0 := by decide +kernel
def nA (b : Nat) (f : Nat → Nat) : Nat → Nat
  | 0 => b
  | i + 1 => f i
section NV
variable {E : gE} {own : String} {cc : ByteArray} {nL : Nat} {ret : Option FieldType} {R : Room} {A : Nat → Prop} {Nm : State → Method → Prop} {Zf : List Frame → Array Value → State → State → Prop} {cs ss : Nat} {pc : Nat} {lv : List (Nat × Value)} {st : List Value} {ws : va_W}
theorem n_vretE {S : Type} {ws1 : S → va_W} {mc ms : Nat} (f : S) (he : ws = ws1 f) (hm : cs ≤ mc ∧ ss ≤ ms) (hret : ret = none) (hd : decode cc pc = .ok (.return_, 1)) : nK E own cc nL ret R A Nm (fun below args s => MQ below (nQ E A ws1) args s mc ms A) cs ss pc lv [] ws :=
  n_vret f (List.range ws.length) (n_ndr _) (by rw [← he]; exact n_all ws) hm hret hd
theorem n_gs {a : Nat} {x y : va_E} {i : Nat} (h : ws[i]? = some (a, x)) : (ws.set i (a, y))[i]? = some (a, y) := List.getElem?_set_self (List.getElem?_eq_some_iff.mp h).1
/-- an array's cells said otherwise -/
theorem n_arc {a : Nat} {x y : va_E} (i : Nat) (he : ws[i]? = some (a, x)) (hxy : ∀ H : Heap, va_at (gD E) vwCl (a, x) H → va_at (gD E) vwCl (a, y) H) (h : nK E own cc nL ret R A Nm Zf cs ss pc lv st (ws.set i (a, y))) : nK E own cc nL ret R A Nm Zf cs ss pc lv st ws := by
  intro p l e s m args below meth c H locs ls F X9 C L
  refine h p l e s m args below meth c H locs ls F X9 ⟨C.1, C.2.1, fun k q hk => ?_, C.2.2.2.1.set he, C.2.2.2.2.1, C.2.2.2.2.2.1, C.2.2.2.2.2.2⟩ L
  by_cases hki : i = k
  · subst hki
    rw [n_gs he] at hk
    cases hk
    exact hxy _ (C.2.2.1 i _ he)
  · rw [List.getElem?_set_ne hki] at hk
    exact C.2.2.1 k q hk
theorem arrV_cong {cA : ClassId} {n : Nat} {f g : Nat → Value} (h : ∀ j, j < n → f j = g j) : arrV cA n f = arrV cA n g := by
  unfold arrV
  congr 2
  funext j
  exact h j.1 j.2
theorem n_arq {a t n : Nat} {f : Nat → Option Nat} (g : Nat → Option Nat) (i : Nat) (he : ws[i]? = some (a, .inl (gcA E t, n, .inr (.inr (.inr (.inr f)))))) (hf : ∀ j, j < n → f j = g j) (h : nK E own cc nL ret R A Nm Zf cs ss pc lv st (ws.set i (a, .inl (gcA E t, n, .inr (.inr (.inr (.inr g))))))) : nK E own cc nL ret R A Nm Zf cs ss pc lv st ws :=
  n_arc i he (fun H hH => by
    have h1 : H[a]? = some (vp_cell (gcA E t) (n, .inr (.inr (.inr (.inr f))))) := hH
    show H[a]? = some (vp_cell (gcA E t) (n, .inr (.inr (.inr (.inr g)))))
    rw [h1, vp_cell_q, vp_cell_q, arrV_cong (fun j hj => by rw [hf j hj])]) h
end NV
set_option maxRecDepth 100000 in
set_option maxHeartbeats 4000000 in
theorem nc_X3_init {E : gE} (b : Nat) : nCt E yX3_init cX3_init 1 (rmn 1 0 0) [.ref (b)] [(b, .inr (2, [.int 0, .int 0, .int 0, .int 0, .int 0, .int 0]))] (fun _ : Unit => [(b, .inr (2, [.int 0, .int 0, .int 0, .int 0, .int 0, .int 0]))]) 0 0 := by
  refine nCt.of isIni (fun _ _ h => h) (by decide +kernel) (Nat.le_of_ble_eq_true rfl) rfl (fun sz => ?_)
  refine n_aload_n 0 dX3_init_0 rfl ?_
  refine n_objInit (gtbl_t tbin1 54 rfl rfl) noi noc ⟨Nat.le_of_ble_eq_true rfl, Nat.le_of_ble_eq_true rfl⟩ dX3_init_1 ?_
  exact n_vretE () rfl ⟨Nat.le_of_ble_eq_true rfl, Nat.le_of_ble_eq_true rfl⟩ rfl dX3_init_4

set_option maxRecDepth 100000 in
set_option maxHeartbeats 4000000 in
theorem nc_X6_init {E : gE} (b : Nat) : nCt E yX6_init cX6_init 1 (rmn 1 0 0) [.ref (b)] [(b, .inr (5, [.int 0, .int 0, .int 0]))] (fun _ : Unit => [(b, .inr (5, [.int 0, .int 0, .int 0]))]) 0 0 := by
  refine nCt.of isIni (fun _ _ h => h) (by decide +kernel) (Nat.le_of_ble_eq_true rfl) rfl (fun sz => ?_)
  refine n_aload_n 0 dX6_init_0 rfl ?_
  refine n_objInit (gtbl_t tbin1 96 rfl rfl) noi noc ⟨Nat.le_of_ble_eq_true rfl, Nat.le_of_ble_eq_true rfl⟩ dX6_init_1 ?_
  exact n_vretE () rfl ⟨Nat.le_of_ble_eq_true rfl, Nat.le_of_ble_eq_true rfl⟩ rfl dX6_init_4

set_option maxRecDepth 100000 in
set_option maxHeartbeats 4000000 in
theorem nc_X9_init {E : gE} (b : Nat) : nCt E yX9_init cX9_init 1 (rmn 1 0 0) [.ref (b)] [(b, .inr (8, [.int 0, .int 0, .int 0]))] (fun _ : Unit => [(b, .inr (8, [.int 0, .int 0, .int 0]))]) 0 0 := by
  refine nCt.of isIni (fun _ _ h => h) (by decide +kernel) (Nat.le_of_ble_eq_true rfl) rfl (fun sz => ?_)
  refine n_aload_n 0 dX9_init_0 rfl ?_
  refine n_objInit (gtbl_t tbin1 120 rfl rfl) noi noc ⟨Nat.le_of_ble_eq_true rfl, Nat.le_of_ble_eq_true rfl⟩ dX9_init_1 ?_
  exact n_vretE () rfl ⟨Nat.le_of_ble_eq_true rfl, Nat.le_of_ble_eq_true rfl⟩ rfl dX9_init_4

set_option maxRecDepth 100000 in
set_option maxHeartbeats 4000000 in
theorem nc_X5_init {E : gE} (b : Nat) : nCt E yX5_init cX5_init 1 (rmn 1 5 30) [.ref (b)] [(b, .inr (4, [.int 0, .int 0, .int 0, .int 0, .int 0, .int 0, .int 0, .int 0, .int 0, .int 0, .int 0, .null, .null, .null, .null, .null]))] (fun f : Nat → Nat => [(b, .inr (4, [.int 0, .int 0, .int 0, .int 0, .int 0, .int 0, .int 0, .int 0, .int 0, .int 0, .int 0, .ref (f 0), .ref (f 1), .ref (f 2), .ref (f 3), .ref (f 4)])), (f 0, .inl (gcA E 0, 6, .inl (fun _ => 0))), (f 1, .inl (gcA E 0, 6, .inl (fun _ => 0))), (f 2, .inl (gcA E 0, 6, .inl (fun _ => 0))), (f 3, .inl (gcA E 0, 6, .inl (fun _ => 0))), (f 4, .inl (gcA E 0, 6, .inl (fun _ => 0)))]) 5 30 := by
  refine nCt.of isIni (fun _ _ h => h) (by decide +kernel) (Nat.le_of_ble_eq_true rfl) rfl (fun sz => ?_)
  refine n_aload_n 0 dX5_init_0 rfl ?_
  refine n_objInit (gtbl_t tbin1 142 rfl rfl) noi noc ⟨Nat.le_of_ble_eq_true rfl, Nat.le_of_ble_eq_true rfl⟩ dX5_init_1 ?_
  refine n_aload_n 0 dX5_init_4 rfl ?_
  refine n_bipush (v := 6) dX5_init_5 (by decide) ?_
  refine n_newa (atype := .int) (ty := .int) 0 (N := 6) (a0 := (6, .inl (fun _ => 0))) rfl rfl (fun _ _ h => h) (gtbl_t tbin1 91 rfl rfl) (fun _ => rfl) (by decide) (by decide) (by decide) ⟨Nat.le_of_ble_eq_true rfl, Nat.le_of_ble_eq_true rfl⟩ dX5_init_7 (fun q1 => ?_)
  refine n_putF 0 fd_X5_9 rfl rfl (Nat.le_of_ble_eq_true rfl) rfl rfl dX5_init_9 ?_
  refine n_aload_n 0 dX5_init_12 rfl ?_
  refine n_bipush (v := 6) dX5_init_13 (by decide) ?_
  refine n_newa (atype := .int) (ty := .int) 0 (N := 6) (a0 := (6, .inl (fun _ => 0))) rfl rfl (fun _ _ h => h) (gtbl_t tbin1 91 rfl rfl) (fun _ => rfl) (by decide) (by decide) (by decide) ⟨Nat.le_of_ble_eq_true rfl, Nat.le_of_ble_eq_true rfl⟩ dX5_init_15 (fun q2 => ?_)
  refine n_putF 0 fd_X5_15 rfl rfl (Nat.le_of_ble_eq_true rfl) rfl rfl dX5_init_17 ?_
  refine n_aload_n 0 dX5_init_20 rfl ?_
  refine n_bipush (v := 6) dX5_init_21 (by decide) ?_
  refine n_newa (atype := .int) (ty := .int) 0 (N := 6) (a0 := (6, .inl (fun _ => 0))) rfl rfl (fun _ _ h => h) (gtbl_t tbin1 91 rfl rfl) (fun _ => rfl) (by decide) (by decide) (by decide) ⟨Nat.le_of_ble_eq_true rfl, Nat.le_of_ble_eq_true rfl⟩ dX5_init_23 (fun q3 => ?_)
  refine n_putF 0 fd_X5_18 rfl rfl (Nat.le_of_ble_eq_true rfl) rfl rfl dX5_init_25 ?_
  refine n_aload_n 0 dX5_init_28 rfl ?_
  refine n_bipush (v := 6) dX5_init_29 (by decide) ?_
  refine n_newa (atype := .int) (ty := .int) 0 (N := 6) (a0 := (6, .inl (fun _ => 0))) rfl rfl (fun _ _ h => h) (gtbl_t tbin1 91 rfl rfl) (fun _ => rfl) (by decide) (by decide) (by decide) ⟨Nat.le_of_ble_eq_true rfl, Nat.le_of_ble_eq_true rfl⟩ dX5_init_31 (fun q4 => ?_)
  refine n_putF 0 fd_X5_21 rfl rfl (Nat.le_of_ble_eq_true rfl) rfl rfl dX5_init_33 ?_
  refine n_aload_n 0 dX5_init_36 rfl ?_
  refine n_bipush (v := 6) dX5_init_37 (by decide) ?_
  refine n_newa (atype := .int) (ty := .int) 0 (N := 6) (a0 := (6, .inl (fun _ => 0))) rfl rfl (fun _ _ h => h) (gtbl_t tbin1 91 rfl rfl) (fun _ => rfl) (by decide) (by decide) (by decide) ⟨Nat.le_of_ble_eq_true rfl, Nat.le_of_ble_eq_true rfl⟩ dX5_init_39 (fun q5 => ?_)
  refine n_putF 0 fd_X5_24 rfl rfl (Nat.le_of_ble_eq_true rfl) rfl rfl dX5_init_41 ?_
  exact n_vretE (fun i => [q1, q2, q3, q4, q5].getD i 0) rfl ⟨Nat.le_of_ble_eq_true rfl, Nat.le_of_ble_eq_true rfl⟩ rfl dX5_init_44

set_option maxRecDepth 100000 in
set_option maxHeartbeats 4000000 in
theorem nc_X3_clear {E : gE} {b : Nat} {ws : va_W} (i : Nat) (he : ws[i]? = some (b, .inr (2, [.int 0, .int 0, .int 0, .int 0, .int 0, .int 0]))) : nCt E yX3_clear cX3_clear 1 (rmn 0 0 0) [.ref b] ws (fun _ : Unit => ws.set i (b, .inr (2, [.int 0, .int 2, .int 0, .int 0, .int 0, .int 0]))) 0 0 := by
  refine nCt.of (fun _ _ => True) (fun _ _ _ => trivial) (by decide +kernel) (Nat.le_of_ble_eq_true rfl) rfl (fun sz => ?_)
  refine n_aload_n 0 dX3_clear_0 rfl ?_
  refine n_iconst (v := 0) dX3_clear_1 (by decide) ?_
  refine n_put i fd_X3_7 he (by decide) rfl rfl dX3_clear_2 ?_
  refine n_aload_n 0 dX3_clear_5 rfl ?_
  refine n_iconst (v := 2) dX3_clear_6 (by decide) ?_
  refine n_put i fd_X3_13 (n_gs he) (by decide) rfl rfl dX3_clear_7 ?_
  refine n_aload_n 0 dX3_clear_10 rfl ?_
  refine n_iconst (v := 0) dX3_clear_11 (by decide) ?_
  refine n_put i fd_X3_17 (n_gs (n_gs he)) (by decide) rfl rfl dX3_clear_12 ?_
  refine n_aload_n 0 dX3_clear_15 rfl ?_
  refine n_iconst (v := 0) dX3_clear_16 (by decide) ?_
  refine n_put i fd_X3_20 (n_gs (n_gs (n_gs he))) (by decide) rfl rfl dX3_clear_17 ?_
  refine n_aload_n 0 dX3_clear_20 rfl ?_
  refine n_iconst (v := 0) dX3_clear_21 (by decide) ?_
  refine n_put i fd_X3_23 (n_gs (n_gs (n_gs (n_gs he)))) (by decide) rfl rfl dX3_clear_22 ?_
  refine n_aload_n 0 dX3_clear_25 rfl ?_
  refine n_iconst (v := 0) dX3_clear_26 (by decide) ?_
  refine n_put i fd_X3_26 (n_gs (n_gs (n_gs (n_gs (n_gs he))))) (by decide) rfl rfl dX3_clear_27 ?_
  refine n_eq (ws' := ws.set i (b, .inr (2, [.int 0, .int 2, .int 0, .int 0, .int 0, .int 0]))) (by simp only [List.set_set, List.set]) ?_
  exact n_vretE (ws1 := fun _ : Unit => ws.set i (b, .inr (2, [.int 0, .int 2, .int 0, .int 0, .int 0, .int 0]))) () rfl ⟨Nat.le_of_ble_eq_true rfl, Nat.le_of_ble_eq_true rfl⟩ rfl dX3_clear_30
def rgW (E : gE) (a : Nat → Nat) (w : Int32) : va_W := [(a 0, .inr (6, [.ref (a 1), .ref (a 2), .ref (a 3), .ref (a 4), .ref (a 5), .ref (a 6), .ref (a 7), .ref (a 8), .int 0, .int 0, .int 0, .int 0, .int 0])),
  (a 1, .inl (gcA E 4, 2, .inr (.inr (.inr (.inr (fun j => some (a (1 * j + 9)))))))),
  (a 2, .inl (gcA E 5, 10, .inr (.inr (.inr (.inr (fun j => some (a (1 * j + 11)))))))),
  (a 3, .inl (gcA E 6, 8, .inr (.inr (.inr (.inr (fun j => some (a (1 * j + 21)))))))),
  (a 4, .inl (gcA E 7, 12, .inr (.inr (.inr (.inr (fun j => some (a (6 * j + 29)))))))),
  (a 5, .inl (gcA E 0, 12, .inl (fun _ => 0))),
  (a 6, .inl (gcA E 0, 6, .inl (fun _ => 0))),
  (a 7, .inl (gcA E 0, 6, .inl (fun _ => 0))),
  (a 8, .inl (gcA E 0, 6, .inl (fun _ => 0))),
  (a 9, .inr (2, [.int 0, .int w, .int 0, .int 0, .int 0, .int 0])),
  (a 10, .inr (2, [.int 0, .int w, .int 0, .int 0, .int 0, .int 0])),
  (a 11, .inr (5, [.int 0, .int 0, .int 0])),
  (a 12, .inr (5, [.int 0, .int 0, .int 0])),
  (a 13, .inr (5, [.int 0, .int 0, .int 0])),
  (a 14, .inr (5, [.int 0, .int 0, .int 0])),
  (a 15, .inr (5, [.int 0, .int 0, .int 0])),
  (a 16, .inr (5, [.int 0, .int 0, .int 0])),
  (a 17, .inr (5, [.int 0, .int 0, .int 0])),
  (a 18, .inr (5, [.int 0, .int 0, .int 0])),
  (a 19, .inr (5, [.int 0, .int 0, .int 0])),
  (a 20, .inr (5, [.int 0, .int 0, .int 0])),
  (a 21, .inr (8, [.int 0, .int 0, .int 0])),
  (a 22, .inr (8, [.int 0, .int 0, .int 0])),
  (a 23, .inr (8, [.int 0, .int 0, .int 0])),
  (a 24, .inr (8, [.int 0, .int 0, .int 0])),
  (a 25, .inr (8, [.int 0, .int 0, .int 0])),
  (a 26, .inr (8, [.int 0, .int 0, .int 0])),
  (a 27, .inr (8, [.int 0, .int 0, .int 0])),
  (a 28, .inr (8, [.int 0, .int 0, .int 0])),
  (a 29, .inr (4, [.int 0, .int 0, .int 0, .int 0, .int 0, .int 0, .int 0, .int 0, .int 0, .int 0, .int 0, .ref (a 30), .ref (a 31), .ref (a 32), .ref (a 33), .ref (a 34)])),
  (a 30, .inl (gcA E 0, 6, .inl (fun _ => 0))),
  (a 31, .inl (gcA E 0, 6, .inl (fun _ => 0))),
  (a 32, .inl (gcA E 0, 6, .inl (fun _ => 0))),
  (a 33, .inl (gcA E 0, 6, .inl (fun _ => 0))),
  (a 34, .inl (gcA E 0, 6, .inl (fun _ => 0))),
  (a 35, .inr (4, [.int 0, .int 0, .int 0, .int 0, .int 0, .int 0, .int 0, .int 0, .int 0, .int 0, .int 0, .ref (a 36), .ref (a 37), .ref (a 38), .ref (a 39), .ref (a 40)])),
  (a 36, .inl (gcA E 0, 6, .inl (fun _ => 0))),
  (a 37, .inl (gcA E 0, 6, .inl (fun _ => 0))),
  (a 38, .inl (gcA E 0, 6, .inl (fun _ => 0))),
  (a 39, .inl (gcA E 0, 6, .inl (fun _ => 0))),
  (a 40, .inl (gcA E 0, 6, .inl (fun _ => 0))),
  (a 41, .inr (4, [.int 0, .int 0, .int 0, .int 0, .int 0, .int 0, .int 0, .int 0, .int 0, .int 0, .int 0, .ref (a 42), .ref (a 43), .ref (a 44), .ref (a 45), .ref (a 46)])),
  (a 42, .inl (gcA E 0, 6, .inl (fun _ => 0))),
  (a 43, .inl (gcA E 0, 6, .inl (fun _ => 0))),
  (a 44, .inl (gcA E 0, 6, .inl (fun _ => 0))),
  (a 45, .inl (gcA E 0, 6, .inl (fun _ => 0))),
  (a 46, .inl (gcA E 0, 6, .inl (fun _ => 0))),
  (a 47, .inr (4, [.int 0, .int 0, .int 0, .int 0, .int 0, .int 0, .int 0, .int 0, .int 0, .int 0, .int 0, .ref (a 48), .ref (a 49), .ref (a 50), .ref (a 51), .ref (a 52)])),
  (a 48, .inl (gcA E 0, 6, .inl (fun _ => 0))),
  (a 49, .inl (gcA E 0, 6, .inl (fun _ => 0))),
  (a 50, .inl (gcA E 0, 6, .inl (fun _ => 0))),
  (a 51, .inl (gcA E 0, 6, .inl (fun _ => 0))),
  (a 52, .inl (gcA E 0, 6, .inl (fun _ => 0))),
  (a 53, .inr (4, [.int 0, .int 0, .int 0, .int 0, .int 0, .int 0, .int 0, .int 0, .int 0, .int 0, .int 0, .ref (a 54), .ref (a 55), .ref (a 56), .ref (a 57), .ref (a 58)])),
  (a 54, .inl (gcA E 0, 6, .inl (fun _ => 0))),
  (a 55, .inl (gcA E 0, 6, .inl (fun _ => 0))),
  (a 56, .inl (gcA E 0, 6, .inl (fun _ => 0))),
  (a 57, .inl (gcA E 0, 6, .inl (fun _ => 0))),
  (a 58, .inl (gcA E 0, 6, .inl (fun _ => 0))),
  (a 59, .inr (4, [.int 0, .int 0, .int 0, .int 0, .int 0, .int 0, .int 0, .int 0, .int 0, .int 0, .int 0, .ref (a 60), .ref (a 61), .ref (a 62), .ref (a 63), .ref (a 64)])),
  (a 60, .inl (gcA E 0, 6, .inl (fun _ => 0))),
  (a 61, .inl (gcA E 0, 6, .inl (fun _ => 0))),
  (a 62, .inl (gcA E 0, 6, .inl (fun _ => 0))),
  (a 63, .inl (gcA E 0, 6, .inl (fun _ => 0))),
  (a 64, .inl (gcA E 0, 6, .inl (fun _ => 0))),
  (a 65, .inr (4, [.int 0, .int 0, .int 0, .int 0, .int 0, .int 0, .int 0, .int 0, .int 0, .int 0, .int 0, .ref (a 66), .ref (a 67), .ref (a 68), .ref (a 69), .ref (a 70)])),
  (a 66, .inl (gcA E 0, 6, .inl (fun _ => 0))),
  (a 67, .inl (gcA E 0, 6, .inl (fun _ => 0))),
  (a 68, .inl (gcA E 0, 6, .inl (fun _ => 0))),
  (a 69, .inl (gcA E 0, 6, .inl (fun _ => 0))),
  (a 70, .inl (gcA E 0, 6, .inl (fun _ => 0))),
  (a 71, .inr (4, [.int 0, .int 0, .int 0, .int 0, .int 0, .int 0, .int 0, .int 0, .int 0, .int 0, .int 0, .ref (a 72), .ref (a 73), .ref (a 74), .ref (a 75), .ref (a 76)])),
  (a 72, .inl (gcA E 0, 6, .inl (fun _ => 0))),
  (a 73, .inl (gcA E 0, 6, .inl (fun _ => 0))),
  (a 74, .inl (gcA E 0, 6, .inl (fun _ => 0))),
  (a 75, .inl (gcA E 0, 6, .inl (fun _ => 0))),
  (a 76, .inl (gcA E 0, 6, .inl (fun _ => 0))),
  (a 77, .inr (4, [.int 0, .int 0, .int 0, .int 0, .int 0, .int 0, .int 0, .int 0, .int 0, .int 0, .int 0, .ref (a 78), .ref (a 79), .ref (a 80), .ref (a 81), .ref (a 82)])),
  (a 78, .inl (gcA E 0, 6, .inl (fun _ => 0))),
  (a 79, .inl (gcA E 0, 6, .inl (fun _ => 0))),
  (a 80, .inl (gcA E 0, 6, .inl (fun _ => 0))),
  (a 81, .inl (gcA E 0, 6, .inl (fun _ => 0))),
  (a 82, .inl (gcA E 0, 6, .inl (fun _ => 0))),
  (a 83, .inr (4, [.int 0, .int 0, .int 0, .int 0, .int 0, .int 0, .int 0, .int 0, .int 0, .int 0, .int 0, .ref (a 84), .ref (a 85), .ref (a 86), .ref (a 87), .ref (a 88)])),
  (a 84, .inl (gcA E 0, 6, .inl (fun _ => 0))),
  (a 85, .inl (gcA E 0, 6, .inl (fun _ => 0))),
  (a 86, .inl (gcA E 0, 6, .inl (fun _ => 0))),
  (a 87, .inl (gcA E 0, 6, .inl (fun _ => 0))),
  (a 88, .inl (gcA E 0, 6, .inl (fun _ => 0))),
  (a 89, .inr (4, [.int 0, .int 0, .int 0, .int 0, .int 0, .int 0, .int 0, .int 0, .int 0, .int 0, .int 0, .ref (a 90), .ref (a 91), .ref (a 92), .ref (a 93), .ref (a 94)])),
  (a 90, .inl (gcA E 0, 6, .inl (fun _ => 0))),
  (a 91, .inl (gcA E 0, 6, .inl (fun _ => 0))),
  (a 92, .inl (gcA E 0, 6, .inl (fun _ => 0))),
  (a 93, .inl (gcA E 0, 6, .inl (fun _ => 0))),
  (a 94, .inl (gcA E 0, 6, .inl (fun _ => 0))),
  (a 95, .inr (4, [.int 0, .int 0, .int 0, .int 0, .int 0, .int 0, .int 0, .int 0, .int 0, .int 0, .int 0, .ref (a 96), .ref (a 97), .ref (a 98), .ref (a 99), .ref (a 100)])),
  (a 96, .inl (gcA E 0, 6, .inl (fun _ => 0))),
  (a 97, .inl (gcA E 0, 6, .inl (fun _ => 0))),
  (a 98, .inl (gcA E 0, 6, .inl (fun _ => 0))),
  (a 99, .inl (gcA E 0, 6, .inl (fun _ => 0))),
  (a 100, .inl (gcA E 0, 6, .inl (fun _ => 0)))]
set_option maxRecDepth 100000 in
set_option maxHeartbeats 4000000 in
theorem nc_X7_clear {E : gE} (a : Nat → Nat) : nCt E yX7_clear cX7_clear 2 (rmn 1 0 0) [.ref (a 0)] (rgW E a 0) (fun _ : Unit => rgW E a 2) 0 0 := by
  refine nCt.of (fun _ _ => True) (fun _ _ _ => trivial) (by decide +kernel) (Nat.le_of_ble_eq_true rfl) rfl (fun sz => ?_)
  refine n_iconst (v := 0) dX7_clear_0 (by decide) ?_
  refine n_istore_n [(1, .int 0), (0, .ref (a 0))] dX7_clear_1 (by decide) rfl ?_
  refine n_iload_n 0 dX7_clear_2 rfl ?_
  refine n_iconst (v := 2) dX7_clear_3 (by decide) ?_
  refine n_icmp_ge 22 dX7_clear_4 (by decide) (fun c => absurd c (by decide)) (fun _ => ?_)
  refine n_aload_n 1 dX7_clear_7 rfl ?_
  refine n_get 0 fd_X7_11 rfl rfl dX7_clear_8 ?_
  refine n_iload_n 0 dX7_clear_11 rfl ?_
  refine n_aldq (v := a 9) 1 4 rfl rfl (vpD (by decide)) rfl dX7_clear_12 ?_
  refine n_callV (As := []) (n := 0) 9 (nc_X3_clear (E := E) (b := a 9) 9 rfl) mt_X3_clear ml_X7_55 rfl rfl rfl sg_X3_clear rfl ⟨rfl, rfl, Nat.le_of_ble_eq_true rfl, Nat.le_of_ble_eq_true rfl, Nat.le_of_ble_eq_true rfl, Nat.le_of_ble_eq_true rfl⟩ (by decide) dX7_clear_13 (fun _ => ?_)
  refine n_iinc 0 (v := 1) [(1, .int 1), (0, .ref (a 0))] dX7_clear_16 rfl (by decide) (by decide) rfl ?_
  refine n_goto 2 dX7_clear_19 (by decide) ?_
  refine n_iload_n 0 dX7_clear_2 rfl ?_
  refine n_iconst (v := 2) dX7_clear_3 (by decide) ?_
  refine n_icmp_ge 22 dX7_clear_4 (by decide) (fun c => absurd c (by decide)) (fun _ => ?_)
  refine n_aload_n 1 dX7_clear_7 rfl ?_
  refine n_get 0 fd_X7_11 rfl rfl dX7_clear_8 ?_
  refine n_iload_n 0 dX7_clear_11 rfl ?_
  refine n_aldq (v := a 10) 1 4 rfl rfl (vpD (by decide)) rfl dX7_clear_12 ?_
  refine n_callV (As := []) (n := 0) 10 (nc_X3_clear (E := E) (b := a 10) 10 rfl) mt_X3_clear ml_X7_55 rfl rfl rfl sg_X3_clear rfl ⟨rfl, rfl, Nat.le_of_ble_eq_true rfl, Nat.le_of_ble_eq_true rfl, Nat.le_of_ble_eq_true rfl, Nat.le_of_ble_eq_true rfl⟩ (by decide) dX7_clear_13 (fun _ => ?_)
  refine n_iinc 0 (v := 2) [(1, .int 2), (0, .ref (a 0))] dX7_clear_16 rfl (by decide) (by decide) rfl ?_
  refine n_goto 2 dX7_clear_19 (by decide) ?_
  refine n_iload_n 0 dX7_clear_2 rfl ?_
  refine n_iconst (v := 2) dX7_clear_3 (by decide) ?_
  refine n_icmp_ge 22 dX7_clear_4 (by decide) (fun _ => ?_) (fun c => absurd (by decide) c)
  refine n_aload_n 1 dX7_clear_22 rfl ?_
  refine n_iconst (v := 0) dX7_clear_23 (by decide) ?_
  refine n_put 0 fd_X7_56 rfl (Nat.le_of_ble_eq_true rfl) rfl rfl dX7_clear_24 ?_
  refine n_aload_n 1 dX7_clear_27 rfl ?_
  refine n_iconst (v := 0) dX7_clear_28 (by decide) ?_
  refine n_put 0 fd_X7_60 rfl (Nat.le_of_ble_eq_true rfl) rfl rfl dX7_clear_29 ?_
  refine n_aload_n 1 dX7_clear_32 rfl ?_
  refine n_iconst (v := 0) dX7_clear_33 (by decide) ?_
  refine n_put 0 fd_X7_63 rfl (Nat.le_of_ble_eq_true rfl) rfl rfl dX7_clear_34 ?_
  refine n_aload_n 1 dX7_clear_37 rfl ?_
  refine n_iconst (v := 0) dX7_clear_38 (by decide) ?_
  refine n_put 0 fd_X7_66 rfl (Nat.le_of_ble_eq_true rfl) rfl rfl dX7_clear_39 ?_
  refine n_aload_n 1 dX7_clear_42 rfl ?_
  refine n_iconst (v := 0) dX7_clear_43 (by decide) ?_
  refine n_put 0 fd_X7_69 rfl (Nat.le_of_ble_eq_true rfl) rfl rfl dX7_clear_44 ?_
  exact n_vretE (ws1 := fun _ : Unit => rgW E a 2) () rfl ⟨Nat.le_of_ble_eq_true rfl, Nat.le_of_ble_eq_true rfl⟩ rfl dX7_clear_47
end
