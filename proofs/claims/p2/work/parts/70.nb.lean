-- CONSTRUCTORS: a judgement over an explicit list of cells, and its rows
set_option linter.all false
noncomputable section
def nestL : List (Nat × MethodName) := [(48, yX3_init), (49, yX6_init), (50, yX9_init), (51, yX5_init)]
def aoL : List String := ["WillDeposit$Land", "WillDeposit$Person", "WillDeposit$Thing", "WillDeposit$Paper", "WillDeposit$Token"]
def nT (E : gE) (U : State) : Prop := gT E U ∧ (∀ C ∈ aoL, va_AO C U) ∧ (∀ q ∈ nestL, va_Nw (.methodLinkNest "WillDeposit$Register" q.1 q.2 "WillDeposit") U)
theorem nS_wk {A B : Nat → Prop} {H0 H : Heap} {locs : List Loc} (hS : va_S A H0 H locs) (h : ∀ q, A q → B q) : va_S B H0 H locs := ⟨hS.1, fun q h1 h2 => hS.2.1 q h1 (fun z => h2 (h q z)), fun l hl => h _ (hS.2.2 l hl)⟩
theorem nT.go {E : gE} {A : Nat → Prop} {s U : State} {H : Heap} {locs : List Loc} (h : nT E s) (hS : va_S A s.heap H locs) (hA : ∀ q, A q → gbs E ≤ q) (hW : s.WarmedH U.vm) (hU : U.heap = H) : nT E U :=
  ⟨h.1.go (nS_wk hS hA) hW hU, fun C hC => va_AO.moved hW.alike (h.2.1 C hC), fun q hq => va_Nw.warmM hW (h.2.2 q hq)⟩
theorem nT.same {E : gE} {s U : State} (h : nT E s) (hv : U.vm = s.vm) (hU : U.heap = s.heap) : nT E U :=
  ⟨h.1.same hv hU, fun C hC => va_AO.moved (by rw [hv]; exact Vm.Alike.refl _) (h.2.1 C hC), fun q hq => va_Nw.same rfl hv.symm (h.2.2 q hq)⟩
def nCx (E : gE) (A : Nat → Prop) (ws : va_W) (s : State) (H : Heap) (locs : List Loc) : Prop :=
  va_K (gD E) vwCl (gTy E) s ∧ nT E s ∧ va_P (gD E) vwCl ws H ∧ va_D A ws ∧ va_S A s.heap H locs ∧ (∀ q, s.heap.size ≤ q → A q) ∧ (∀ q, A q → gbs E ≤ q)
def nK (E : gE) (own : String) (cc : ByteArray) (nL : Nat) (ret : Option FieldType) (R : Room) (A : Nat → Prop) (Nm : State → Method → Prop) (Zf : List Frame → Array Value → State → State → Prop) (cs ss : Nat) (pc : Nat) (lv : List (Nat × Value)) (st : List Value) (ws : va_W) : Prop :=
  ∀ (p : Program) (l : Launch) (e : Env) (s : State) (m : MethodId) (args : Array Value) (below : List Frame) (meth : Method) (c : Code) (H : Heap) (locs : List Loc) (ls : Array Slot),
    gFx own cc nL ret p l s m args meth c → Nm s meth → nCx E A ws s H locs → lv_has ls nL lv → W p l e R s m args below meth c H locs cs ss (Zf below args s) (F0 m pc ls st)
theorem vpD {x : Int32} {n : Nat} (h : (decide (¬ (x < 0 ∨ n ≤ x.toNatClampNeg))) = true) : vp_in x n := by
  have h1 := of_decide_eq_true h
  exact h1
theorem n_fm {α β : Type} {f : α → Option β} {is : List α} {l : List β} (h : is.map f = l.map some) : is.filterMap f = l := by
  have h1 := congrArg (List.filterMap id) h
  rw [List.filterMap_map, List.filterMap_map] at h1
  simpa using h1
def isIni : State → Method → Prop := fun _ meth => meth.name = "<init>"
/-- a call's contract over a list of cells -/
def nPc (E : gE) (av : List Value) (ws0 : va_W) (sz : Nat) : Array Value → State → Prop := va_Pc av (fun U => U.heap.size = sz ∧ gbs E ≤ sz ∧ (∀ (k : Nat) (q : Nat × va_E), ws0[k]? = some q → gbs E ≤ q.1) ∧ va_K (gD E) vwCl (gTy E) U ∧ nT E U ∧ va_P (gD E) vwCl ws0 U.heap ∧ va_D (fun _ => True) ws0)
def nQ {S : Type} (E : gE) (A : Nat → Prop) (ws1 : S → va_W) : Array Value → State → Outcome → State → Prop := va_Qv (fun _ : S => True) (fun f t => va_P (gD E) vwCl (ws1 f) t.heap ∧ va_D A (ws1 f)) A
def nCt {S : Type} (E : gE) (y : MethodName) (cc : ByteArray) (nL : Nat) (R : Room) (av : List Value) (ws0 : va_W) (ws1 : S → va_W) (mc ms : Nat) : Prop :=
  ∀ l : Launch, l.stackTraces = false → ∀ sz : Nat, Met l y (.code y cc nL none :: gtbl) R (nPc E av ws0 sz) (nQ E (va_A ws0 sz) ws1) mc ms (va_A ws0 sz)
theorem nCt.of {S : Type} {E : gE} {y : MethodName} {cc : ByteArray} {nL : Nat} {R : Room} {av : List Value} {lv : List (Nat × Value)} {ws0 : va_W} {ws1 : S → va_W} {mc ms : Nat} (Nm : State → Method → Prop) (hNm : ∀ (s : State) (meth : Method), meth.name = y.name → Nm s meth)
    (hy : plainName y.cls = true) (hn : (lg_sl av).length ≤ nL) (hl : lv_args 0 av = lv) (h : ∀ sz, nK E y.cls cc nL none R (va_A ws0 sz) Nm (fun below args s => MQ below (nQ E (va_A ws0 sz) ws1) args s mc ms (va_A ws0 sz)) 0 0 0 lv [] ws0) : nCt E y cc nL R av ws0 ws1 mc ms := by
  intro l hl9 sz
  refine Met.ofW (cc := cc) (maxL := nL) (ret := none) hy rfl ?_
  intro p e s m args below meth c s₁ B hml hv
  obtain ⟨rfl, hsz, hbs, hge, hK, hT, hP, hD⟩ := hv
  have hts := atoms_spec B.pre
  rw [lg_entry_eq]
  subst hl
  subst hsz
  refine h _ p l e s m _ below meth c s.heap [] _ ⟨B.exec, B.bytes, B.returns, hml, findClass_of_methodNamed B.named, B.notSynchronized, fun w hw => hts w (List.mem_cons_of_mem _ hw), hl9⟩ (hNm _ _ (name_of_methodNamed B.named B.method).1) ⟨hK, hT, hP, hD.self, va_S.rf, fun q h => Or.inr h, fun q h => ?_⟩ (lv_entry av hn)
  rcases h with ⟨k, e, h⟩ | h
  · exact hge k _ h
  · exact Nat.le_trans hbs h
section NR
variable {E : gE} {own : String} {cc : ByteArray} {nL : Nat} {ret : Option FieldType} {R : Room} {A : Nat → Prop} {Nm : State → Method → Prop} {Zf : List Frame → Array Value → State → State → Prop} {cs ss : Nat} {pc : Nat} {lv : List (Nat × Value)} {st : List Value} {ws : va_W}
theorem n_iload_n {k : Fin 4} (j : Nat) {x : Int32} (hd : decode cc pc = .ok (.iload_n k, 1)) (hk : lv[j]? = some (k.val, .int x)) (h : nK E own cc nL ret R A Nm Zf cs ss (pc + 1) lv (.int x :: st) ws) : nK E own cc nL ret R A Nm Zf cs ss pc lv st ws := by
  intro p l e s m args below meth c H locs ls F X9 C L
  exact lv_iload_n F.1 F.2.1 hd rfl (lv_at L j hk) (h p l e s m args below meth c H locs ls F X9 C L)
theorem n_aload_n {k : Fin 4} (j : Nat) {x : Nat} (hd : decode cc pc = .ok (.aload_n k, 1)) (hk : lv[j]? = some (k.val, .ref x)) (h : nK E own cc nL ret R A Nm Zf cs ss (pc + 1) lv (.ref x :: st) ws) : nK E own cc nL ret R A Nm Zf cs ss pc lv st ws := by
  intro p l e s m args below meth c H locs ls F X9 C L
  exact lv_aload_n F.1 F.2.1 hd rfl (lv_at L j hk) (h p l e s m args below meth c H locs ls F X9 C L)
theorem n_istore_n {k : Fin 4} {x : Int32} (lv' : List (Nat × Value)) (hd : decode cc pc = .ok (.istore_n k, 1)) (hn : k.val < nL) (hl : lS k.val (.int x) lv = lv') (h : nK E own cc nL ret R A Nm Zf cs ss (pc + 1) lv' st ws) : nK E own cc nL ret R A Nm Zf cs ss pc lv (.int x :: st) ws := by
  intro p l e s m args below meth c H locs ls F X9 C L
  exact lv_istore_n F.1 F.2.1 hd rfl L hn hl (fun ls' L' => h p l e s m args below meth c H locs ls' F X9 C L')
theorem n_istore {k : Nat} {x : Int32} (lv' : List (Nat × Value)) (hd : decode cc pc = .ok (.istore k, 2)) (hn : k < nL) (hl : lS k (.int x) lv = lv') (h : nK E own cc nL ret R A Nm Zf cs ss (pc + 2) lv' st ws) : nK E own cc nL ret R A Nm Zf cs ss pc lv (.int x :: st) ws := by
  intro p l e s m args below meth c H locs ls F X9 C L
  exact lv_istore F.1 F.2.1 hd L hn hl (fun ls' L' => h p l e s m args below meth c H locs ls' F X9 C L')
theorem n_astore_n {k : Fin 4} {x : Nat} (lv' : List (Nat × Value)) (hd : decode cc pc = .ok (.astore_n k, 1)) (hn : k.val < nL) (hl : lS k.val (.ref x) lv = lv') (h : nK E own cc nL ret R A Nm Zf cs ss (pc + 1) lv' st ws) : nK E own cc nL ret R A Nm Zf cs ss pc lv (.ref x :: st) ws := by
  intro p l e s m args below meth c H locs ls F X9 C L
  exact lv_astore_n F.1 F.2.1 hd rfl L hn hl (fun ls' L' => h p l e s m args below meth c H locs ls' F X9 C L')
theorem n_iinc {k : Nat} {n : Int} (j : Nat) {x v : Int32} (lv' : List (Nat × Value)) (hd : decode cc pc = .ok (.iinc k n, 3)) (hk : lv[j]? = some (k, .int x)) (hv : x + Int32.ofInt n = v) (hn : k < nL) (hl : lS k (.int v) lv = lv') (h : nK E own cc nL ret R A Nm Zf cs ss (pc + 3) lv' st ws) : nK E own cc nL ret R A Nm Zf cs ss pc lv st ws := by
  intro p l e s m args below meth c H locs ls F X9 C L
  exact lv_iinc F.1 F.2.1 hd L hk hv hn hl (fun ls' L' => h p l e s m args below meth c H locs ls' F X9 C L')
theorem n_sub (ks : List Nat) (lv' : List (Nat × Value)) (hl : lv_pick lv ks = lv') (h : nK E own cc nL ret R A Nm Zf cs ss pc lv' st ws) : nK E own cc nL ret R A Nm Zf cs ss pc lv st ws := by
  intro p l e s m args below meth c H locs ls F X9 C L
  exact h p l e s m args below meth c H locs ls F X9 C (lv_sub L ks hl)
theorem n_iconst {n : Int} {v : Int32} (hd : decode cc pc = .ok (.iconst n, 1)) (hv : Int32.ofInt n = v) (h : nK E own cc nL ret R A Nm Zf cs ss (pc + 1) lv (.int v :: st) ws) : nK E own cc nL ret R A Nm Zf cs ss pc lv st ws := by
  intro p l e s m args below meth c H locs ls F X9 C L
  exact lv_iconst F.1 F.2.1 hd hv (h p l e s m args below meth c H locs ls F X9 C L)
theorem n_bipush {n : Int} {v : Int32} (hd : decode cc pc = .ok (.bipush n, 2)) (hv : (Int8.ofInt n).toInt32 = v) (h : nK E own cc nL ret R A Nm Zf cs ss (pc + 2) lv (.int v :: st) ws) : nK E own cc nL ret R A Nm Zf cs ss pc lv st ws := by
  intro p l e s m args below meth c H locs ls F X9 C L
  exact lv_bipush F.1 F.2.1 hd hv (h p l e s m args below meth c H locs ls F X9 C L)
theorem n_sipush {n : Int} {v : Int32} (hd : decode cc pc = .ok (.sipush n, 3)) (hv : (Int16.ofInt n).toInt32 = v) (h : nK E own cc nL ret R A Nm Zf cs ss (pc + 3) lv (.int v :: st) ws) : nK E own cc nL ret R A Nm Zf cs ss pc lv st ws := by
  intro p l e s m args below meth c H locs ls F X9 C L
  exact lv_sipush F.1 F.2.1 hd hv (h p l e s m args below meth c H locs ls F X9 C L)
theorem n_lconst {n : Fin 2} {v : Int64} (hd : decode cc pc = .ok (.lconst n, 1)) (hv : Int64.ofNat (n : Nat) = v) (h : nK E own cc nL ret R A Nm Zf cs ss (pc + 1) lv (.long v :: st) ws) : nK E own cc nL ret R A Nm Zf cs ss pc lv st ws := by
  intro p l e s m args below meth c H locs ls F X9 C L
  exact lv_lconst F.1 F.2.1 hd hv (h p l e s m args below meth c H locs ls F X9 C L)
theorem n_dup {va : Value} (hd : decode cc pc = .ok (.dup, 1)) (hva : va.category = 1) (h : nK E own cc nL ret R A Nm Zf cs ss (pc + 1) lv (va :: va :: st) ws) : nK E own cc nL ret R A Nm Zf cs ss pc lv (va :: st) ws := by
  intro p l e s m args below meth c H locs ls F X9 C L
  exact lv_dup F.1 F.2.1 hd hva (h p l e s m args below meth c H locs ls F X9 C L)
theorem n_goto {off : Int} (tgt : Nat) (hd : decode cc pc = .ok (.goto off, 3)) (ht : (pc : Int) + off = (tgt : Int)) (h : nK E own cc nL ret R A Nm Zf cs ss tgt lv st ws) : nK E own cc nL ret R A Nm Zf cs ss pc lv st ws := by
  intro p l e s m args below meth c H locs ls F X9 C L
  exact lv_goto F.1 F.2.1 hd ht (h p l e s m args below meth c H locs ls F X9 C L)
theorem n_icmp_ge {x y : Int32} {off : Int} (tgt : Nat) (hd : decode cc pc = .ok (.if_icmp .ge off, 3)) (ht : (pc : Int) + off = (tgt : Int)) (kt : y ≤ x → nK E own cc nL ret R A Nm Zf cs ss tgt lv st ws) (kf : ¬ y ≤ x → nK E own cc nL ret R A Nm Zf cs ss (pc + 3) lv st ws) : nK E own cc nL ret R A Nm Zf cs ss pc lv (.int y :: .int x :: st) ws := by
  intro p l e s m args below meth c H locs ls F X9 C L
  exact lv_icmp_ge F.1 F.2.1 hd ht (fun q => kt q p l e s m args below meth c H locs ls F X9 C L) (fun q => kf q p l e s m args below meth c H locs ls F X9 C L)
theorem n_icmp_gt {x y : Int32} {off : Int} (tgt : Nat) (hd : decode cc pc = .ok (.if_icmp .gt off, 3)) (ht : (pc : Int) + off = (tgt : Int)) (kt : y < x → nK E own cc nL ret R A Nm Zf cs ss tgt lv st ws) (kf : ¬ y < x → nK E own cc nL ret R A Nm Zf cs ss (pc + 3) lv st ws) : nK E own cc nL ret R A Nm Zf cs ss pc lv (.int y :: .int x :: st) ws := by
  intro p l e s m args below meth c H locs ls F X9 C L
  exact lv_icmp_gt F.1 F.2.1 hd ht (fun q => kt q p l e s m args below meth c H locs ls F X9 C L) (fun q => kf q p l e s m args below meth c H locs ls F X9 C L)
theorem n_get {idx ci k : Nat} {ty : FieldType} {fin : Bool} {fs : List Value} {a : Nat} {v : Value} (i : Nat) (X : gFd own idx ci k ty fin) (he : ws[i]? = some (a, .inr (ci, fs))) (hk : fs[k]? = some v) (hd : decode cc pc = .ok (.getfield idx, 3))
    (h : nK E own cc nL ret R A Nm Zf cs ss (pc + 3) lv (v :: st) ws) : nK E own cc nL ret R A Nm Zf cs ss pc lv (.ref a :: st) ws := by
  intro p l e s m args below meth c H locs ls F X9 C L
  obtain ⟨C0, T, N, tys, x1, x2, x3, x4, x5, -⟩ := X
  exact va_get (D := gD E) (ci := ci) (C := C0) (T := T) (N := N) (ref := C0) F.1 F.2.1 F.2.2.2.2.2.2.1 x3 F.2.2.2.2.1 C.1 C.2.2.1 i he x1 k x2 (F.2.2.2.2.2.2.1 _ x4) (fun x hx => by rw [x5] at hx; exact hx) (v := v) hk hd (h p l e s m args below meth c H locs ls F X9 C L)
theorem n_put {idx ci k : Nat} {ty : FieldType} {fs : List Value} {a : Nat} {v : Value} (i : Nat) (X : gFd own idx ci k ty false) (he : ws[i]? = some (a, .inr (ci, fs))) (hk : k < fs.length) (hn : narrow ty v = v) (hf : fits ty v = true) (hd : decode cc pc = .ok (.putfield idx, 3))
    (h : nK E own cc nL ret R A Nm Zf cs ss (pc + 3) lv st (ws.set i (a, .inr (ci, fs.set k v)))) : nK E own cc nL ret R A Nm Zf cs ss pc lv (v :: .ref a :: st) ws := by
  intro p l e s m args below meth c H locs ls F X9 C L
  obtain ⟨C0, T, N, tys, x1, x2, x3, x4, x5, x6, x7, x8, x9⟩ := X
  exact va_put (D := gD E) (ci := ci) (C := C0) (T := T) (N := N) (ref := C0) (ty := ty) F.1 F.2.1 F.2.2.2.2.2.2.1 x3 tys x7 x8 F.2.2.2.2.1 C.1 C.2.2.1 C.2.2.2.1 C.2.2.2.2.1 i he x1 k x2 (F.2.2.2.2.2.2.1 _ x4) (fun x hx => by rw [x5] at hx; exact hx) x9 (by rw [x7 k x2, x6]) hn hf hk hd
    (fun H1 locs1 hP hD1 hS => h p l e s m args below meth c H1 locs1 ls F X9 ⟨C.1, C.2.1, hP, hD1, hS, C.2.2.2.2.2.1, C.2.2.2.2.2.2⟩ L)
theorem n_putF {idx ci k : Nat} {ty : FieldType} {fs : List Value} {a : Nat} {v : Value} (i : Nat) (X : gFd own idx ci k ty true) (ho : (vwCl[ci]?).map (fun q => q.1) = some own) (he : ws[i]? = some (a, .inr (ci, fs))) (hk : k < fs.length) (hn : narrow ty v = v) (hf : fits ty v = true) (hd : decode cc pc = .ok (.putfield idx, 3))
    (h : nK E own cc nL ret R A isIni Zf cs ss (pc + 3) lv st (ws.set i (a, .inr (ci, fs.set k v)))) : nK E own cc nL ret R A isIni Zf cs ss pc lv (v :: .ref a :: st) ws := by
  intro p l e s m args below meth c H locs ls F X9 C L
  obtain ⟨C0, T, N, tys, x1, x2, x3, x4, x5, x6, x7, x8, x9⟩ := X
  rw [x1] at ho
  exact va_putF (D := gD E) (ci := ci) (C := C0) (T := T) (N := N) (ref := C0) (ty := ty) F.1 F.2.1 F.2.2.2.2.2.2.1 x3 tys x7 x8 F.2.2.2.2.1 C.1 C.2.2.1 C.2.2.2.1 C.2.2.2.2.1 i he x1 k x2 (F.2.2.2.2.2.2.1 _ x4) (fun x hx => by rw [x5] at hx; exact hx) x9 X9 (x5.trans (Option.some.inj ho)) (by rw [x7 k x2, x6]) hn hf hk hd
    (fun H1 locs1 hP hD1 hS => h p l e s m args below meth c H1 locs1 ls F X9 ⟨C.1, C.2.1, hP, hD1, hS, C.2.2.2.2.2.1, C.2.2.2.2.2.2⟩ L)
theorem n_newa {atype : ArrayType} {ty : FieldType} {N : Nat} {n : Int32} {a0 : vp_A} (t : Nat) (hty : newarray.typeOf atype = ty) (ht : (gTy E)[t]? = some (gcA E t, ty)) (hpr : ∀ (U : State) (cA : ClassId), va_RA U cA ty → U.vm.findClass ("[" ++ ty.toString) = some cA) (hw : Cond.arrayClass (newarray.typeOf atype) ∈ gtbl) (ha : ∀ cA : ClassId, vp_cell cA a0 = arrV cA N (fun _ => defaultValue ty)) (hn : ¬ n < 0) (hN : n.toNatClampNeg = N) (hby : N * componentBytes ty ≤ 536870912) (hR : cs + 1 ≤ R.cells ∧ ss + N ≤ R.slots) (hd : decode cc pc = .ok (.newarray atype, 2))
    (h : ∀ q : Nat, nK E own cc nL ret R A Nm Zf (cs + 1) (ss + N) (pc + 2) lv (.ref q :: st) (ws ++ [(q, .inl (gcA E t, a0))])) : nK E own cc nL ret R A Nm Zf cs ss pc lv (.int n :: st) ws := by
  intro p l e s m args below meth c H locs ls F X9 C L
  refine va_newa F.1 F.2.1 (F.2.2.2.2.2.2.1 _ hw) hty C.1 C.2.2.1 C.2.2.2.1 C.2.2.2.2.1 C.2.2.2.2.2.1 ha hn hN hby hR.1 hR.2 hd (fun q cA H1 hK1 hP1 hD1 hS1 => ?_)
  have e1 := hpr _ _ (hK1.2 (gTy E).length (cA, ty) (by rw [List.getElem?_append_right (Nat.le_refl _), Nat.sub_self]; rfl)).2
  have e2 := hpr _ _ (C.1.2 t _ ht).2
  have e3 : cA = gcA E t := Option.some.inj (e1.symm.trans e2)
  subst e3
  exact h q p l e s m args below meth c H1 locs ls F X9 ⟨C.1, C.2.1, hP1, hD1, hS1, C.2.2.2.2.2.1, C.2.2.2.2.2.2⟩ L
theorem n_newq {C0 : String} {N idx : Nat} {n : Int32} (t : Nat) (ht : (gTy E)[t]? = some (gcA E t, .object C0)) (hcl : Cond.classLink own idx C0 ∈ gtbl) (ho : C0 ∈ aoL) (hn : ¬ n < 0) (hN : n.toNatClampNeg = N) (hby : N * 4 ≤ 536870912) (hR : cs + 1 ≤ R.cells ∧ ss + N ≤ R.slots) (hd : decode cc pc = .ok (.anewarray idx, 3))
    (h : ∀ q : Nat, nK E own cc nL ret R A Nm Zf (cs + 1) (ss + N) (pc + 3) lv (.ref q :: st) (ws ++ [(q, .inl (gcA E t, N, .inr (.inr (.inr (.inr (fun _ => none))))))])) : nK E own cc nL ret R A Nm Zf cs ss pc lv (.int n :: st) ws := by
  intro p l e s m args below meth c H locs ls F X9 C L
  have hpr : ∀ (U : State) (cA : ClassId), va_RA U cA (.object C0) → U.vm.findClass ("[" ++ (FieldType.object C0).toString) = some cA := fun U cA h => by
    obtain ⟨_, _, _, _, _, h⟩ := h
    exact h
  refine va_newq F.1 F.2.1 F.2.2.2.2.1 (F.2.2.2.2.2.2.1 _ hcl) (C.2.1.2.1 _ ho) C.1 C.2.2.1 C.2.2.2.1 C.2.2.2.2.1 C.2.2.2.2.2.1 hn hN hby hR.1 hR.2 hd (fun q cA H1 hK1 hP1 hD1 hS1 => ?_)
  have e1 := hpr _ _ (hK1.2 (gTy E).length (cA, .object C0) (by rw [List.getElem?_append_right (Nat.le_refl _), Nat.sub_self]; rfl)).2
  have e2 := hpr _ _ (C.1.2 t _ ht).2
  have e3 : cA = gcA E t := Option.some.inj (e1.symm.trans e2)
  subst e3
  exact h q p l e s m args below meth c H1 locs ls F X9 ⟨C.1, C.2.1, hP1, hD1, hS1, C.2.2.2.2.2.1, C.2.2.2.2.2.2⟩ L
theorem n_new {idx N : Nat} {C0 : String} {T : u_T} {fs : List Value} (ci : Nat) (tys : Nat → FieldType) (hc : vwCl[ci]? = some (C0, T, N)) (hin : ∀ w ∈ u_ws C0 T N, w ∈ gtbl) (hty : ∀ k, k < N → parseFieldDescriptor (T k).2.2.1 = some (tys k)) (hcl : Cond.classLink own idx C0 ∈ gtbl) (hinst : Cond.instantiable C0 N ∈ gtbl) (hini : Cond.initialized C0 ∈ gtbl) (hfs : ∀ j, j < N → defaultValue (tys j) = vp_V fs j) (hR : cs + 1 ≤ R.cells ∧ ss + N ≤ R.slots) (hd : decode cc pc = .ok (.new idx, 3))
    (h : ∀ q : Nat, nK E own cc nL ret R A Nm Zf (cs + 1) (ss + N) (pc + 3) lv (.ref q :: st) (ws ++ [(q, .inr (ci, fs))])) : nK E own cc nL ret R A Nm Zf cs ss pc lv st ws := by
  intro p l e s m args below meth c H locs ls F X9 C L
  exact va_new F.1 F.2.1 F.2.2.2.2.2.2.1 hin tys hty F.2.2.2.2.1 (F.2.2.2.2.2.2.1 _ hcl) (F.2.2.2.2.2.2.1 _ hinst) (F.2.2.2.2.2.2.1 _ hini) C.1 C.2.2.1 C.2.2.2.1 C.2.2.2.2.1 C.2.2.2.2.2.1 hc hfs hR.1 hR.2 hd
    (fun q H1 hP1 hD1 hS1 => h q p l e s m args below meth c H1 locs ls F X9 ⟨C.1, C.2.1, hP1, hD1, hS1, C.2.2.2.2.2.1, C.2.2.2.2.2.2⟩ L)
theorem n_objInit {idx : Nat} {a : Nat} (hl : Cond.methodLink own idx Lib.objectInit ∈ gtbl) (hi : Cond.instanceMethod Lib.objectInit ∈ gtbl) (hc : Cond.code Lib.objectInit ⟨#[0xb1]⟩ 1 none ∈ gtbl) (hR : 1 ≤ R.frames ∧ (st.map fun v => v.category).sum + 12 ≤ R.locals) (hd : decode cc pc = .ok (.invokespecial idx, 3)) (h : nK E own cc nL ret R A Nm Zf cs ss (pc + 3) lv st ws) : nK E own cc nL ret R A Nm Zf cs ss pc lv (.ref a :: st) ws := by
  intro p l e s m args below meth c H locs ls F X9 C L
  exact W.objInit F.1 F.2.1 F.2.2.2.2.1 (F.2.2.2.2.2.2.1 _ hl) (F.2.2.2.2.2.2.1 _ hi) (F.2.2.2.2.2.2.1 _ hc) rfl (L.1.trans F.2.2.2.1.symm) rfl hd hR.1 (by show 2 * 0 + _ + 12 ≤ _; omega) (h p l e s m args below meth c H locs ls F X9 C L)
theorem n_astq {ci v n : Nat} {r : vw_C} {vs : List Value} {a : Nat} {f : Nat → Option Nat} {i : Int32} (q0 t0 qk : Nat) (ha : ws[q0]? = some (a, .inl (gcA E t0, n, .inr (.inr (.inr (.inr f)))))) (ht : (gTy E)[t0]? = some (gcA E t0, .object r.1)) (hv : ws[qk]? = some (v, .inr (ci, vs))) (hc : vwCl[ci]? = some r) (hin : vp_in i n) (hd : decode cc pc = .ok (.aastore, 1))
    (h : nK E own cc nL ret R A Nm Zf cs ss (pc + 1) lv st (ws.set q0 (a, .inl (gcA E t0, n, .inr (.inr (.inr (.inr (va_up f i.toNatClampNeg (some v))))))))) : nK E own cc nL ret R A Nm Zf cs ss pc lv (.ref v :: .int i :: .ref a :: st) ws := by
  intro p l e s m args below meth c H locs ls F X9 C L
  exact va_astq F.1 F.2.1 C.1 C.2.2.1 C.2.2.2.1 C.2.2.2.2.1 q0 t0 qk ci ha ht hv hc hin hd (fun H1 locs1 hP hD1 hS => h p l e s m args below meth c H1 locs1 ls F X9 ⟨C.1, C.2.1, hP, hD1, hS, C.2.2.2.2.2.1, C.2.2.2.2.2.2⟩ L)
theorem n_aldq {C0 : String} {n v : Nat} {a : Nat} {f : Nat → Option Nat} {i : Int32} (q0 t0 : Nat) (ha : ws[q0]? = some (a, .inl (gcA E t0, n, .inr (.inr (.inr (.inr f)))))) (ht : (gTy E)[t0]? = some (gcA E t0, .object C0)) (hin : vp_in i n) (hf : f i.toNatClampNeg = some v) (hd : decode cc pc = .ok (.aaload, 1))
    (h : nK E own cc nL ret R A Nm Zf cs ss (pc + 1) lv (.ref v :: st) ws) : nK E own cc nL ret R A Nm Zf cs ss pc lv (.int i :: .ref a :: st) ws := by
  intro p l e s m args below meth c H locs ls F X9 C L
  refine va_aldq F.1 F.2.1 C.1 C.2.2.1 q0 t0 ha ht hin hd ?_
  rw [hf]
  exact h p l e s m args below meth c H locs ls F X9 C L
/-- an enum constant: read, and laid into an array of them -/
theorem n_tok {idx : Nat} (i : Nat) (hi : i < 26) (hw : Cond.fieldLink own idx "WillDeposit$Token" (tokNm.getD i "") "LWillDeposit$Token;" ∈ gtbl) (hd : decode cc pc = .ok (.getstatic idx, 3)) (h : nK E own cc nL ret R A Nm Zf cs ss (pc + 3) lv (.ref (gad E i) :: st) ws) : nK E own cc nL ret R A Nm Zf cs ss pc lv st ws := by
  intro p l e s m args below meth c H locs ls F X9 C L
  exact va_gets F.1 F.2.1 (C.2.1.1.1.1 i hi).1 (nS_wk C.2.2.2.2.1 C.2.2.2.2.2.2) F.2.2.2.2.1 (F.2.2.2.2.2.2.1 _ hw) (fun _ h => h) hd (h p l e s m args below meth c H locs ls F X9 C L)
theorem n_aste {n o : Nat} {a : Nat} {f : Nat → Option Nat} {x : Int32} (q0 : Nat) (ho : o < 26) (ha : ws[q0]? = some (a, .inl (gcA E 8, n, .inr (.inr (.inr (.inr f)))))) (hin : vp_in x n) (hd : decode cc pc = .ok (.aastore, 1))
    (h : nK E own cc nL ret R A Nm Zf cs ss (pc + 1) lv st (ws.set q0 (a, .inl (gcA E 8, n, .inr (.inr (.inr (.inr (va_up f x.toNatClampNeg (some (gad E o)))))))))) : nK E own cc nL ret R A Nm Zf cs ss pc lv (.ref (gad E o) :: .int x :: .ref a :: st) ws := by
  intro p l e s m args below meth c H locs ls F X9 C L
  have hr : ∃ cellV : Cell, H[gad E o]? = some cellV ∧ cellV.vm.isStatics = false ∧ s.vm.findClass "WillDeposit$Token" = some cellV.cls := by
    obtain ⟨cell, h1, h2, h3, -⟩ := (C.2.1.1.1.1 o ho).2.1.kept (nS_wk C.2.2.2.2.1 C.2.2.2.2.2.2).2.1
    exact ⟨cell, h1, h2, h3⟩
  exact vb_astq (D := gD E) (E := "WillDeposit$Token") (C := "WillDeposit$Token") F.1 F.2.1 C.1 C.2.2.1 C.2.2.2.1 C.2.2.2.2.1 q0 8 ha rfl hr vb_asgS hin hd (fun H1 locs1 hP hD1 hS => h p l e s m args below meth c H1 locs1 ls F X9 ⟨C.1, C.2.1, hP, hD1, hS, C.2.2.2.2.2.1, C.2.2.2.2.2.2⟩ L)
theorem n_iast {n : Nat} {a : Nat} {f : Nat → Int32} {i x : Int32} (q0 : Nat) (ha : ws[q0]? = some (a, .inl (gcA E 0, n, .inl f))) (hin : vp_in i n) (hd : decode cc pc = .ok (.iastore, 1))
    (h : nK E own cc nL ret R A Nm Zf cs ss (pc + 1) lv st (ws.set q0 (a, .inl (gcA E 0, n, .inl (upd f i.toNatClampNeg x))))) : nK E own cc nL ret R A Nm Zf cs ss pc lv (.int x :: .int i :: .ref a :: st) ws := by
  intro p l e s m args below meth c H locs ls F X9 C L
  exact va_iast F.1 F.2.1 C.1 C.2.2.1 C.2.2.2.1 C.2.2.2.2.1 q0 0 ha rfl hin hd (fun H1 locs1 hP hD1 hS => h p l e s m args below meth c H1 locs1 ls F X9 ⟨C.1, C.2.1, hP, hD1, hS, C.2.2.2.2.2.1, C.2.2.2.2.2.2⟩ L)
theorem n_zast {n : Nat} {a : Nat} {f : Nat → Int32} {i x : Int32} (q0 : Nat) (ha : ws[q0]? = some (a, .inl (gcA E 2, n, .inl f))) (hin : vp_in i n) (hd : decode cc pc = .ok (.bastore, 1))
    (h : nK E own cc nL ret R A Nm Zf cs ss (pc + 1) lv st (ws.set q0 (a, .inl (gcA E 2, n, .inl (upd f i.toNatClampNeg (vp_nar .boolean x)))))) : nK E own cc nL ret R A Nm Zf cs ss pc lv (.int x :: .int i :: .ref a :: st) ws := by
  intro p l e s m args below meth c H locs ls F X9 C L
  exact va_zast F.1 F.2.1 C.1 C.2.2.1 C.2.2.2.1 C.2.2.2.2.1 q0 2 ha rfl hin hd (fun H1 locs1 hP hD1 hS => h p l e s m args below meth c H1 locs1 ls F X9 ⟨C.1, C.2.1, hP, hD1, hS, C.2.2.2.2.2.1, C.2.2.2.2.2.2⟩ L)
theorem n_iald {n : Nat} {a : Nat} {f : Nat → Int32} {i : Int32} (q0 : Nat) (ha : ws[q0]? = some (a, .inl (gcA E 0, n, .inl f))) (hin : vp_in i n) (hd : decode cc pc = .ok (.iaload, 1))
    (h : nK E own cc nL ret R A Nm Zf cs ss (pc + 1) lv (.int (f i.toNatClampNeg) :: st) ws) : nK E own cc nL ret R A Nm Zf cs ss pc lv (.int i :: .ref a :: st) ws := by
  intro p l e s m args below meth c H locs ls F X9 C L
  exact va_iald F.1 F.2.1 C.1 C.2.2.1 q0 0 ha rfl hin hd (h p l e s m args below meth c H locs ls F X9 C L)
/-- the same cells, said otherwise -/
theorem n_eq {ws' : va_W} (he : ws = ws') (h : nK E own cc nL ret R A Nm Zf cs ss pc lv st ws') : nK E own cc nL ret R A Nm Zf cs ss pc lv st ws := by rw [he]; exact h
theorem n_vret {S : Type} {ws1 : S → va_W} {mc ms : Nat} (f : S) (is : List Nat) (hn : va_nd is = true) (hs : is.map (fun i => ws[i]?) = (ws1 f).map some) (hm : cs ≤ mc ∧ ss ≤ ms) (hret : ret = none) (hd : decode cc pc = .ok (.return_, 1)) : nK E own cc nL ret R A Nm (fun below args s => MQ below (nQ E A ws1) args s mc ms A) cs ss pc lv [] ws := by
  intro p l e s m args below meth c H locs ls F _ C L
  refine W.widen hm.1 hm.2 ?_
  exact W.vret F.1 F.2.1 (F.2.2.1.trans hret) (fun t ht _ => ⟨⟨f, rfl, trivial, by rw [ht]; exact C.2.2.1.sub is (n_fm hs), C.2.2.2.1.sub is hn hs⟩, C.2.2.2.2.1.F ht⟩) C.2.2.2.2.1.2.2 hd F.2.2.2.2.2.1
end NR
/-- what the tables say of a constructor -/
def gMi (y : MethodName) (cc : ByteArray) (nL : Nat) : Prop := Cond.instanceMethod y ∈ gtbl ∧ Cond.initialized y.cls ∈ gtbl ∧ Cond.code y cc nL none ∈ gtbl ∧ y.cls ≠ "java/lang/invoke/MethodHandle" ∧ y.cls ≠ "java/lang/invoke/VarHandle" ∧ y.name = "<init>"
theorem nBlind {E : gE} {av : List Value} {ws0 : va_W} {sz : Nat} : FrameBlind (nPc E av ws0 sz) := by
  intro a U g mk q
  obtain ⟨q0, q1, q2, q3, q4, q5, q6, q7⟩ := q
  exact ⟨q0, q1, q2, q3, va_K.moved (u := U) (U := U.calling g mk a) (Vm.Alike.refl U.vm) q4, nT.same q5 rfl rfl, q6, q7⟩
section NC
variable {E : gE} {own : String} {cc : ByteArray} {nL : Nat} {ret : Option FieldType} {R : Room} {A : Nat → Prop} {Nm : State → Method → Prop} {Zf : List Frame → Array Value → State → State → Prop} {cs ss : Nat} {pc : Nat} {lv : List (Nat × Value)} {st : List Value} {ws : va_W}
variable {y : MethodName} {cc' : ByteArray} {nL' : Nat} {R' : Room} {n idx mc ms : Nat} {As : List Value} {S : Type} {ws1 : S → va_W}
theorem nPre {wc : va_W} {av : List Value} {s U : State} {H : Heap} {locs : List Loc} (C : nCx E A ws s H locs) (isC : List Nat) (hn : va_nd isC = true) (hC : isC.map (fun i => ws[i]?) = wc.map some) (hU : U.heap = H) (hW : s.WarmedH U.vm) : nPc E av wc H.size av.toArray U := by
  have hDc := C.2.2.2.1.sub isC hn hC
  refine ⟨rfl, by rw [hU], Nat.le_trans ?_ C.2.2.2.2.1.1, fun k q hk => C.2.2.2.2.2.2 _ (hDc.2 k q hk), va_K.moved hW.alike C.1, C.2.1.go C.2.2.2.2.1 C.2.2.2.2.2.2 hW hU, by rw [hU]; exact C.2.2.1.sub isC (n_fm hC), hDc.weaken (fun _ _ _ _ => trivial)⟩
  exact C.2.2.2.2.2.2 _ (C.2.2.2.2.2.1 _ (Nat.le_refl _))
theorem nRun {wc wr : va_W} {p : Program} {l : Launch} {e : Env} {s : State} {m : MethodId} {args : Array Value} {below : List Frame} {meth : Method} {c : Code} {H : Heap} {locs : List Loc} {ls : Array Slot} {a : Array Value} {st0 : List Value}
    (isC isR : List Nat) (hC : isC.map (fun i => ws[i]?) = wc.map some) (hR : isR.map (fun i => ws[i]?) = wr.map some) (hn : va_nd isR = true) (hdis : ∀ i ∈ isR, i ∉ isC)
    (hr : va_Run p l e R s m args below meth c H locs cs ss mc ms (F0 m pc ls st0) st (nQ E (va_A wc H.size) ws1 a) (va_A wc H.size)) (F : gFx own cc nL ret p l s m args meth c) (X9 : Nm s meth) (C : nCx E A ws s H locs) (L : lv_has ls nL lv)
    (h : ∀ f, nK E own cc nL ret R A Nm Zf (cs + mc) (ss + ms) (pc + 3) lv st (wr ++ ws1 f)) : W p l e R s m args below meth c H locs cs ss (Zf below args s) (F0 m pc ls st0) := by
  have hFc := va_free (wc := wc) C.2.2.2.1 C.2.2.2.2.1 C.2.2.2.2.2.1 isC hC
  refine va_callv hr C.2.2.2.2.1 (fun q _ h => hFc q h) hFc (fun f t H1 locs1 ht hvm _ hB hz1 hk1 hS => ?_)
  obtain ⟨hP1, hD1⟩ := hB
  rw [ht] at hP1
  obtain ⟨hP, hD⟩ := va_join C.2.2.1 C.2.2.2.1 isC isR hC hR hn hdis hk1 hFc hP1 hD1
  exact h f p l e s m args below meth c H1 locs1 ls F X9 ⟨C.1, C.2.1, hP, hD, hS, C.2.2.2.2.2.1, C.2.2.2.2.2.2⟩ L
theorem n_lastR (ws : va_W) (x : Nat × va_E) : (List.range ws.length).map (fun i => (ws ++ [x])[i]?) = ws.map some := by
  apply List.ext_getElem?
  intro i
  rw [List.getElem?_map, List.getElem?_map]
  rcases Nat.lt_or_ge i ws.length with h | h
  · rw [List.getElem?_range h, List.getElem?_eq_getElem h, Option.map_some, Option.map_some, List.getElem?_append_left h, List.getElem?_eq_getElem h]
  · rw [List.getElem?_eq_none (by rw [List.length_range]; exact h), List.getElem?_eq_none h]; rfl
theorem n_ndr (n : Nat) : va_nd (List.range n) = true := by
  have h : ∀ l : List Nat, l.Nodup → va_nd l = true := by
    intro l
    induction l with
    | nil => intro _; rfl
    | cons a l ih =>
      intro hn
      rw [List.nodup_cons] at hn
      have := ih hn.2
      simp only [va_nd, this, Bool.and_true]
      simp [hn.1]
  exact h _ List.nodup_range
/-- a constructor of what lies last among the cells -/
theorem n_callI {o : va_E} {b : Nat} (hM : nCt E y cc' nL' R' (.ref b :: As) [(b, o)] ws1 mc ms) (X : gMi y cc' nL') (hl : Cond.methodLink own idx y ∈ gtbl)
    (hsig : (parseMethodDescriptor y.desc).map (fun d => d.parameters.length) = some n) (hn : As.length = n) (hR : R'.cells = mc ∧ R'.slots = ms ∧ R'.frames + 1 ≤ R.frames ∧ 8 + (nL' + 11) + R'.locals ≤ R.locals ∧ cs + mc ≤ R.cells ∧ ss + ms ≤ R.slots) (hcat : (st.map fun v => v.category).sum ≤ 8) (hd : decode cc pc = .ok (.invokespecial idx, 3))
    (h : ∀ f, nK E own cc nL ret R A Nm Zf (cs + mc) (ss + ms) (pc + 3) lv st (ws ++ ws1 f)) : nK E own cc nL ret R A Nm Zf cs ss pc lv (As.reverse ++ .ref b :: st) (ws ++ [(b, o)]) := by
  intro p l e s m args below meth c H locs ls F X9 C L
  have hts := F.2.2.2.2.2.2.1
  obtain ⟨x1, x3, x4, x5, x6, x7⟩ := X
  have hC : [ws.length].map (fun i => (ws ++ [(b, o)])[i]?) = [(b, o)].map some := by simp
  refine nRun [ws.length] (List.range ws.length) hC (n_lastR ws _) (n_ndr _) (fun i hi => by have := List.mem_range.mp hi; simp; omega)
    (va_runI (As := As) (n := n) ⟨F.1, F.2.1, F.2.2.2.1, F.2.2.2.2.1, hts⟩ (hM l F.2.2.2.2.2.2.2 H.size) ⟨⟨hR.1, hR.2.1, hR.2.2.1, hR.2.2.2.1, gGood hts x4, List.mem_cons_self, hts _ x4, hts _ x3, ⟨x5, x6⟩, fun sig hs => ?_, hts _ hl⟩, x7, hts _ x1⟩ ⟨nBlind, fun U hU hW => nPre C [ws.length] rfl hC hU hW⟩ rfl hn L.1 rfl (lv_room hcat) hd hR.2.2.2.2) F X9 C L h
  rw [hs] at hsig
  exact (Option.some.inj hsig).symm
/-- a private one, of a nest mate -/
theorem n_callIN {o : va_E} {b : Nat} (ho : own = "WillDeposit$Register") (hM : nCt E y cc' nL' R' (.ref b :: As) [(b, o)] ws1 mc ms) (X : gMi y cc' nL') (hl : (idx, y) ∈ nestL)
    (hsig : (parseMethodDescriptor y.desc).map (fun d => d.parameters.length) = some n) (hn : As.length = n) (hR : R'.cells = mc ∧ R'.slots = ms ∧ R'.frames + 1 ≤ R.frames ∧ 8 + (nL' + 11) + R'.locals ≤ R.locals ∧ cs + mc ≤ R.cells ∧ ss + ms ≤ R.slots) (hcat : (st.map fun v => v.category).sum ≤ 8) (hd : decode cc pc = .ok (.invokespecial idx, 3))
    (h : ∀ f, nK E own cc nL ret R A Nm Zf (cs + mc) (ss + ms) (pc + 3) lv st (ws ++ ws1 f)) : nK E own cc nL ret R A Nm Zf cs ss pc lv (As.reverse ++ .ref b :: st) (ws ++ [(b, o)]) := by
  intro p l e s m args below meth c H locs ls F X9 C L
  subst ho
  have hts := F.2.2.2.2.2.2.1
  obtain ⟨x1, x3, x4, x5, x6, x7⟩ := X
  have hC : [ws.length].map (fun i => (ws ++ [(b, o)])[i]?) = [(b, o)].map some := by simp
  refine nRun [ws.length] (List.range ws.length) hC (n_lastR ws _) (n_ndr _) (fun i hi => by have := List.mem_range.mp hi; simp; omega)
    (va_runIN (As := As) (n := n) (host := "WillDeposit") ⟨F.1, F.2.1, F.2.2.2.1, F.2.2.2.2.1, hts⟩ (hM l F.2.2.2.2.2.2.2 H.size) ⟨⟨⟨hR.1, hR.2.1, hR.2.2.1, hR.2.2.2.1, gGood hts x4, List.mem_cons_self⟩, hts _ x4, hts _ x3, ⟨x5, x6⟩, fun sig hs => ?_, va_Nw.use rfl (C.2.1.2.2 _ hl)⟩, x7, hts _ x1⟩ ⟨nBlind, fun U hU hW => nPre C [ws.length] rfl hC hU hW⟩ rfl hn L.1 rfl (lv_room hcat) hd hR.2.2.2.2) F X9 C L h
  rw [hs] at hsig
  exact (Option.some.inj hsig).symm
theorem n_all (ws : va_W) : (List.range ws.length).map (fun i => ws[i]?) = ws.map some := by
  apply List.ext_getElem?
  intro i
  rw [List.getElem?_map, List.getElem?_map]
  rcases Nat.lt_or_ge i ws.length with h | h
  · rw [List.getElem?_range h, List.getElem?_eq_getElem h, Option.map_some, Option.map_some, List.getElem?_eq_getElem h]
  · rw [List.getElem?_eq_none (by rw [List.length_range]; exact h), List.getElem?_eq_none h]; rfl
/-- a method over all the cells -/
theorem n_callV {C0 : String} {T : u_T} {N ci : Nat} {fs : List Value} {b : Nat} (i : Nat) (hM : nCt E y cc' nL' R' (.ref b :: As) ws ws1 mc ms) (X : gMt y cc' nL' none) (hl : Cond.methodLink own idx y ∈ gtbl) (he : ws[i]? = some (b, .inr (ci, fs))) (hc : vwCl[ci]? = some (C0, T, N)) (hy : y.cls = C0)
    (hsig : (parseMethodDescriptor y.desc).map (fun d => d.parameters.length) = some n) (hn : As.length = n) (hR : R'.cells = mc ∧ R'.slots = ms ∧ R'.frames + 1 ≤ R.frames ∧ 8 + (nL' + 11) + R'.locals ≤ R.locals ∧ cs + mc ≤ R.cells ∧ ss + ms ≤ R.slots) (hcat : (st.map fun v => v.category).sum ≤ 8) (hd : decode cc pc = .ok (.invokevirtual idx, 3))
    (h : ∀ f, nK E own cc nL ret R A Nm Zf (cs + mc) (ss + ms) (pc + 3) lv st (ws1 f)) : nK E own cc nL ret R A Nm Zf cs ss pc lv (As.reverse ++ .ref b :: st) ws := by
  intro p l e s m args below meth c H locs ls F X9 C L
  have hts := F.2.2.2.2.2.2.1
  obtain ⟨x1, x2, x3, x4, x5, x6⟩ := X
  subst hy
  refine nRun (wr := []) (List.range ws.length) [] (n_all ws) rfl rfl (fun i hi => nomatch hi)
    (va_runV (C := y.cls) (b := b) (As := As) (n := n) ⟨F.1, F.2.1, F.2.2.2.1, F.2.2.2.2.1, hts⟩ (hM l F.2.2.2.2.2.2.2 H.size) ⟨⟨hR.1, hR.2.1, hR.2.2.1, hR.2.2.2.1, gGood hts x4, List.mem_cons_self, hts _ x4, hts _ x3, ⟨x5, x6⟩, fun sig hs => ?_, hts _ hl⟩, hts _ x1, hts _ x2⟩ ⟨nBlind, va_recv C.1 C.2.2.1 hc he, fun U hU hW => nPre C _ (n_ndr _) (n_all ws) hU hW⟩ rfl hn L.1 rfl (lv_room hcat) hd hR.2.2.2.2) F X9 C L h
  rw [hs] at hsig
  exact (Option.some.inj hsig).symm
end NC
end
