-- THE LAW: its script, its helpers with handlers, its end
set_option linter.all false
noncomputable section
def gSL (E : gE) (b L : Nat) (xs : Nat → Int32) : State → MethodId → Code → Prop := fun s _ _ => va_X b L xs s s.heap ∧ b < s.heap.size ∧ gbs E = s.heap.size
section LR
variable {E : gE} {own : String} {cc : ByteArray} {nL : Nat} {ret : Option FieldType} {R : Room} {pc : Nat} {lv : List (Nat × Value)} {st : List Value} {M : gM} {Q : Option Value → gM → Prop} {Zf : List Frame → Array Value → State → State → Prop} {cs ss : Nat} {b L : Nat} {xs : Nat → Int32}
theorem g_slen (hd : decode cc pc = .ok (.arraylength, 1)) (h : gK E own cc nL ret R (gSL E b L xs) Zf cs ss (pc + 1) lv (.int (Int32.ofNat L) :: st) M) : gK E own cc nL ret R (gSL E b L xs) Zf cs ss pc lv (.ref b :: st) M := by
  intro p l e s m args below meth c H locs ls F X9 C L'
  exact va_slen F.1 F.2.1 X9.1 X9.2.1 (by show ¬ gbs E ≤ b; rw [X9.2.2]; exact Nat.not_le.mpr X9.2.1) C.2.2.2.2.2 hd (h p l e s m args below meth c H locs ls F X9 C L')
theorem g_sld {x : Int32} (hin : vp_in x L) (hd : decode cc pc = .ok (.iaload, 1)) (h : gK E own cc nL ret R (gSL E b L xs) Zf cs ss (pc + 1) lv (.int (xs (nn x)) :: st) M) : gK E own cc nL ret R (gSL E b L xs) Zf cs ss pc lv (.int x :: .ref b :: st) M := by
  intro p l e s m args below meth c H locs ls F X9 C L'
  exact va_sld F.1 F.2.1 X9.1 X9.2.1 (by show ¬ gbs E ≤ b; rw [X9.2.2]; exact Nat.not_le.mpr X9.2.1) C.2.2.2.2.2 hin hd (h p l e s m args below meth c H locs ls F X9 C L')
/-- one int of the script onto the stack -/
theorem g_sarg {i n : Nat} (j0 j4 : Nat) (h0 : lv[j0]? = some (0, .ref b)) (h4 : lv[j4]? = some (4, .int (nI i))) (hn : i + n < L) (hL : L < 2 ^ 31) (d0 : decode cc pc = .ok (.aload_n 0, 1)) (d1 : decode cc (pc + 1) = .ok (.iload 4, 2)) (d3 : decode cc (pc + 3) = .ok (.iconst (n : Int), 1)) (hnn : Int32.ofInt (n : Int) = nI n) (d4 : decode cc (pc + 4) = .ok (.iadd, 1)) (d5 : decode cc (pc + 5) = .ok (.iaload, 1))
    (h : gK E own cc nL ret R (gSL E b L xs) Zf cs ss (pc + 6) lv (.int (xs (i + n)) :: st) M) : gK E own cc nL ret R (gSL E b L xs) Zf cs ss pc lv st M := by
  refine g_aload_n j0 d0 h0 ?_
  refine g_iload j4 d1 h4 ?_
  refine g_iconst (v := nI n) d3 hnn ?_
  refine g_iadd d4 ?_
  rw [nI_add]
  refine g_sld (vp_in_nI hn hL) d5 ?_
  rw [nn_nI (by omega)]
  exact h
theorem g_tsIn {dflt lo hi : Int} {offs : Array Int} {len : Nat} {x k : Int32} {off : Int} (tgt : Nat) (hx : x = k) (hd : decode cc pc = .ok (.tableswitch dflt lo hi offs, len)) (h1 : ¬ k.toInt < lo) (h2 : ¬ hi < k.toInt) (ho : offs[(k.toInt - lo).toNat]? = some off) (ht : (pc : Int) + off = (tgt : Int)) {Sx : State → MethodId → Code → Prop}
    (h : gK E own cc nL ret R Sx Zf cs ss tgt lv st M) : gK E own cc nL ret R Sx Zf cs ss pc lv (.int x :: st) M := by
  intro p l e s m args below meth c H locs ls F X9 C L'
  subst hx
  exact lv_tableIn F.1 F.2.1 hd h1 h2 ho ht (h p l e s m args below meth c H locs ls F X9 C L')
theorem g_tsOut {dflt lo hi : Int} {offs : Array Int} {len : Nat} {x : Int32} (tgt : Nat) (hd : decode cc pc = .ok (.tableswitch dflt lo hi offs, len)) (h1 : x.toInt < lo ∨ hi < x.toInt) (ht : (pc : Int) + dflt = (tgt : Int)) {Sx : State → MethodId → Code → Prop}
    (h : gK E own cc nL ret R Sx Zf cs ss tgt lv st M) : gK E own cc nL ret R Sx Zf cs ss pc lv (.int x :: st) M := by
  intro p l e s m args below meth c H locs ls F X9 C L'
  exact lv_tableOut F.1 F.2.1 hd h1 ht (h p l e s m args below meth c H locs ls F X9 C L')
theorem g_widen {Sx : State → MethodId → Code → Prop} {k n : Nat} (h1 : cs ≤ k) (h2 : ss ≤ n) (h : gK E own cc nL ret R Sx Zf k n pc lv st M) : gK E own cc nL ret R Sx Zf cs ss pc lv st M := by
  intro p l e s m args below meth c H locs ls F X9 C L'
  exact W.widen h1 h2 (h p l e s m args below meth c H locs ls F X9 C L')
end LR
/-- the law's own end -/
theorem lw_ret' {p : Program} {l : Launch} {e : Env} {s : State} {m : MethodId} {args : Array Value} {below : List Frame} {meth : Method} {c : Code} (hx : p.tables.exec = Jvm.exec) (hb : c.code = code) (hr : meth.sig.returnType = ret) (hlocks : meth.locks = false) {pc : Nat} {H : Heap} {ls : Array Slot} (hdg : decode code pc = .ok (.ireturn, 1)) : W p l e room_1 s m args below meth c H [] 601024 7293034 (lw_Z below args s) (F0 m pc ls [.int 1]) := by
  intro T hT X
  obtain ⟨fs, hret, hrun, hended, hW, hframe⟩ := X.leave (v := some (.int 1)) (hlocks := hlocks) (fun h => by rw [hr] at h; cases h)
  have hmeth' : T.vm.method? m = some meth := X.method'
  refine ⟨T.setFrames fs, ?_, .returned (some (.int 1)), hrun, hended, rfl, ⟨_, rfl⟩, hW, hframe⟩
  jvm_step X.here [X.here.top, hx, hb, hdg, hmeth', hr, ret, narrow_b1]
  (try refine ⟨rfl, ?_⟩); (try refine ⟨rfl, ?_⟩)
  first | (intro acts; rw [hret _ acts rfl rfl rfl]) | rw [hret _ _ rfl rfl rfl]
  exact Steps.refl _
theorem g_lwret {E : gE} {own : String} {pc : Nat} {lv : List (Nat × Value)} {M : gM} {cs ss b L : Nat} {xs : Nat → Int32} (hc : cs ≤ 601024) (hs : ss ≤ 7293034) (hd : decode code pc = .ok (.ireturn, 1)) : gK E own code 7 ret room_1 (gSL E b L xs) lw_Z cs ss pc lv [.int 1] M := by
  intro p l e s m args below meth c H locs ls F X9 C L'
  refine va_forget (fun q hq => by rw [← X9.2.2]; exact C.2.2.2.2.2.2.2 q hq) ?_
  refine W.widen hc hs ?_
  exact lw_ret' F.1 F.2.1 F.2.2.1 F.2.2.2.2.2.1 hd
/-! the helpers: a method with handlers that answers for what is thrown -/
def hhL : List (Nat × Nat × Nat × Nat) := [(0, 10, 13, 13), (0, 10, 17, 15)]
def gSH : State → MethodId → Code → Prop := fun _ _ c => c.exceptionTable.toList = tableOf hhL
def gC1 (E : gE) (y : MethodName) (cc : ByteArray) (nL : Nat) (ret : Option FieldType) (R : Room) (av : List Value) (M : gM) (Q : Option Value → gM → Prop) : Prop :=
  ∀ l : Launch, l.stackTraces = false → Met l y (.codeWith y cc nL ret hhL :: gtbl) R (va_Pc av (fun U => gOK E ∧ gbs E ≤ U.heap.size ∧ va_K (gD E) vwCl (gTy E) U ∧ gT E U ∧ gR E M U.heap)) (gQ E Q) 1 6 (gA E)
theorem gC1.of {E : gE} {y : MethodName} {cc : ByteArray} {nL : Nat} {ret : Option FieldType} {d : Nat} {av : List Value} {lv : List (Nat × Value)} {M : gM} {Q : Option Value → gM → Prop}
    (hy : plainName y.cls = true) (hn : (lg_sl av).length ≤ nL) (hl : lv_args 0 av = lv) (h : gK E y.cls cc nL ret (rmx d) gSH (fun below args s => MQ below (gQ E Q) args s 1 6 (gA E)) 0 0 0 lv [] M) : gC1 E y cc nL ret (rmx d) av M Q := by
  intro l hl9
  refine MetFree.of_bodyS (code := cc) (maxLocals := nL) (ret := ret) hy ?_ ?_
  · intro args s m h hn
    obtain ⟨m9, meth, c, hn9, h1, h2, h3, h4, -, h5, h6, -⟩ := Cond.codeWith_spec (atoms_spec (ws := .codeWith y cc nL ret hhL :: gtbl) h _ List.mem_cons_self)
    cases hn.symm.trans hn9
    exact ⟨meth, c, h1, h2, h3, h4, h5, h6⟩
  · intro p e s m args below meth c s₁ B hml hP _
    have hh0 : s₁.heap = s.heap := by rw [B.state]; rfl
    have hts := atoms_spec (ws := .codeWith y cc nL ret hhL :: gtbl) B.pre
    have htab := vx_table (x := y) B (hts _ List.mem_cons_self)
    obtain ⟨rfl, hok, hbs, hK, hT, hR⟩ := hP
    subst hl
    have key : W p l e (rmx d) s m av.toArray below meth c s.heap [] 0 0 (MQ below (gQ E Q) av.toArray s 1 6 (gA E)) (entryFrame m av.toArray nL) := by
      rw [lg_entry_eq]
      exact h p l e s m _ below meth c s.heap [] _ ⟨B.exec, B.bytes, B.returns, hml, findClass_of_methodNamed B.named, B.notSynchronized, fun w hw => hts w (List.mem_cons_of_mem _ hw), hl9⟩ htab ⟨hok, hbs, hK, hT, hR, va_S.rf⟩ (lv_entry av hn)
    obtain ⟨t, a1, o, b1, b2, b3⟩ := key s₁ hh0 (Stand.of_body B)
    exact ⟨t, o, a1, b1, b2, ⟨b3.1, b3.2⟩⟩
section LC
variable {E : gE} {own : String} {cc : ByteArray} {nL : Nat} {ret : Option FieldType} {R : Room} {pc : Nat} {lv : List (Nat × Value)} {st : List Value} {M : gM} {Q : Option Value → gM → Prop} {Sx : State → MethodId → Code → Prop} {Zf : List Frame → Array Value → State → State → Prop} {cs ss : Nat}
variable {y : MethodName} {cc' : ByteArray} {nL' : Nat} {ret' : Option FieldType} {d n idx : Nat} {As : List Value} {Q' : Option Value → gM → Prop} {QX' : String → gM → Prop}
theorem g_hret {v : Int32} (hc : cs ≤ 1 ∧ ss ≤ 6) (hret : ret = some .int) (hd : decode cc pc = .ok (.ireturn, 1)) (h : Q (some (.int v)) M) : gK E own cc nL ret R gSH (fun below args s => MQ below (gQ E Q) args s 1 6 (gA E)) cs ss pc lv [.int v] M := by
  intro p l e s m args below meth c H locs ls F _ C L
  refine W.widen hc.1 hc.2 ?_
  exact W.iret F.1 F.2.1 (F.2.2.1.trans hret) (fun t ht _ => ⟨⟨_, M, rfl, h, by rw [ht]; exact C.2.2.2.2.1⟩, C.2.2.2.2.2.F ht⟩) C.2.2.2.2.2.2.2 hd F.2.2.2.2.2.1
/-- the call that may throw, in a body with the two handlers -/
theorem g_callX {ci : Nat} {sl : List gSD} {C0 : String} {T : u_T} {N : Nat} (i : Nat) (ho : own = "WillDepositLaw") (hpc : pc < 10) (hC : gCX E y cc' nL' ret' (rmx d) (.ref (gla E i) :: As) M Q' QX') (X : gMt y cc' nL' ret') (hl : Cond.methodLink own idx y ∈ gtbl) (hD : DSC[i]? = some (.inl (ci, sl))) (hc : vwCl[ci]? = some (C0, T, N)) (hy : y.cls = C0)
    (hkI : Cond.classLink own 13 exI ∈ gtbl) (hkN : Cond.classLink own 15 exN ∈ gtbl)
    (hsig : (parseMethodDescriptor y.desc).map (fun d => d.parameters.length) = some n) (hn : As.length = n) (hR : d + 1 ≤ R.frames ∧ 8 + (nL' + 11) + d * 64 ≤ R.locals ∧ cs + 1 ≤ R.cells ∧ ss + 6 ≤ R.slots) (hcat : (st.map fun v => v.category).sum ≤ 8) (hd : decode cc pc = .ok (.invokevirtual idx, 3))
    (hX : ∀ Y N, QX' Y N → Y = exI ∨ Y = exN) (h : ∀ r N, Q' r N → gK E own cc nL ret R gSH Zf (cs + 1) (ss + 6) (pc + 3) lv (r.toList ++ st) N)
    (hI : ∀ N q, QX' exI N → gK E own cc nL ret R gSH Zf (cs + 1) (ss + 6) 13 lv [.ref q] N) (hN : ∀ N q, QX' exN N → gK E own cc nL ret R gSH Zf (cs + 1) (ss + 6) 17 lv [.ref q] N) :
    gK E own cc nL ret R gSH Zf cs ss pc lv (As.reverse ++ .ref (gla E i) :: st) M := by
  intro p l e s m args below meth c H locs ls F X9 C L
  have hts := F.2.2.2.2.2.2.1
  obtain ⟨x1, x2, x3, x4, x5, x6⟩ := X
  subst hy
  subst ho
  intro T0 hT0 X0
  have hr := vx_runV (p := p) (e := e) (below := below) (meth := meth) (locs := locs) (cells := cs) (slots := ss) (C := y.cls) (b := gla E i) (As := As) (rest := st) (n := n) (g := F0 m pc ls (As.reverse ++ .ref (gla E i) :: st)) (own := "WillDepositLaw") ⟨F.1, F.2.1, F.2.2.2.1, F.2.2.2.2.1, hts⟩ (hC l F.2.2.2.2.2.2.2) ⟨⟨rfl, rfl, hR.1, hR.2.1, gGood hts x4, List.mem_cons_self, hts _ x4, hts _ x3, ⟨x5, x6⟩, fun sig hs => by rw [hs] at hsig; exact (Option.some.inj hsig).symm, hts _ hl⟩, hts _ x1, hts _ x2⟩ ⟨gBlind, va_recv C.2.2.1 C.2.2.2.2.1 hc (gAll_at hD), fun U hU hW => gPc C hU hW⟩ rfl hn L.1 rfl (lv_room hcat) hd hR.2.2
  rcases hr T0 hT0 X0 with ⟨v, st₀, t, T', L', h0, X', hL, e1, e2, ⟨⟨r, N9, hv, hq, hRR⟩, hF⟩, stp⟩ | ⟨q, st₀, t, T', L', EE, ce, h0, X', hL, e1, e2, ⟨⟨N9, hq, hRR⟩, hF⟩, hce, hcv, hcl, stp⟩
  · cases hv
    obtain ⟨k1, k2, k3⟩ := vx_keep h0 e1 C.2.2.2.2.2 (fun _ _ h => h) (fun _ h => h) hL hF
    obtain ⟨t2, a1, b1⟩ := h _ N9 hq p l e s m args below meth c T'.heap (locs ++ L') ls F X9 ⟨C.1, C.2.1, C.2.2.1, C.2.2.2.1, by rw [e1]; exact hRR, k3⟩ L T' rfl X'
    exact ⟨t2, stp t2 a1, b1⟩
  · obtain ⟨k1, k2, k3⟩ := vx_keep h0 e1 C.2.2.2.2.2 (fun _ _ h => h) (fun _ h => h) hL hF
    have C' : gCx E N9 s T'.heap (locs ++ L') := ⟨C.1, C.2.1, C.2.2.1, C.2.2.2.1, by rw [e1]; exact hRR, k3⟩
    have hTx := C.2.2.2.1.2.2.2.2.2.2
    have hcell : T'.heap[q]? = some ce := by rw [e1]; exact hce
    have htab : c.exceptionTable.toList = [⟨0, 10, 13, 13⟩, ⟨0, 10, 17, 15⟩] := X9
    have hcov : ∀ (z : ExceptionTableEntry), z.startPc = 0 → z.endPc = 10 → covers z pc = true := fun z h1 h2 => by
      simp only [covers, h1, h2]
      simp
      omega
    rcases hX EE N9 hq with rfl | rfl
    · obtain ⟨t2, a1, b1⟩ := vx_catch (own := "WillDepositLaw") (name := exI) (rest := st) (pc := pc) F.2.2.2.2.1 [] ⟨0, 10, 13, 13⟩ [⟨0, 10, 17, 15⟩] htab (fun z hz => nomatch hz) (hcov _ rfl rfl) (by decide) (hts _ hkI) (va_Nw.use rfl hTx.1) hcell hcv hcl (hI N9 q hq p l e s m args below meth c T'.heap (locs ++ L') ls F X9 C' L) T' rfl X'
      exact ⟨t2, stp.trans a1, b1⟩
    · obtain ⟨t2, a1, b1⟩ := vx_catch (own := "WillDepositLaw") (name := exN) (rest := st) (pc := pc) F.2.2.2.2.1 [⟨0, 10, 13, 13⟩] ⟨0, 10, 17, 15⟩ [] htab (fun z hz => by rw [List.mem_singleton.mp hz]; exact Or.inr ⟨by decide, exI, hts _ hkI, hTx.2.2.2⟩) (hcov _ rfl rfl) (by decide) (hts _ hkN) (va_Nw.use rfl hTx.2.1) hcell hcv hcl (hN N9 q hq p l e s m args below meth c T'.heap (locs ++ L') ls F X9 C' L) T' rfl X'
      exact ⟨t2, stp.trans a1, b1⟩
theorem gRun1 {p : Program} {l : Launch} {e : Env} {s : State} {m : MethodId} {args : Array Value} {below : List Frame} {meth : Method} {c : Code} {H : Heap} {locs : List Loc} {ls : Array Slot} {a : Array Value} {st0 : List Value} {mc ms : Nat}
    (hr : va_Run p l e R s m args below meth c H locs cs ss mc ms (F0 m pc ls st0) st (gQ E Q' a) (gA E)) (F : gFx own cc nL ret p l s m args meth c) (X9 : Sx s m c) (C : gCx E M s H locs) (L : lv_has ls nL lv)
    (h : ∀ r N, Q' r N → gK E own cc nL ret R Sx Zf (cs + mc) (ss + ms) (pc + 3) lv (r.toList ++ st) N) : W p l e R s m args below meth c H locs cs ss (Zf below args s) (F0 m pc ls st0) := by
  intro T hT X
  obtain ⟨v, st₀, t, T', L', h0, X', hL, e1, e2, ⟨⟨r, N, hv, hq, hR⟩, hz, hk⟩, stp⟩ := hr T hT X
  cases hv
  rw [h0] at hz hk
  have hS := C.2.2.2.2.2
  have hS1 : va_S (gA E) s.heap T'.heap (locs ++ L') := ⟨Nat.le_trans hS.1 (by rw [e1]; exact hz), fun q h1 h2 => by rw [e1, hk q (Nat.lt_of_lt_of_le h1 hS.1) h2]; exact hS.2.1 q h1 h2, fun q hq => by
      rcases List.mem_append.mp hq with h | h
      · exact hS.2.2 q h
      · exact hL q h⟩
  obtain ⟨t2, a1, b1⟩ := h _ N hq p l e s m args below meth c T'.heap (locs ++ L') ls F X9 ⟨C.1, C.2.1, C.2.2.1, C.2.2.2.1, by rw [e1]; exact hR, hS1⟩ L T' rfl X'
  exact ⟨t2, stp t2 a1, b1⟩
/-- a static call of such a helper -/
theorem g_callH (hC : gC1 E y cc' nL' ret' (rmx d) As M Q') (x1 : Cond.static y ∈ gtbl) (x3 : Cond.initialized y.cls ∈ gtbl) (x4 : Cond.codeWith y cc' nL' ret' hhL ∈ gtbl) (x5 : y.cls ≠ "java/lang/invoke/MethodHandle" ∧ y.cls ≠ "java/lang/invoke/VarHandle") (hl : Cond.methodLink own idx y ∈ gtbl)
    (hsig : (parseMethodDescriptor y.desc).map (fun d => d.parameters.length) = some n) (hn : As.length = n) (hR : d + 1 ≤ R.frames ∧ 8 + (nL' + 11) + d * 64 ≤ R.locals ∧ cs + 1 ≤ R.cells ∧ ss + 6 ≤ R.slots) (hcat : (st.map fun v => v.category).sum ≤ 8) (hd : decode cc pc = .ok (.invokestatic idx, 3))
    (h : ∀ r N, Q' r N → gK E own cc nL ret R Sx Zf (cs + 1) (ss + 6) (pc + 3) lv (r.toList ++ st) N) : gK E own cc nL ret R Sx Zf cs ss pc lv (As.reverse ++ st) M := by
  intro p l e s m args below meth c H locs ls F X9 C L
  have hts := F.2.2.2.2.2.2.1
  have hgood : ∀ w ∈ (Cond.codeWith y cc' nL' ret' hhL :: gtbl), ∀ (a' : Array Value) (U : State), s.WarmedH U.vm → w.before a' U = true := fun w hw a' U hW => by
    rcases List.mem_cons.mp hw with rfl | hw
    · exact word_at hW (gtbl_good _ x4) (hts _ x4)
    · exact word_at hW (gtbl_good _ hw) (hts _ hw)
  refine gRun1 (vx_runSW (As := As) (n := n) ⟨F.1, F.2.1, F.2.2.2.1, F.2.2.2.2.1, hts⟩ (hC l F.2.2.2.2.2.2.2) ⟨⟨rfl, rfl, hR.1, hR.2.1, hgood, List.mem_cons_self⟩, hts _ x4, hts _ x3, x5, fun sig hs => ?_, hts _ hl, hts _ x1⟩ ⟨gBlind, fun U hU hW => gPc C hU hW⟩ rfl hn L.1 rfl (lv_room hcat) hd hR.2.2) F X9 C L h
  rw [hs] at hsig
  exact (Option.some.inj hsig).symm
end LC
end
