set_option linter.all false
noncomputable section
def nwL : List Cond := flatC narrow_1
def exP (i : Nat) : Nat := [93, 96, 99, 102, 105, 108, 111, 114, 117, 120, 123, 126, 129, 132, 135, 138, 82, 85, 88, 141, 144, 44, 5, 50, 47, 2].getD i 0
def stP (i : Nat) : Nat := [372, 380, 390, 399, 406, 415, 424, 432, 440, 447, 457, 465, 473, 481, 492, 503, 350, 356, 366, 511, 519, 346, 226].getD i 0
def lsP (i : Nat) : Nat := [1987, 1988, 1989, 1990, 1991, 1992, 1993, 1994, 1995, 1996, 1997, 1998, 1999, 2000, 2001, 2002, 874, 876, 878, 2003, 2004, 733, 666, 737, 735, 443].getD i 0
def srP (i : Nat) : Nat := [2008, 2009, 2010, 2011, 2012, 2013, 2014, 2015, 2016, 2017, 2018, 2019, 2020, 2021, 2022, 2023, 2005, 2006, 2007, 2024, 2025, 1986, 1534].getD i 0
def keyS (i : Nat) : String × Nat := [("WillDeposit$Token", 106), ("WillDeposit$Token", 112), ("WillDeposit$Token", 115), ("WillDeposit$Token", 118), ("WillDeposit$Token", 121), ("WillDeposit$Token", 124), ("WillDeposit$Token", 127), ("WillDeposit$Token", 130), ("WillDeposit$Token", 133), ("WillDeposit$Token", 136), ("WillDeposit$Token", 139), ("WillDeposit$Token", 142), ("WillDeposit$Token", 145), ("WillDeposit$Token", 148), ("WillDeposit$Token", 151), ("WillDeposit$Token", 154), ("WillDeposit$Token", 157), ("WillDeposit$Token", 160), ("WillDeposit$Token", 163), ("WillDeposit$Token", 166), ("WillDeposit$Token", 169), ("WillDeposit$Token", 172), ("WillDepositModel", 100)].getD i ("", 0)
def tmT (i : Nat) : Term := .static "WillDeposit$Token" (tokNm.getD i "") "LWillDeposit$Token;"
def tmS (i : Nat) : Term := .string (keyS i).1 (keyS i).2
def tmV (i : Nat) : Term := .field (tmS i) "java/lang/String" "value" "[B"
set_option maxRecDepth 100000 in
theorem nw_ex : ∀ i, i < 26 → nwL[exP i]? = some (.exactly (tmT i) "WillDeposit$Token") := by decide +kernel
set_option maxRecDepth 100000 in
theorem nw_or : ∀ i, i < 26 → nwL[exP i + 1]? = some (.eq (.field (tmT i) "java/lang/Enum" "ordinal" "I") (.int (nI i))) := by decide +kernel
set_option maxRecDepth 100000 in
theorem nw_le : ∀ i, i < 26 → nwL[exP i + 2]? = some (.eq (.field (tmT i) "WillDeposit$Token" "letters" "Ljava/lang/String;") (tmS (letIx i))) := by decide +kernel
set_option maxRecDepth 100000 in
theorem nw_tk : ∀ j, j < 26 → nwL[13 + j]? = some (.eq (.elem (.static "WillDeposit" "TOKENS" "[LWillDeposit$Token;") (.int (Int32.ofNat j))) (tmT j)) := by decide +kernel
set_option maxRecDepth 100000 in
theorem nw_sw : ∀ j, j < 26 → nwL[56 + j]? = some (.eq (.elem (.static "WillDeposit$1" "$SwitchMap$WillDeposit$Token" "[I") (.int (Int32.ofNat j))) (.int (swm j))) := by decide +kernel
set_option maxRecDepth 100000 in
theorem nw_s0 : ∀ i, i < 23 → nwL[stP i]? = some (.exactly (tmS i) "java/lang/String") := by decide +kernel
set_option maxRecDepth 100000 in
theorem nw_s1 : ∀ i, i < 23 → nwL[stP i + 1]? = some (.eq (.field (tmS i) "java/lang/String" "coder" "B") (.int 0)) := by decide +kernel
set_option maxRecDepth 100000 in
theorem nw_s2 : ∀ i, i < 23 → nwL[stP i + 2]? = some (.arrayOf (tmV i) .byte) := by decide +kernel
set_option maxRecDepth 100000 in
theorem nw_s3 : ∀ i, i < 23 → nwL[stP i + 3]? = some (.eq (.length (tmV i)) (.int (Int32.ofNat (strL i)))) := by decide +kernel
set_option maxRecDepth 100000 in
theorem nw_s4 : ∀ i, i < 23 → ∀ j, j < strL i → nwL[stP i + 4 + j]? = some (.eq (.elem (tmV i) (.int (Int32.ofNat j))) (.int (strB i j))) := by decide +kernel
set_option maxRecDepth 100000 in
theorem nw_sl : ∀ i, i < 23 → strL i < 2 ^ 31 := by decide +kernel
set_option maxRecDepth 100000 in
theorem lw_ls : ∀ i, i < 26 → lw_tbl[lsP i]? = some (.laysStatic "WillDeposit$Token" (tokNm.getD i "") "LWillDeposit$Token;") := by decide +kernel
set_option maxRecDepth 100000 in
theorem lw_sr : ∀ i, i < 23 → lw_tbl[srP i]? = some (.stringRef (keyS i).1 (keyS i).2 (strTx.getD i "")) := by decide +kernel
set_option maxRecDepth 100000 in
theorem nw_t1 : nwL[10]? = some (.arrayOf (.static "WillDeposit" "TOKENS" "[LWillDeposit$Token;") (.object "WillDeposit$Token")) := by decide +kernel
set_option maxRecDepth 100000 in
theorem nw_t2 : nwL[11]? = some (.eq (.length (.static "WillDeposit" "TOKENS" "[LWillDeposit$Token;")) (.int (Int32.ofNat 26))) := by decide +kernel
set_option maxRecDepth 100000 in
theorem nw_w1 : nwL[54]? = some (.arrayOf (.static "WillDeposit$1" "$SwitchMap$WillDeposit$Token" "[I") .int) := by decide +kernel
set_option maxRecDepth 100000 in
theorem nw_w2 : nwL[55]? = some (.eq (.length (.static "WillDeposit$1" "$SwitchMap$WillDeposit$Token" "[I")) (.int (Int32.ofNat 26))) := by decide +kernel
set_option maxRecDepth 100000 in
theorem nw_c : nwL[39]? = some (.eq (.static "java/lang/String" "COMPACT_STRINGS" "Z") (.int 1)) := by decide +kernel
set_option maxRecDepth 100000 in
theorem nw_si : nwL[40]? = some (.isRef (.static "jdk/internal/util/Preconditions" "SIOOBE_FORMATTER" "Ljava/util/function/BiFunction;")) := by decide +kernel
set_option maxRecDepth 100000 in
theorem nw_us : nwL[91]? = some (.isRef (.static "java/lang/Throwable" "UNASSIGNED_STACK" "[Ljava/lang/StackTraceElement;")) := by decide +kernel
set_option maxRecDepth 100000 in
theorem nw_ss : nwL[92]? = some (.isRef (.static "java/lang/Throwable" "SUPPRESSED_SENTINEL" "Ljava/util/List;")) := by decide +kernel
set_option maxRecDepth 100000 in
theorem nw_nc : nwL[160]? = some (.not (.castable "java/util/NoSuchElementException" "java/lang/IndexOutOfBoundsException")) := by decide +kernel
set_option maxRecDepth 100000 in
theorem nw_x107 : nwL[175]? = some (.exactly (.string "WillDeposit" 107) "java/lang/String") := by decide +kernel
set_option maxRecDepth 100000 in
theorem nw_x140 : nwL[193]? = some (.exactly (.string "WillDeposit" 140) "java/lang/String") := by decide +kernel
set_option maxRecDepth 100000 in
theorem nw_x146 : nwL[209]? = some (.exactly (.string "WillDeposit" 146) "java/lang/String") := by decide +kernel
set_option maxRecDepth 100000 in
theorem lz_t : lw_tbl[679]? = some (.laysStatic "WillDeposit" "TOKENS" "[LWillDeposit$Token;") := by decide +kernel
set_option maxRecDepth 100000 in
theorem lz_w : lw_tbl[749]? = some (.laysStatic "WillDeposit$1" "$SwitchMap$WillDeposit$Token" "[I") := by decide +kernel
set_option maxRecDepth 100000 in
theorem lz_c : lw_tbl[693]? = some (.laysStatic "java/lang/String" "COMPACT_STRINGS" "Z") := by decide +kernel
set_option maxRecDepth 100000 in
theorem lz_s : lw_tbl[709]? = some (.laysStatic "jdk/internal/util/Preconditions" "SIOOBE_FORMATTER" "Ljava/util/function/BiFunction;") := by decide +kernel
set_option maxRecDepth 100000 in
theorem lz_u : lw_tbl[1332]? = some (.laysStatic "java/lang/Throwable" "UNASSIGNED_STACK" "[Ljava/lang/StackTraceElement;") := by decide +kernel
set_option maxRecDepth 100000 in
theorem lz_v : lw_tbl[1334]? = some (.laysStatic "java/lang/Throwable" "SUPPRESSED_SENTINEL" "Ljava/util/List;") := by decide +kernel
set_option maxRecDepth 100000 in
theorem li_k : lw_tbl[125]? = some (.initialized "WillDeposit$Token") := by decide +kernel
set_option maxRecDepth 100000 in
theorem li_t : lw_tbl[117]? = some (.initialized "WillDeposit") := by decide +kernel
set_option maxRecDepth 100000 in
theorem li_w : lw_tbl[136]? = some (.initialized "WillDeposit$1") := by decide +kernel
set_option maxRecDepth 100000 in
theorem li_c : lw_tbl[132]? = some (.initialized "java/lang/String") := by decide +kernel
set_option maxRecDepth 100000 in
theorem li_s : lw_tbl[134]? = some (.initialized "jdk/internal/util/Preconditions") := by decide +kernel
set_option maxRecDepth 100000 in
theorem li_u : lw_tbl[138]? = some (.initialized "java/lang/Throwable") := by decide +kernel
set_option maxRecDepth 100000 in
theorem lr_107 : lw_tbl[1345]? = some (.stringRef "WillDeposit" 107 "no such person") := by decide +kernel
set_option maxRecDepth 100000 in
theorem lr_140 : lw_tbl[1382]? = some (.stringRef "WillDeposit" 140 "no such what") := by decide +kernel
set_option maxRecDepth 100000 in
theorem lr_146 : lw_tbl[1396]? = some (.stringRef "WillDeposit" 146 "no such paper") := by decide +kernel
set_option maxRecDepth 100000 in
theorem ln_f : lw_tbl[678]? = some (.fieldLinkNest "WillDeposit$Tokens" 81 "WillDeposit" "TOKENS" "[LWillDeposit$Token;" "WillDeposit") := by decide +kernel
set_option maxRecDepth 100000 in
theorem lc_I : lw_tbl[1307]? = some (.castable "java/lang/IndexOutOfBoundsException" "java/lang/IndexOutOfBoundsException") := by decide +kernel
set_option maxRecDepth 100000 in
theorem lc_N : lw_tbl[1375]? = some (.castable "java/util/NoSuchElementException" "java/util/NoSuchElementException") := by decide +kernel
set_option maxRecDepth 100000 in
theorem ld_d : ∀ i, i < 6 → lw_tbl[[1308, 1309, 1310, 1311, 1312, 1313].getD i 0]? = some (.declares (dcl6.getD i ⟨"", "", ""⟩)) := by decide +kernel
set_option maxRecDepth 100000 in
theorem la_o : ∀ i, i < 5 → lw_tbl[[159, 161, 163, 165, 441].getD i 0]? = some (.arrayOver (.object (aoL.getD i ""))) := by decide +kernel
set_option maxRecDepth 100000 in
theorem ln_n : ∀ i, i < 4 → lw_tbl[[167, 209, 233, 255].getD i 0]? = some (.methodLinkNest "WillDeposit$Register" (nestL.getD i (0, yX3_init)).1 (nestL.getD i (0, yX3_init)).2 "WillDeposit") := by decide +kernel
set_option maxRecDepth 100000 in
theorem lA_int : lw_tbl[207]? = some (.arrayClass .int) := by decide +kernel
set_option maxRecDepth 100000 in
theorem lA_long : lw_tbl[570]? = some (.arrayClass .long) := by decide +kernel
set_option maxRecDepth 100000 in
theorem lA_boolean : lw_tbl[533]? = some (.arrayClass .boolean) := by decide +kernel
set_option maxRecDepth 100000 in
theorem lA_byte : lw_tbl[206]? = some (.arrayClass .byte) := by decide +kernel
theorem gtbl_lw {w : Cond} (h : w ∈ gtbl) : w ∈ lw_tbl := (List.mem_filter.mp h).1
theorem su_cl : ∀ q ∈ vwCl, (∀ w ∈ u_ws q.1 q.2.1 q.2.2, w ∈ gtbl) ∧ Cond.instantiable q.1 q.2.2 ∈ gtbl := (List.forall_mem_cons.mpr ⟨⟨un_X1, (gtbl_t tbin2 179 rfl rfl)⟩, (List.forall_mem_cons.mpr ⟨⟨un_X2, (gtbl_t tbin2 216 rfl rfl)⟩, (List.forall_mem_cons.mpr ⟨⟨un_X3, (gtbl_t tbin1 50 rfl rfl)⟩, (List.forall_mem_cons.mpr ⟨⟨un_X4, (gtbl_t tbin2 148 rfl rfl)⟩, (List.forall_mem_cons.mpr ⟨⟨un_X5, (gtbl_t tbin1 138 rfl rfl)⟩, (List.forall_mem_cons.mpr ⟨⟨un_X6, (gtbl_t tbin1 92 rfl rfl)⟩, (List.forall_mem_cons.mpr ⟨⟨un_X7, (gtbl_t tbin1 37 rfl rfl)⟩, (List.forall_mem_cons.mpr ⟨⟨un_X8, (gtbl_t tbin2 115 rfl rfl)⟩, (List.forall_mem_cons.mpr ⟨⟨un_X9, (gtbl_t tbin1 116 rfl rfl)⟩, (List.forall_mem_cons.mpr ⟨⟨un_X11, (gtbl_t tbin2 79 rfl rfl)⟩, (List.forall_mem_cons.mpr ⟨⟨un_X12, (gtbl_t tbin1 29 rfl rfl)⟩, (List.forall_mem_cons.mpr ⟨⟨un_X13, (gtbl_t tbin6 82 rfl rfl)⟩, (fun _ h => absurd h List.not_mem_nil)⟩)⟩)⟩)⟩)⟩)⟩)⟩)⟩)⟩)⟩)⟩)⟩)
theorem su_ac {s : State} {args : Array Value} {ty : FieldType} (hty : ∀ cA : ClassId, s.vm.findClass ("[" ++ ty.toString) = some cA → va_RA s cA ty) (h : (Cond.arrayClass ty).before args s = true) : ∃ cA : ClassId, ArrOfT s cA ty ∧ va_RA s cA ty := by
  obtain ⟨cA, kA, comp, h1, h2, h3⟩ := Cond.arrayClass_spec h
  exact ⟨cA, fun n z => ⟨fun k h => (by cases h), kA, h2, comp, h3⟩, hty cA h1⟩
theorem su_ao {s : State} {args : Array Value} {C : String} (h : (Cond.arrayOver (.object C)).before args s = true) : ∃ cA : ClassId, ArrOfT s cA (.object C) ∧ va_RA s cA (.object C) := by
  obtain ⟨comp, c, k, h1, h2, h3, h4, h5⟩ := Cond.arrayOver_spec h
  exact ⟨c, fun n z => ⟨fun k h => (by cases h), k, h3, comp, h4⟩, k, comp, h3, h4, h1, h5⟩
theorem su_eqr {args : Array Value} {s : State} {t u : Term} {a : Nat} (h : (Cond.eq t u).before args s = true) (hu : u.eval args s none [] s = some (.ref a)) : t.eval args s none [] s = some (.ref a) := by
  cases hv : t.eval args s none [] s with
  | none => simp [Cond.before, Cond.holds, Cond.value, hv] at h
  | some w =>
    simp only [Cond.before, Cond.holds, Cond.value, hv, hu] at h
    cases w <;> simp_all
theorem su_K {s : State} {args : Array Value} (hts : ∀ w ∈ gtbl, w.before args s = true) : ∃ D : va_G, ∀ (c : Nat) (q : vw_C), vwCl[c]? = some q → u_Kn s q.1 q.2.1 q.2.2 (D.1 c) (D.2 c) := by
  have h : ∀ c : Nat, ∃ x : ClassId × (Nat → Nat), ∀ q : vw_C, vwCl[c]? = some q → u_Kn s q.1 q.2.1 q.2.2 x.1 x.2 := by
    intro c
    cases hc : vwCl[c]? with
    | none => exact ⟨(0, fun _ => 0), fun q hq => by cases hq⟩
    | some q =>
      obtain ⟨h1, h2⟩ := su_cl q (List.mem_of_getElem? hc)
      obtain ⟨cC, iS, hk⟩ := u_known hts h1 (hts _ h2)
      exact ⟨(cC, iS), fun q' hq => by cases hq; exact hk⟩
  obtain ⟨f, hf⟩ := Classical.axiomOfChoice h
  exact ⟨(fun c => (f c).1, fun c => (f c).2), fun c q hq => hf c q hq⟩
theorem su_arT {s : State} {args : Array Value} (hts : ∀ w ∈ lw_tbl, w.before args s = true) : ∃ cA : Nat → ClassId, ∀ E : gE, gcA E = cA → ∀ (k : Nat) (q : ClassId × FieldType), (gTy E)[k]? = some q → ArrOfT s q.1 q.2 ∧ va_RA s q.1 q.2 := by
  obtain ⟨c0, h0⟩ := su_ac (s := s) (ty := .int) (fun _ h => h) (hts _ (List.mem_of_getElem? lA_int))
  obtain ⟨c1, h1⟩ := su_ac (s := s) (ty := .long) (fun _ h => h) (hts _ (List.mem_of_getElem? lA_long))
  obtain ⟨c2, h2⟩ := su_ac (s := s) (ty := .boolean) (fun _ h => h) (hts _ (List.mem_of_getElem? lA_boolean))
  obtain ⟨c3, h3⟩ := su_ac (s := s) (ty := .byte) (fun _ h => h) (hts _ (List.mem_of_getElem? lA_byte))
  obtain ⟨c4, h4⟩ := su_ao (s := s) (hts _ (List.mem_of_getElem? (la_o 0 (by decide))))
  obtain ⟨c5, h5⟩ := su_ao (s := s) (hts _ (List.mem_of_getElem? (la_o 1 (by decide))))
  obtain ⟨c6, h6⟩ := su_ao (s := s) (hts _ (List.mem_of_getElem? (la_o 2 (by decide))))
  obtain ⟨c7, h7⟩ := su_ao (s := s) (hts _ (List.mem_of_getElem? (la_o 3 (by decide))))
  obtain ⟨c8, h8⟩ := su_ao (s := s) (hts _ (List.mem_of_getElem? (la_o 4 (by decide))))
  refine ⟨fun t => [c0, c1, c2, c3, c4, c5, c6, c7, c8].getD t 0, fun E hE k q hq => ?_⟩
  have hk : k < 9 := (List.getElem?_eq_some_iff.mp hq).1
  unfold gTy at hq
  rw [hE] at hq
  rcases (show k = 0 ∨ k = 1 ∨ k = 2 ∨ k = 3 ∨ k = 4 ∨ k = 5 ∨ k = 6 ∨ k = 7 ∨ k = 8 by omega) with rfl | rfl | rfl | rfl | rfl | rfl | rfl | rfl | rfl <;> cases hq
  · exact h0
  · exact h1
  · exact h2
  · exact h3
  · exact h4
  · exact h5
  · exact h6
  · exact h7
  · exact h8
theorem su_all {p : Program} {s : State} {m : MethodId} {meth : Method} {c : Code} {b L : Nat} {xs : Nat → Int32} (C0 : lw_At p s m meth c b L xs) :
    ∃ (D : va_G) (cA : Nat → ClassId) (ad str stv : Nat → Nat) (TK SW : Nat), ∀ gl : Nat → Nat, va_K D vwCl (gTy (D, cA, gl, ad, s.heap.size, str, stv, TK, SW)) s ∧ nT (D, cA, gl, ad, s.heap.size, str, stv, TK, SW) s := by
  obtain ⟨hx, hb, hr, hml, hown, hts, hX, hbl, hlocks, hgv⟩ := C0
  have hnw : narrow_1.before #[Value.ref b] s = true := by
    rw [Cond.before_and, Bool.and_eq_true] at hgv
    exact hgv.2
  have hw : ∀ {k : Nat} {w : Cond}, nwL[k]? = some w → w.before #[Value.ref b] s = true := fun h => flat_of_before narrow_1 hnw _ (List.mem_of_getElem? h)
  have ht : ∀ {k : Nat} {w : Cond}, lw_tbl[k]? = some w → w.before #[Value.ref b] s = true := fun h => hts _ (List.mem_of_getElem? h)
  have hA : ∀ a : Nat, a < s.heap.size → ¬ s.heap.size ≤ a := fun a h h2 => by omega
  obtain ⟨D, hD⟩ := su_K (fun w h => hts w (gtbl_lw h))
  obtain ⟨cA, hcA⟩ := su_arT hts
  -- the text constants
  have s0 : ∀ i : Nat, ∃ q : Nat × Nat, i < 23 → (tmS i).eval #[Value.ref b] s none [] s = some (.ref q.1) ∧ va_O "java/lang/String" q.1 (fun z => s.heap.size ≤ z) s s.heap ∧ va_OF "java/lang/String" "coder" "B" (.int 0) q.1 (fun z => s.heap.size ≤ z) s s.heap ∧ va_OF "java/lang/String" "value" "[B" (.ref q.2) q.1 (fun z => s.heap.size ≤ z) s s.heap ∧ va_T .byte q.2 (strL i) (fun j => .int (strB i j)) (fun z => s.heap.size ≤ z) s s.heap := by
    intro i
    by_cases hi : i < 23
    · obtain ⟨a, c, cX, kX, q1, q2, q3, q4, q5, q6, -⟩ := Cond.exactly_spec (args := #[Value.ref b]) (first := s) (o := none) (s := s) (idx := []) (t := tmS i) (cls := "java/lang/String") (hw (nw_s0 i hi))
      obtain ⟨t, ht1, hT⟩ := va_Tof (f := fun j => .int (strB i j)) (A := fun z => s.heap.size ≤ z) (nw_sl i hi) (hw (nw_s2 i hi)) (va_eqt (hw (nw_s3 i hi))) (fun j hj => va_eqt (hw (nw_s4 i hi j hj))) hA
      exact ⟨(a, t), fun _ => ⟨q1, ⟨cX, q3, q5, by rw [q6]; exact q2, hA a (Array.getElem?_eq_some_iff.mp q3).1⟩, vk_OFof q1 (va_eqt (hw (nw_s1 i hi))) hA, vk_OFof q1 ht1 hA, hT⟩⟩
    · exact ⟨(0, 0), fun h => absurd h hi⟩
  obtain ⟨sa, hsa⟩ := Classical.axiomOfChoice s0
  -- the enum's constants
  have t0 : ∀ i : Nat, ∃ t : Nat, i < 26 → (tmT i).eval #[Value.ref b] s none [] s = some (.ref t) ∧ va_O "WillDeposit$Token" t (fun z => s.heap.size ≤ z) s s.heap := by
    intro i
    by_cases hi : i < 26
    · obtain ⟨a, c, cX, kX, q1, q2, q3, q4, q5, q6, -⟩ := Cond.exactly_spec (hw (nw_ex i hi))
      exact ⟨a, fun _ => ⟨q1, cX, q3, q5, by rw [q6]; exact q2, hA a (Array.getElem?_eq_some_iff.mp q3).1⟩⟩
    · exact ⟨0, fun h => absurd h hi⟩
  obtain ⟨ad, had⟩ := Classical.axiomOfChoice t0
  -- the two tables
  obtain ⟨TK, tk1, tk2⟩ := va_Tof (f := fun j => .ref (ad j)) (A := fun z => s.heap.size ≤ z) (N := 26) (by decide) (hw nw_t1) (va_eqt (hw nw_t2)) (fun j hj => su_eqr (hw (nw_tk j hj)) (had j hj).1) hA
  obtain ⟨SW, sw1, sw2⟩ := va_Tof (f := fun j => .int (swm j)) (A := fun z => s.heap.size ≤ z) (N := 26) (by decide) (hw nw_w1) (va_eqt (hw nw_w2)) (fun j hj => va_eqt (hw (nw_sw j hj))) hA
  have hletI : ∀ i, letIx i < 23 := letIx_lt
  have hx1 : ∀ {k : Nat} {tx : String}, (Cond.exactly (.string "WillDeposit" k) "java/lang/String").before #[Value.ref b] s = true → (Cond.stringRef "WillDeposit" k tx).before #[Value.ref b] s = true → ∃ a, vk_R "WillDeposit" k tx a s := by
    intro k tx h1 h2
    obtain ⟨a, c, cX, kX, q1, -⟩ := Cond.exactly_spec h1
    exact ⟨a, vk_R.of h2 q1⟩
  refine ⟨D, cA, ad, fun i => (sa i).1, fun i => (sa i).2, TK, SW, fun gl => ⟨⟨hD, hcA _ rfl⟩, ⟨⟨?_, ?_⟩, ?_, ?_⟩⟩⟩
  · refine ⟨fun i hi => ⟨va_Zref (ht (lw_ls i hi)) (ht li_k) (had i hi).1 hA, (had i hi).2, vk_OFof (had i hi).1 (va_eqt (hw (nw_or i hi))) hA, vk_OFof (had i hi).1 (su_eqr (hw (nw_le i hi)) (hsa (letIx i) (hletI i)).1) hA⟩, ⟨va_Zref (ht lz_t) (ht li_t) tk1 hA, tk2⟩, ⟨va_Zref (ht lz_w) (ht li_w) sw1 hA, sw2⟩, fun i hi => (hsa i hi).2,
      va_Zof (ht lz_c) (ht li_c) (va_eqi (hw nw_c)) hA, va_Zqof (ht lz_s) (ht li_s) (hw nw_si) hA, vx_Zqof (ht lz_u) (ht li_u) (hw nw_us) hA, vx_Zqof (ht lz_v) (ht li_u) (hw nw_ss) hA⟩
  · refine ⟨vk_R.of (ht (lw_sr 22 (by decide))) (hsa 22 (by decide)).1, hx1 (hw nw_x107) (ht lr_107), hx1 (hw nw_x140) (ht lr_140), hx1 (hw nw_x146) (ht lr_146), va_Nw.of rfl (ht ln_f), va_Nw.of rfl (ht lc_I), va_Nw.of rfl (ht lc_N), fun x hx => ?_, va_Nc.of (hw nw_nc)⟩
    obtain ⟨i, hi⟩ := List.getElem?_of_mem hx
    have hl : i < 6 := (List.getElem?_eq_some_iff.mp hi).1
    have h2 := ht (ld_d i hl)
    rw [show dcl6.getD i ⟨"", "", ""⟩ = x from by rw [List.getD_eq_getElem?_getD, hi]; rfl] at h2
    exact va_Nw.of rfl h2
  · intro C hC
    obtain ⟨i, hi⟩ := List.getElem?_of_mem hC
    have hl : i < 5 := (List.getElem?_eq_some_iff.mp hi).1
    have h2 := ht (la_o i hl)
    rw [show aoL.getD i "" = C from by rw [List.getD_eq_getElem?_getD, hi]; rfl] at h2
    exact va_AO.of h2
  · intro q hq
    obtain ⟨i, hi⟩ := List.getElem?_of_mem hq
    have hl : i < 4 := (List.getElem?_eq_some_iff.mp hi).1
    have h2 := ht (ln_n i hl)
    rw [show nestL.getD i (0, yX3_init) = q from by rw [List.getD_eq_getElem?_getD, hi]; rfl] at h2
    exact va_Nw.of rfl h2
end
