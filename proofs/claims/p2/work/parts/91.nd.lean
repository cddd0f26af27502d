set_option linter.all false
noncomputable section
abbrev rW9 (E : gE) (b : Nat) (g : Nat → Nat) (fl fp ft fq : Nat → Option Nat) : va_W := [(b, .inr (6, [.ref (g 1), .ref (g 2), .ref (g 3), .ref (g 4), .ref (g 5), .ref (g 6), .ref (g 7), .ref (g 8), .int 0, .int 0, .int 0, .int 0, .int 0])), (g 1, .inl (gcA E 4, 2, .inr (.inr (.inr (.inr (fl)))))), (g 2, .inl (gcA E 5, 10, .inr (.inr (.inr (.inr (fp)))))), (g 3, .inl (gcA E 6, 8, .inr (.inr (.inr (.inr (ft)))))), (g 4, .inl (gcA E 7, 12, .inr (.inr (.inr (.inr (fq)))))), (g 5, .inl (gcA E 0, 12, .inl (fun _ => 0))), (g 6, .inl (gcA E 0, 6, .inl (fun _ => 0))), (g 7, .inl (gcA E 0, 6, .inl (fun _ => 0))), (g 8, .inl (gcA E 0, 6, .inl (fun _ => 0)))]
theorem n_at {α : Type} (ws : List α) (x : α) (r : List α) : (ws ++ (x :: r))[ws.length]? = some x := by
  rw [List.getElem?_append_right (Nat.le_refl _), Nat.sub_self]
  rfl
set_option maxRecDepth 100000 in
set_option maxHeartbeats 4000000 in
theorem it_land {E : gE} {b : Nat} {g : Nat → Nat} {fl fp ft fq : Nat → Option Nat} {P : va_W} {A : Nat → Prop} {Zf : List Frame → Array Value → State → State → Prop} {cs ss k : Nat} (hk : k < 2) (hc : cs + 1 ≤ 100) (hs : ss + 6 ≤ 680) (h : ∀ (q : Nat), nK E RX7 cX7_init 2 none (rmn 2 100 680) A isIni Zf (cs + 1 + 0) (ss + 6 + 0) 73 [(1, .int (nI (k + 1))), (0, .ref b)] [] (rW9 E b g (va_up fl k (some q)) fp ft fq ++ (P ++ [(q, .inr (2, [.int 0, .int 0, .int 0, .int 0, .int 0, .int 0]))]))) : nK E RX7 cX7_init 2 none (rmn 2 100 680) A isIni Zf cs ss 73 [(1, .int (nI k)), (0, .ref b)] [] (rW9 E b g fl fp ft fq ++ P) := by
  refine n_iload_n 0 dX7_init_73 rfl ?_
  refine n_iconst (v := nI 2) dX7_init_74 (by decide) ?_
  refine n_icmp_ge 97 dX7_init_75 (by decide) (fun c => absurd c (nI_ge hk (by decide))) (fun _ => ?_)
  refine n_aload_n 1 dX7_init_78 rfl ?_
  refine n_get (fs := [.ref (g 1), .ref (g 2), .ref (g 3), .ref (g 4), .ref (g 5), .ref (g 6), .ref (g 7), .ref (g 8), .int 0, .int 0, .int 0, .int 0, .int 0]) (a := b) (v := .ref (g 1)) 0 fd_X7_11 rfl rfl dX7_init_79 ?_
  refine n_iload_n 0 dX7_init_82 rfl ?_
  refine n_new 2 tyX3 (fs := [.int 0, .int 0, .int 0, .int 0, .int 0, .int 0]) rfl un_X3 tyX3_ok (gtbl_t tbin1 42 rfl rfl) (gtbl_t tbin1 50 rfl rfl) (gtbl_t tbin1 3 rfl rfl) nd_X3 ⟨by show cs + 1 ≤ 100; omega, by show ss + 6 ≤ 680; omega⟩ dX7_init_83 (fun q => ?_)
  refine n_dup dX7_init_86 rfl ?_
  refine n_callIN (As := []) (n := 0) (st := [.ref q, .int (nI k), .ref (g 1)]) rfl (nc_X3_init (E := E) q) nm_X3_init (by decide +kernel) ns_X3_init rfl ⟨rfl, rfl, Nat.le_of_ble_eq_true rfl, Nat.le_of_ble_eq_true rfl, by show cs + 1 + 0 ≤ 100; omega, by show ss + 6 + 0 ≤ 680; omega⟩ (Nat.le_of_ble_eq_true rfl) dX7_init_87 (fun f => ?_)
  refine n_astq (a := g 1) (f := fl) (ci := 2) (v := q) (i := nI k) 1 4 (rW9 E b g fl fp ft fq ++ P).length rfl rfl (n_at _ _ _) rfl (vp_in_nI hk (by decide)) dX7_init_90 ?_
  rw [nI_clamp (show k < 2 ^ 31 by omega)]
  refine n_eq (ws' := rW9 E b g (va_up fl k (some q)) fp ft fq ++ (P ++ [(q, .inr (2, [.int 0, .int 0, .int 0, .int 0, .int 0, .int 0]))])) (by rw [List.append_assoc]; rfl) ?_
  refine n_iinc 0 (v := nI (k + 1)) [(1, .int (nI (k + 1))), (0, .ref b)] dX7_init_91 rfl (nI_1 k) (by decide) rfl ?_
  refine n_goto 73 dX7_init_94 (by decide) ?_
  exact h q
set_option maxRecDepth 100000 in
set_option maxHeartbeats 4000000 in
theorem it_person {E : gE} {b : Nat} {g : Nat → Nat} {fl fp ft fq : Nat → Option Nat} {P : va_W} {A : Nat → Prop} {Zf : List Frame → Array Value → State → State → Prop} {cs ss k : Nat} (hk : k < 10) (hc : cs + 1 ≤ 100) (hs : ss + 3 ≤ 680) (h : ∀ (q : Nat), nK E RX7 cX7_init 2 none (rmn 2 100 680) A isIni Zf (cs + 1 + 0) (ss + 3 + 0) 99 [(1, .int (nI (k + 1))), (0, .ref b)] [] (rW9 E b g fl (va_up fp k (some q)) ft fq ++ (P ++ [(q, .inr (5, [.int 0, .int 0, .int 0]))]))) : nK E RX7 cX7_init 2 none (rmn 2 100 680) A isIni Zf cs ss 99 [(1, .int (nI k)), (0, .ref b)] [] (rW9 E b g fl fp ft fq ++ P) := by
  refine n_iload_n 0 dX7_init_99 rfl ?_
  refine n_bipush (v := nI 10) dX7_init_100 (by decide) ?_
  refine n_icmp_ge 124 dX7_init_102 (by decide) (fun c => absurd c (nI_ge hk (by decide))) (fun _ => ?_)
  refine n_aload_n 1 dX7_init_105 rfl ?_
  refine n_get (fs := [.ref (g 1), .ref (g 2), .ref (g 3), .ref (g 4), .ref (g 5), .ref (g 6), .ref (g 7), .ref (g 8), .int 0, .int 0, .int 0, .int 0, .int 0]) (a := b) (v := .ref (g 2)) 0 fd_X7_19 rfl rfl dX7_init_106 ?_
  refine n_iload_n 0 dX7_init_109 rfl ?_
  refine n_new 5 tyX6 (fs := [.int 0, .int 0, .int 0]) rfl un_X6 tyX6_ok (gtbl_t tbin1 44 rfl rfl) (gtbl_t tbin1 92 rfl rfl) (gtbl_t tbin1 4 rfl rfl) nd_X6 ⟨by show cs + 1 ≤ 100; omega, by show ss + 3 ≤ 680; omega⟩ dX7_init_110 (fun q => ?_)
  refine n_dup dX7_init_113 rfl ?_
  refine n_callIN (As := []) (n := 0) (st := [.ref q, .int (nI k), .ref (g 2)]) rfl (nc_X6_init (E := E) q) nm_X6_init (by decide +kernel) ns_X6_init rfl ⟨rfl, rfl, Nat.le_of_ble_eq_true rfl, Nat.le_of_ble_eq_true rfl, by show cs + 1 + 0 ≤ 100; omega, by show ss + 3 + 0 ≤ 680; omega⟩ (Nat.le_of_ble_eq_true rfl) dX7_init_114 (fun f => ?_)
  refine n_astq (a := g 2) (f := fp) (ci := 5) (v := q) (i := nI k) 2 5 (rW9 E b g fl fp ft fq ++ P).length rfl rfl (n_at _ _ _) rfl (vp_in_nI hk (by decide)) dX7_init_117 ?_
  rw [nI_clamp (show k < 2 ^ 31 by omega)]
  refine n_eq (ws' := rW9 E b g fl (va_up fp k (some q)) ft fq ++ (P ++ [(q, .inr (5, [.int 0, .int 0, .int 0]))])) (by rw [List.append_assoc]; rfl) ?_
  refine n_iinc 0 (v := nI (k + 1)) [(1, .int (nI (k + 1))), (0, .ref b)] dX7_init_118 rfl (nI_1 k) (by decide) rfl ?_
  refine n_goto 99 dX7_init_121 (by decide) ?_
  exact h q
set_option maxRecDepth 100000 in
set_option maxHeartbeats 4000000 in
theorem it_thing {E : gE} {b : Nat} {g : Nat → Nat} {fl fp ft fq : Nat → Option Nat} {P : va_W} {A : Nat → Prop} {Zf : List Frame → Array Value → State → State → Prop} {cs ss k : Nat} (hk : k < 8) (hc : cs + 1 ≤ 100) (hs : ss + 3 ≤ 680) (h : ∀ (q : Nat), nK E RX7 cX7_init 2 none (rmn 2 100 680) A isIni Zf (cs + 1 + 0) (ss + 3 + 0) 126 [(1, .int (nI (k + 1))), (0, .ref b)] [] (rW9 E b g fl fp (va_up ft k (some q)) fq ++ (P ++ [(q, .inr (8, [.int 0, .int 0, .int 0]))]))) : nK E RX7 cX7_init 2 none (rmn 2 100 680) A isIni Zf cs ss 126 [(1, .int (nI k)), (0, .ref b)] [] (rW9 E b g fl fp ft fq ++ P) := by
  refine n_iload_n 0 dX7_init_126 rfl ?_
  refine n_bipush (v := nI 8) dX7_init_127 (by decide) ?_
  refine n_icmp_ge 151 dX7_init_129 (by decide) (fun c => absurd c (nI_ge hk (by decide))) (fun _ => ?_)
  refine n_aload_n 1 dX7_init_132 rfl ?_
  refine n_get (fs := [.ref (g 1), .ref (g 2), .ref (g 3), .ref (g 4), .ref (g 5), .ref (g 6), .ref (g 7), .ref (g 8), .int 0, .int 0, .int 0, .int 0, .int 0]) (a := b) (v := .ref (g 3)) 0 fd_X7_25 rfl rfl dX7_init_133 ?_
  refine n_iload_n 0 dX7_init_136 rfl ?_
  refine n_new 8 tyX9 (fs := [.int 0, .int 0, .int 0]) rfl un_X9 tyX9_ok (gtbl_t tbin1 46 rfl rfl) (gtbl_t tbin1 116 rfl rfl) (gtbl_t tbin1 5 rfl rfl) nd_X9 ⟨by show cs + 1 ≤ 100; omega, by show ss + 3 ≤ 680; omega⟩ dX7_init_137 (fun q => ?_)
  refine n_dup dX7_init_140 rfl ?_
  refine n_callIN (As := []) (n := 0) (st := [.ref q, .int (nI k), .ref (g 3)]) rfl (nc_X9_init (E := E) q) nm_X9_init (by decide +kernel) ns_X9_init rfl ⟨rfl, rfl, Nat.le_of_ble_eq_true rfl, Nat.le_of_ble_eq_true rfl, by show cs + 1 + 0 ≤ 100; omega, by show ss + 3 + 0 ≤ 680; omega⟩ (Nat.le_of_ble_eq_true rfl) dX7_init_141 (fun f => ?_)
  refine n_astq (a := g 3) (f := ft) (ci := 8) (v := q) (i := nI k) 3 6 (rW9 E b g fl fp ft fq ++ P).length rfl rfl (n_at _ _ _) rfl (vp_in_nI hk (by decide)) dX7_init_144 ?_
  rw [nI_clamp (show k < 2 ^ 31 by omega)]
  refine n_eq (ws' := rW9 E b g fl fp (va_up ft k (some q)) fq ++ (P ++ [(q, .inr (8, [.int 0, .int 0, .int 0]))])) (by rw [List.append_assoc]; rfl) ?_
  refine n_iinc 0 (v := nI (k + 1)) [(1, .int (nI (k + 1))), (0, .ref b)] dX7_init_145 rfl (nI_1 k) (by decide) rfl ?_
  refine n_goto 126 dX7_init_148 (by decide) ?_
  exact h q
set_option maxRecDepth 100000 in
set_option maxHeartbeats 4000000 in
theorem it_paper {E : gE} {b : Nat} {g : Nat → Nat} {fl fp ft fq : Nat → Option Nat} {P : va_W} {A : Nat → Prop} {Zf : List Frame → Array Value → State → State → Prop} {cs ss k : Nat} (hk : k < 12) (hc : cs + 6 ≤ 100) (hs : ss + 46 ≤ 680) (h : ∀ (q : Nat) (f : Nat → Nat), nK E RX7 cX7_init 2 none (rmn 2 100 680) A isIni Zf (cs + 1 + 5) (ss + 16 + 30) 153 [(1, .int (nI (k + 1))), (0, .ref b)] [] (rW9 E b g fl fp ft (va_up fq k (some q)) ++ (P ++ [(q, .inr (4, [.int 0, .int 0, .int 0, .int 0, .int 0, .int 0, .int 0, .int 0, .int 0, .int 0, .int 0, .ref (f 0), .ref (f 1), .ref (f 2), .ref (f 3), .ref (f 4)])), (f 0, .inl (gcA E 0, 6, .inl (fun _ => 0))), (f 1, .inl (gcA E 0, 6, .inl (fun _ => 0))), (f 2, .inl (gcA E 0, 6, .inl (fun _ => 0))), (f 3, .inl (gcA E 0, 6, .inl (fun _ => 0))), (f 4, .inl (gcA E 0, 6, .inl (fun _ => 0)))]))) : nK E RX7 cX7_init 2 none (rmn 2 100 680) A isIni Zf cs ss 153 [(1, .int (nI k)), (0, .ref b)] [] (rW9 E b g fl fp ft fq ++ P) := by
  refine n_iload_n 0 dX7_init_153 rfl ?_
  refine n_bipush (v := nI 12) dX7_init_154 (by decide) ?_
  refine n_icmp_ge 178 dX7_init_156 (by decide) (fun c => absurd c (nI_ge hk (by decide))) (fun _ => ?_)
  refine n_aload_n 1 dX7_init_159 rfl ?_
  refine n_get (fs := [.ref (g 1), .ref (g 2), .ref (g 3), .ref (g 4), .ref (g 5), .ref (g 6), .ref (g 7), .ref (g 8), .int 0, .int 0, .int 0, .int 0, .int 0]) (a := b) (v := .ref (g 4)) 0 fd_X7_31 rfl rfl dX7_init_160 ?_
  refine n_iload_n 0 dX7_init_163 rfl ?_
  refine n_new 4 tyX5 (fs := [.int 0, .int 0, .int 0, .int 0, .int 0, .int 0, .int 0, .int 0, .int 0, .int 0, .int 0, .null, .null, .null, .null, .null]) rfl un_X5 tyX5_ok (gtbl_t tbin1 48 rfl rfl) (gtbl_t tbin1 138 rfl rfl) (gtbl_t tbin1 6 rfl rfl) nd_X5 ⟨by show cs + 1 ≤ 100; omega, by show ss + 16 ≤ 680; omega⟩ dX7_init_164 (fun q => ?_)
  refine n_dup dX7_init_167 rfl ?_
  refine n_callIN (As := []) (n := 0) (st := [.ref q, .int (nI k), .ref (g 4)]) rfl (nc_X5_init (E := E) q) nm_X5_init (by decide +kernel) ns_X5_init rfl ⟨rfl, rfl, Nat.le_of_ble_eq_true rfl, Nat.le_of_ble_eq_true rfl, by show cs + 1 + 5 ≤ 100; omega, by show ss + 16 + 30 ≤ 680; omega⟩ (Nat.le_of_ble_eq_true rfl) dX7_init_168 (fun f => ?_)
  refine n_astq (a := g 4) (f := fq) (ci := 4) (v := q) (i := nI k) 4 7 (rW9 E b g fl fp ft fq ++ P).length rfl rfl (n_at _ _ _) rfl (vp_in_nI hk (by decide)) dX7_init_171 ?_
  rw [nI_clamp (show k < 2 ^ 31 by omega)]
  refine n_eq (ws' := rW9 E b g fl fp ft (va_up fq k (some q)) ++ (P ++ [(q, .inr (4, [.int 0, .int 0, .int 0, .int 0, .int 0, .int 0, .int 0, .int 0, .int 0, .int 0, .int 0, .ref (f 0), .ref (f 1), .ref (f 2), .ref (f 3), .ref (f 4)])), (f 0, .inl (gcA E 0, 6, .inl (fun _ => 0))), (f 1, .inl (gcA E 0, 6, .inl (fun _ => 0))), (f 2, .inl (gcA E 0, 6, .inl (fun _ => 0))), (f 3, .inl (gcA E 0, 6, .inl (fun _ => 0))), (f 4, .inl (gcA E 0, 6, .inl (fun _ => 0)))])) (by rw [List.append_assoc]; rfl) ?_
  refine n_iinc 0 (v := nI (k + 1)) [(1, .int (nI (k + 1))), (0, .ref b)] dX7_init_172 rfl (nI_1 k) (by decide) rfl ?_
  refine n_goto 153 dX7_init_175 (by decide) ?_
  exact h q f
set_option maxRecDepth 100000 in
set_option maxHeartbeats 4000000 in
theorem n_arqs {E : gE} {own : String} {cc : ByteArray} {nL : Nat} {ret : Option FieldType} {R : Room} {A : Nat → Prop} {Nm : State → Method → Prop} {Zf : List Frame → Array Value → State → State → Prop} {cs ss : Nat} {pc : Nat} {lv : List (Nat × Value)} {st : List Value} {b : Nat} {g : Nat → Nat} {fl fp ft fq gl gp gt gq : Nat → Option Nat} {P : va_W} (e1 : ∀ j, j < 2 → fl j = gl j) (e2 : ∀ j, j < 10 → fp j = gp j) (e3 : ∀ j, j < 8 → ft j = gt j) (e4 : ∀ j, j < 12 → fq j = gq j) (h : nK E own cc nL ret R A Nm Zf cs ss pc lv st (rW9 E b g gl gp gt gq ++ P)) : nK E own cc nL ret R A Nm Zf cs ss pc lv st (rW9 E b g fl fp ft fq ++ P) := by
  refine n_arq gl 1 rfl e1 ?_
  refine n_arq gp 2 rfl e2 ?_
  refine n_arq gt 3 rfl e3 ?_
  refine n_arq gq 4 rfl e4 ?_
  exact h
set_option maxRecDepth 100000 in
set_option maxHeartbeats 4000000 in
theorem rg_eq {E : gE} {a g a0f a1f a2f a3f a4f a5f a6f a7f a8f a9f a10f a11f : Nat → Nat} {b l0 l1 p0 p1 p2 p3 p4 p5 p6 p7 p8 p9 t0 t1 t2 t3 t4 t5 t6 t7 a0 a1 a2 a3 a4 a5 a6 a7 a8 a9 a10 a11 : Nat} (h0 : a 0 = b) (h1 : a 1 = g 1) (h2 : a 2 = g 2) (h3 : a 3 = g 3) (h4 : a 4 = g 4) (h5 : a 5 = g 5) (h6 : a 6 = g 6) (h7 : a 7 = g 7) (h8 : a 8 = g 8) (h9 : a 9 = l0) (h10 : a 10 = l1) (h11 : a 11 = p0) (h12 : a 12 = p1) (h13 : a 13 = p2) (h14 : a 14 = p3) (h15 : a 15 = p4) (h16 : a 16 = p5) (h17 : a 17 = p6) (h18 : a 18 = p7) (h19 : a 19 = p8) (h20 : a 20 = p9) (h21 : a 21 = t0) (h22 : a 22 = t1) (h23 : a 23 = t2) (h24 : a 24 = t3) (h25 : a 25 = t4) (h26 : a 26 = t5) (h27 : a 27 = t6) (h28 : a 28 = t7) (h29 : a 29 = a0) (h30 : a 30 = a0f 0) (h31 : a 31 = a0f 1) (h32 : a 32 = a0f 2) (h33 : a 33 = a0f 3) (h34 : a 34 = a0f 4) (h35 : a 35 = a1) (h36 : a 36 = a1f 0) (h37 : a 37 = a1f 1) (h38 : a 38 = a1f 2) (h39 : a 39 = a1f 3) (h40 : a 40 = a1f 4) (h41 : a 41 = a2) (h42 : a 42 = a2f 0) (h43 : a 43 = a2f 1) (h44 : a 44 = a2f 2) (h45 : a 45 = a2f 3) (h46 : a 46 = a2f 4) (h47 : a 47 = a3) (h48 : a 48 = a3f 0) (h49 : a 49 = a3f 1) (h50 : a 50 = a3f 2) (h51 : a 51 = a3f 3) (h52 : a 52 = a3f 4) (h53 : a 53 = a4) (h54 : a 54 = a4f 0) (h55 : a 55 = a4f 1) (h56 : a 56 = a4f 2) (h57 : a 57 = a4f 3) (h58 : a 58 = a4f 4) (h59 : a 59 = a5) (h60 : a 60 = a5f 0) (h61 : a 61 = a5f 1) (h62 : a 62 = a5f 2) (h63 : a 63 = a5f 3) (h64 : a 64 = a5f 4) (h65 : a 65 = a6) (h66 : a 66 = a6f 0) (h67 : a 67 = a6f 1) (h68 : a 68 = a6f 2) (h69 : a 69 = a6f 3) (h70 : a 70 = a6f 4) (h71 : a 71 = a7) (h72 : a 72 = a7f 0) (h73 : a 73 = a7f 1) (h74 : a 74 = a7f 2) (h75 : a 75 = a7f 3) (h76 : a 76 = a7f 4) (h77 : a 77 = a8) (h78 : a 78 = a8f 0) (h79 : a 79 = a8f 1) (h80 : a 80 = a8f 2) (h81 : a 81 = a8f 3) (h82 : a 82 = a8f 4) (h83 : a 83 = a9) (h84 : a 84 = a9f 0) (h85 : a 85 = a9f 1) (h86 : a 86 = a9f 2) (h87 : a 87 = a9f 3) (h88 : a 88 = a9f 4) (h89 : a 89 = a10) (h90 : a 90 = a10f 0) (h91 : a 91 = a10f 1) (h92 : a 92 = a10f 2) (h93 : a 93 = a10f 3) (h94 : a 94 = a10f 4) (h95 : a 95 = a11) (h96 : a 96 = a11f 0) (h97 : a 97 = a11f 1) (h98 : a 98 = a11f 2) (h99 : a 99 = a11f 3) (h100 : a 100 = a11f 4) : rW9 E b g (fun j => some (a (1 * j + 9))) (fun j => some (a (1 * j + 11))) (fun j => some (a (1 * j + 21))) (fun j => some (a (6 * j + 29))) ++ ((((((((((((((((((((((((((((((((([] ++ [(l0, .inr (2, [.int 0, .int 0, .int 0, .int 0, .int 0, .int 0]))]) ++ [(l1, .inr (2, [.int 0, .int 0, .int 0, .int 0, .int 0, .int 0]))]) ++ [(p0, .inr (5, [.int 0, .int 0, .int 0]))]) ++ [(p1, .inr (5, [.int 0, .int 0, .int 0]))]) ++ [(p2, .inr (5, [.int 0, .int 0, .int 0]))]) ++ [(p3, .inr (5, [.int 0, .int 0, .int 0]))]) ++ [(p4, .inr (5, [.int 0, .int 0, .int 0]))]) ++ [(p5, .inr (5, [.int 0, .int 0, .int 0]))]) ++ [(p6, .inr (5, [.int 0, .int 0, .int 0]))]) ++ [(p7, .inr (5, [.int 0, .int 0, .int 0]))]) ++ [(p8, .inr (5, [.int 0, .int 0, .int 0]))]) ++ [(p9, .inr (5, [.int 0, .int 0, .int 0]))]) ++ [(t0, .inr (8, [.int 0, .int 0, .int 0]))]) ++ [(t1, .inr (8, [.int 0, .int 0, .int 0]))]) ++ [(t2, .inr (8, [.int 0, .int 0, .int 0]))]) ++ [(t3, .inr (8, [.int 0, .int 0, .int 0]))]) ++ [(t4, .inr (8, [.int 0, .int 0, .int 0]))]) ++ [(t5, .inr (8, [.int 0, .int 0, .int 0]))]) ++ [(t6, .inr (8, [.int 0, .int 0, .int 0]))]) ++ [(t7, .inr (8, [.int 0, .int 0, .int 0]))]) ++ [(a0, .inr (4, [.int 0, .int 0, .int 0, .int 0, .int 0, .int 0, .int 0, .int 0, .int 0, .int 0, .int 0, .ref (a0f 0), .ref (a0f 1), .ref (a0f 2), .ref (a0f 3), .ref (a0f 4)])), (a0f 0, .inl (gcA E 0, 6, .inl (fun _ => 0))), (a0f 1, .inl (gcA E 0, 6, .inl (fun _ => 0))), (a0f 2, .inl (gcA E 0, 6, .inl (fun _ => 0))), (a0f 3, .inl (gcA E 0, 6, .inl (fun _ => 0))), (a0f 4, .inl (gcA E 0, 6, .inl (fun _ => 0)))]) ++ [(a1, .inr (4, [.int 0, .int 0, .int 0, .int 0, .int 0, .int 0, .int 0, .int 0, .int 0, .int 0, .int 0, .ref (a1f 0), .ref (a1f 1), .ref (a1f 2), .ref (a1f 3), .ref (a1f 4)])), (a1f 0, .inl (gcA E 0, 6, .inl (fun _ => 0))), (a1f 1, .inl (gcA E 0, 6, .inl (fun _ => 0))), (a1f 2, .inl (gcA E 0, 6, .inl (fun _ => 0))), (a1f 3, .inl (gcA E 0, 6, .inl (fun _ => 0))), (a1f 4, .inl (gcA E 0, 6, .inl (fun _ => 0)))]) ++ [(a2, .inr (4, [.int 0, .int 0, .int 0, .int 0, .int 0, .int 0, .int 0, .int 0, .int 0, .int 0, .int 0, .ref (a2f 0), .ref (a2f 1), .ref (a2f 2), .ref (a2f 3), .ref (a2f 4)])), (a2f 0, .inl (gcA E 0, 6, .inl (fun _ => 0))), (a2f 1, .inl (gcA E 0, 6, .inl (fun _ => 0))), (a2f 2, .inl (gcA E 0, 6, .inl (fun _ => 0))), (a2f 3, .inl (gcA E 0, 6, .inl (fun _ => 0))), (a2f 4, .inl (gcA E 0, 6, .inl (fun _ => 0)))]) ++ [(a3, .inr (4, [.int 0, .int 0, .int 0, .int 0, .int 0, .int 0, .int 0, .int 0, .int 0, .int 0, .int 0, .ref (a3f 0), .ref (a3f 1), .ref (a3f 2), .ref (a3f 3), .ref (a3f 4)])), (a3f 0, .inl (gcA E 0, 6, .inl (fun _ => 0))), (a3f 1, .inl (gcA E 0, 6, .inl (fun _ => 0))), (a3f 2, .inl (gcA E 0, 6, .inl (fun _ => 0))), (a3f 3, .inl (gcA E 0, 6, .inl (fun _ => 0))), (a3f 4, .inl (gcA E 0, 6, .inl (fun _ => 0)))]) ++ [(a4, .inr (4, [.int 0, .int 0, .int 0, .int 0, .int 0, .int 0, .int 0, .int 0, .int 0, .int 0, .int 0, .ref (a4f 0), .ref (a4f 1), .ref (a4f 2), .ref (a4f 3), .ref (a4f 4)])), (a4f 0, .inl (gcA E 0, 6, .inl (fun _ => 0))), (a4f 1, .inl (gcA E 0, 6, .inl (fun _ => 0))), (a4f 2, .inl (gcA E 0, 6, .inl (fun _ => 0))), (a4f 3, .inl (gcA E 0, 6, .inl (fun _ => 0))), (a4f 4, .inl (gcA E 0, 6, .inl (fun _ => 0)))]) ++ [(a5, .inr (4, [.int 0, .int 0, .int 0, .int 0, .int 0, .int 0, .int 0, .int 0, .int 0, .int 0, .int 0, .ref (a5f 0), .ref (a5f 1), .ref (a5f 2), .ref (a5f 3), .ref (a5f 4)])), (a5f 0, .inl (gcA E 0, 6, .inl (fun _ => 0))), (a5f 1, .inl (gcA E 0, 6, .inl (fun _ => 0))), (a5f 2, .inl (gcA E 0, 6, .inl (fun _ => 0))), (a5f 3, .inl (gcA E 0, 6, .inl (fun _ => 0))), (a5f 4, .inl (gcA E 0, 6, .inl (fun _ => 0)))]) ++ [(a6, .inr (4, [.int 0, .int 0, .int 0, .int 0, .int 0, .int 0, .int 0, .int 0, .int 0, .int 0, .int 0, .ref (a6f 0), .ref (a6f 1), .ref (a6f 2), .ref (a6f 3), .ref (a6f 4)])), (a6f 0, .inl (gcA E 0, 6, .inl (fun _ => 0))), (a6f 1, .inl (gcA E 0, 6, .inl (fun _ => 0))), (a6f 2, .inl (gcA E 0, 6, .inl (fun _ => 0))), (a6f 3, .inl (gcA E 0, 6, .inl (fun _ => 0))), (a6f 4, .inl (gcA E 0, 6, .inl (fun _ => 0)))]) ++ [(a7, .inr (4, [.int 0, .int 0, .int 0, .int 0, .int 0, .int 0, .int 0, .int 0, .int 0, .int 0, .int 0, .ref (a7f 0), .ref (a7f 1), .ref (a7f 2), .ref (a7f 3), .ref (a7f 4)])), (a7f 0, .inl (gcA E 0, 6, .inl (fun _ => 0))), (a7f 1, .inl (gcA E 0, 6, .inl (fun _ => 0))), (a7f 2, .inl (gcA E 0, 6, .inl (fun _ => 0))), (a7f 3, .inl (gcA E 0, 6, .inl (fun _ => 0))), (a7f 4, .inl (gcA E 0, 6, .inl (fun _ => 0)))]) ++ [(a8, .inr (4, [.int 0, .int 0, .int 0, .int 0, .int 0, .int 0, .int 0, .int 0, .int 0, .int 0, .int 0, .ref (a8f 0), .ref (a8f 1), .ref (a8f 2), .ref (a8f 3), .ref (a8f 4)])), (a8f 0, .inl (gcA E 0, 6, .inl (fun _ => 0))), (a8f 1, .inl (gcA E 0, 6, .inl (fun _ => 0))), (a8f 2, .inl (gcA E 0, 6, .inl (fun _ => 0))), (a8f 3, .inl (gcA E 0, 6, .inl (fun _ => 0))), (a8f 4, .inl (gcA E 0, 6, .inl (fun _ => 0)))]) ++ [(a9, .inr (4, [.int 0, .int 0, .int 0, .int 0, .int 0, .int 0, .int 0, .int 0, .int 0, .int 0, .int 0, .ref (a9f 0), .ref (a9f 1), .ref (a9f 2), .ref (a9f 3), .ref (a9f 4)])), (a9f 0, .inl (gcA E 0, 6, .inl (fun _ => 0))), (a9f 1, .inl (gcA E 0, 6, .inl (fun _ => 0))), (a9f 2, .inl (gcA E 0, 6, .inl (fun _ => 0))), (a9f 3, .inl (gcA E 0, 6, .inl (fun _ => 0))), (a9f 4, .inl (gcA E 0, 6, .inl (fun _ => 0)))]) ++ [(a10, .inr (4, [.int 0, .int 0, .int 0, .int 0, .int 0, .int 0, .int 0, .int 0, .int 0, .int 0, .int 0, .ref (a10f 0), .ref (a10f 1), .ref (a10f 2), .ref (a10f 3), .ref (a10f 4)])), (a10f 0, .inl (gcA E 0, 6, .inl (fun _ => 0))), (a10f 1, .inl (gcA E 0, 6, .inl (fun _ => 0))), (a10f 2, .inl (gcA E 0, 6, .inl (fun _ => 0))), (a10f 3, .inl (gcA E 0, 6, .inl (fun _ => 0))), (a10f 4, .inl (gcA E 0, 6, .inl (fun _ => 0)))]) ++ [(a11, .inr (4, [.int 0, .int 0, .int 0, .int 0, .int 0, .int 0, .int 0, .int 0, .int 0, .int 0, .int 0, .ref (a11f 0), .ref (a11f 1), .ref (a11f 2), .ref (a11f 3), .ref (a11f 4)])), (a11f 0, .inl (gcA E 0, 6, .inl (fun _ => 0))), (a11f 1, .inl (gcA E 0, 6, .inl (fun _ => 0))), (a11f 2, .inl (gcA E 0, 6, .inl (fun _ => 0))), (a11f 3, .inl (gcA E 0, 6, .inl (fun _ => 0))), (a11f 4, .inl (gcA E 0, 6, .inl (fun _ => 0)))]) : va_W) = rgW E a 0 := by
  simp only [rgW, rW9, h0, h1, h2, h3, h4, h5, h6, h7, h8, h9, h10, h11, h12, h13, h14, h15, h16, h17, h18, h19, h20, h21, h22, h23, h24, h25, h26, h27, h28, h29, h30, h31, h32, h33, h34, h35, h36, h37, h38, h39, h40, h41, h42, h43, h44, h45, h46, h47, h48, h49, h50, h51, h52, h53, h54, h55, h56, h57, h58, h59, h60, h61, h62, h63, h64, h65, h66, h67, h68, h69, h70, h71, h72, h73, h74, h75, h76, h77, h78, h79, h80, h81, h82, h83, h84, h85, h86, h87, h88, h89, h90, h91, h92, h93, h94, h95, h96, h97, h98, h99, h100, List.append_assoc, List.cons_append, List.nil_append]
set_option maxRecDepth 100000 in
set_option maxHeartbeats 4000000 in
theorem nc_X7_init {E : gE} (b : Nat) : nCt E yX7_init cX7_init 2 (rmn 2 100 680) [.ref (b)] [(b, .inr (6, [.null, .null, .null, .null, .null, .null, .null, .null, .int 0, .int 0, .int 0, .int 0, .int 0]))] (fun f : Nat → Nat => rgW E (nA b f) 2) 100 680 := by
  refine nCt.of isIni (fun _ _ h => h) (by decide +kernel) (Nat.le_of_ble_eq_true rfl) rfl (fun sz => ?_)
  refine n_aload_n 0 dX7_init_0 rfl ?_
  refine n_objInit (gtbl_t tbin1 41 rfl rfl) noi noc ⟨Nat.le_of_ble_eq_true rfl, Nat.le_of_ble_eq_true rfl⟩ dX7_init_1 ?_
  refine n_aload_n 0 dX7_init_4 rfl ?_
  refine n_iconst (v := 2) dX7_init_5 (by decide) ?_
  refine n_newq (C0 := "WillDeposit$Land") (N := 2) 4 rfl (gtbl_t tbin1 42 rfl rfl) (by decide) (by decide) (by decide) (by decide) ⟨Nat.le_of_ble_eq_true rfl, Nat.le_of_ble_eq_true rfl⟩ dX7_init_6 (fun q1 => ?_)
  refine n_putF 0 fd_X7_11 rfl rfl (Nat.le_of_ble_eq_true rfl) rfl rfl dX7_init_9 ?_
  refine n_aload_n 0 dX7_init_12 rfl ?_
  refine n_bipush (v := 10) dX7_init_13 (by decide) ?_
  refine n_newq (C0 := "WillDeposit$Person") (N := 10) 5 rfl (gtbl_t tbin1 44 rfl rfl) (by decide) (by decide) (by decide) (by decide) ⟨Nat.le_of_ble_eq_true rfl, Nat.le_of_ble_eq_true rfl⟩ dX7_init_15 (fun q2 => ?_)
  refine n_putF 0 fd_X7_19 rfl rfl (Nat.le_of_ble_eq_true rfl) rfl rfl dX7_init_18 ?_
  refine n_aload_n 0 dX7_init_21 rfl ?_
  refine n_bipush (v := 8) dX7_init_22 (by decide) ?_
  refine n_newq (C0 := "WillDeposit$Thing") (N := 8) 6 rfl (gtbl_t tbin1 46 rfl rfl) (by decide) (by decide) (by decide) (by decide) ⟨Nat.le_of_ble_eq_true rfl, Nat.le_of_ble_eq_true rfl⟩ dX7_init_24 (fun q3 => ?_)
  refine n_putF 0 fd_X7_25 rfl rfl (Nat.le_of_ble_eq_true rfl) rfl rfl dX7_init_27 ?_
  refine n_aload_n 0 dX7_init_30 rfl ?_
  refine n_bipush (v := 12) dX7_init_31 (by decide) ?_
  refine n_newq (C0 := "WillDeposit$Paper") (N := 12) 7 rfl (gtbl_t tbin1 48 rfl rfl) (by decide) (by decide) (by decide) (by decide) ⟨Nat.le_of_ble_eq_true rfl, Nat.le_of_ble_eq_true rfl⟩ dX7_init_33 (fun q4 => ?_)
  refine n_putF 0 fd_X7_31 rfl rfl (Nat.le_of_ble_eq_true rfl) rfl rfl dX7_init_36 ?_
  refine n_aload_n 0 dX7_init_39 rfl ?_
  refine n_bipush (v := 12) dX7_init_40 (by decide) ?_
  refine n_newa (atype := .int) (ty := .int) 0 (N := 12) (a0 := (12, .inl (fun _ => 0))) rfl rfl (fun _ _ h => h) (gtbl_t tbin1 91 rfl rfl) (fun _ => rfl) (by decide) (by decide) (by decide) ⟨Nat.le_of_ble_eq_true rfl, Nat.le_of_ble_eq_true rfl⟩ dX7_init_42 (fun q5 => ?_)
  refine n_putF 0 fd_X7_35 rfl rfl (Nat.le_of_ble_eq_true rfl) rfl rfl dX7_init_44 ?_
  refine n_aload_n 0 dX7_init_47 rfl ?_
  refine n_bipush (v := 6) dX7_init_48 (by decide) ?_
  refine n_newa (atype := .int) (ty := .int) 0 (N := 6) (a0 := (6, .inl (fun _ => 0))) rfl rfl (fun _ _ h => h) (gtbl_t tbin1 91 rfl rfl) (fun _ => rfl) (by decide) (by decide) (by decide) ⟨Nat.le_of_ble_eq_true rfl, Nat.le_of_ble_eq_true rfl⟩ dX7_init_50 (fun q6 => ?_)
  refine n_putF 0 fd_X7_39 rfl rfl (Nat.le_of_ble_eq_true rfl) rfl rfl dX7_init_52 ?_
  refine n_aload_n 0 dX7_init_55 rfl ?_
  refine n_bipush (v := 6) dX7_init_56 (by decide) ?_
  refine n_newa (atype := .int) (ty := .int) 0 (N := 6) (a0 := (6, .inl (fun _ => 0))) rfl rfl (fun _ _ h => h) (gtbl_t tbin1 91 rfl rfl) (fun _ => rfl) (by decide) (by decide) (by decide) ⟨Nat.le_of_ble_eq_true rfl, Nat.le_of_ble_eq_true rfl⟩ dX7_init_58 (fun q7 => ?_)
  refine n_putF 0 fd_X7_42 rfl rfl (Nat.le_of_ble_eq_true rfl) rfl rfl dX7_init_60 ?_
  refine n_aload_n 0 dX7_init_63 rfl ?_
  refine n_bipush (v := 6) dX7_init_64 (by decide) ?_
  refine n_newa (atype := .int) (ty := .int) 0 (N := 6) (a0 := (6, .inl (fun _ => 0))) rfl rfl (fun _ _ h => h) (gtbl_t tbin1 91 rfl rfl) (fun _ => rfl) (by decide) (by decide) (by decide) ⟨Nat.le_of_ble_eq_true rfl, Nat.le_of_ble_eq_true rfl⟩ dX7_init_66 (fun q8 => ?_)
  refine n_putF 0 fd_X7_45 rfl rfl (Nat.le_of_ble_eq_true rfl) rfl rfl dX7_init_68 ?_
  refine n_eq (ws' := rW9 E b (fun i => [b, q1, q2, q3, q4, q5, q6, q7, q8].getD i 0) (fun _ => none) (fun _ => none) (fun _ => none) (fun _ => none) ++ []) rfl ?_
  generalize (fun i => [b, q1, q2, q3, q4, q5, q6, q7, q8].getD i 0) = g
  refine n_iconst (v := nI 0) dX7_init_71 (by decide) ?_
  refine n_istore_n [(1, .int (nI 0)), (0, .ref b)] dX7_init_72 (by decide) rfl ?_
  refine it_land (k := 0) (by decide) (Nat.le_of_ble_eq_true rfl) (Nat.le_of_ble_eq_true rfl) (fun l0 => ?_)
  refine it_land (k := 1) (by decide) (Nat.le_of_ble_eq_true rfl) (Nat.le_of_ble_eq_true rfl) (fun l1 => ?_)
  refine n_iload_n 0 dX7_init_73 rfl ?_
  refine n_iconst (v := nI 2) dX7_init_74 (by decide) ?_
  refine n_icmp_ge 97 dX7_init_75 (by decide) (fun _ => ?_) (fun c => absurd (Int32.le_refl _) c)
  refine n_iconst (v := nI 0) dX7_init_97 (by decide) ?_
  refine n_istore_n [(1, .int (nI 0)), (0, .ref b)] dX7_init_98 (by decide) rfl ?_
  refine it_person (k := 0) (by decide) (Nat.le_of_ble_eq_true rfl) (Nat.le_of_ble_eq_true rfl) (fun p0 => ?_)
  refine it_person (k := 1) (by decide) (Nat.le_of_ble_eq_true rfl) (Nat.le_of_ble_eq_true rfl) (fun p1 => ?_)
  refine it_person (k := 2) (by decide) (Nat.le_of_ble_eq_true rfl) (Nat.le_of_ble_eq_true rfl) (fun p2 => ?_)
  refine it_person (k := 3) (by decide) (Nat.le_of_ble_eq_true rfl) (Nat.le_of_ble_eq_true rfl) (fun p3 => ?_)
  refine it_person (k := 4) (by decide) (Nat.le_of_ble_eq_true rfl) (Nat.le_of_ble_eq_true rfl) (fun p4 => ?_)
  refine it_person (k := 5) (by decide) (Nat.le_of_ble_eq_true rfl) (Nat.le_of_ble_eq_true rfl) (fun p5 => ?_)
  refine it_person (k := 6) (by decide) (Nat.le_of_ble_eq_true rfl) (Nat.le_of_ble_eq_true rfl) (fun p6 => ?_)
  refine it_person (k := 7) (by decide) (Nat.le_of_ble_eq_true rfl) (Nat.le_of_ble_eq_true rfl) (fun p7 => ?_)
  refine it_person (k := 8) (by decide) (Nat.le_of_ble_eq_true rfl) (Nat.le_of_ble_eq_true rfl) (fun p8 => ?_)
  refine it_person (k := 9) (by decide) (Nat.le_of_ble_eq_true rfl) (Nat.le_of_ble_eq_true rfl) (fun p9 => ?_)
  refine n_iload_n 0 dX7_init_99 rfl ?_
  refine n_bipush (v := nI 10) dX7_init_100 (by decide) ?_
  refine n_icmp_ge 124 dX7_init_102 (by decide) (fun _ => ?_) (fun c => absurd (Int32.le_refl _) c)
  refine n_iconst (v := nI 0) dX7_init_124 (by decide) ?_
  refine n_istore_n [(1, .int (nI 0)), (0, .ref b)] dX7_init_125 (by decide) rfl ?_
  refine it_thing (k := 0) (by decide) (Nat.le_of_ble_eq_true rfl) (Nat.le_of_ble_eq_true rfl) (fun t0 => ?_)
  refine it_thing (k := 1) (by decide) (Nat.le_of_ble_eq_true rfl) (Nat.le_of_ble_eq_true rfl) (fun t1 => ?_)
  refine it_thing (k := 2) (by decide) (Nat.le_of_ble_eq_true rfl) (Nat.le_of_ble_eq_true rfl) (fun t2 => ?_)
  refine it_thing (k := 3) (by decide) (Nat.le_of_ble_eq_true rfl) (Nat.le_of_ble_eq_true rfl) (fun t3 => ?_)
  refine it_thing (k := 4) (by decide) (Nat.le_of_ble_eq_true rfl) (Nat.le_of_ble_eq_true rfl) (fun t4 => ?_)
  refine it_thing (k := 5) (by decide) (Nat.le_of_ble_eq_true rfl) (Nat.le_of_ble_eq_true rfl) (fun t5 => ?_)
  refine it_thing (k := 6) (by decide) (Nat.le_of_ble_eq_true rfl) (Nat.le_of_ble_eq_true rfl) (fun t6 => ?_)
  refine it_thing (k := 7) (by decide) (Nat.le_of_ble_eq_true rfl) (Nat.le_of_ble_eq_true rfl) (fun t7 => ?_)
  refine n_iload_n 0 dX7_init_126 rfl ?_
  refine n_bipush (v := nI 8) dX7_init_127 (by decide) ?_
  refine n_icmp_ge 151 dX7_init_129 (by decide) (fun _ => ?_) (fun c => absurd (Int32.le_refl _) c)
  refine n_iconst (v := nI 0) dX7_init_151 (by decide) ?_
  refine n_istore_n [(1, .int (nI 0)), (0, .ref b)] dX7_init_152 (by decide) rfl ?_
  refine it_paper (k := 0) (by decide) (Nat.le_of_ble_eq_true rfl) (Nat.le_of_ble_eq_true rfl) (fun a0 a0f => ?_)
  refine it_paper (k := 1) (by decide) (Nat.le_of_ble_eq_true rfl) (Nat.le_of_ble_eq_true rfl) (fun a1 a1f => ?_)
  refine it_paper (k := 2) (by decide) (Nat.le_of_ble_eq_true rfl) (Nat.le_of_ble_eq_true rfl) (fun a2 a2f => ?_)
  refine it_paper (k := 3) (by decide) (Nat.le_of_ble_eq_true rfl) (Nat.le_of_ble_eq_true rfl) (fun a3 a3f => ?_)
  refine it_paper (k := 4) (by decide) (Nat.le_of_ble_eq_true rfl) (Nat.le_of_ble_eq_true rfl) (fun a4 a4f => ?_)
  refine it_paper (k := 5) (by decide) (Nat.le_of_ble_eq_true rfl) (Nat.le_of_ble_eq_true rfl) (fun a5 a5f => ?_)
  refine it_paper (k := 6) (by decide) (Nat.le_of_ble_eq_true rfl) (Nat.le_of_ble_eq_true rfl) (fun a6 a6f => ?_)
  refine it_paper (k := 7) (by decide) (Nat.le_of_ble_eq_true rfl) (Nat.le_of_ble_eq_true rfl) (fun a7 a7f => ?_)
  refine it_paper (k := 8) (by decide) (Nat.le_of_ble_eq_true rfl) (Nat.le_of_ble_eq_true rfl) (fun a8 a8f => ?_)
  refine it_paper (k := 9) (by decide) (Nat.le_of_ble_eq_true rfl) (Nat.le_of_ble_eq_true rfl) (fun a9 a9f => ?_)
  refine it_paper (k := 10) (by decide) (Nat.le_of_ble_eq_true rfl) (Nat.le_of_ble_eq_true rfl) (fun a10 a10f => ?_)
  refine it_paper (k := 11) (by decide) (Nat.le_of_ble_eq_true rfl) (Nat.le_of_ble_eq_true rfl) (fun a11 a11f => ?_)
  refine n_iload_n 0 dX7_init_153 rfl ?_
  refine n_bipush (v := nI 12) dX7_init_154 (by decide) ?_
  refine n_icmp_ge 178 dX7_init_156 (by decide) (fun _ => ?_) (fun c => absurd (Int32.le_refl _) c)
  obtain ⟨a, h0, h1, h2, h3, h4, h5, h6, h7, h8, h9, h10, h11, h12, h13, h14, h15, h16, h17, h18, h19, h20, h21, h22, h23, h24, h25, h26, h27, h28, h29, h30, h31, h32, h33, h34, h35, h36, h37, h38, h39, h40, h41, h42, h43, h44, h45, h46, h47, h48, h49, h50, h51, h52, h53, h54, h55, h56, h57, h58, h59, h60, h61, h62, h63, h64, h65, h66, h67, h68, h69, h70, h71, h72, h73, h74, h75, h76, h77, h78, h79, h80, h81, h82, h83, h84, h85, h86, h87, h88, h89, h90, h91, h92, h93, h94, h95, h96, h97, h98, h99, h100⟩ : ∃ a : Nat → Nat, a 0 = b ∧ a 1 = g 1 ∧ a 2 = g 2 ∧ a 3 = g 3 ∧ a 4 = g 4 ∧ a 5 = g 5 ∧ a 6 = g 6 ∧ a 7 = g 7 ∧ a 8 = g 8 ∧ a 9 = l0 ∧ a 10 = l1 ∧ a 11 = p0 ∧ a 12 = p1 ∧ a 13 = p2 ∧ a 14 = p3 ∧ a 15 = p4 ∧ a 16 = p5 ∧ a 17 = p6 ∧ a 18 = p7 ∧ a 19 = p8 ∧ a 20 = p9 ∧ a 21 = t0 ∧ a 22 = t1 ∧ a 23 = t2 ∧ a 24 = t3 ∧ a 25 = t4 ∧ a 26 = t5 ∧ a 27 = t6 ∧ a 28 = t7 ∧ a 29 = a0 ∧ a 30 = a0f 0 ∧ a 31 = a0f 1 ∧ a 32 = a0f 2 ∧ a 33 = a0f 3 ∧ a 34 = a0f 4 ∧ a 35 = a1 ∧ a 36 = a1f 0 ∧ a 37 = a1f 1 ∧ a 38 = a1f 2 ∧ a 39 = a1f 3 ∧ a 40 = a1f 4 ∧ a 41 = a2 ∧ a 42 = a2f 0 ∧ a 43 = a2f 1 ∧ a 44 = a2f 2 ∧ a 45 = a2f 3 ∧ a 46 = a2f 4 ∧ a 47 = a3 ∧ a 48 = a3f 0 ∧ a 49 = a3f 1 ∧ a 50 = a3f 2 ∧ a 51 = a3f 3 ∧ a 52 = a3f 4 ∧ a 53 = a4 ∧ a 54 = a4f 0 ∧ a 55 = a4f 1 ∧ a 56 = a4f 2 ∧ a 57 = a4f 3 ∧ a 58 = a4f 4 ∧ a 59 = a5 ∧ a 60 = a5f 0 ∧ a 61 = a5f 1 ∧ a 62 = a5f 2 ∧ a 63 = a5f 3 ∧ a 64 = a5f 4 ∧ a 65 = a6 ∧ a 66 = a6f 0 ∧ a 67 = a6f 1 ∧ a 68 = a6f 2 ∧ a 69 = a6f 3 ∧ a 70 = a6f 4 ∧ a 71 = a7 ∧ a 72 = a7f 0 ∧ a 73 = a7f 1 ∧ a 74 = a7f 2 ∧ a 75 = a7f 3 ∧ a 76 = a7f 4 ∧ a 77 = a8 ∧ a 78 = a8f 0 ∧ a 79 = a8f 1 ∧ a 80 = a8f 2 ∧ a 81 = a8f 3 ∧ a 82 = a8f 4 ∧ a 83 = a9 ∧ a 84 = a9f 0 ∧ a 85 = a9f 1 ∧ a 86 = a9f 2 ∧ a 87 = a9f 3 ∧ a 88 = a9f 4 ∧ a 89 = a10 ∧ a 90 = a10f 0 ∧ a 91 = a10f 1 ∧ a 92 = a10f 2 ∧ a 93 = a10f 3 ∧ a 94 = a10f 4 ∧ a 95 = a11 ∧ a 96 = a11f 0 ∧ a 97 = a11f 1 ∧ a 98 = a11f 2 ∧ a 99 = a11f 3 ∧ a 100 = a11f 4 := ⟨(fun i => if i < 1 then b else if i < 9 then g i else if i < 11 then [l0, l1].getD (i - 9) 0 else if i < 21 then [p0, p1, p2, p3, p4, p5, p6, p7, p8, p9].getD (i - 11) 0 else if i < 29 then [t0, t1, t2, t3, t4, t5, t6, t7].getD (i - 21) 0 else ([nA a0 a0f, nA a1 a1f, nA a2 a2f, nA a3 a3f, nA a4 a4f, nA a5 a5f, nA a6 a6f, nA a7 a7f, nA a8 a8f, nA a9 a9f, nA a10 a10f, nA a11 a11f].getD ((i - 29) / 6) (fun _ => 0)) ((i - 29) % 6)), rfl, rfl, rfl, rfl, rfl, rfl, rfl, rfl, rfl, rfl, rfl, rfl, rfl, rfl, rfl, rfl, rfl, rfl, rfl, rfl, rfl, rfl, rfl, rfl, rfl, rfl, rfl, rfl, rfl, rfl, rfl, rfl, rfl, rfl, rfl, rfl, rfl, rfl, rfl, rfl, rfl, rfl, rfl, rfl, rfl, rfl, rfl, rfl, rfl, rfl, rfl, rfl, rfl, rfl, rfl, rfl, rfl, rfl, rfl, rfl, rfl, rfl, rfl, rfl, rfl, rfl, rfl, rfl, rfl, rfl, rfl, rfl, rfl, rfl, rfl, rfl, rfl, rfl, rfl, rfl, rfl, rfl, rfl, rfl, rfl, rfl, rfl, rfl, rfl, rfl, rfl, rfl, rfl, rfl, rfl, rfl, rfl, rfl, rfl, rfl, rfl⟩
  refine n_arqs (gl := (fun j => some (a (1 * j + 9)))) (gp := (fun j => some (a (1 * j + 11)))) (gt := (fun j => some (a (1 * j + 21)))) (gq := (fun j => some (a (6 * j + 29)))) (fun j hj => ?_) (fun j hj => ?_) (fun j hj => ?_) (fun j hj => ?_) ?_
  · rcases cas2 hj with rfl | rfl
    · exact congrArg some h9.symm
    · exact congrArg some h10.symm
  · rcases cas10 hj with rfl | rfl | rfl | rfl | rfl | rfl | rfl | rfl | rfl | rfl
    · exact congrArg some h11.symm
    · exact congrArg some h12.symm
    · exact congrArg some h13.symm
    · exact congrArg some h14.symm
    · exact congrArg some h15.symm
    · exact congrArg some h16.symm
    · exact congrArg some h17.symm
    · exact congrArg some h18.symm
    · exact congrArg some h19.symm
    · exact congrArg some h20.symm
  · rcases cas8 hj with rfl | rfl | rfl | rfl | rfl | rfl | rfl | rfl
    · exact congrArg some h21.symm
    · exact congrArg some h22.symm
    · exact congrArg some h23.symm
    · exact congrArg some h24.symm
    · exact congrArg some h25.symm
    · exact congrArg some h26.symm
    · exact congrArg some h27.symm
    · exact congrArg some h28.symm
  · rcases cas12 hj with rfl | rfl | rfl | rfl | rfl | rfl | rfl | rfl | rfl | rfl | rfl | rfl
    · exact congrArg some h29.symm
    · exact congrArg some h35.symm
    · exact congrArg some h41.symm
    · exact congrArg some h47.symm
    · exact congrArg some h53.symm
    · exact congrArg some h59.symm
    · exact congrArg some h65.symm
    · exact congrArg some h71.symm
    · exact congrArg some h77.symm
    · exact congrArg some h83.symm
    · exact congrArg some h89.symm
    · exact congrArg some h95.symm
  have hb : b = a 0 := h0.symm
  refine n_eq (rg_eq h0 h1 h2 h3 h4 h5 h6 h7 h8 h9 h10 h11 h12 h13 h14 h15 h16 h17 h18 h19 h20 h21 h22 h23 h24 h25 h26 h27 h28 h29 h30 h31 h32 h33 h34 h35 h36 h37 h38 h39 h40 h41 h42 h43 h44 h45 h46 h47 h48 h49 h50 h51 h52 h53 h54 h55 h56 h57 h58 h59 h60 h61 h62 h63 h64 h65 h66 h67 h68 h69 h70 h71 h72 h73 h74 h75 h76 h77 h78 h79 h80 h81 h82 h83 h84 h85 h86 h87 h88 h89 h90 h91 h92 h93 h94 h95 h96 h97 h98 h99 h100) ?_
  clear h1 h2 h3 h4 h5 h6 h7 h8 h9 h10 h11 h12 h13 h14 h15 h16 h17 h18 h19 h20 h21 h22 h23 h24 h25 h26 h27 h28 h29 h30 h31 h32 h33 h34 h35 h36 h37 h38 h39 h40 h41 h42 h43 h44 h45 h46 h47 h48 h49 h50 h51 h52 h53 h54 h55 h56 h57 h58 h59 h60 h61 h62 h63 h64 h65 h66 h67 h68 h69 h70 h71 h72 h73 h74 h75 h76 h77 h78 h79 h80 h81 h82 h83 h84 h85 h86 h87 h88 h89 h90 h91 h92 h93 h94 h95 h96 h97 h98 h99 h100
  rw [hb]
  refine n_aload_n 1 dX7_init_178 rfl ?_
  refine n_callV (As := []) (n := 0) 0 (nc_X7_clear (E := E) a) mt_X7_clear ml_X7_52 rfl rfl rfl sg_X7_clear rfl ⟨rfl, rfl, Nat.le_of_ble_eq_true rfl, Nat.le_of_ble_eq_true rfl, Nat.le_of_ble_eq_true rfl, Nat.le_of_ble_eq_true rfl⟩ (Nat.le_of_ble_eq_true rfl) dX7_init_179 (fun _ => ?_)
  exact n_vretE (ws1 := fun f : Nat → Nat => rgW E (nA (a 0) f) 2) (fun i => a (i + 1)) (by show rgW E a 2 = rgW E (nA (a 0) (fun i => a (i + 1))) 2; rfl) ⟨Nat.le_of_ble_eq_true rfl, Nat.le_of_ble_eq_true rfl⟩ rfl dX7_init_182

end
