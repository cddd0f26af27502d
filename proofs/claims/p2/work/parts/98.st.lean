set_option linter.all false
noncomputable section
/-- the memory of two fresh objects -/
def mI (g a b c : Nat) : Int32 :=
  if g = 2 then -1 else if g = 44 then 25 else if g = 14 then 2 else if g = 79 then -1 else if g = 88 then mCP mFR 502 c else if g = 89 then mFR c else if g = 92 then mCP (mNN 65) 65 c else if g = 93 then mNN 65 c else 0
def mJ (g a b c : Nat) : Int64 := if g = 56 then 1 else 0
def M00 : gM := (mI, mJ)
def glA (q0 : Nat) (F : Nat → Nat → Nat) (q1 : Nat) (f1 : Nat → Nat) (q2 : Nat) (i : Nat) : Nat := if i < 1 then q0 else if i < 2 then F 0 0 else if i < 103 then F 1 (i - 2) else if i < 204 then F 2 (i - 103) else if i < 208 then F 3 (i - 204) else if i < 212 then F 5 (i - 208) else if i < 216 then F 4 (i - 212) else if i < 220 then F 6 (i - 216) else if i < 222 then F 7 (i - 220) else if i < 226 then F 8 (i - 222) else if i < 240 then nA q1 f1 (i - 226) else q2
def prmF (i : Nat) : Nat := if i < 208 then i else if i < 212 then i + 4 else if i < 216 then i - 4 else i
/-- the cell i of the layout is found among ws at the place prm i -/
def gFnd (E : gE) (M : gM) (ws : va_W) (i : Nat) : Prop := ∃ e : va_E, ws[prmF i]? = some (gla E i, e) ∧ ∀ d, DSC[i]? = some d → ∀ H : Heap, va_at (gD E) vwCl (gla E i, e) H → va_at (gD E) vwCl (gla E i, gW E M d) H
theorem prm_inj : ∀ i, i < 241 → ∀ j, j < 241 → prmF i = prmF j → i = j := by
  intro i hi j hj e
  unfold prmF at e
  split at e <;> split at e <;> (try split at e) <;> (try split at e) <;> (try split at e) <;> (try split at e) <;> omega
theorem n_toG {E0 E : gE} {own : String} {cc : ByteArray} {nL : Nat} {ret : Option FieldType} {R : Room} {A : Nat → Prop} {Nm : State → Method → Prop} {Zf : List Frame → Array Value → State → State → Prop} {cs ss pc : Nat} {lv : List (Nat × Value)} {st : List Value} {ws : va_W} {M : gM} {Sx : State → MethodId → Code → Prop}
    (hK : ∀ s, va_K (gD E0) vwCl (gTy E0) s → va_K (gD E) vwCl (gTy E) s) (hT : ∀ s, nT E0 s → gT E s) (hD : gD E0 = gD E) (hp : ∀ i, i < 241 → gFnd E M ws i) (hSx : ∀ s m (meth : Method) c, Nm s meth → Sx s m c) (hAs : ∀ q, A q → gA E q)
    (h : gK E own cc nL ret R Sx Zf cs ss pc lv st M) : nK E0 own cc nL ret R A Nm Zf cs ss pc lv st ws := by
  intro p l e s m args below meth c H locs ls F X9 C L
  refine h p l e s m args below meth c H locs ls F (hSx _ _ _ _ X9) ⟨⟨fun i j hi hj hij => ?_, fun i hi => ?_⟩, ?_, hK s C.1, hT s C.2.1, ?_, nS_wk C.2.2.2.2.1 hAs⟩ L
  · obtain ⟨e1, h1, -⟩ := hp i hi
    obtain ⟨e2, h2, -⟩ := hp j hj
    exact prm_inj i hi j hj (C.2.2.2.1.1 _ _ _ _ h1 h2 hij)
  · obtain ⟨e1, h1, -⟩ := hp i hi
    exact hAs _ (C.2.2.2.1.2 _ _ h1)
  · exact hAs _ (C.2.2.2.2.2.1 _ (Nat.le_refl _))
  · intro k q hk
    rw [gAll_get] at hk
    cases hd : DSC[k]? with
    | none => rw [hd] at hk; cases hk
    | some d =>
      rw [hd] at hk
      cases hk
      obtain ⟨e1, h1, h2⟩ := hp k (DSC_at hd).1
      refine h2 d hd H ?_
      have := C.2.2.1 _ _ h1
      rw [hD] at this
      exact this
theorem ap_l {α : Type} {A B : List α} {n i : Nat} (hn : A.length = n) (hi : i < n) {r : Option α} (h : A[i]? = r) : (A ++ B)[i]? = r := by rw [List.getElem?_append_left (by omega)]; exact h
theorem ap_r {α : Type} {A B : List α} {n i : Nat} (hn : A.length = n) {r : Option α} (h : B[i]? = r) : (A ++ B)[n + i]? = r := by rw [List.getElem?_append_right (by omega), show n + i - A.length = i by omega]; exact h
theorem cn_r {α : Type} {x : α} {A : List α} {i : Nat} {r : Option α} (h : A[i]? = r) : (x :: A)[i + 1]? = r := h
theorem ln_0 (q0 : Nat) (F : Nat → Nat → Nat) (q1 : Nat) (f1 : Nat → Nat) (q2 : Nat) (E0 : gE) : ([] ++ [(F 0 0, (.inl (gcA E0 3, 1200, .inl (fun _ => 0)) : va_E))] : va_W).length = 1 := rfl
theorem ln_1 (q0 : Nat) (F : Nat → Nat → Nat) (q1 : Nat) (f1 : Nat → Nat) (q2 : Nat) (E0 : gE) : (([] ++ [(F 0 0, (.inl (gcA E0 3, 1200, .inl (fun _ => 0)) : va_E))]) ++ rgW E0 (F 1) 2 : va_W).length = 102 := by rw [List.length_append, ln_0 q0 F q1 f1 q2 E0]; rfl
theorem ln_2 (q0 : Nat) (F : Nat → Nat → Nat) (q1 : Nat) (f1 : Nat → Nat) (q2 : Nat) (E0 : gE) : ((([] ++ [(F 0 0, (.inl (gcA E0 3, 1200, .inl (fun _ => 0)) : va_E))]) ++ rgW E0 (F 1) 2) ++ rgW E0 (F 2) 2 : va_W).length = 203 := by rw [List.length_append, ln_1 q0 F q1 f1 q2 E0]; rfl
theorem ln_3 (q0 : Nat) (F : Nat → Nat → Nat) (q1 : Nat) (f1 : Nat → Nat) (q2 : Nat) (E0 : gE) : (((([] ++ [(F 0 0, (.inl (gcA E0 3, 1200, .inl (fun _ => 0)) : va_E))]) ++ rgW E0 (F 1) 2) ++ rgW E0 (F 2) 2) ++ tkW E0 (F 3) (F 0 0) : va_W).length = 207 := by rw [List.length_append, ln_2 q0 F q1 f1 q2 E0]; rfl
theorem ln_4 (q0 : Nat) (F : Nat → Nat → Nat) (q1 : Nat) (f1 : Nat → Nat) (q2 : Nat) (E0 : gE) : ((((([] ++ [(F 0 0, (.inl (gcA E0 3, 1200, .inl (fun _ => 0)) : va_E))]) ++ rgW E0 (F 1) 2) ++ rgW E0 (F 2) 2) ++ tkW E0 (F 3) (F 0 0)) ++ trW E0 (F 4) (F 3 0) (F 2 0) : va_W).length = 211 := by rw [List.length_append, ln_3 q0 F q1 f1 q2 E0]; rfl
theorem ln_5 (q0 : Nat) (F : Nat → Nat → Nat) (q1 : Nat) (f1 : Nat → Nat) (q2 : Nat) (E0 : gE) : (((((([] ++ [(F 0 0, (.inl (gcA E0 3, 1200, .inl (fun _ => 0)) : va_E))]) ++ rgW E0 (F 1) 2) ++ rgW E0 (F 2) 2) ++ tkW E0 (F 3) (F 0 0)) ++ trW E0 (F 4) (F 3 0) (F 2 0)) ++ trW E0 (F 5) (F 3 0) (F 1 0) : va_W).length = 215 := by rw [List.length_append, ln_4 q0 F q1 f1 q2 E0]; rfl
theorem ln_6 (q0 : Nat) (F : Nat → Nat → Nat) (q1 : Nat) (f1 : Nat → Nat) (q2 : Nat) (E0 : gE) : ((((((([] ++ [(F 0 0, (.inl (gcA E0 3, 1200, .inl (fun _ => 0)) : va_E))]) ++ rgW E0 (F 1) 2) ++ rgW E0 (F 2) 2) ++ tkW E0 (F 3) (F 0 0)) ++ trW E0 (F 4) (F 3 0) (F 2 0)) ++ trW E0 (F 5) (F 3 0) (F 1 0)) ++ lwW E0 (F 6) (F 1 0) : va_W).length = 219 := by rw [List.length_append, ln_5 q0 F q1 f1 q2 E0]; rfl
theorem ln_7 (q0 : Nat) (F : Nat → Nat → Nat) (q1 : Nat) (f1 : Nat → Nat) (q2 : Nat) (E0 : gE) : (((((((([] ++ [(F 0 0, (.inl (gcA E0 3, 1200, .inl (fun _ => 0)) : va_E))]) ++ rgW E0 (F 1) 2) ++ rgW E0 (F 2) 2) ++ tkW E0 (F 3) (F 0 0)) ++ trW E0 (F 4) (F 3 0) (F 2 0)) ++ trW E0 (F 5) (F 3 0) (F 1 0)) ++ lwW E0 (F 6) (F 1 0)) ++ esW E0 (F 7) (F 1 0) (F 6 0) : va_W).length = 221 := by rw [List.length_append, ln_6 q0 F q1 f1 q2 E0]; rfl
theorem ln_8 (q0 : Nat) (F : Nat → Nat → Nat) (q1 : Nat) (f1 : Nat → Nat) (q2 : Nat) (E0 : gE) : ((((((((([] ++ [(F 0 0, (.inl (gcA E0 3, 1200, .inl (fun _ => 0)) : va_E))]) ++ rgW E0 (F 1) 2) ++ rgW E0 (F 2) 2) ++ tkW E0 (F 3) (F 0 0)) ++ trW E0 (F 4) (F 3 0) (F 2 0)) ++ trW E0 (F 5) (F 3 0) (F 1 0)) ++ lwW E0 (F 6) (F 1 0)) ++ esW E0 (F 7) (F 1 0) (F 6 0)) ++ hiW E0 (F 8) (F 1 0) : va_W).length = 225 := by rw [List.length_append, ln_7 q0 F q1 f1 q2 E0]; rfl
theorem ln_W (q0 : Nat) (F : Nat → Nat → Nat) (q1 : Nat) (f1 : Nat → Nat) (q2 : Nat) (E0 : gE) : (wdW E0 q0 F).length = 226 := by unfold wdW; rw [List.length_cons, ln_8 q0 F q1 f1 q2 E0]
theorem sg_R1 (q0 : Nat) (F : Nat → Nat → Nat) (q1 : Nat) (f1 : Nat → Nat) (q2 : Nat) (E0 : gE) (i : Nat) (hi : i < 101) {r : Option (Nat × va_E)} (h : (rgW E0 (F 1) 2)[i]? = r) : ((wdW E0 q0 F ++ mdW E0 (nA q1 f1) (mCP mFR 502) mFR (mCP (mNN 65) 65) (mNN 65)) ++ [(q2, .inl (gcA E0 1, 1, .inr (.inl (fun _ => 0))))])[2 + i]? = r := by
  have h1 : ((((((((([] ++ [(F 0 0, (.inl (gcA E0 3, 1200, .inl (fun _ => 0)) : va_E))]) ++ rgW E0 (F 1) 2) ++ rgW E0 (F 2) 2) ++ tkW E0 (F 3) (F 0 0)) ++ trW E0 (F 4) (F 3 0) (F 2 0)) ++ trW E0 (F 5) (F 3 0) (F 1 0)) ++ lwW E0 (F 6) (F 1 0)) ++ esW E0 (F 7) (F 1 0) (F 6 0)) ++ hiW E0 (F 8) (F 1 0) : va_W)[1 + i]? = r := (ap_l (ln_7 q0 F q1 f1 q2 E0) (by omega) (ap_l (ln_6 q0 F q1 f1 q2 E0) (by omega) (ap_l (ln_5 q0 F q1 f1 q2 E0) (by omega) (ap_l (ln_4 q0 F q1 f1 q2 E0) (by omega) (ap_l (ln_3 q0 F q1 f1 q2 E0) (by omega) (ap_l (ln_2 q0 F q1 f1 q2 E0) (by omega) (ap_l (ln_1 q0 F q1 f1 q2 E0) (by omega) (ap_r (ln_0 q0 F q1 f1 q2 E0) h))))))))
  have h2 : (wdW E0 q0 F)[1 + i + 1]? = r := by unfold wdW; exact cn_r h1
  rw [show 2 + i = 1 + i + 1 by omega]
  exact ap_l (n := 240) (by rw [List.length_append, ln_W q0 F q1 f1 q2 E0]; rfl) (by omega) (ap_l (ln_W q0 F q1 f1 q2 E0) (by omega) h2)
theorem sg_R2 (q0 : Nat) (F : Nat → Nat → Nat) (q1 : Nat) (f1 : Nat → Nat) (q2 : Nat) (E0 : gE) (i : Nat) (hi : i < 101) {r : Option (Nat × va_E)} (h : (rgW E0 (F 2) 2)[i]? = r) : ((wdW E0 q0 F ++ mdW E0 (nA q1 f1) (mCP mFR 502) mFR (mCP (mNN 65) 65) (mNN 65)) ++ [(q2, .inl (gcA E0 1, 1, .inr (.inl (fun _ => 0))))])[103 + i]? = r := by
  have h1 : ((((((((([] ++ [(F 0 0, (.inl (gcA E0 3, 1200, .inl (fun _ => 0)) : va_E))]) ++ rgW E0 (F 1) 2) ++ rgW E0 (F 2) 2) ++ tkW E0 (F 3) (F 0 0)) ++ trW E0 (F 4) (F 3 0) (F 2 0)) ++ trW E0 (F 5) (F 3 0) (F 1 0)) ++ lwW E0 (F 6) (F 1 0)) ++ esW E0 (F 7) (F 1 0) (F 6 0)) ++ hiW E0 (F 8) (F 1 0) : va_W)[102 + i]? = r := (ap_l (ln_7 q0 F q1 f1 q2 E0) (by omega) (ap_l (ln_6 q0 F q1 f1 q2 E0) (by omega) (ap_l (ln_5 q0 F q1 f1 q2 E0) (by omega) (ap_l (ln_4 q0 F q1 f1 q2 E0) (by omega) (ap_l (ln_3 q0 F q1 f1 q2 E0) (by omega) (ap_l (ln_2 q0 F q1 f1 q2 E0) (by omega) (ap_r (ln_1 q0 F q1 f1 q2 E0) h)))))))
  have h2 : (wdW E0 q0 F)[102 + i + 1]? = r := by unfold wdW; exact cn_r h1
  rw [show 103 + i = 102 + i + 1 by omega]
  exact ap_l (n := 240) (by rw [List.length_append, ln_W q0 F q1 f1 q2 E0]; rfl) (by omega) (ap_l (ln_W q0 F q1 f1 q2 E0) (by omega) h2)
theorem sg_TK (q0 : Nat) (F : Nat → Nat → Nat) (q1 : Nat) (f1 : Nat → Nat) (q2 : Nat) (E0 : gE) (i : Nat) (hi : i < 4) {r : Option (Nat × va_E)} (h : (tkW E0 (F 3) (F 0 0))[i]? = r) : ((wdW E0 q0 F ++ mdW E0 (nA q1 f1) (mCP mFR 502) mFR (mCP (mNN 65) 65) (mNN 65)) ++ [(q2, .inl (gcA E0 1, 1, .inr (.inl (fun _ => 0))))])[204 + i]? = r := by
  have h1 : ((((((((([] ++ [(F 0 0, (.inl (gcA E0 3, 1200, .inl (fun _ => 0)) : va_E))]) ++ rgW E0 (F 1) 2) ++ rgW E0 (F 2) 2) ++ tkW E0 (F 3) (F 0 0)) ++ trW E0 (F 4) (F 3 0) (F 2 0)) ++ trW E0 (F 5) (F 3 0) (F 1 0)) ++ lwW E0 (F 6) (F 1 0)) ++ esW E0 (F 7) (F 1 0) (F 6 0)) ++ hiW E0 (F 8) (F 1 0) : va_W)[203 + i]? = r := (ap_l (ln_7 q0 F q1 f1 q2 E0) (by omega) (ap_l (ln_6 q0 F q1 f1 q2 E0) (by omega) (ap_l (ln_5 q0 F q1 f1 q2 E0) (by omega) (ap_l (ln_4 q0 F q1 f1 q2 E0) (by omega) (ap_l (ln_3 q0 F q1 f1 q2 E0) (by omega) (ap_r (ln_2 q0 F q1 f1 q2 E0) h))))))
  have h2 : (wdW E0 q0 F)[203 + i + 1]? = r := by unfold wdW; exact cn_r h1
  rw [show 204 + i = 203 + i + 1 by omega]
  exact ap_l (n := 240) (by rw [List.length_append, ln_W q0 F q1 f1 q2 E0]; rfl) (by omega) (ap_l (ln_W q0 F q1 f1 q2 E0) (by omega) h2)
theorem sg_D1 (q0 : Nat) (F : Nat → Nat → Nat) (q1 : Nat) (f1 : Nat → Nat) (q2 : Nat) (E0 : gE) (i : Nat) (hi : i < 4) {r : Option (Nat × va_E)} (h : (trW E0 (F 4) (F 3 0) (F 2 0))[i]? = r) : ((wdW E0 q0 F ++ mdW E0 (nA q1 f1) (mCP mFR 502) mFR (mCP (mNN 65) 65) (mNN 65)) ++ [(q2, .inl (gcA E0 1, 1, .inr (.inl (fun _ => 0))))])[208 + i]? = r := by
  have h1 : ((((((((([] ++ [(F 0 0, (.inl (gcA E0 3, 1200, .inl (fun _ => 0)) : va_E))]) ++ rgW E0 (F 1) 2) ++ rgW E0 (F 2) 2) ++ tkW E0 (F 3) (F 0 0)) ++ trW E0 (F 4) (F 3 0) (F 2 0)) ++ trW E0 (F 5) (F 3 0) (F 1 0)) ++ lwW E0 (F 6) (F 1 0)) ++ esW E0 (F 7) (F 1 0) (F 6 0)) ++ hiW E0 (F 8) (F 1 0) : va_W)[207 + i]? = r := (ap_l (ln_7 q0 F q1 f1 q2 E0) (by omega) (ap_l (ln_6 q0 F q1 f1 q2 E0) (by omega) (ap_l (ln_5 q0 F q1 f1 q2 E0) (by omega) (ap_l (ln_4 q0 F q1 f1 q2 E0) (by omega) (ap_r (ln_3 q0 F q1 f1 q2 E0) h)))))
  have h2 : (wdW E0 q0 F)[207 + i + 1]? = r := by unfold wdW; exact cn_r h1
  rw [show 208 + i = 207 + i + 1 by omega]
  exact ap_l (n := 240) (by rw [List.length_append, ln_W q0 F q1 f1 q2 E0]; rfl) (by omega) (ap_l (ln_W q0 F q1 f1 q2 E0) (by omega) h2)
theorem sg_D0 (q0 : Nat) (F : Nat → Nat → Nat) (q1 : Nat) (f1 : Nat → Nat) (q2 : Nat) (E0 : gE) (i : Nat) (hi : i < 4) {r : Option (Nat × va_E)} (h : (trW E0 (F 5) (F 3 0) (F 1 0))[i]? = r) : ((wdW E0 q0 F ++ mdW E0 (nA q1 f1) (mCP mFR 502) mFR (mCP (mNN 65) 65) (mNN 65)) ++ [(q2, .inl (gcA E0 1, 1, .inr (.inl (fun _ => 0))))])[212 + i]? = r := by
  have h1 : ((((((((([] ++ [(F 0 0, (.inl (gcA E0 3, 1200, .inl (fun _ => 0)) : va_E))]) ++ rgW E0 (F 1) 2) ++ rgW E0 (F 2) 2) ++ tkW E0 (F 3) (F 0 0)) ++ trW E0 (F 4) (F 3 0) (F 2 0)) ++ trW E0 (F 5) (F 3 0) (F 1 0)) ++ lwW E0 (F 6) (F 1 0)) ++ esW E0 (F 7) (F 1 0) (F 6 0)) ++ hiW E0 (F 8) (F 1 0) : va_W)[211 + i]? = r := (ap_l (ln_7 q0 F q1 f1 q2 E0) (by omega) (ap_l (ln_6 q0 F q1 f1 q2 E0) (by omega) (ap_l (ln_5 q0 F q1 f1 q2 E0) (by omega) (ap_r (ln_4 q0 F q1 f1 q2 E0) h))))
  have h2 : (wdW E0 q0 F)[211 + i + 1]? = r := by unfold wdW; exact cn_r h1
  rw [show 212 + i = 211 + i + 1 by omega]
  exact ap_l (n := 240) (by rw [List.length_append, ln_W q0 F q1 f1 q2 E0]; rfl) (by omega) (ap_l (ln_W q0 F q1 f1 q2 E0) (by omega) h2)
theorem sg_LW (q0 : Nat) (F : Nat → Nat → Nat) (q1 : Nat) (f1 : Nat → Nat) (q2 : Nat) (E0 : gE) (i : Nat) (hi : i < 4) {r : Option (Nat × va_E)} (h : (lwW E0 (F 6) (F 1 0))[i]? = r) : ((wdW E0 q0 F ++ mdW E0 (nA q1 f1) (mCP mFR 502) mFR (mCP (mNN 65) 65) (mNN 65)) ++ [(q2, .inl (gcA E0 1, 1, .inr (.inl (fun _ => 0))))])[216 + i]? = r := by
  have h1 : ((((((((([] ++ [(F 0 0, (.inl (gcA E0 3, 1200, .inl (fun _ => 0)) : va_E))]) ++ rgW E0 (F 1) 2) ++ rgW E0 (F 2) 2) ++ tkW E0 (F 3) (F 0 0)) ++ trW E0 (F 4) (F 3 0) (F 2 0)) ++ trW E0 (F 5) (F 3 0) (F 1 0)) ++ lwW E0 (F 6) (F 1 0)) ++ esW E0 (F 7) (F 1 0) (F 6 0)) ++ hiW E0 (F 8) (F 1 0) : va_W)[215 + i]? = r := (ap_l (ln_7 q0 F q1 f1 q2 E0) (by omega) (ap_l (ln_6 q0 F q1 f1 q2 E0) (by omega) (ap_r (ln_5 q0 F q1 f1 q2 E0) h)))
  have h2 : (wdW E0 q0 F)[215 + i + 1]? = r := by unfold wdW; exact cn_r h1
  rw [show 216 + i = 215 + i + 1 by omega]
  exact ap_l (n := 240) (by rw [List.length_append, ln_W q0 F q1 f1 q2 E0]; rfl) (by omega) (ap_l (ln_W q0 F q1 f1 q2 E0) (by omega) h2)
theorem sg_ES (q0 : Nat) (F : Nat → Nat → Nat) (q1 : Nat) (f1 : Nat → Nat) (q2 : Nat) (E0 : gE) (i : Nat) (hi : i < 2) {r : Option (Nat × va_E)} (h : (esW E0 (F 7) (F 1 0) (F 6 0))[i]? = r) : ((wdW E0 q0 F ++ mdW E0 (nA q1 f1) (mCP mFR 502) mFR (mCP (mNN 65) 65) (mNN 65)) ++ [(q2, .inl (gcA E0 1, 1, .inr (.inl (fun _ => 0))))])[220 + i]? = r := by
  have h1 : ((((((((([] ++ [(F 0 0, (.inl (gcA E0 3, 1200, .inl (fun _ => 0)) : va_E))]) ++ rgW E0 (F 1) 2) ++ rgW E0 (F 2) 2) ++ tkW E0 (F 3) (F 0 0)) ++ trW E0 (F 4) (F 3 0) (F 2 0)) ++ trW E0 (F 5) (F 3 0) (F 1 0)) ++ lwW E0 (F 6) (F 1 0)) ++ esW E0 (F 7) (F 1 0) (F 6 0)) ++ hiW E0 (F 8) (F 1 0) : va_W)[219 + i]? = r := (ap_l (ln_7 q0 F q1 f1 q2 E0) (by omega) (ap_r (ln_6 q0 F q1 f1 q2 E0) h))
  have h2 : (wdW E0 q0 F)[219 + i + 1]? = r := by unfold wdW; exact cn_r h1
  rw [show 220 + i = 219 + i + 1 by omega]
  exact ap_l (n := 240) (by rw [List.length_append, ln_W q0 F q1 f1 q2 E0]; rfl) (by omega) (ap_l (ln_W q0 F q1 f1 q2 E0) (by omega) h2)
theorem sg_HI (q0 : Nat) (F : Nat → Nat → Nat) (q1 : Nat) (f1 : Nat → Nat) (q2 : Nat) (E0 : gE) (i : Nat) (hi : i < 4) {r : Option (Nat × va_E)} (h : (hiW E0 (F 8) (F 1 0))[i]? = r) : ((wdW E0 q0 F ++ mdW E0 (nA q1 f1) (mCP mFR 502) mFR (mCP (mNN 65) 65) (mNN 65)) ++ [(q2, .inl (gcA E0 1, 1, .inr (.inl (fun _ => 0))))])[222 + i]? = r := by
  have h1 : ((((((((([] ++ [(F 0 0, (.inl (gcA E0 3, 1200, .inl (fun _ => 0)) : va_E))]) ++ rgW E0 (F 1) 2) ++ rgW E0 (F 2) 2) ++ tkW E0 (F 3) (F 0 0)) ++ trW E0 (F 4) (F 3 0) (F 2 0)) ++ trW E0 (F 5) (F 3 0) (F 1 0)) ++ lwW E0 (F 6) (F 1 0)) ++ esW E0 (F 7) (F 1 0) (F 6 0)) ++ hiW E0 (F 8) (F 1 0) : va_W)[221 + i]? = r := (ap_r (ln_7 q0 F q1 f1 q2 E0) h)
  have h2 : (wdW E0 q0 F)[221 + i + 1]? = r := by unfold wdW; exact cn_r h1
  rw [show 222 + i = 221 + i + 1 by omega]
  exact ap_l (n := 240) (by rw [List.length_append, ln_W q0 F q1 f1 q2 E0]; rfl) (by omega) (ap_l (ln_W q0 F q1 f1 q2 E0) (by omega) h2)
theorem sg_MD (q0 : Nat) (F : Nat → Nat → Nat) (q1 : Nat) (f1 : Nat → Nat) (q2 : Nat) (E0 : gE) (i : Nat) (hi : i < 14) {r : Option (Nat × va_E)} (h : (mdW E0 (nA q1 f1) (mCP mFR 502) mFR (mCP (mNN 65) 65) (mNN 65))[i]? = r) : ((wdW E0 q0 F ++ mdW E0 (nA q1 f1) (mCP mFR 502) mFR (mCP (mNN 65) 65) (mNN 65)) ++ [(q2, .inl (gcA E0 1, 1, .inr (.inl (fun _ => 0))))])[226 + i]? = r := by
  exact ap_l (n := 240) (by rw [List.length_append, ln_W q0 F q1 f1 q2 E0]; rfl) (by omega) (ap_r (ln_W q0 F q1 f1 q2 E0) h)
theorem sg_OT (q0 : Nat) (F : Nat → Nat → Nat) (q1 : Nat) (f1 : Nat → Nat) (q2 : Nat) (E0 : gE) {r : Option (Nat × va_E)} (h : some (q2, (.inl (gcA E0 1, 1, .inr (.inl (fun _ => 0))) : va_E)) = r) : ((wdW E0 q0 F ++ mdW E0 (nA q1 f1) (mCP mFR 502) mFR (mCP (mNN 65) 65) (mNN 65)) ++ [(q2, .inl (gcA E0 1, 1, .inr (.inl (fun _ => 0))))])[240]? = r := by
  exact ap_r (n := 240) (i := 0) (by rw [List.length_append, ln_W q0 F q1 f1 q2 E0]; rfl) h
set_option maxRecDepth 100000 in
set_option maxHeartbeats 4000000 in
theorem fnd_0 {D : va_G} {cA : Nat → ClassId} {ad str stv : Nat → Nat} {TK SW sz : Nat} (q0 : Nat) (F : Nat → Nat → Nat) (q1 : Nat) (f1 : Nat → Nat) (q2 : Nat) (E0 E : gE) (h0 : E0 = (D, cA, fun _ => 0, ad, sz, str, stv, TK, SW)) (hE : E = (D, cA, glA q0 F q1 f1 q2, ad, sz, str, stv, TK, SW)) : gFnd E M00 ((wdW E0 q0 F ++ mdW E0 (nA q1 f1) (mCP mFR 502) mFR (mCP (mNN 65) 65) (mNN 65)) ++ [(q2, .inl (gcA E0 1, 1, .inr (.inl (fun _ => 0))))]) 0 := by
  subst h0
  subst hE
  exact ⟨_, rfl, fun d hd H h => by cases hd; exact h⟩
set_option maxRecDepth 100000 in
set_option maxHeartbeats 4000000 in
theorem fnd_1 {D : va_G} {cA : Nat → ClassId} {ad str stv : Nat → Nat} {TK SW sz : Nat} (q0 : Nat) (F : Nat → Nat → Nat) (q1 : Nat) (f1 : Nat → Nat) (q2 : Nat) (E0 E : gE) (h0 : E0 = (D, cA, fun _ => 0, ad, sz, str, stv, TK, SW)) (hE : E = (D, cA, glA q0 F q1 f1 q2, ad, sz, str, stv, TK, SW)) : gFnd E M00 ((wdW E0 q0 F ++ mdW E0 (nA q1 f1) (mCP mFR 502) mFR (mCP (mNN 65) 65) (mNN 65)) ++ [(q2, .inl (gcA E0 1, 1, .inr (.inl (fun _ => 0))))]) 1 := by
  subst h0
  subst hE
  exact ⟨_, rfl, fun d hd H h => by cases hd; exact h⟩
set_option maxRecDepth 100000 in
set_option maxHeartbeats 4000000 in
theorem fnd_2 {D : va_G} {cA : Nat → ClassId} {ad str stv : Nat → Nat} {TK SW sz : Nat} (q0 : Nat) (F : Nat → Nat → Nat) (q1 : Nat) (f1 : Nat → Nat) (q2 : Nat) (E0 E : gE) (h0 : E0 = (D, cA, fun _ => 0, ad, sz, str, stv, TK, SW)) (hE : E = (D, cA, glA q0 F q1 f1 q2, ad, sz, str, stv, TK, SW)) : gFnd E M00 ((wdW E0 q0 F ++ mdW E0 (nA q1 f1) (mCP mFR 502) mFR (mCP (mNN 65) 65) (mNN 65)) ++ [(q2, .inl (gcA E0 1, 1, .inr (.inl (fun _ => 0))))]) 2 := by
  subst h0
  subst hE
  exact ⟨_, (sg_R1 q0 F q1 f1 q2 _ 0 (by decide) rfl), fun d hd H h => by cases hd; exact h⟩
set_option maxRecDepth 100000 in
set_option maxHeartbeats 4000000 in
theorem fnd_3 {D : va_G} {cA : Nat → ClassId} {ad str stv : Nat → Nat} {TK SW sz : Nat} (q0 : Nat) (F : Nat → Nat → Nat) (q1 : Nat) (f1 : Nat → Nat) (q2 : Nat) (E0 E : gE) (h0 : E0 = (D, cA, fun _ => 0, ad, sz, str, stv, TK, SW)) (hE : E = (D, cA, glA q0 F q1 f1 q2, ad, sz, str, stv, TK, SW)) : gFnd E M00 ((wdW E0 q0 F ++ mdW E0 (nA q1 f1) (mCP mFR 502) mFR (mCP (mNN 65) 65) (mNN 65)) ++ [(q2, .inl (gcA E0 1, 1, .inr (.inl (fun _ => 0))))]) 3 := by
  subst h0
  subst hE
  refine ⟨_, (sg_R1 q0 F q1 f1 q2 _ 1 (by decide) rfl), fun d hd H h => ?_⟩
  cases hd
  refine Eq.trans h ?_
  refine congrArg some ?_
  refine (vp_cell_q _ _ _).trans (Eq.trans ?_ (vp_cell_q _ _ _).symm)
  refine arrV_cong (fun j hj => ?_)
  rcases cas2 hj with rfl | rfl <;> rfl
set_option maxRecDepth 100000 in
set_option maxHeartbeats 4000000 in
theorem fnd_4 {D : va_G} {cA : Nat → ClassId} {ad str stv : Nat → Nat} {TK SW sz : Nat} (q0 : Nat) (F : Nat → Nat → Nat) (q1 : Nat) (f1 : Nat → Nat) (q2 : Nat) (E0 E : gE) (h0 : E0 = (D, cA, fun _ => 0, ad, sz, str, stv, TK, SW)) (hE : E = (D, cA, glA q0 F q1 f1 q2, ad, sz, str, stv, TK, SW)) : gFnd E M00 ((wdW E0 q0 F ++ mdW E0 (nA q1 f1) (mCP mFR 502) mFR (mCP (mNN 65) 65) (mNN 65)) ++ [(q2, .inl (gcA E0 1, 1, .inr (.inl (fun _ => 0))))]) 4 := by
  subst h0
  subst hE
  refine ⟨_, (sg_R1 q0 F q1 f1 q2 _ 2 (by decide) rfl), fun d hd H h => ?_⟩
  cases hd
  refine Eq.trans h ?_
  refine congrArg some ?_
  refine (vp_cell_q _ _ _).trans (Eq.trans ?_ (vp_cell_q _ _ _).symm)
  refine arrV_cong (fun j hj => ?_)
  rcases cas10 hj with rfl | rfl | rfl | rfl | rfl | rfl | rfl | rfl | rfl | rfl <;> rfl
set_option maxRecDepth 100000 in
set_option maxHeartbeats 4000000 in
theorem fnd_5 {D : va_G} {cA : Nat → ClassId} {ad str stv : Nat → Nat} {TK SW sz : Nat} (q0 : Nat) (F : Nat → Nat → Nat) (q1 : Nat) (f1 : Nat → Nat) (q2 : Nat) (E0 E : gE) (h0 : E0 = (D, cA, fun _ => 0, ad, sz, str, stv, TK, SW)) (hE : E = (D, cA, glA q0 F q1 f1 q2, ad, sz, str, stv, TK, SW)) : gFnd E M00 ((wdW E0 q0 F ++ mdW E0 (nA q1 f1) (mCP mFR 502) mFR (mCP (mNN 65) 65) (mNN 65)) ++ [(q2, .inl (gcA E0 1, 1, .inr (.inl (fun _ => 0))))]) 5 := by
  subst h0
  subst hE
  refine ⟨_, (sg_R1 q0 F q1 f1 q2 _ 3 (by decide) rfl), fun d hd H h => ?_⟩
  cases hd
  refine Eq.trans h ?_
  refine congrArg some ?_
  refine (vp_cell_q _ _ _).trans (Eq.trans ?_ (vp_cell_q _ _ _).symm)
  refine arrV_cong (fun j hj => ?_)
  rcases cas8 hj with rfl | rfl | rfl | rfl | rfl | rfl | rfl | rfl <;> rfl
set_option maxRecDepth 100000 in
set_option maxHeartbeats 4000000 in
theorem fnd_6 {D : va_G} {cA : Nat → ClassId} {ad str stv : Nat → Nat} {TK SW sz : Nat} (q0 : Nat) (F : Nat → Nat → Nat) (q1 : Nat) (f1 : Nat → Nat) (q2 : Nat) (E0 E : gE) (h0 : E0 = (D, cA, fun _ => 0, ad, sz, str, stv, TK, SW)) (hE : E = (D, cA, glA q0 F q1 f1 q2, ad, sz, str, stv, TK, SW)) : gFnd E M00 ((wdW E0 q0 F ++ mdW E0 (nA q1 f1) (mCP mFR 502) mFR (mCP (mNN 65) 65) (mNN 65)) ++ [(q2, .inl (gcA E0 1, 1, .inr (.inl (fun _ => 0))))]) 6 := by
  subst h0
  subst hE
  refine ⟨_, (sg_R1 q0 F q1 f1 q2 _ 4 (by decide) rfl), fun d hd H h => ?_⟩
  cases hd
  refine Eq.trans h ?_
  refine congrArg some ?_
  refine (vp_cell_q _ _ _).trans (Eq.trans ?_ (vp_cell_q _ _ _).symm)
  refine arrV_cong (fun j hj => ?_)
  rcases cas12 hj with rfl | rfl | rfl | rfl | rfl | rfl | rfl | rfl | rfl | rfl | rfl | rfl <;> rfl
set_option maxRecDepth 100000 in
set_option maxHeartbeats 4000000 in
theorem fnd_7 {D : va_G} {cA : Nat → ClassId} {ad str stv : Nat → Nat} {TK SW sz : Nat} (q0 : Nat) (F : Nat → Nat → Nat) (q1 : Nat) (f1 : Nat → Nat) (q2 : Nat) (E0 E : gE) (h0 : E0 = (D, cA, fun _ => 0, ad, sz, str, stv, TK, SW)) (hE : E = (D, cA, glA q0 F q1 f1 q2, ad, sz, str, stv, TK, SW)) : gFnd E M00 ((wdW E0 q0 F ++ mdW E0 (nA q1 f1) (mCP mFR 502) mFR (mCP (mNN 65) 65) (mNN 65)) ++ [(q2, .inl (gcA E0 1, 1, .inr (.inl (fun _ => 0))))]) 7 := by
  subst h0
  subst hE
  exact ⟨_, (sg_R1 q0 F q1 f1 q2 _ 5 (by decide) rfl), fun d hd H h => by cases hd; exact h⟩
set_option maxRecDepth 100000 in
set_option maxHeartbeats 4000000 in
theorem fnd_8 {D : va_G} {cA : Nat → ClassId} {ad str stv : Nat → Nat} {TK SW sz : Nat} (q0 : Nat) (F : Nat → Nat → Nat) (q1 : Nat) (f1 : Nat → Nat) (q2 : Nat) (E0 E : gE) (h0 : E0 = (D, cA, fun _ => 0, ad, sz, str, stv, TK, SW)) (hE : E = (D, cA, glA q0 F q1 f1 q2, ad, sz, str, stv, TK, SW)) : gFnd E M00 ((wdW E0 q0 F ++ mdW E0 (nA q1 f1) (mCP mFR 502) mFR (mCP (mNN 65) 65) (mNN 65)) ++ [(q2, .inl (gcA E0 1, 1, .inr (.inl (fun _ => 0))))]) 8 := by
  subst h0
  subst hE
  exact ⟨_, (sg_R1 q0 F q1 f1 q2 _ 6 (by decide) rfl), fun d hd H h => by cases hd; exact h⟩
set_option maxRecDepth 100000 in
set_option maxHeartbeats 4000000 in
theorem fnd_9 {D : va_G} {cA : Nat → ClassId} {ad str stv : Nat → Nat} {TK SW sz : Nat} (q0 : Nat) (F : Nat → Nat → Nat) (q1 : Nat) (f1 : Nat → Nat) (q2 : Nat) (E0 E : gE) (h0 : E0 = (D, cA, fun _ => 0, ad, sz, str, stv, TK, SW)) (hE : E = (D, cA, glA q0 F q1 f1 q2, ad, sz, str, stv, TK, SW)) : gFnd E M00 ((wdW E0 q0 F ++ mdW E0 (nA q1 f1) (mCP mFR 502) mFR (mCP (mNN 65) 65) (mNN 65)) ++ [(q2, .inl (gcA E0 1, 1, .inr (.inl (fun _ => 0))))]) 9 := by
  subst h0
  subst hE
  exact ⟨_, (sg_R1 q0 F q1 f1 q2 _ 7 (by decide) rfl), fun d hd H h => by cases hd; exact h⟩
set_option maxRecDepth 100000 in
set_option maxHeartbeats 4000000 in
theorem fnd_10 {D : va_G} {cA : Nat → ClassId} {ad str stv : Nat → Nat} {TK SW sz : Nat} (q0 : Nat) (F : Nat → Nat → Nat) (q1 : Nat) (f1 : Nat → Nat) (q2 : Nat) (E0 E : gE) (h0 : E0 = (D, cA, fun _ => 0, ad, sz, str, stv, TK, SW)) (hE : E = (D, cA, glA q0 F q1 f1 q2, ad, sz, str, stv, TK, SW)) : gFnd E M00 ((wdW E0 q0 F ++ mdW E0 (nA q1 f1) (mCP mFR 502) mFR (mCP (mNN 65) 65) (mNN 65)) ++ [(q2, .inl (gcA E0 1, 1, .inr (.inl (fun _ => 0))))]) 10 := by
  subst h0
  subst hE
  exact ⟨_, (sg_R1 q0 F q1 f1 q2 _ 8 (by decide) rfl), fun d hd H h => by cases hd; exact h⟩
set_option maxRecDepth 100000 in
set_option maxHeartbeats 4000000 in
theorem fnd_11 {D : va_G} {cA : Nat → ClassId} {ad str stv : Nat → Nat} {TK SW sz : Nat} (q0 : Nat) (F : Nat → Nat → Nat) (q1 : Nat) (f1 : Nat → Nat) (q2 : Nat) (E0 E : gE) (h0 : E0 = (D, cA, fun _ => 0, ad, sz, str, stv, TK, SW)) (hE : E = (D, cA, glA q0 F q1 f1 q2, ad, sz, str, stv, TK, SW)) : gFnd E M00 ((wdW E0 q0 F ++ mdW E0 (nA q1 f1) (mCP mFR 502) mFR (mCP (mNN 65) 65) (mNN 65)) ++ [(q2, .inl (gcA E0 1, 1, .inr (.inl (fun _ => 0))))]) 11 := by
  subst h0
  subst hE
  exact ⟨_, (sg_R1 q0 F q1 f1 q2 _ 9 (by decide) rfl), fun d hd H h => by cases hd; exact h⟩
set_option maxRecDepth 100000 in
set_option maxHeartbeats 4000000 in
theorem fnd_12 {D : va_G} {cA : Nat → ClassId} {ad str stv : Nat → Nat} {TK SW sz : Nat} (q0 : Nat) (F : Nat → Nat → Nat) (q1 : Nat) (f1 : Nat → Nat) (q2 : Nat) (E0 E : gE) (h0 : E0 = (D, cA, fun _ => 0, ad, sz, str, stv, TK, SW)) (hE : E = (D, cA, glA q0 F q1 f1 q2, ad, sz, str, stv, TK, SW)) : gFnd E M00 ((wdW E0 q0 F ++ mdW E0 (nA q1 f1) (mCP mFR 502) mFR (mCP (mNN 65) 65) (mNN 65)) ++ [(q2, .inl (gcA E0 1, 1, .inr (.inl (fun _ => 0))))]) 12 := by
  subst h0
  subst hE
  exact ⟨_, (sg_R1 q0 F q1 f1 q2 _ 10 (by decide) rfl), fun d hd H h => by cases hd; exact h⟩
set_option maxRecDepth 100000 in
set_option maxHeartbeats 4000000 in
theorem fnd_13 {D : va_G} {cA : Nat → ClassId} {ad str stv : Nat → Nat} {TK SW sz : Nat} (q0 : Nat) (F : Nat → Nat → Nat) (q1 : Nat) (f1 : Nat → Nat) (q2 : Nat) (E0 E : gE) (h0 : E0 = (D, cA, fun _ => 0, ad, sz, str, stv, TK, SW)) (hE : E = (D, cA, glA q0 F q1 f1 q2, ad, sz, str, stv, TK, SW)) : gFnd E M00 ((wdW E0 q0 F ++ mdW E0 (nA q1 f1) (mCP mFR 502) mFR (mCP (mNN 65) 65) (mNN 65)) ++ [(q2, .inl (gcA E0 1, 1, .inr (.inl (fun _ => 0))))]) 13 := by
  subst h0
  subst hE
  exact ⟨_, (sg_R1 q0 F q1 f1 q2 _ 11 (by decide) rfl), fun d hd H h => by cases hd; exact h⟩
set_option maxRecDepth 100000 in
set_option maxHeartbeats 4000000 in
theorem fnd_14 {D : va_G} {cA : Nat → ClassId} {ad str stv : Nat → Nat} {TK SW sz : Nat} (q0 : Nat) (F : Nat → Nat → Nat) (q1 : Nat) (f1 : Nat → Nat) (q2 : Nat) (E0 E : gE) (h0 : E0 = (D, cA, fun _ => 0, ad, sz, str, stv, TK, SW)) (hE : E = (D, cA, glA q0 F q1 f1 q2, ad, sz, str, stv, TK, SW)) : gFnd E M00 ((wdW E0 q0 F ++ mdW E0 (nA q1 f1) (mCP mFR 502) mFR (mCP (mNN 65) 65) (mNN 65)) ++ [(q2, .inl (gcA E0 1, 1, .inr (.inl (fun _ => 0))))]) 14 := by
  subst h0
  subst hE
  exact ⟨_, (sg_R1 q0 F q1 f1 q2 _ 12 (by decide) rfl), fun d hd H h => by cases hd; exact h⟩
set_option maxRecDepth 100000 in
set_option maxHeartbeats 4000000 in
theorem fnd_15 {D : va_G} {cA : Nat → ClassId} {ad str stv : Nat → Nat} {TK SW sz : Nat} (q0 : Nat) (F : Nat → Nat → Nat) (q1 : Nat) (f1 : Nat → Nat) (q2 : Nat) (E0 E : gE) (h0 : E0 = (D, cA, fun _ => 0, ad, sz, str, stv, TK, SW)) (hE : E = (D, cA, glA q0 F q1 f1 q2, ad, sz, str, stv, TK, SW)) : gFnd E M00 ((wdW E0 q0 F ++ mdW E0 (nA q1 f1) (mCP mFR 502) mFR (mCP (mNN 65) 65) (mNN 65)) ++ [(q2, .inl (gcA E0 1, 1, .inr (.inl (fun _ => 0))))]) 15 := by
  subst h0
  subst hE
  exact ⟨_, (sg_R1 q0 F q1 f1 q2 _ 13 (by decide) rfl), fun d hd H h => by cases hd; exact h⟩
set_option maxRecDepth 100000 in
set_option maxHeartbeats 4000000 in
theorem fnd_16 {D : va_G} {cA : Nat → ClassId} {ad str stv : Nat → Nat} {TK SW sz : Nat} (q0 : Nat) (F : Nat → Nat → Nat) (q1 : Nat) (f1 : Nat → Nat) (q2 : Nat) (E0 E : gE) (h0 : E0 = (D, cA, fun _ => 0, ad, sz, str, stv, TK, SW)) (hE : E = (D, cA, glA q0 F q1 f1 q2, ad, sz, str, stv, TK, SW)) : gFnd E M00 ((wdW E0 q0 F ++ mdW E0 (nA q1 f1) (mCP mFR 502) mFR (mCP (mNN 65) 65) (mNN 65)) ++ [(q2, .inl (gcA E0 1, 1, .inr (.inl (fun _ => 0))))]) 16 := by
  subst h0
  subst hE
  exact ⟨_, (sg_R1 q0 F q1 f1 q2 _ 14 (by decide) rfl), fun d hd H h => by cases hd; exact h⟩
set_option maxRecDepth 100000 in
set_option maxHeartbeats 4000000 in
theorem fnd_17 {D : va_G} {cA : Nat → ClassId} {ad str stv : Nat → Nat} {TK SW sz : Nat} (q0 : Nat) (F : Nat → Nat → Nat) (q1 : Nat) (f1 : Nat → Nat) (q2 : Nat) (E0 E : gE) (h0 : E0 = (D, cA, fun _ => 0, ad, sz, str, stv, TK, SW)) (hE : E = (D, cA, glA q0 F q1 f1 q2, ad, sz, str, stv, TK, SW)) : gFnd E M00 ((wdW E0 q0 F ++ mdW E0 (nA q1 f1) (mCP mFR 502) mFR (mCP (mNN 65) 65) (mNN 65)) ++ [(q2, .inl (gcA E0 1, 1, .inr (.inl (fun _ => 0))))]) 17 := by
  subst h0
  subst hE
  exact ⟨_, (sg_R1 q0 F q1 f1 q2 _ 15 (by decide) rfl), fun d hd H h => by cases hd; exact h⟩
set_option maxRecDepth 100000 in
set_option maxHeartbeats 4000000 in
theorem fnd_18 {D : va_G} {cA : Nat → ClassId} {ad str stv : Nat → Nat} {TK SW sz : Nat} (q0 : Nat) (F : Nat → Nat → Nat) (q1 : Nat) (f1 : Nat → Nat) (q2 : Nat) (E0 E : gE) (h0 : E0 = (D, cA, fun _ => 0, ad, sz, str, stv, TK, SW)) (hE : E = (D, cA, glA q0 F q1 f1 q2, ad, sz, str, stv, TK, SW)) : gFnd E M00 ((wdW E0 q0 F ++ mdW E0 (nA q1 f1) (mCP mFR 502) mFR (mCP (mNN 65) 65) (mNN 65)) ++ [(q2, .inl (gcA E0 1, 1, .inr (.inl (fun _ => 0))))]) 18 := by
  subst h0
  subst hE
  exact ⟨_, (sg_R1 q0 F q1 f1 q2 _ 16 (by decide) rfl), fun d hd H h => by cases hd; exact h⟩
set_option maxRecDepth 100000 in
set_option maxHeartbeats 4000000 in
theorem fnd_19 {D : va_G} {cA : Nat → ClassId} {ad str stv : Nat → Nat} {TK SW sz : Nat} (q0 : Nat) (F : Nat → Nat → Nat) (q1 : Nat) (f1 : Nat → Nat) (q2 : Nat) (E0 E : gE) (h0 : E0 = (D, cA, fun _ => 0, ad, sz, str, stv, TK, SW)) (hE : E = (D, cA, glA q0 F q1 f1 q2, ad, sz, str, stv, TK, SW)) : gFnd E M00 ((wdW E0 q0 F ++ mdW E0 (nA q1 f1) (mCP mFR 502) mFR (mCP (mNN 65) 65) (mNN 65)) ++ [(q2, .inl (gcA E0 1, 1, .inr (.inl (fun _ => 0))))]) 19 := by
  subst h0
  subst hE
  exact ⟨_, (sg_R1 q0 F q1 f1 q2 _ 17 (by decide) rfl), fun d hd H h => by cases hd; exact h⟩
set_option maxRecDepth 100000 in
set_option maxHeartbeats 4000000 in
theorem fnd_20 {D : va_G} {cA : Nat → ClassId} {ad str stv : Nat → Nat} {TK SW sz : Nat} (q0 : Nat) (F : Nat → Nat → Nat) (q1 : Nat) (f1 : Nat → Nat) (q2 : Nat) (E0 E : gE) (h0 : E0 = (D, cA, fun _ => 0, ad, sz, str, stv, TK, SW)) (hE : E = (D, cA, glA q0 F q1 f1 q2, ad, sz, str, stv, TK, SW)) : gFnd E M00 ((wdW E0 q0 F ++ mdW E0 (nA q1 f1) (mCP mFR 502) mFR (mCP (mNN 65) 65) (mNN 65)) ++ [(q2, .inl (gcA E0 1, 1, .inr (.inl (fun _ => 0))))]) 20 := by
  subst h0
  subst hE
  exact ⟨_, (sg_R1 q0 F q1 f1 q2 _ 18 (by decide) rfl), fun d hd H h => by cases hd; exact h⟩
set_option maxRecDepth 100000 in
set_option maxHeartbeats 4000000 in
theorem fnd_21 {D : va_G} {cA : Nat → ClassId} {ad str stv : Nat → Nat} {TK SW sz : Nat} (q0 : Nat) (F : Nat → Nat → Nat) (q1 : Nat) (f1 : Nat → Nat) (q2 : Nat) (E0 E : gE) (h0 : E0 = (D, cA, fun _ => 0, ad, sz, str, stv, TK, SW)) (hE : E = (D, cA, glA q0 F q1 f1 q2, ad, sz, str, stv, TK, SW)) : gFnd E M00 ((wdW E0 q0 F ++ mdW E0 (nA q1 f1) (mCP mFR 502) mFR (mCP (mNN 65) 65) (mNN 65)) ++ [(q2, .inl (gcA E0 1, 1, .inr (.inl (fun _ => 0))))]) 21 := by
  subst h0
  subst hE
  exact ⟨_, (sg_R1 q0 F q1 f1 q2 _ 19 (by decide) rfl), fun d hd H h => by cases hd; exact h⟩
set_option maxRecDepth 100000 in
set_option maxHeartbeats 4000000 in
theorem fnd_22 {D : va_G} {cA : Nat → ClassId} {ad str stv : Nat → Nat} {TK SW sz : Nat} (q0 : Nat) (F : Nat → Nat → Nat) (q1 : Nat) (f1 : Nat → Nat) (q2 : Nat) (E0 E : gE) (h0 : E0 = (D, cA, fun _ => 0, ad, sz, str, stv, TK, SW)) (hE : E = (D, cA, glA q0 F q1 f1 q2, ad, sz, str, stv, TK, SW)) : gFnd E M00 ((wdW E0 q0 F ++ mdW E0 (nA q1 f1) (mCP mFR 502) mFR (mCP (mNN 65) 65) (mNN 65)) ++ [(q2, .inl (gcA E0 1, 1, .inr (.inl (fun _ => 0))))]) 22 := by
  subst h0
  subst hE
  exact ⟨_, (sg_R1 q0 F q1 f1 q2 _ 20 (by decide) rfl), fun d hd H h => by cases hd; exact h⟩
set_option maxRecDepth 100000 in
set_option maxHeartbeats 4000000 in
theorem fnd_23 {D : va_G} {cA : Nat → ClassId} {ad str stv : Nat → Nat} {TK SW sz : Nat} (q0 : Nat) (F : Nat → Nat → Nat) (q1 : Nat) (f1 : Nat → Nat) (q2 : Nat) (E0 E : gE) (h0 : E0 = (D, cA, fun _ => 0, ad, sz, str, stv, TK, SW)) (hE : E = (D, cA, glA q0 F q1 f1 q2, ad, sz, str, stv, TK, SW)) : gFnd E M00 ((wdW E0 q0 F ++ mdW E0 (nA q1 f1) (mCP mFR 502) mFR (mCP (mNN 65) 65) (mNN 65)) ++ [(q2, .inl (gcA E0 1, 1, .inr (.inl (fun _ => 0))))]) 23 := by
  subst h0
  subst hE
  exact ⟨_, (sg_R1 q0 F q1 f1 q2 _ 21 (by decide) rfl), fun d hd H h => by cases hd; exact h⟩
set_option maxRecDepth 100000 in
set_option maxHeartbeats 4000000 in
theorem fnd_24 {D : va_G} {cA : Nat → ClassId} {ad str stv : Nat → Nat} {TK SW sz : Nat} (q0 : Nat) (F : Nat → Nat → Nat) (q1 : Nat) (f1 : Nat → Nat) (q2 : Nat) (E0 E : gE) (h0 : E0 = (D, cA, fun _ => 0, ad, sz, str, stv, TK, SW)) (hE : E = (D, cA, glA q0 F q1 f1 q2, ad, sz, str, stv, TK, SW)) : gFnd E M00 ((wdW E0 q0 F ++ mdW E0 (nA q1 f1) (mCP mFR 502) mFR (mCP (mNN 65) 65) (mNN 65)) ++ [(q2, .inl (gcA E0 1, 1, .inr (.inl (fun _ => 0))))]) 24 := by
  subst h0
  subst hE
  exact ⟨_, (sg_R1 q0 F q1 f1 q2 _ 22 (by decide) rfl), fun d hd H h => by cases hd; exact h⟩
set_option maxRecDepth 100000 in
set_option maxHeartbeats 4000000 in
theorem fnd_25 {D : va_G} {cA : Nat → ClassId} {ad str stv : Nat → Nat} {TK SW sz : Nat} (q0 : Nat) (F : Nat → Nat → Nat) (q1 : Nat) (f1 : Nat → Nat) (q2 : Nat) (E0 E : gE) (h0 : E0 = (D, cA, fun _ => 0, ad, sz, str, stv, TK, SW)) (hE : E = (D, cA, glA q0 F q1 f1 q2, ad, sz, str, stv, TK, SW)) : gFnd E M00 ((wdW E0 q0 F ++ mdW E0 (nA q1 f1) (mCP mFR 502) mFR (mCP (mNN 65) 65) (mNN 65)) ++ [(q2, .inl (gcA E0 1, 1, .inr (.inl (fun _ => 0))))]) 25 := by
  subst h0
  subst hE
  exact ⟨_, (sg_R1 q0 F q1 f1 q2 _ 23 (by decide) rfl), fun d hd H h => by cases hd; exact h⟩
set_option maxRecDepth 100000 in
set_option maxHeartbeats 4000000 in
theorem fnd_26 {D : va_G} {cA : Nat → ClassId} {ad str stv : Nat → Nat} {TK SW sz : Nat} (q0 : Nat) (F : Nat → Nat → Nat) (q1 : Nat) (f1 : Nat → Nat) (q2 : Nat) (E0 E : gE) (h0 : E0 = (D, cA, fun _ => 0, ad, sz, str, stv, TK, SW)) (hE : E = (D, cA, glA q0 F q1 f1 q2, ad, sz, str, stv, TK, SW)) : gFnd E M00 ((wdW E0 q0 F ++ mdW E0 (nA q1 f1) (mCP mFR 502) mFR (mCP (mNN 65) 65) (mNN 65)) ++ [(q2, .inl (gcA E0 1, 1, .inr (.inl (fun _ => 0))))]) 26 := by
  subst h0
  subst hE
  exact ⟨_, (sg_R1 q0 F q1 f1 q2 _ 24 (by decide) rfl), fun d hd H h => by cases hd; exact h⟩
set_option maxRecDepth 100000 in
set_option maxHeartbeats 4000000 in
theorem fnd_27 {D : va_G} {cA : Nat → ClassId} {ad str stv : Nat → Nat} {TK SW sz : Nat} (q0 : Nat) (F : Nat → Nat → Nat) (q1 : Nat) (f1 : Nat → Nat) (q2 : Nat) (E0 E : gE) (h0 : E0 = (D, cA, fun _ => 0, ad, sz, str, stv, TK, SW)) (hE : E = (D, cA, glA q0 F q1 f1 q2, ad, sz, str, stv, TK, SW)) : gFnd E M00 ((wdW E0 q0 F ++ mdW E0 (nA q1 f1) (mCP mFR 502) mFR (mCP (mNN 65) 65) (mNN 65)) ++ [(q2, .inl (gcA E0 1, 1, .inr (.inl (fun _ => 0))))]) 27 := by
  subst h0
  subst hE
  exact ⟨_, (sg_R1 q0 F q1 f1 q2 _ 25 (by decide) rfl), fun d hd H h => by cases hd; exact h⟩
set_option maxRecDepth 100000 in
set_option maxHeartbeats 4000000 in
theorem fnd_28 {D : va_G} {cA : Nat → ClassId} {ad str stv : Nat → Nat} {TK SW sz : Nat} (q0 : Nat) (F : Nat → Nat → Nat) (q1 : Nat) (f1 : Nat → Nat) (q2 : Nat) (E0 E : gE) (h0 : E0 = (D, cA, fun _ => 0, ad, sz, str, stv, TK, SW)) (hE : E = (D, cA, glA q0 F q1 f1 q2, ad, sz, str, stv, TK, SW)) : gFnd E M00 ((wdW E0 q0 F ++ mdW E0 (nA q1 f1) (mCP mFR 502) mFR (mCP (mNN 65) 65) (mNN 65)) ++ [(q2, .inl (gcA E0 1, 1, .inr (.inl (fun _ => 0))))]) 28 := by
  subst h0
  subst hE
  exact ⟨_, (sg_R1 q0 F q1 f1 q2 _ 26 (by decide) rfl), fun d hd H h => by cases hd; exact h⟩
set_option maxRecDepth 100000 in
set_option maxHeartbeats 4000000 in
theorem fnd_29 {D : va_G} {cA : Nat → ClassId} {ad str stv : Nat → Nat} {TK SW sz : Nat} (q0 : Nat) (F : Nat → Nat → Nat) (q1 : Nat) (f1 : Nat → Nat) (q2 : Nat) (E0 E : gE) (h0 : E0 = (D, cA, fun _ => 0, ad, sz, str, stv, TK, SW)) (hE : E = (D, cA, glA q0 F q1 f1 q2, ad, sz, str, stv, TK, SW)) : gFnd E M00 ((wdW E0 q0 F ++ mdW E0 (nA q1 f1) (mCP mFR 502) mFR (mCP (mNN 65) 65) (mNN 65)) ++ [(q2, .inl (gcA E0 1, 1, .inr (.inl (fun _ => 0))))]) 29 := by
  subst h0
  subst hE
  exact ⟨_, (sg_R1 q0 F q1 f1 q2 _ 27 (by decide) rfl), fun d hd H h => by cases hd; exact h⟩
set_option maxRecDepth 100000 in
set_option maxHeartbeats 4000000 in
theorem fnd_30 {D : va_G} {cA : Nat → ClassId} {ad str stv : Nat → Nat} {TK SW sz : Nat} (q0 : Nat) (F : Nat → Nat → Nat) (q1 : Nat) (f1 : Nat → Nat) (q2 : Nat) (E0 E : gE) (h0 : E0 = (D, cA, fun _ => 0, ad, sz, str, stv, TK, SW)) (hE : E = (D, cA, glA q0 F q1 f1 q2, ad, sz, str, stv, TK, SW)) : gFnd E M00 ((wdW E0 q0 F ++ mdW E0 (nA q1 f1) (mCP mFR 502) mFR (mCP (mNN 65) 65) (mNN 65)) ++ [(q2, .inl (gcA E0 1, 1, .inr (.inl (fun _ => 0))))]) 30 := by
  subst h0
  subst hE
  exact ⟨_, (sg_R1 q0 F q1 f1 q2 _ 28 (by decide) rfl), fun d hd H h => by cases hd; exact h⟩
set_option maxRecDepth 100000 in
set_option maxHeartbeats 4000000 in
theorem fnd_31 {D : va_G} {cA : Nat → ClassId} {ad str stv : Nat → Nat} {TK SW sz : Nat} (q0 : Nat) (F : Nat → Nat → Nat) (q1 : Nat) (f1 : Nat → Nat) (q2 : Nat) (E0 E : gE) (h0 : E0 = (D, cA, fun _ => 0, ad, sz, str, stv, TK, SW)) (hE : E = (D, cA, glA q0 F q1 f1 q2, ad, sz, str, stv, TK, SW)) : gFnd E M00 ((wdW E0 q0 F ++ mdW E0 (nA q1 f1) (mCP mFR 502) mFR (mCP (mNN 65) 65) (mNN 65)) ++ [(q2, .inl (gcA E0 1, 1, .inr (.inl (fun _ => 0))))]) 31 := by
  subst h0
  subst hE
  exact ⟨_, (sg_R1 q0 F q1 f1 q2 _ 29 (by decide) rfl), fun d hd H h => by cases hd; exact h⟩
set_option maxRecDepth 100000 in
set_option maxHeartbeats 4000000 in
theorem fnd_32 {D : va_G} {cA : Nat → ClassId} {ad str stv : Nat → Nat} {TK SW sz : Nat} (q0 : Nat) (F : Nat → Nat → Nat) (q1 : Nat) (f1 : Nat → Nat) (q2 : Nat) (E0 E : gE) (h0 : E0 = (D, cA, fun _ => 0, ad, sz, str, stv, TK, SW)) (hE : E = (D, cA, glA q0 F q1 f1 q2, ad, sz, str, stv, TK, SW)) : gFnd E M00 ((wdW E0 q0 F ++ mdW E0 (nA q1 f1) (mCP mFR 502) mFR (mCP (mNN 65) 65) (mNN 65)) ++ [(q2, .inl (gcA E0 1, 1, .inr (.inl (fun _ => 0))))]) 32 := by
  subst h0
  subst hE
  exact ⟨_, (sg_R1 q0 F q1 f1 q2 _ 30 (by decide) rfl), fun d hd H h => by cases hd; exact h⟩
set_option maxRecDepth 100000 in
set_option maxHeartbeats 4000000 in
theorem fnd_33 {D : va_G} {cA : Nat → ClassId} {ad str stv : Nat → Nat} {TK SW sz : Nat} (q0 : Nat) (F : Nat → Nat → Nat) (q1 : Nat) (f1 : Nat → Nat) (q2 : Nat) (E0 E : gE) (h0 : E0 = (D, cA, fun _ => 0, ad, sz, str, stv, TK, SW)) (hE : E = (D, cA, glA q0 F q1 f1 q2, ad, sz, str, stv, TK, SW)) : gFnd E M00 ((wdW E0 q0 F ++ mdW E0 (nA q1 f1) (mCP mFR 502) mFR (mCP (mNN 65) 65) (mNN 65)) ++ [(q2, .inl (gcA E0 1, 1, .inr (.inl (fun _ => 0))))]) 33 := by
  subst h0
  subst hE
  exact ⟨_, (sg_R1 q0 F q1 f1 q2 _ 31 (by decide) rfl), fun d hd H h => by cases hd; exact h⟩
set_option maxRecDepth 100000 in
set_option maxHeartbeats 4000000 in
theorem fnd_34 {D : va_G} {cA : Nat → ClassId} {ad str stv : Nat → Nat} {TK SW sz : Nat} (q0 : Nat) (F : Nat → Nat → Nat) (q1 : Nat) (f1 : Nat → Nat) (q2 : Nat) (E0 E : gE) (h0 : E0 = (D, cA, fun _ => 0, ad, sz, str, stv, TK, SW)) (hE : E = (D, cA, glA q0 F q1 f1 q2, ad, sz, str, stv, TK, SW)) : gFnd E M00 ((wdW E0 q0 F ++ mdW E0 (nA q1 f1) (mCP mFR 502) mFR (mCP (mNN 65) 65) (mNN 65)) ++ [(q2, .inl (gcA E0 1, 1, .inr (.inl (fun _ => 0))))]) 34 := by
  subst h0
  subst hE
  exact ⟨_, (sg_R1 q0 F q1 f1 q2 _ 32 (by decide) rfl), fun d hd H h => by cases hd; exact h⟩
set_option maxRecDepth 100000 in
set_option maxHeartbeats 4000000 in
theorem fnd_35 {D : va_G} {cA : Nat → ClassId} {ad str stv : Nat → Nat} {TK SW sz : Nat} (q0 : Nat) (F : Nat → Nat → Nat) (q1 : Nat) (f1 : Nat → Nat) (q2 : Nat) (E0 E : gE) (h0 : E0 = (D, cA, fun _ => 0, ad, sz, str, stv, TK, SW)) (hE : E = (D, cA, glA q0 F q1 f1 q2, ad, sz, str, stv, TK, SW)) : gFnd E M00 ((wdW E0 q0 F ++ mdW E0 (nA q1 f1) (mCP mFR 502) mFR (mCP (mNN 65) 65) (mNN 65)) ++ [(q2, .inl (gcA E0 1, 1, .inr (.inl (fun _ => 0))))]) 35 := by
  subst h0
  subst hE
  exact ⟨_, (sg_R1 q0 F q1 f1 q2 _ 33 (by decide) rfl), fun d hd H h => by cases hd; exact h⟩
set_option maxRecDepth 100000 in
set_option maxHeartbeats 4000000 in
theorem fnd_36 {D : va_G} {cA : Nat → ClassId} {ad str stv : Nat → Nat} {TK SW sz : Nat} (q0 : Nat) (F : Nat → Nat → Nat) (q1 : Nat) (f1 : Nat → Nat) (q2 : Nat) (E0 E : gE) (h0 : E0 = (D, cA, fun _ => 0, ad, sz, str, stv, TK, SW)) (hE : E = (D, cA, glA q0 F q1 f1 q2, ad, sz, str, stv, TK, SW)) : gFnd E M00 ((wdW E0 q0 F ++ mdW E0 (nA q1 f1) (mCP mFR 502) mFR (mCP (mNN 65) 65) (mNN 65)) ++ [(q2, .inl (gcA E0 1, 1, .inr (.inl (fun _ => 0))))]) 36 := by
  subst h0
  subst hE
  exact ⟨_, (sg_R1 q0 F q1 f1 q2 _ 34 (by decide) rfl), fun d hd H h => by cases hd; exact h⟩
set_option maxRecDepth 100000 in
set_option maxHeartbeats 4000000 in
theorem fnd_37 {D : va_G} {cA : Nat → ClassId} {ad str stv : Nat → Nat} {TK SW sz : Nat} (q0 : Nat) (F : Nat → Nat → Nat) (q1 : Nat) (f1 : Nat → Nat) (q2 : Nat) (E0 E : gE) (h0 : E0 = (D, cA, fun _ => 0, ad, sz, str, stv, TK, SW)) (hE : E = (D, cA, glA q0 F q1 f1 q2, ad, sz, str, stv, TK, SW)) : gFnd E M00 ((wdW E0 q0 F ++ mdW E0 (nA q1 f1) (mCP mFR 502) mFR (mCP (mNN 65) 65) (mNN 65)) ++ [(q2, .inl (gcA E0 1, 1, .inr (.inl (fun _ => 0))))]) 37 := by
  subst h0
  subst hE
  exact ⟨_, (sg_R1 q0 F q1 f1 q2 _ 35 (by decide) rfl), fun d hd H h => by cases hd; exact h⟩
set_option maxRecDepth 100000 in
set_option maxHeartbeats 4000000 in
theorem fnd_38 {D : va_G} {cA : Nat → ClassId} {ad str stv : Nat → Nat} {TK SW sz : Nat} (q0 : Nat) (F : Nat → Nat → Nat) (q1 : Nat) (f1 : Nat → Nat) (q2 : Nat) (E0 E : gE) (h0 : E0 = (D, cA, fun _ => 0, ad, sz, str, stv, TK, SW)) (hE : E = (D, cA, glA q0 F q1 f1 q2, ad, sz, str, stv, TK, SW)) : gFnd E M00 ((wdW E0 q0 F ++ mdW E0 (nA q1 f1) (mCP mFR 502) mFR (mCP (mNN 65) 65) (mNN 65)) ++ [(q2, .inl (gcA E0 1, 1, .inr (.inl (fun _ => 0))))]) 38 := by
  subst h0
  subst hE
  exact ⟨_, (sg_R1 q0 F q1 f1 q2 _ 36 (by decide) rfl), fun d hd H h => by cases hd; exact h⟩
set_option maxRecDepth 100000 in
set_option maxHeartbeats 4000000 in
theorem fnd_39 {D : va_G} {cA : Nat → ClassId} {ad str stv : Nat → Nat} {TK SW sz : Nat} (q0 : Nat) (F : Nat → Nat → Nat) (q1 : Nat) (f1 : Nat → Nat) (q2 : Nat) (E0 E : gE) (h0 : E0 = (D, cA, fun _ => 0, ad, sz, str, stv, TK, SW)) (hE : E = (D, cA, glA q0 F q1 f1 q2, ad, sz, str, stv, TK, SW)) : gFnd E M00 ((wdW E0 q0 F ++ mdW E0 (nA q1 f1) (mCP mFR 502) mFR (mCP (mNN 65) 65) (mNN 65)) ++ [(q2, .inl (gcA E0 1, 1, .inr (.inl (fun _ => 0))))]) 39 := by
  subst h0
  subst hE
  exact ⟨_, (sg_R1 q0 F q1 f1 q2 _ 37 (by decide) rfl), fun d hd H h => by cases hd; exact h⟩
set_option maxRecDepth 100000 in
set_option maxHeartbeats 4000000 in
theorem fnd_40 {D : va_G} {cA : Nat → ClassId} {ad str stv : Nat → Nat} {TK SW sz : Nat} (q0 : Nat) (F : Nat → Nat → Nat) (q1 : Nat) (f1 : Nat → Nat) (q2 : Nat) (E0 E : gE) (h0 : E0 = (D, cA, fun _ => 0, ad, sz, str, stv, TK, SW)) (hE : E = (D, cA, glA q0 F q1 f1 q2, ad, sz, str, stv, TK, SW)) : gFnd E M00 ((wdW E0 q0 F ++ mdW E0 (nA q1 f1) (mCP mFR 502) mFR (mCP (mNN 65) 65) (mNN 65)) ++ [(q2, .inl (gcA E0 1, 1, .inr (.inl (fun _ => 0))))]) 40 := by
  subst h0
  subst hE
  exact ⟨_, (sg_R1 q0 F q1 f1 q2 _ 38 (by decide) rfl), fun d hd H h => by cases hd; exact h⟩
set_option maxRecDepth 100000 in
set_option maxHeartbeats 4000000 in
theorem fnd_41 {D : va_G} {cA : Nat → ClassId} {ad str stv : Nat → Nat} {TK SW sz : Nat} (q0 : Nat) (F : Nat → Nat → Nat) (q1 : Nat) (f1 : Nat → Nat) (q2 : Nat) (E0 E : gE) (h0 : E0 = (D, cA, fun _ => 0, ad, sz, str, stv, TK, SW)) (hE : E = (D, cA, glA q0 F q1 f1 q2, ad, sz, str, stv, TK, SW)) : gFnd E M00 ((wdW E0 q0 F ++ mdW E0 (nA q1 f1) (mCP mFR 502) mFR (mCP (mNN 65) 65) (mNN 65)) ++ [(q2, .inl (gcA E0 1, 1, .inr (.inl (fun _ => 0))))]) 41 := by
  subst h0
  subst hE
  exact ⟨_, (sg_R1 q0 F q1 f1 q2 _ 39 (by decide) rfl), fun d hd H h => by cases hd; exact h⟩
set_option maxRecDepth 100000 in
set_option maxHeartbeats 4000000 in
theorem fnd_42 {D : va_G} {cA : Nat → ClassId} {ad str stv : Nat → Nat} {TK SW sz : Nat} (q0 : Nat) (F : Nat → Nat → Nat) (q1 : Nat) (f1 : Nat → Nat) (q2 : Nat) (E0 E : gE) (h0 : E0 = (D, cA, fun _ => 0, ad, sz, str, stv, TK, SW)) (hE : E = (D, cA, glA q0 F q1 f1 q2, ad, sz, str, stv, TK, SW)) : gFnd E M00 ((wdW E0 q0 F ++ mdW E0 (nA q1 f1) (mCP mFR 502) mFR (mCP (mNN 65) 65) (mNN 65)) ++ [(q2, .inl (gcA E0 1, 1, .inr (.inl (fun _ => 0))))]) 42 := by
  subst h0
  subst hE
  exact ⟨_, (sg_R1 q0 F q1 f1 q2 _ 40 (by decide) rfl), fun d hd H h => by cases hd; exact h⟩
set_option maxRecDepth 100000 in
set_option maxHeartbeats 4000000 in
theorem fnd_43 {D : va_G} {cA : Nat → ClassId} {ad str stv : Nat → Nat} {TK SW sz : Nat} (q0 : Nat) (F : Nat → Nat → Nat) (q1 : Nat) (f1 : Nat → Nat) (q2 : Nat) (E0 E : gE) (h0 : E0 = (D, cA, fun _ => 0, ad, sz, str, stv, TK, SW)) (hE : E = (D, cA, glA q0 F q1 f1 q2, ad, sz, str, stv, TK, SW)) : gFnd E M00 ((wdW E0 q0 F ++ mdW E0 (nA q1 f1) (mCP mFR 502) mFR (mCP (mNN 65) 65) (mNN 65)) ++ [(q2, .inl (gcA E0 1, 1, .inr (.inl (fun _ => 0))))]) 43 := by
  subst h0
  subst hE
  exact ⟨_, (sg_R1 q0 F q1 f1 q2 _ 41 (by decide) rfl), fun d hd H h => by cases hd; exact h⟩
set_option maxRecDepth 100000 in
set_option maxHeartbeats 4000000 in
theorem fnd_44 {D : va_G} {cA : Nat → ClassId} {ad str stv : Nat → Nat} {TK SW sz : Nat} (q0 : Nat) (F : Nat → Nat → Nat) (q1 : Nat) (f1 : Nat → Nat) (q2 : Nat) (E0 E : gE) (h0 : E0 = (D, cA, fun _ => 0, ad, sz, str, stv, TK, SW)) (hE : E = (D, cA, glA q0 F q1 f1 q2, ad, sz, str, stv, TK, SW)) : gFnd E M00 ((wdW E0 q0 F ++ mdW E0 (nA q1 f1) (mCP mFR 502) mFR (mCP (mNN 65) 65) (mNN 65)) ++ [(q2, .inl (gcA E0 1, 1, .inr (.inl (fun _ => 0))))]) 44 := by
  subst h0
  subst hE
  exact ⟨_, (sg_R1 q0 F q1 f1 q2 _ 42 (by decide) rfl), fun d hd H h => by cases hd; exact h⟩
set_option maxRecDepth 100000 in
set_option maxHeartbeats 4000000 in
theorem fnd_45 {D : va_G} {cA : Nat → ClassId} {ad str stv : Nat → Nat} {TK SW sz : Nat} (q0 : Nat) (F : Nat → Nat → Nat) (q1 : Nat) (f1 : Nat → Nat) (q2 : Nat) (E0 E : gE) (h0 : E0 = (D, cA, fun _ => 0, ad, sz, str, stv, TK, SW)) (hE : E = (D, cA, glA q0 F q1 f1 q2, ad, sz, str, stv, TK, SW)) : gFnd E M00 ((wdW E0 q0 F ++ mdW E0 (nA q1 f1) (mCP mFR 502) mFR (mCP (mNN 65) 65) (mNN 65)) ++ [(q2, .inl (gcA E0 1, 1, .inr (.inl (fun _ => 0))))]) 45 := by
  subst h0
  subst hE
  exact ⟨_, (sg_R1 q0 F q1 f1 q2 _ 43 (by decide) rfl), fun d hd H h => by cases hd; exact h⟩
set_option maxRecDepth 100000 in
set_option maxHeartbeats 4000000 in
theorem fnd_46 {D : va_G} {cA : Nat → ClassId} {ad str stv : Nat → Nat} {TK SW sz : Nat} (q0 : Nat) (F : Nat → Nat → Nat) (q1 : Nat) (f1 : Nat → Nat) (q2 : Nat) (E0 E : gE) (h0 : E0 = (D, cA, fun _ => 0, ad, sz, str, stv, TK, SW)) (hE : E = (D, cA, glA q0 F q1 f1 q2, ad, sz, str, stv, TK, SW)) : gFnd E M00 ((wdW E0 q0 F ++ mdW E0 (nA q1 f1) (mCP mFR 502) mFR (mCP (mNN 65) 65) (mNN 65)) ++ [(q2, .inl (gcA E0 1, 1, .inr (.inl (fun _ => 0))))]) 46 := by
  subst h0
  subst hE
  exact ⟨_, (sg_R1 q0 F q1 f1 q2 _ 44 (by decide) rfl), fun d hd H h => by cases hd; exact h⟩
set_option maxRecDepth 100000 in
set_option maxHeartbeats 4000000 in
theorem fnd_47 {D : va_G} {cA : Nat → ClassId} {ad str stv : Nat → Nat} {TK SW sz : Nat} (q0 : Nat) (F : Nat → Nat → Nat) (q1 : Nat) (f1 : Nat → Nat) (q2 : Nat) (E0 E : gE) (h0 : E0 = (D, cA, fun _ => 0, ad, sz, str, stv, TK, SW)) (hE : E = (D, cA, glA q0 F q1 f1 q2, ad, sz, str, stv, TK, SW)) : gFnd E M00 ((wdW E0 q0 F ++ mdW E0 (nA q1 f1) (mCP mFR 502) mFR (mCP (mNN 65) 65) (mNN 65)) ++ [(q2, .inl (gcA E0 1, 1, .inr (.inl (fun _ => 0))))]) 47 := by
  subst h0
  subst hE
  exact ⟨_, (sg_R1 q0 F q1 f1 q2 _ 45 (by decide) rfl), fun d hd H h => by cases hd; exact h⟩
set_option maxRecDepth 100000 in
set_option maxHeartbeats 4000000 in
theorem fnd_48 {D : va_G} {cA : Nat → ClassId} {ad str stv : Nat → Nat} {TK SW sz : Nat} (q0 : Nat) (F : Nat → Nat → Nat) (q1 : Nat) (f1 : Nat → Nat) (q2 : Nat) (E0 E : gE) (h0 : E0 = (D, cA, fun _ => 0, ad, sz, str, stv, TK, SW)) (hE : E = (D, cA, glA q0 F q1 f1 q2, ad, sz, str, stv, TK, SW)) : gFnd E M00 ((wdW E0 q0 F ++ mdW E0 (nA q1 f1) (mCP mFR 502) mFR (mCP (mNN 65) 65) (mNN 65)) ++ [(q2, .inl (gcA E0 1, 1, .inr (.inl (fun _ => 0))))]) 48 := by
  subst h0
  subst hE
  exact ⟨_, (sg_R1 q0 F q1 f1 q2 _ 46 (by decide) rfl), fun d hd H h => by cases hd; exact h⟩
set_option maxRecDepth 100000 in
set_option maxHeartbeats 4000000 in
theorem fnd_49 {D : va_G} {cA : Nat → ClassId} {ad str stv : Nat → Nat} {TK SW sz : Nat} (q0 : Nat) (F : Nat → Nat → Nat) (q1 : Nat) (f1 : Nat → Nat) (q2 : Nat) (E0 E : gE) (h0 : E0 = (D, cA, fun _ => 0, ad, sz, str, stv, TK, SW)) (hE : E = (D, cA, glA q0 F q1 f1 q2, ad, sz, str, stv, TK, SW)) : gFnd E M00 ((wdW E0 q0 F ++ mdW E0 (nA q1 f1) (mCP mFR 502) mFR (mCP (mNN 65) 65) (mNN 65)) ++ [(q2, .inl (gcA E0 1, 1, .inr (.inl (fun _ => 0))))]) 49 := by
  subst h0
  subst hE
  exact ⟨_, (sg_R1 q0 F q1 f1 q2 _ 47 (by decide) rfl), fun d hd H h => by cases hd; exact h⟩
set_option maxRecDepth 100000 in
set_option maxHeartbeats 4000000 in
theorem fnd_50 {D : va_G} {cA : Nat → ClassId} {ad str stv : Nat → Nat} {TK SW sz : Nat} (q0 : Nat) (F : Nat → Nat → Nat) (q1 : Nat) (f1 : Nat → Nat) (q2 : Nat) (E0 E : gE) (h0 : E0 = (D, cA, fun _ => 0, ad, sz, str, stv, TK, SW)) (hE : E = (D, cA, glA q0 F q1 f1 q2, ad, sz, str, stv, TK, SW)) : gFnd E M00 ((wdW E0 q0 F ++ mdW E0 (nA q1 f1) (mCP mFR 502) mFR (mCP (mNN 65) 65) (mNN 65)) ++ [(q2, .inl (gcA E0 1, 1, .inr (.inl (fun _ => 0))))]) 50 := by
  subst h0
  subst hE
  exact ⟨_, (sg_R1 q0 F q1 f1 q2 _ 48 (by decide) rfl), fun d hd H h => by cases hd; exact h⟩
set_option maxRecDepth 100000 in
set_option maxHeartbeats 4000000 in
theorem fnd_51 {D : va_G} {cA : Nat → ClassId} {ad str stv : Nat → Nat} {TK SW sz : Nat} (q0 : Nat) (F : Nat → Nat → Nat) (q1 : Nat) (f1 : Nat → Nat) (q2 : Nat) (E0 E : gE) (h0 : E0 = (D, cA, fun _ => 0, ad, sz, str, stv, TK, SW)) (hE : E = (D, cA, glA q0 F q1 f1 q2, ad, sz, str, stv, TK, SW)) : gFnd E M00 ((wdW E0 q0 F ++ mdW E0 (nA q1 f1) (mCP mFR 502) mFR (mCP (mNN 65) 65) (mNN 65)) ++ [(q2, .inl (gcA E0 1, 1, .inr (.inl (fun _ => 0))))]) 51 := by
  subst h0
  subst hE
  exact ⟨_, (sg_R1 q0 F q1 f1 q2 _ 49 (by decide) rfl), fun d hd H h => by cases hd; exact h⟩
set_option maxRecDepth 100000 in
set_option maxHeartbeats 4000000 in
theorem fnd_52 {D : va_G} {cA : Nat → ClassId} {ad str stv : Nat → Nat} {TK SW sz : Nat} (q0 : Nat) (F : Nat → Nat → Nat) (q1 : Nat) (f1 : Nat → Nat) (q2 : Nat) (E0 E : gE) (h0 : E0 = (D, cA, fun _ => 0, ad, sz, str, stv, TK, SW)) (hE : E = (D, cA, glA q0 F q1 f1 q2, ad, sz, str, stv, TK, SW)) : gFnd E M00 ((wdW E0 q0 F ++ mdW E0 (nA q1 f1) (mCP mFR 502) mFR (mCP (mNN 65) 65) (mNN 65)) ++ [(q2, .inl (gcA E0 1, 1, .inr (.inl (fun _ => 0))))]) 52 := by
  subst h0
  subst hE
  exact ⟨_, (sg_R1 q0 F q1 f1 q2 _ 50 (by decide) rfl), fun d hd H h => by cases hd; exact h⟩
set_option maxRecDepth 100000 in
set_option maxHeartbeats 4000000 in
theorem fnd_53 {D : va_G} {cA : Nat → ClassId} {ad str stv : Nat → Nat} {TK SW sz : Nat} (q0 : Nat) (F : Nat → Nat → Nat) (q1 : Nat) (f1 : Nat → Nat) (q2 : Nat) (E0 E : gE) (h0 : E0 = (D, cA, fun _ => 0, ad, sz, str, stv, TK, SW)) (hE : E = (D, cA, glA q0 F q1 f1 q2, ad, sz, str, stv, TK, SW)) : gFnd E M00 ((wdW E0 q0 F ++ mdW E0 (nA q1 f1) (mCP mFR 502) mFR (mCP (mNN 65) 65) (mNN 65)) ++ [(q2, .inl (gcA E0 1, 1, .inr (.inl (fun _ => 0))))]) 53 := by
  subst h0
  subst hE
  exact ⟨_, (sg_R1 q0 F q1 f1 q2 _ 51 (by decide) rfl), fun d hd H h => by cases hd; exact h⟩
set_option maxRecDepth 100000 in
set_option maxHeartbeats 4000000 in
theorem fnd_54 {D : va_G} {cA : Nat → ClassId} {ad str stv : Nat → Nat} {TK SW sz : Nat} (q0 : Nat) (F : Nat → Nat → Nat) (q1 : Nat) (f1 : Nat → Nat) (q2 : Nat) (E0 E : gE) (h0 : E0 = (D, cA, fun _ => 0, ad, sz, str, stv, TK, SW)) (hE : E = (D, cA, glA q0 F q1 f1 q2, ad, sz, str, stv, TK, SW)) : gFnd E M00 ((wdW E0 q0 F ++ mdW E0 (nA q1 f1) (mCP mFR 502) mFR (mCP (mNN 65) 65) (mNN 65)) ++ [(q2, .inl (gcA E0 1, 1, .inr (.inl (fun _ => 0))))]) 54 := by
  subst h0
  subst hE
  exact ⟨_, (sg_R1 q0 F q1 f1 q2 _ 52 (by decide) rfl), fun d hd H h => by cases hd; exact h⟩
set_option maxRecDepth 100000 in
set_option maxHeartbeats 4000000 in
theorem fnd_55 {D : va_G} {cA : Nat → ClassId} {ad str stv : Nat → Nat} {TK SW sz : Nat} (q0 : Nat) (F : Nat → Nat → Nat) (q1 : Nat) (f1 : Nat → Nat) (q2 : Nat) (E0 E : gE) (h0 : E0 = (D, cA, fun _ => 0, ad, sz, str, stv, TK, SW)) (hE : E = (D, cA, glA q0 F q1 f1 q2, ad, sz, str, stv, TK, SW)) : gFnd E M00 ((wdW E0 q0 F ++ mdW E0 (nA q1 f1) (mCP mFR 502) mFR (mCP (mNN 65) 65) (mNN 65)) ++ [(q2, .inl (gcA E0 1, 1, .inr (.inl (fun _ => 0))))]) 55 := by
  subst h0
  subst hE
  exact ⟨_, (sg_R1 q0 F q1 f1 q2 _ 53 (by decide) rfl), fun d hd H h => by cases hd; exact h⟩
set_option maxRecDepth 100000 in
set_option maxHeartbeats 4000000 in
theorem fnd_56 {D : va_G} {cA : Nat → ClassId} {ad str stv : Nat → Nat} {TK SW sz : Nat} (q0 : Nat) (F : Nat → Nat → Nat) (q1 : Nat) (f1 : Nat → Nat) (q2 : Nat) (E0 E : gE) (h0 : E0 = (D, cA, fun _ => 0, ad, sz, str, stv, TK, SW)) (hE : E = (D, cA, glA q0 F q1 f1 q2, ad, sz, str, stv, TK, SW)) : gFnd E M00 ((wdW E0 q0 F ++ mdW E0 (nA q1 f1) (mCP mFR 502) mFR (mCP (mNN 65) 65) (mNN 65)) ++ [(q2, .inl (gcA E0 1, 1, .inr (.inl (fun _ => 0))))]) 56 := by
  subst h0
  subst hE
  exact ⟨_, (sg_R1 q0 F q1 f1 q2 _ 54 (by decide) rfl), fun d hd H h => by cases hd; exact h⟩
set_option maxRecDepth 100000 in
set_option maxHeartbeats 4000000 in
theorem fnd_57 {D : va_G} {cA : Nat → ClassId} {ad str stv : Nat → Nat} {TK SW sz : Nat} (q0 : Nat) (F : Nat → Nat → Nat) (q1 : Nat) (f1 : Nat → Nat) (q2 : Nat) (E0 E : gE) (h0 : E0 = (D, cA, fun _ => 0, ad, sz, str, stv, TK, SW)) (hE : E = (D, cA, glA q0 F q1 f1 q2, ad, sz, str, stv, TK, SW)) : gFnd E M00 ((wdW E0 q0 F ++ mdW E0 (nA q1 f1) (mCP mFR 502) mFR (mCP (mNN 65) 65) (mNN 65)) ++ [(q2, .inl (gcA E0 1, 1, .inr (.inl (fun _ => 0))))]) 57 := by
  subst h0
  subst hE
  exact ⟨_, (sg_R1 q0 F q1 f1 q2 _ 55 (by decide) rfl), fun d hd H h => by cases hd; exact h⟩
set_option maxRecDepth 100000 in
set_option maxHeartbeats 4000000 in
theorem fnd_58 {D : va_G} {cA : Nat → ClassId} {ad str stv : Nat → Nat} {TK SW sz : Nat} (q0 : Nat) (F : Nat → Nat → Nat) (q1 : Nat) (f1 : Nat → Nat) (q2 : Nat) (E0 E : gE) (h0 : E0 = (D, cA, fun _ => 0, ad, sz, str, stv, TK, SW)) (hE : E = (D, cA, glA q0 F q1 f1 q2, ad, sz, str, stv, TK, SW)) : gFnd E M00 ((wdW E0 q0 F ++ mdW E0 (nA q1 f1) (mCP mFR 502) mFR (mCP (mNN 65) 65) (mNN 65)) ++ [(q2, .inl (gcA E0 1, 1, .inr (.inl (fun _ => 0))))]) 58 := by
  subst h0
  subst hE
  exact ⟨_, (sg_R1 q0 F q1 f1 q2 _ 56 (by decide) rfl), fun d hd H h => by cases hd; exact h⟩
set_option maxRecDepth 100000 in
set_option maxHeartbeats 4000000 in
theorem fnd_59 {D : va_G} {cA : Nat → ClassId} {ad str stv : Nat → Nat} {TK SW sz : Nat} (q0 : Nat) (F : Nat → Nat → Nat) (q1 : Nat) (f1 : Nat → Nat) (q2 : Nat) (E0 E : gE) (h0 : E0 = (D, cA, fun _ => 0, ad, sz, str, stv, TK, SW)) (hE : E = (D, cA, glA q0 F q1 f1 q2, ad, sz, str, stv, TK, SW)) : gFnd E M00 ((wdW E0 q0 F ++ mdW E0 (nA q1 f1) (mCP mFR 502) mFR (mCP (mNN 65) 65) (mNN 65)) ++ [(q2, .inl (gcA E0 1, 1, .inr (.inl (fun _ => 0))))]) 59 := by
  subst h0
  subst hE
  exact ⟨_, (sg_R1 q0 F q1 f1 q2 _ 57 (by decide) rfl), fun d hd H h => by cases hd; exact h⟩
set_option maxRecDepth 100000 in
set_option maxHeartbeats 4000000 in
theorem fnd_60 {D : va_G} {cA : Nat → ClassId} {ad str stv : Nat → Nat} {TK SW sz : Nat} (q0 : Nat) (F : Nat → Nat → Nat) (q1 : Nat) (f1 : Nat → Nat) (q2 : Nat) (E0 E : gE) (h0 : E0 = (D, cA, fun _ => 0, ad, sz, str, stv, TK, SW)) (hE : E = (D, cA, glA q0 F q1 f1 q2, ad, sz, str, stv, TK, SW)) : gFnd E M00 ((wdW E0 q0 F ++ mdW E0 (nA q1 f1) (mCP mFR 502) mFR (mCP (mNN 65) 65) (mNN 65)) ++ [(q2, .inl (gcA E0 1, 1, .inr (.inl (fun _ => 0))))]) 60 := by
  subst h0
  subst hE
  exact ⟨_, (sg_R1 q0 F q1 f1 q2 _ 58 (by decide) rfl), fun d hd H h => by cases hd; exact h⟩
set_option maxRecDepth 100000 in
set_option maxHeartbeats 4000000 in
theorem fnd_61 {D : va_G} {cA : Nat → ClassId} {ad str stv : Nat → Nat} {TK SW sz : Nat} (q0 : Nat) (F : Nat → Nat → Nat) (q1 : Nat) (f1 : Nat → Nat) (q2 : Nat) (E0 E : gE) (h0 : E0 = (D, cA, fun _ => 0, ad, sz, str, stv, TK, SW)) (hE : E = (D, cA, glA q0 F q1 f1 q2, ad, sz, str, stv, TK, SW)) : gFnd E M00 ((wdW E0 q0 F ++ mdW E0 (nA q1 f1) (mCP mFR 502) mFR (mCP (mNN 65) 65) (mNN 65)) ++ [(q2, .inl (gcA E0 1, 1, .inr (.inl (fun _ => 0))))]) 61 := by
  subst h0
  subst hE
  exact ⟨_, (sg_R1 q0 F q1 f1 q2 _ 59 (by decide) rfl), fun d hd H h => by cases hd; exact h⟩
set_option maxRecDepth 100000 in
set_option maxHeartbeats 4000000 in
theorem fnd_62 {D : va_G} {cA : Nat → ClassId} {ad str stv : Nat → Nat} {TK SW sz : Nat} (q0 : Nat) (F : Nat → Nat → Nat) (q1 : Nat) (f1 : Nat → Nat) (q2 : Nat) (E0 E : gE) (h0 : E0 = (D, cA, fun _ => 0, ad, sz, str, stv, TK, SW)) (hE : E = (D, cA, glA q0 F q1 f1 q2, ad, sz, str, stv, TK, SW)) : gFnd E M00 ((wdW E0 q0 F ++ mdW E0 (nA q1 f1) (mCP mFR 502) mFR (mCP (mNN 65) 65) (mNN 65)) ++ [(q2, .inl (gcA E0 1, 1, .inr (.inl (fun _ => 0))))]) 62 := by
  subst h0
  subst hE
  exact ⟨_, (sg_R1 q0 F q1 f1 q2 _ 60 (by decide) rfl), fun d hd H h => by cases hd; exact h⟩
set_option maxRecDepth 100000 in
set_option maxHeartbeats 4000000 in
theorem fnd_63 {D : va_G} {cA : Nat → ClassId} {ad str stv : Nat → Nat} {TK SW sz : Nat} (q0 : Nat) (F : Nat → Nat → Nat) (q1 : Nat) (f1 : Nat → Nat) (q2 : Nat) (E0 E : gE) (h0 : E0 = (D, cA, fun _ => 0, ad, sz, str, stv, TK, SW)) (hE : E = (D, cA, glA q0 F q1 f1 q2, ad, sz, str, stv, TK, SW)) : gFnd E M00 ((wdW E0 q0 F ++ mdW E0 (nA q1 f1) (mCP mFR 502) mFR (mCP (mNN 65) 65) (mNN 65)) ++ [(q2, .inl (gcA E0 1, 1, .inr (.inl (fun _ => 0))))]) 63 := by
  subst h0
  subst hE
  exact ⟨_, (sg_R1 q0 F q1 f1 q2 _ 61 (by decide) rfl), fun d hd H h => by cases hd; exact h⟩
set_option maxRecDepth 100000 in
set_option maxHeartbeats 4000000 in
theorem fnd_64 {D : va_G} {cA : Nat → ClassId} {ad str stv : Nat → Nat} {TK SW sz : Nat} (q0 : Nat) (F : Nat → Nat → Nat) (q1 : Nat) (f1 : Nat → Nat) (q2 : Nat) (E0 E : gE) (h0 : E0 = (D, cA, fun _ => 0, ad, sz, str, stv, TK, SW)) (hE : E = (D, cA, glA q0 F q1 f1 q2, ad, sz, str, stv, TK, SW)) : gFnd E M00 ((wdW E0 q0 F ++ mdW E0 (nA q1 f1) (mCP mFR 502) mFR (mCP (mNN 65) 65) (mNN 65)) ++ [(q2, .inl (gcA E0 1, 1, .inr (.inl (fun _ => 0))))]) 64 := by
  subst h0
  subst hE
  exact ⟨_, (sg_R1 q0 F q1 f1 q2 _ 62 (by decide) rfl), fun d hd H h => by cases hd; exact h⟩
set_option maxRecDepth 100000 in
set_option maxHeartbeats 4000000 in
theorem fnd_65 {D : va_G} {cA : Nat → ClassId} {ad str stv : Nat → Nat} {TK SW sz : Nat} (q0 : Nat) (F : Nat → Nat → Nat) (q1 : Nat) (f1 : Nat → Nat) (q2 : Nat) (E0 E : gE) (h0 : E0 = (D, cA, fun _ => 0, ad, sz, str, stv, TK, SW)) (hE : E = (D, cA, glA q0 F q1 f1 q2, ad, sz, str, stv, TK, SW)) : gFnd E M00 ((wdW E0 q0 F ++ mdW E0 (nA q1 f1) (mCP mFR 502) mFR (mCP (mNN 65) 65) (mNN 65)) ++ [(q2, .inl (gcA E0 1, 1, .inr (.inl (fun _ => 0))))]) 65 := by
  subst h0
  subst hE
  exact ⟨_, (sg_R1 q0 F q1 f1 q2 _ 63 (by decide) rfl), fun d hd H h => by cases hd; exact h⟩
set_option maxRecDepth 100000 in
set_option maxHeartbeats 4000000 in
theorem fnd_66 {D : va_G} {cA : Nat → ClassId} {ad str stv : Nat → Nat} {TK SW sz : Nat} (q0 : Nat) (F : Nat → Nat → Nat) (q1 : Nat) (f1 : Nat → Nat) (q2 : Nat) (E0 E : gE) (h0 : E0 = (D, cA, fun _ => 0, ad, sz, str, stv, TK, SW)) (hE : E = (D, cA, glA q0 F q1 f1 q2, ad, sz, str, stv, TK, SW)) : gFnd E M00 ((wdW E0 q0 F ++ mdW E0 (nA q1 f1) (mCP mFR 502) mFR (mCP (mNN 65) 65) (mNN 65)) ++ [(q2, .inl (gcA E0 1, 1, .inr (.inl (fun _ => 0))))]) 66 := by
  subst h0
  subst hE
  exact ⟨_, (sg_R1 q0 F q1 f1 q2 _ 64 (by decide) rfl), fun d hd H h => by cases hd; exact h⟩
set_option maxRecDepth 100000 in
set_option maxHeartbeats 4000000 in
theorem fnd_67 {D : va_G} {cA : Nat → ClassId} {ad str stv : Nat → Nat} {TK SW sz : Nat} (q0 : Nat) (F : Nat → Nat → Nat) (q1 : Nat) (f1 : Nat → Nat) (q2 : Nat) (E0 E : gE) (h0 : E0 = (D, cA, fun _ => 0, ad, sz, str, stv, TK, SW)) (hE : E = (D, cA, glA q0 F q1 f1 q2, ad, sz, str, stv, TK, SW)) : gFnd E M00 ((wdW E0 q0 F ++ mdW E0 (nA q1 f1) (mCP mFR 502) mFR (mCP (mNN 65) 65) (mNN 65)) ++ [(q2, .inl (gcA E0 1, 1, .inr (.inl (fun _ => 0))))]) 67 := by
  subst h0
  subst hE
  exact ⟨_, (sg_R1 q0 F q1 f1 q2 _ 65 (by decide) rfl), fun d hd H h => by cases hd; exact h⟩
set_option maxRecDepth 100000 in
set_option maxHeartbeats 4000000 in
theorem fnd_68 {D : va_G} {cA : Nat → ClassId} {ad str stv : Nat → Nat} {TK SW sz : Nat} (q0 : Nat) (F : Nat → Nat → Nat) (q1 : Nat) (f1 : Nat → Nat) (q2 : Nat) (E0 E : gE) (h0 : E0 = (D, cA, fun _ => 0, ad, sz, str, stv, TK, SW)) (hE : E = (D, cA, glA q0 F q1 f1 q2, ad, sz, str, stv, TK, SW)) : gFnd E M00 ((wdW E0 q0 F ++ mdW E0 (nA q1 f1) (mCP mFR 502) mFR (mCP (mNN 65) 65) (mNN 65)) ++ [(q2, .inl (gcA E0 1, 1, .inr (.inl (fun _ => 0))))]) 68 := by
  subst h0
  subst hE
  exact ⟨_, (sg_R1 q0 F q1 f1 q2 _ 66 (by decide) rfl), fun d hd H h => by cases hd; exact h⟩
set_option maxRecDepth 100000 in
set_option maxHeartbeats 4000000 in
theorem fnd_69 {D : va_G} {cA : Nat → ClassId} {ad str stv : Nat → Nat} {TK SW sz : Nat} (q0 : Nat) (F : Nat → Nat → Nat) (q1 : Nat) (f1 : Nat → Nat) (q2 : Nat) (E0 E : gE) (h0 : E0 = (D, cA, fun _ => 0, ad, sz, str, stv, TK, SW)) (hE : E = (D, cA, glA q0 F q1 f1 q2, ad, sz, str, stv, TK, SW)) : gFnd E M00 ((wdW E0 q0 F ++ mdW E0 (nA q1 f1) (mCP mFR 502) mFR (mCP (mNN 65) 65) (mNN 65)) ++ [(q2, .inl (gcA E0 1, 1, .inr (.inl (fun _ => 0))))]) 69 := by
  subst h0
  subst hE
  exact ⟨_, (sg_R1 q0 F q1 f1 q2 _ 67 (by decide) rfl), fun d hd H h => by cases hd; exact h⟩
set_option maxRecDepth 100000 in
set_option maxHeartbeats 4000000 in
theorem fnd_70 {D : va_G} {cA : Nat → ClassId} {ad str stv : Nat → Nat} {TK SW sz : Nat} (q0 : Nat) (F : Nat → Nat → Nat) (q1 : Nat) (f1 : Nat → Nat) (q2 : Nat) (E0 E : gE) (h0 : E0 = (D, cA, fun _ => 0, ad, sz, str, stv, TK, SW)) (hE : E = (D, cA, glA q0 F q1 f1 q2, ad, sz, str, stv, TK, SW)) : gFnd E M00 ((wdW E0 q0 F ++ mdW E0 (nA q1 f1) (mCP mFR 502) mFR (mCP (mNN 65) 65) (mNN 65)) ++ [(q2, .inl (gcA E0 1, 1, .inr (.inl (fun _ => 0))))]) 70 := by
  subst h0
  subst hE
  exact ⟨_, (sg_R1 q0 F q1 f1 q2 _ 68 (by decide) rfl), fun d hd H h => by cases hd; exact h⟩
set_option maxRecDepth 100000 in
set_option maxHeartbeats 4000000 in
theorem fnd_71 {D : va_G} {cA : Nat → ClassId} {ad str stv : Nat → Nat} {TK SW sz : Nat} (q0 : Nat) (F : Nat → Nat → Nat) (q1 : Nat) (f1 : Nat → Nat) (q2 : Nat) (E0 E : gE) (h0 : E0 = (D, cA, fun _ => 0, ad, sz, str, stv, TK, SW)) (hE : E = (D, cA, glA q0 F q1 f1 q2, ad, sz, str, stv, TK, SW)) : gFnd E M00 ((wdW E0 q0 F ++ mdW E0 (nA q1 f1) (mCP mFR 502) mFR (mCP (mNN 65) 65) (mNN 65)) ++ [(q2, .inl (gcA E0 1, 1, .inr (.inl (fun _ => 0))))]) 71 := by
  subst h0
  subst hE
  exact ⟨_, (sg_R1 q0 F q1 f1 q2 _ 69 (by decide) rfl), fun d hd H h => by cases hd; exact h⟩
set_option maxRecDepth 100000 in
set_option maxHeartbeats 4000000 in
theorem fnd_72 {D : va_G} {cA : Nat → ClassId} {ad str stv : Nat → Nat} {TK SW sz : Nat} (q0 : Nat) (F : Nat → Nat → Nat) (q1 : Nat) (f1 : Nat → Nat) (q2 : Nat) (E0 E : gE) (h0 : E0 = (D, cA, fun _ => 0, ad, sz, str, stv, TK, SW)) (hE : E = (D, cA, glA q0 F q1 f1 q2, ad, sz, str, stv, TK, SW)) : gFnd E M00 ((wdW E0 q0 F ++ mdW E0 (nA q1 f1) (mCP mFR 502) mFR (mCP (mNN 65) 65) (mNN 65)) ++ [(q2, .inl (gcA E0 1, 1, .inr (.inl (fun _ => 0))))]) 72 := by
  subst h0
  subst hE
  exact ⟨_, (sg_R1 q0 F q1 f1 q2 _ 70 (by decide) rfl), fun d hd H h => by cases hd; exact h⟩
set_option maxRecDepth 100000 in
set_option maxHeartbeats 4000000 in
theorem fnd_73 {D : va_G} {cA : Nat → ClassId} {ad str stv : Nat → Nat} {TK SW sz : Nat} (q0 : Nat) (F : Nat → Nat → Nat) (q1 : Nat) (f1 : Nat → Nat) (q2 : Nat) (E0 E : gE) (h0 : E0 = (D, cA, fun _ => 0, ad, sz, str, stv, TK, SW)) (hE : E = (D, cA, glA q0 F q1 f1 q2, ad, sz, str, stv, TK, SW)) : gFnd E M00 ((wdW E0 q0 F ++ mdW E0 (nA q1 f1) (mCP mFR 502) mFR (mCP (mNN 65) 65) (mNN 65)) ++ [(q2, .inl (gcA E0 1, 1, .inr (.inl (fun _ => 0))))]) 73 := by
  subst h0
  subst hE
  exact ⟨_, (sg_R1 q0 F q1 f1 q2 _ 71 (by decide) rfl), fun d hd H h => by cases hd; exact h⟩
set_option maxRecDepth 100000 in
set_option maxHeartbeats 4000000 in
theorem fnd_74 {D : va_G} {cA : Nat → ClassId} {ad str stv : Nat → Nat} {TK SW sz : Nat} (q0 : Nat) (F : Nat → Nat → Nat) (q1 : Nat) (f1 : Nat → Nat) (q2 : Nat) (E0 E : gE) (h0 : E0 = (D, cA, fun _ => 0, ad, sz, str, stv, TK, SW)) (hE : E = (D, cA, glA q0 F q1 f1 q2, ad, sz, str, stv, TK, SW)) : gFnd E M00 ((wdW E0 q0 F ++ mdW E0 (nA q1 f1) (mCP mFR 502) mFR (mCP (mNN 65) 65) (mNN 65)) ++ [(q2, .inl (gcA E0 1, 1, .inr (.inl (fun _ => 0))))]) 74 := by
  subst h0
  subst hE
  exact ⟨_, (sg_R1 q0 F q1 f1 q2 _ 72 (by decide) rfl), fun d hd H h => by cases hd; exact h⟩
set_option maxRecDepth 100000 in
set_option maxHeartbeats 4000000 in
theorem fnd_75 {D : va_G} {cA : Nat → ClassId} {ad str stv : Nat → Nat} {TK SW sz : Nat} (q0 : Nat) (F : Nat → Nat → Nat) (q1 : Nat) (f1 : Nat → Nat) (q2 : Nat) (E0 E : gE) (h0 : E0 = (D, cA, fun _ => 0, ad, sz, str, stv, TK, SW)) (hE : E = (D, cA, glA q0 F q1 f1 q2, ad, sz, str, stv, TK, SW)) : gFnd E M00 ((wdW E0 q0 F ++ mdW E0 (nA q1 f1) (mCP mFR 502) mFR (mCP (mNN 65) 65) (mNN 65)) ++ [(q2, .inl (gcA E0 1, 1, .inr (.inl (fun _ => 0))))]) 75 := by
  subst h0
  subst hE
  exact ⟨_, (sg_R1 q0 F q1 f1 q2 _ 73 (by decide) rfl), fun d hd H h => by cases hd; exact h⟩
set_option maxRecDepth 100000 in
set_option maxHeartbeats 4000000 in
theorem fnd_76 {D : va_G} {cA : Nat → ClassId} {ad str stv : Nat → Nat} {TK SW sz : Nat} (q0 : Nat) (F : Nat → Nat → Nat) (q1 : Nat) (f1 : Nat → Nat) (q2 : Nat) (E0 E : gE) (h0 : E0 = (D, cA, fun _ => 0, ad, sz, str, stv, TK, SW)) (hE : E = (D, cA, glA q0 F q1 f1 q2, ad, sz, str, stv, TK, SW)) : gFnd E M00 ((wdW E0 q0 F ++ mdW E0 (nA q1 f1) (mCP mFR 502) mFR (mCP (mNN 65) 65) (mNN 65)) ++ [(q2, .inl (gcA E0 1, 1, .inr (.inl (fun _ => 0))))]) 76 := by
  subst h0
  subst hE
  exact ⟨_, (sg_R1 q0 F q1 f1 q2 _ 74 (by decide) rfl), fun d hd H h => by cases hd; exact h⟩
set_option maxRecDepth 100000 in
set_option maxHeartbeats 4000000 in
theorem fnd_77 {D : va_G} {cA : Nat → ClassId} {ad str stv : Nat → Nat} {TK SW sz : Nat} (q0 : Nat) (F : Nat → Nat → Nat) (q1 : Nat) (f1 : Nat → Nat) (q2 : Nat) (E0 E : gE) (h0 : E0 = (D, cA, fun _ => 0, ad, sz, str, stv, TK, SW)) (hE : E = (D, cA, glA q0 F q1 f1 q2, ad, sz, str, stv, TK, SW)) : gFnd E M00 ((wdW E0 q0 F ++ mdW E0 (nA q1 f1) (mCP mFR 502) mFR (mCP (mNN 65) 65) (mNN 65)) ++ [(q2, .inl (gcA E0 1, 1, .inr (.inl (fun _ => 0))))]) 77 := by
  subst h0
  subst hE
  exact ⟨_, (sg_R1 q0 F q1 f1 q2 _ 75 (by decide) rfl), fun d hd H h => by cases hd; exact h⟩
set_option maxRecDepth 100000 in
set_option maxHeartbeats 4000000 in
theorem fnd_78 {D : va_G} {cA : Nat → ClassId} {ad str stv : Nat → Nat} {TK SW sz : Nat} (q0 : Nat) (F : Nat → Nat → Nat) (q1 : Nat) (f1 : Nat → Nat) (q2 : Nat) (E0 E : gE) (h0 : E0 = (D, cA, fun _ => 0, ad, sz, str, stv, TK, SW)) (hE : E = (D, cA, glA q0 F q1 f1 q2, ad, sz, str, stv, TK, SW)) : gFnd E M00 ((wdW E0 q0 F ++ mdW E0 (nA q1 f1) (mCP mFR 502) mFR (mCP (mNN 65) 65) (mNN 65)) ++ [(q2, .inl (gcA E0 1, 1, .inr (.inl (fun _ => 0))))]) 78 := by
  subst h0
  subst hE
  exact ⟨_, (sg_R1 q0 F q1 f1 q2 _ 76 (by decide) rfl), fun d hd H h => by cases hd; exact h⟩
set_option maxRecDepth 100000 in
set_option maxHeartbeats 4000000 in
theorem fnd_79 {D : va_G} {cA : Nat → ClassId} {ad str stv : Nat → Nat} {TK SW sz : Nat} (q0 : Nat) (F : Nat → Nat → Nat) (q1 : Nat) (f1 : Nat → Nat) (q2 : Nat) (E0 E : gE) (h0 : E0 = (D, cA, fun _ => 0, ad, sz, str, stv, TK, SW)) (hE : E = (D, cA, glA q0 F q1 f1 q2, ad, sz, str, stv, TK, SW)) : gFnd E M00 ((wdW E0 q0 F ++ mdW E0 (nA q1 f1) (mCP mFR 502) mFR (mCP (mNN 65) 65) (mNN 65)) ++ [(q2, .inl (gcA E0 1, 1, .inr (.inl (fun _ => 0))))]) 79 := by
  subst h0
  subst hE
  exact ⟨_, (sg_R1 q0 F q1 f1 q2 _ 77 (by decide) rfl), fun d hd H h => by cases hd; exact h⟩
set_option maxRecDepth 100000 in
set_option maxHeartbeats 4000000 in
theorem fnd_80 {D : va_G} {cA : Nat → ClassId} {ad str stv : Nat → Nat} {TK SW sz : Nat} (q0 : Nat) (F : Nat → Nat → Nat) (q1 : Nat) (f1 : Nat → Nat) (q2 : Nat) (E0 E : gE) (h0 : E0 = (D, cA, fun _ => 0, ad, sz, str, stv, TK, SW)) (hE : E = (D, cA, glA q0 F q1 f1 q2, ad, sz, str, stv, TK, SW)) : gFnd E M00 ((wdW E0 q0 F ++ mdW E0 (nA q1 f1) (mCP mFR 502) mFR (mCP (mNN 65) 65) (mNN 65)) ++ [(q2, .inl (gcA E0 1, 1, .inr (.inl (fun _ => 0))))]) 80 := by
  subst h0
  subst hE
  exact ⟨_, (sg_R1 q0 F q1 f1 q2 _ 78 (by decide) rfl), fun d hd H h => by cases hd; exact h⟩
set_option maxRecDepth 100000 in
set_option maxHeartbeats 4000000 in
theorem fnd_81 {D : va_G} {cA : Nat → ClassId} {ad str stv : Nat → Nat} {TK SW sz : Nat} (q0 : Nat) (F : Nat → Nat → Nat) (q1 : Nat) (f1 : Nat → Nat) (q2 : Nat) (E0 E : gE) (h0 : E0 = (D, cA, fun _ => 0, ad, sz, str, stv, TK, SW)) (hE : E = (D, cA, glA q0 F q1 f1 q2, ad, sz, str, stv, TK, SW)) : gFnd E M00 ((wdW E0 q0 F ++ mdW E0 (nA q1 f1) (mCP mFR 502) mFR (mCP (mNN 65) 65) (mNN 65)) ++ [(q2, .inl (gcA E0 1, 1, .inr (.inl (fun _ => 0))))]) 81 := by
  subst h0
  subst hE
  exact ⟨_, (sg_R1 q0 F q1 f1 q2 _ 79 (by decide) rfl), fun d hd H h => by cases hd; exact h⟩
set_option maxRecDepth 100000 in
set_option maxHeartbeats 4000000 in
theorem fnd_82 {D : va_G} {cA : Nat → ClassId} {ad str stv : Nat → Nat} {TK SW sz : Nat} (q0 : Nat) (F : Nat → Nat → Nat) (q1 : Nat) (f1 : Nat → Nat) (q2 : Nat) (E0 E : gE) (h0 : E0 = (D, cA, fun _ => 0, ad, sz, str, stv, TK, SW)) (hE : E = (D, cA, glA q0 F q1 f1 q2, ad, sz, str, stv, TK, SW)) : gFnd E M00 ((wdW E0 q0 F ++ mdW E0 (nA q1 f1) (mCP mFR 502) mFR (mCP (mNN 65) 65) (mNN 65)) ++ [(q2, .inl (gcA E0 1, 1, .inr (.inl (fun _ => 0))))]) 82 := by
  subst h0
  subst hE
  exact ⟨_, (sg_R1 q0 F q1 f1 q2 _ 80 (by decide) rfl), fun d hd H h => by cases hd; exact h⟩
set_option maxRecDepth 100000 in
set_option maxHeartbeats 4000000 in
theorem fnd_83 {D : va_G} {cA : Nat → ClassId} {ad str stv : Nat → Nat} {TK SW sz : Nat} (q0 : Nat) (F : Nat → Nat → Nat) (q1 : Nat) (f1 : Nat → Nat) (q2 : Nat) (E0 E : gE) (h0 : E0 = (D, cA, fun _ => 0, ad, sz, str, stv, TK, SW)) (hE : E = (D, cA, glA q0 F q1 f1 q2, ad, sz, str, stv, TK, SW)) : gFnd E M00 ((wdW E0 q0 F ++ mdW E0 (nA q1 f1) (mCP mFR 502) mFR (mCP (mNN 65) 65) (mNN 65)) ++ [(q2, .inl (gcA E0 1, 1, .inr (.inl (fun _ => 0))))]) 83 := by
  subst h0
  subst hE
  exact ⟨_, (sg_R1 q0 F q1 f1 q2 _ 81 (by decide) rfl), fun d hd H h => by cases hd; exact h⟩
set_option maxRecDepth 100000 in
set_option maxHeartbeats 4000000 in
theorem fnd_84 {D : va_G} {cA : Nat → ClassId} {ad str stv : Nat → Nat} {TK SW sz : Nat} (q0 : Nat) (F : Nat → Nat → Nat) (q1 : Nat) (f1 : Nat → Nat) (q2 : Nat) (E0 E : gE) (h0 : E0 = (D, cA, fun _ => 0, ad, sz, str, stv, TK, SW)) (hE : E = (D, cA, glA q0 F q1 f1 q2, ad, sz, str, stv, TK, SW)) : gFnd E M00 ((wdW E0 q0 F ++ mdW E0 (nA q1 f1) (mCP mFR 502) mFR (mCP (mNN 65) 65) (mNN 65)) ++ [(q2, .inl (gcA E0 1, 1, .inr (.inl (fun _ => 0))))]) 84 := by
  subst h0
  subst hE
  exact ⟨_, (sg_R1 q0 F q1 f1 q2 _ 82 (by decide) rfl), fun d hd H h => by cases hd; exact h⟩
set_option maxRecDepth 100000 in
set_option maxHeartbeats 4000000 in
theorem fnd_85 {D : va_G} {cA : Nat → ClassId} {ad str stv : Nat → Nat} {TK SW sz : Nat} (q0 : Nat) (F : Nat → Nat → Nat) (q1 : Nat) (f1 : Nat → Nat) (q2 : Nat) (E0 E : gE) (h0 : E0 = (D, cA, fun _ => 0, ad, sz, str, stv, TK, SW)) (hE : E = (D, cA, glA q0 F q1 f1 q2, ad, sz, str, stv, TK, SW)) : gFnd E M00 ((wdW E0 q0 F ++ mdW E0 (nA q1 f1) (mCP mFR 502) mFR (mCP (mNN 65) 65) (mNN 65)) ++ [(q2, .inl (gcA E0 1, 1, .inr (.inl (fun _ => 0))))]) 85 := by
  subst h0
  subst hE
  exact ⟨_, (sg_R1 q0 F q1 f1 q2 _ 83 (by decide) rfl), fun d hd H h => by cases hd; exact h⟩
set_option maxRecDepth 100000 in
set_option maxHeartbeats 4000000 in
theorem fnd_86 {D : va_G} {cA : Nat → ClassId} {ad str stv : Nat → Nat} {TK SW sz : Nat} (q0 : Nat) (F : Nat → Nat → Nat) (q1 : Nat) (f1 : Nat → Nat) (q2 : Nat) (E0 E : gE) (h0 : E0 = (D, cA, fun _ => 0, ad, sz, str, stv, TK, SW)) (hE : E = (D, cA, glA q0 F q1 f1 q2, ad, sz, str, stv, TK, SW)) : gFnd E M00 ((wdW E0 q0 F ++ mdW E0 (nA q1 f1) (mCP mFR 502) mFR (mCP (mNN 65) 65) (mNN 65)) ++ [(q2, .inl (gcA E0 1, 1, .inr (.inl (fun _ => 0))))]) 86 := by
  subst h0
  subst hE
  exact ⟨_, (sg_R1 q0 F q1 f1 q2 _ 84 (by decide) rfl), fun d hd H h => by cases hd; exact h⟩
set_option maxRecDepth 100000 in
set_option maxHeartbeats 4000000 in
theorem fnd_87 {D : va_G} {cA : Nat → ClassId} {ad str stv : Nat → Nat} {TK SW sz : Nat} (q0 : Nat) (F : Nat → Nat → Nat) (q1 : Nat) (f1 : Nat → Nat) (q2 : Nat) (E0 E : gE) (h0 : E0 = (D, cA, fun _ => 0, ad, sz, str, stv, TK, SW)) (hE : E = (D, cA, glA q0 F q1 f1 q2, ad, sz, str, stv, TK, SW)) : gFnd E M00 ((wdW E0 q0 F ++ mdW E0 (nA q1 f1) (mCP mFR 502) mFR (mCP (mNN 65) 65) (mNN 65)) ++ [(q2, .inl (gcA E0 1, 1, .inr (.inl (fun _ => 0))))]) 87 := by
  subst h0
  subst hE
  exact ⟨_, (sg_R1 q0 F q1 f1 q2 _ 85 (by decide) rfl), fun d hd H h => by cases hd; exact h⟩
set_option maxRecDepth 100000 in
set_option maxHeartbeats 4000000 in
theorem fnd_88 {D : va_G} {cA : Nat → ClassId} {ad str stv : Nat → Nat} {TK SW sz : Nat} (q0 : Nat) (F : Nat → Nat → Nat) (q1 : Nat) (f1 : Nat → Nat) (q2 : Nat) (E0 E : gE) (h0 : E0 = (D, cA, fun _ => 0, ad, sz, str, stv, TK, SW)) (hE : E = (D, cA, glA q0 F q1 f1 q2, ad, sz, str, stv, TK, SW)) : gFnd E M00 ((wdW E0 q0 F ++ mdW E0 (nA q1 f1) (mCP mFR 502) mFR (mCP (mNN 65) 65) (mNN 65)) ++ [(q2, .inl (gcA E0 1, 1, .inr (.inl (fun _ => 0))))]) 88 := by
  subst h0
  subst hE
  exact ⟨_, (sg_R1 q0 F q1 f1 q2 _ 86 (by decide) rfl), fun d hd H h => by cases hd; exact h⟩
set_option maxRecDepth 100000 in
set_option maxHeartbeats 4000000 in
theorem fnd_89 {D : va_G} {cA : Nat → ClassId} {ad str stv : Nat → Nat} {TK SW sz : Nat} (q0 : Nat) (F : Nat → Nat → Nat) (q1 : Nat) (f1 : Nat → Nat) (q2 : Nat) (E0 E : gE) (h0 : E0 = (D, cA, fun _ => 0, ad, sz, str, stv, TK, SW)) (hE : E = (D, cA, glA q0 F q1 f1 q2, ad, sz, str, stv, TK, SW)) : gFnd E M00 ((wdW E0 q0 F ++ mdW E0 (nA q1 f1) (mCP mFR 502) mFR (mCP (mNN 65) 65) (mNN 65)) ++ [(q2, .inl (gcA E0 1, 1, .inr (.inl (fun _ => 0))))]) 89 := by
  subst h0
  subst hE
  exact ⟨_, (sg_R1 q0 F q1 f1 q2 _ 87 (by decide) rfl), fun d hd H h => by cases hd; exact h⟩
set_option maxRecDepth 100000 in
set_option maxHeartbeats 4000000 in
theorem fnd_90 {D : va_G} {cA : Nat → ClassId} {ad str stv : Nat → Nat} {TK SW sz : Nat} (q0 : Nat) (F : Nat → Nat → Nat) (q1 : Nat) (f1 : Nat → Nat) (q2 : Nat) (E0 E : gE) (h0 : E0 = (D, cA, fun _ => 0, ad, sz, str, stv, TK, SW)) (hE : E = (D, cA, glA q0 F q1 f1 q2, ad, sz, str, stv, TK, SW)) : gFnd E M00 ((wdW E0 q0 F ++ mdW E0 (nA q1 f1) (mCP mFR 502) mFR (mCP (mNN 65) 65) (mNN 65)) ++ [(q2, .inl (gcA E0 1, 1, .inr (.inl (fun _ => 0))))]) 90 := by
  subst h0
  subst hE
  exact ⟨_, (sg_R1 q0 F q1 f1 q2 _ 88 (by decide) rfl), fun d hd H h => by cases hd; exact h⟩
set_option maxRecDepth 100000 in
set_option maxHeartbeats 4000000 in
theorem fnd_91 {D : va_G} {cA : Nat → ClassId} {ad str stv : Nat → Nat} {TK SW sz : Nat} (q0 : Nat) (F : Nat → Nat → Nat) (q1 : Nat) (f1 : Nat → Nat) (q2 : Nat) (E0 E : gE) (h0 : E0 = (D, cA, fun _ => 0, ad, sz, str, stv, TK, SW)) (hE : E = (D, cA, glA q0 F q1 f1 q2, ad, sz, str, stv, TK, SW)) : gFnd E M00 ((wdW E0 q0 F ++ mdW E0 (nA q1 f1) (mCP mFR 502) mFR (mCP (mNN 65) 65) (mNN 65)) ++ [(q2, .inl (gcA E0 1, 1, .inr (.inl (fun _ => 0))))]) 91 := by
  subst h0
  subst hE
  exact ⟨_, (sg_R1 q0 F q1 f1 q2 _ 89 (by decide) rfl), fun d hd H h => by cases hd; exact h⟩
set_option maxRecDepth 100000 in
set_option maxHeartbeats 4000000 in
theorem fnd_92 {D : va_G} {cA : Nat → ClassId} {ad str stv : Nat → Nat} {TK SW sz : Nat} (q0 : Nat) (F : Nat → Nat → Nat) (q1 : Nat) (f1 : Nat → Nat) (q2 : Nat) (E0 E : gE) (h0 : E0 = (D, cA, fun _ => 0, ad, sz, str, stv, TK, SW)) (hE : E = (D, cA, glA q0 F q1 f1 q2, ad, sz, str, stv, TK, SW)) : gFnd E M00 ((wdW E0 q0 F ++ mdW E0 (nA q1 f1) (mCP mFR 502) mFR (mCP (mNN 65) 65) (mNN 65)) ++ [(q2, .inl (gcA E0 1, 1, .inr (.inl (fun _ => 0))))]) 92 := by
  subst h0
  subst hE
  exact ⟨_, (sg_R1 q0 F q1 f1 q2 _ 90 (by decide) rfl), fun d hd H h => by cases hd; exact h⟩
set_option maxRecDepth 100000 in
set_option maxHeartbeats 4000000 in
theorem fnd_93 {D : va_G} {cA : Nat → ClassId} {ad str stv : Nat → Nat} {TK SW sz : Nat} (q0 : Nat) (F : Nat → Nat → Nat) (q1 : Nat) (f1 : Nat → Nat) (q2 : Nat) (E0 E : gE) (h0 : E0 = (D, cA, fun _ => 0, ad, sz, str, stv, TK, SW)) (hE : E = (D, cA, glA q0 F q1 f1 q2, ad, sz, str, stv, TK, SW)) : gFnd E M00 ((wdW E0 q0 F ++ mdW E0 (nA q1 f1) (mCP mFR 502) mFR (mCP (mNN 65) 65) (mNN 65)) ++ [(q2, .inl (gcA E0 1, 1, .inr (.inl (fun _ => 0))))]) 93 := by
  subst h0
  subst hE
  exact ⟨_, (sg_R1 q0 F q1 f1 q2 _ 91 (by decide) rfl), fun d hd H h => by cases hd; exact h⟩
set_option maxRecDepth 100000 in
set_option maxHeartbeats 4000000 in
theorem fnd_94 {D : va_G} {cA : Nat → ClassId} {ad str stv : Nat → Nat} {TK SW sz : Nat} (q0 : Nat) (F : Nat → Nat → Nat) (q1 : Nat) (f1 : Nat → Nat) (q2 : Nat) (E0 E : gE) (h0 : E0 = (D, cA, fun _ => 0, ad, sz, str, stv, TK, SW)) (hE : E = (D, cA, glA q0 F q1 f1 q2, ad, sz, str, stv, TK, SW)) : gFnd E M00 ((wdW E0 q0 F ++ mdW E0 (nA q1 f1) (mCP mFR 502) mFR (mCP (mNN 65) 65) (mNN 65)) ++ [(q2, .inl (gcA E0 1, 1, .inr (.inl (fun _ => 0))))]) 94 := by
  subst h0
  subst hE
  exact ⟨_, (sg_R1 q0 F q1 f1 q2 _ 92 (by decide) rfl), fun d hd H h => by cases hd; exact h⟩
set_option maxRecDepth 100000 in
set_option maxHeartbeats 4000000 in
theorem fnd_95 {D : va_G} {cA : Nat → ClassId} {ad str stv : Nat → Nat} {TK SW sz : Nat} (q0 : Nat) (F : Nat → Nat → Nat) (q1 : Nat) (f1 : Nat → Nat) (q2 : Nat) (E0 E : gE) (h0 : E0 = (D, cA, fun _ => 0, ad, sz, str, stv, TK, SW)) (hE : E = (D, cA, glA q0 F q1 f1 q2, ad, sz, str, stv, TK, SW)) : gFnd E M00 ((wdW E0 q0 F ++ mdW E0 (nA q1 f1) (mCP mFR 502) mFR (mCP (mNN 65) 65) (mNN 65)) ++ [(q2, .inl (gcA E0 1, 1, .inr (.inl (fun _ => 0))))]) 95 := by
  subst h0
  subst hE
  exact ⟨_, (sg_R1 q0 F q1 f1 q2 _ 93 (by decide) rfl), fun d hd H h => by cases hd; exact h⟩
set_option maxRecDepth 100000 in
set_option maxHeartbeats 4000000 in
theorem fnd_96 {D : va_G} {cA : Nat → ClassId} {ad str stv : Nat → Nat} {TK SW sz : Nat} (q0 : Nat) (F : Nat → Nat → Nat) (q1 : Nat) (f1 : Nat → Nat) (q2 : Nat) (E0 E : gE) (h0 : E0 = (D, cA, fun _ => 0, ad, sz, str, stv, TK, SW)) (hE : E = (D, cA, glA q0 F q1 f1 q2, ad, sz, str, stv, TK, SW)) : gFnd E M00 ((wdW E0 q0 F ++ mdW E0 (nA q1 f1) (mCP mFR 502) mFR (mCP (mNN 65) 65) (mNN 65)) ++ [(q2, .inl (gcA E0 1, 1, .inr (.inl (fun _ => 0))))]) 96 := by
  subst h0
  subst hE
  exact ⟨_, (sg_R1 q0 F q1 f1 q2 _ 94 (by decide) rfl), fun d hd H h => by cases hd; exact h⟩
set_option maxRecDepth 100000 in
set_option maxHeartbeats 4000000 in
theorem fnd_97 {D : va_G} {cA : Nat → ClassId} {ad str stv : Nat → Nat} {TK SW sz : Nat} (q0 : Nat) (F : Nat → Nat → Nat) (q1 : Nat) (f1 : Nat → Nat) (q2 : Nat) (E0 E : gE) (h0 : E0 = (D, cA, fun _ => 0, ad, sz, str, stv, TK, SW)) (hE : E = (D, cA, glA q0 F q1 f1 q2, ad, sz, str, stv, TK, SW)) : gFnd E M00 ((wdW E0 q0 F ++ mdW E0 (nA q1 f1) (mCP mFR 502) mFR (mCP (mNN 65) 65) (mNN 65)) ++ [(q2, .inl (gcA E0 1, 1, .inr (.inl (fun _ => 0))))]) 97 := by
  subst h0
  subst hE
  exact ⟨_, (sg_R1 q0 F q1 f1 q2 _ 95 (by decide) rfl), fun d hd H h => by cases hd; exact h⟩
set_option maxRecDepth 100000 in
set_option maxHeartbeats 4000000 in
theorem fnd_98 {D : va_G} {cA : Nat → ClassId} {ad str stv : Nat → Nat} {TK SW sz : Nat} (q0 : Nat) (F : Nat → Nat → Nat) (q1 : Nat) (f1 : Nat → Nat) (q2 : Nat) (E0 E : gE) (h0 : E0 = (D, cA, fun _ => 0, ad, sz, str, stv, TK, SW)) (hE : E = (D, cA, glA q0 F q1 f1 q2, ad, sz, str, stv, TK, SW)) : gFnd E M00 ((wdW E0 q0 F ++ mdW E0 (nA q1 f1) (mCP mFR 502) mFR (mCP (mNN 65) 65) (mNN 65)) ++ [(q2, .inl (gcA E0 1, 1, .inr (.inl (fun _ => 0))))]) 98 := by
  subst h0
  subst hE
  exact ⟨_, (sg_R1 q0 F q1 f1 q2 _ 96 (by decide) rfl), fun d hd H h => by cases hd; exact h⟩
set_option maxRecDepth 100000 in
set_option maxHeartbeats 4000000 in
theorem fnd_99 {D : va_G} {cA : Nat → ClassId} {ad str stv : Nat → Nat} {TK SW sz : Nat} (q0 : Nat) (F : Nat → Nat → Nat) (q1 : Nat) (f1 : Nat → Nat) (q2 : Nat) (E0 E : gE) (h0 : E0 = (D, cA, fun _ => 0, ad, sz, str, stv, TK, SW)) (hE : E = (D, cA, glA q0 F q1 f1 q2, ad, sz, str, stv, TK, SW)) : gFnd E M00 ((wdW E0 q0 F ++ mdW E0 (nA q1 f1) (mCP mFR 502) mFR (mCP (mNN 65) 65) (mNN 65)) ++ [(q2, .inl (gcA E0 1, 1, .inr (.inl (fun _ => 0))))]) 99 := by
  subst h0
  subst hE
  exact ⟨_, (sg_R1 q0 F q1 f1 q2 _ 97 (by decide) rfl), fun d hd H h => by cases hd; exact h⟩
set_option maxRecDepth 100000 in
set_option maxHeartbeats 4000000 in
theorem fnd_100 {D : va_G} {cA : Nat → ClassId} {ad str stv : Nat → Nat} {TK SW sz : Nat} (q0 : Nat) (F : Nat → Nat → Nat) (q1 : Nat) (f1 : Nat → Nat) (q2 : Nat) (E0 E : gE) (h0 : E0 = (D, cA, fun _ => 0, ad, sz, str, stv, TK, SW)) (hE : E = (D, cA, glA q0 F q1 f1 q2, ad, sz, str, stv, TK, SW)) : gFnd E M00 ((wdW E0 q0 F ++ mdW E0 (nA q1 f1) (mCP mFR 502) mFR (mCP (mNN 65) 65) (mNN 65)) ++ [(q2, .inl (gcA E0 1, 1, .inr (.inl (fun _ => 0))))]) 100 := by
  subst h0
  subst hE
  exact ⟨_, (sg_R1 q0 F q1 f1 q2 _ 98 (by decide) rfl), fun d hd H h => by cases hd; exact h⟩
set_option maxRecDepth 100000 in
set_option maxHeartbeats 4000000 in
theorem fnd_101 {D : va_G} {cA : Nat → ClassId} {ad str stv : Nat → Nat} {TK SW sz : Nat} (q0 : Nat) (F : Nat → Nat → Nat) (q1 : Nat) (f1 : Nat → Nat) (q2 : Nat) (E0 E : gE) (h0 : E0 = (D, cA, fun _ => 0, ad, sz, str, stv, TK, SW)) (hE : E = (D, cA, glA q0 F q1 f1 q2, ad, sz, str, stv, TK, SW)) : gFnd E M00 ((wdW E0 q0 F ++ mdW E0 (nA q1 f1) (mCP mFR 502) mFR (mCP (mNN 65) 65) (mNN 65)) ++ [(q2, .inl (gcA E0 1, 1, .inr (.inl (fun _ => 0))))]) 101 := by
  subst h0
  subst hE
  exact ⟨_, (sg_R1 q0 F q1 f1 q2 _ 99 (by decide) rfl), fun d hd H h => by cases hd; exact h⟩
set_option maxRecDepth 100000 in
set_option maxHeartbeats 4000000 in
theorem fnd_102 {D : va_G} {cA : Nat → ClassId} {ad str stv : Nat → Nat} {TK SW sz : Nat} (q0 : Nat) (F : Nat → Nat → Nat) (q1 : Nat) (f1 : Nat → Nat) (q2 : Nat) (E0 E : gE) (h0 : E0 = (D, cA, fun _ => 0, ad, sz, str, stv, TK, SW)) (hE : E = (D, cA, glA q0 F q1 f1 q2, ad, sz, str, stv, TK, SW)) : gFnd E M00 ((wdW E0 q0 F ++ mdW E0 (nA q1 f1) (mCP mFR 502) mFR (mCP (mNN 65) 65) (mNN 65)) ++ [(q2, .inl (gcA E0 1, 1, .inr (.inl (fun _ => 0))))]) 102 := by
  subst h0
  subst hE
  exact ⟨_, (sg_R1 q0 F q1 f1 q2 _ 100 (by decide) rfl), fun d hd H h => by cases hd; exact h⟩
set_option maxRecDepth 100000 in
set_option maxHeartbeats 4000000 in
theorem fnd_103 {D : va_G} {cA : Nat → ClassId} {ad str stv : Nat → Nat} {TK SW sz : Nat} (q0 : Nat) (F : Nat → Nat → Nat) (q1 : Nat) (f1 : Nat → Nat) (q2 : Nat) (E0 E : gE) (h0 : E0 = (D, cA, fun _ => 0, ad, sz, str, stv, TK, SW)) (hE : E = (D, cA, glA q0 F q1 f1 q2, ad, sz, str, stv, TK, SW)) : gFnd E M00 ((wdW E0 q0 F ++ mdW E0 (nA q1 f1) (mCP mFR 502) mFR (mCP (mNN 65) 65) (mNN 65)) ++ [(q2, .inl (gcA E0 1, 1, .inr (.inl (fun _ => 0))))]) 103 := by
  subst h0
  subst hE
  exact ⟨_, (sg_R2 q0 F q1 f1 q2 _ 0 (by decide) rfl), fun d hd H h => by cases hd; exact h⟩
set_option maxRecDepth 100000 in
set_option maxHeartbeats 4000000 in
theorem fnd_104 {D : va_G} {cA : Nat → ClassId} {ad str stv : Nat → Nat} {TK SW sz : Nat} (q0 : Nat) (F : Nat → Nat → Nat) (q1 : Nat) (f1 : Nat → Nat) (q2 : Nat) (E0 E : gE) (h0 : E0 = (D, cA, fun _ => 0, ad, sz, str, stv, TK, SW)) (hE : E = (D, cA, glA q0 F q1 f1 q2, ad, sz, str, stv, TK, SW)) : gFnd E M00 ((wdW E0 q0 F ++ mdW E0 (nA q1 f1) (mCP mFR 502) mFR (mCP (mNN 65) 65) (mNN 65)) ++ [(q2, .inl (gcA E0 1, 1, .inr (.inl (fun _ => 0))))]) 104 := by
  subst h0
  subst hE
  refine ⟨_, (sg_R2 q0 F q1 f1 q2 _ 1 (by decide) rfl), fun d hd H h => ?_⟩
  cases hd
  refine Eq.trans h ?_
  refine congrArg some ?_
  refine (vp_cell_q _ _ _).trans (Eq.trans ?_ (vp_cell_q _ _ _).symm)
  refine arrV_cong (fun j hj => ?_)
  rcases cas2 hj with rfl | rfl <;> rfl
set_option maxRecDepth 100000 in
set_option maxHeartbeats 4000000 in
theorem fnd_105 {D : va_G} {cA : Nat → ClassId} {ad str stv : Nat → Nat} {TK SW sz : Nat} (q0 : Nat) (F : Nat → Nat → Nat) (q1 : Nat) (f1 : Nat → Nat) (q2 : Nat) (E0 E : gE) (h0 : E0 = (D, cA, fun _ => 0, ad, sz, str, stv, TK, SW)) (hE : E = (D, cA, glA q0 F q1 f1 q2, ad, sz, str, stv, TK, SW)) : gFnd E M00 ((wdW E0 q0 F ++ mdW E0 (nA q1 f1) (mCP mFR 502) mFR (mCP (mNN 65) 65) (mNN 65)) ++ [(q2, .inl (gcA E0 1, 1, .inr (.inl (fun _ => 0))))]) 105 := by
  subst h0
  subst hE
  refine ⟨_, (sg_R2 q0 F q1 f1 q2 _ 2 (by decide) rfl), fun d hd H h => ?_⟩
  cases hd
  refine Eq.trans h ?_
  refine congrArg some ?_
  refine (vp_cell_q _ _ _).trans (Eq.trans ?_ (vp_cell_q _ _ _).symm)
  refine arrV_cong (fun j hj => ?_)
  rcases cas10 hj with rfl | rfl | rfl | rfl | rfl | rfl | rfl | rfl | rfl | rfl <;> rfl
set_option maxRecDepth 100000 in
set_option maxHeartbeats 4000000 in
theorem fnd_106 {D : va_G} {cA : Nat → ClassId} {ad str stv : Nat → Nat} {TK SW sz : Nat} (q0 : Nat) (F : Nat → Nat → Nat) (q1 : Nat) (f1 : Nat → Nat) (q2 : Nat) (E0 E : gE) (h0 : E0 = (D, cA, fun _ => 0, ad, sz, str, stv, TK, SW)) (hE : E = (D, cA, glA q0 F q1 f1 q2, ad, sz, str, stv, TK, SW)) : gFnd E M00 ((wdW E0 q0 F ++ mdW E0 (nA q1 f1) (mCP mFR 502) mFR (mCP (mNN 65) 65) (mNN 65)) ++ [(q2, .inl (gcA E0 1, 1, .inr (.inl (fun _ => 0))))]) 106 := by
  subst h0
  subst hE
  refine ⟨_, (sg_R2 q0 F q1 f1 q2 _ 3 (by decide) rfl), fun d hd H h => ?_⟩
  cases hd
  refine Eq.trans h ?_
  refine congrArg some ?_
  refine (vp_cell_q _ _ _).trans (Eq.trans ?_ (vp_cell_q _ _ _).symm)
  refine arrV_cong (fun j hj => ?_)
  rcases cas8 hj with rfl | rfl | rfl | rfl | rfl | rfl | rfl | rfl <;> rfl
set_option maxRecDepth 100000 in
set_option maxHeartbeats 4000000 in
theorem fnd_107 {D : va_G} {cA : Nat → ClassId} {ad str stv : Nat → Nat} {TK SW sz : Nat} (q0 : Nat) (F : Nat → Nat → Nat) (q1 : Nat) (f1 : Nat → Nat) (q2 : Nat) (E0 E : gE) (h0 : E0 = (D, cA, fun _ => 0, ad, sz, str, stv, TK, SW)) (hE : E = (D, cA, glA q0 F q1 f1 q2, ad, sz, str, stv, TK, SW)) : gFnd E M00 ((wdW E0 q0 F ++ mdW E0 (nA q1 f1) (mCP mFR 502) mFR (mCP (mNN 65) 65) (mNN 65)) ++ [(q2, .inl (gcA E0 1, 1, .inr (.inl (fun _ => 0))))]) 107 := by
  subst h0
  subst hE
  refine ⟨_, (sg_R2 q0 F q1 f1 q2 _ 4 (by decide) rfl), fun d hd H h => ?_⟩
  cases hd
  refine Eq.trans h ?_
  refine congrArg some ?_
  refine (vp_cell_q _ _ _).trans (Eq.trans ?_ (vp_cell_q _ _ _).symm)
  refine arrV_cong (fun j hj => ?_)
  rcases cas12 hj with rfl | rfl | rfl | rfl | rfl | rfl | rfl | rfl | rfl | rfl | rfl | rfl <;> rfl
set_option maxRecDepth 100000 in
set_option maxHeartbeats 4000000 in
theorem fnd_108 {D : va_G} {cA : Nat → ClassId} {ad str stv : Nat → Nat} {TK SW sz : Nat} (q0 : Nat) (F : Nat → Nat → Nat) (q1 : Nat) (f1 : Nat → Nat) (q2 : Nat) (E0 E : gE) (h0 : E0 = (D, cA, fun _ => 0, ad, sz, str, stv, TK, SW)) (hE : E = (D, cA, glA q0 F q1 f1 q2, ad, sz, str, stv, TK, SW)) : gFnd E M00 ((wdW E0 q0 F ++ mdW E0 (nA q1 f1) (mCP mFR 502) mFR (mCP (mNN 65) 65) (mNN 65)) ++ [(q2, .inl (gcA E0 1, 1, .inr (.inl (fun _ => 0))))]) 108 := by
  subst h0
  subst hE
  exact ⟨_, (sg_R2 q0 F q1 f1 q2 _ 5 (by decide) rfl), fun d hd H h => by cases hd; exact h⟩
set_option maxRecDepth 100000 in
set_option maxHeartbeats 4000000 in
theorem fnd_109 {D : va_G} {cA : Nat → ClassId} {ad str stv : Nat → Nat} {TK SW sz : Nat} (q0 : Nat) (F : Nat → Nat → Nat) (q1 : Nat) (f1 : Nat → Nat) (q2 : Nat) (E0 E : gE) (h0 : E0 = (D, cA, fun _ => 0, ad, sz, str, stv, TK, SW)) (hE : E = (D, cA, glA q0 F q1 f1 q2, ad, sz, str, stv, TK, SW)) : gFnd E M00 ((wdW E0 q0 F ++ mdW E0 (nA q1 f1) (mCP mFR 502) mFR (mCP (mNN 65) 65) (mNN 65)) ++ [(q2, .inl (gcA E0 1, 1, .inr (.inl (fun _ => 0))))]) 109 := by
  subst h0
  subst hE
  exact ⟨_, (sg_R2 q0 F q1 f1 q2 _ 6 (by decide) rfl), fun d hd H h => by cases hd; exact h⟩
set_option maxRecDepth 100000 in
set_option maxHeartbeats 4000000 in
theorem fnd_110 {D : va_G} {cA : Nat → ClassId} {ad str stv : Nat → Nat} {TK SW sz : Nat} (q0 : Nat) (F : Nat → Nat → Nat) (q1 : Nat) (f1 : Nat → Nat) (q2 : Nat) (E0 E : gE) (h0 : E0 = (D, cA, fun _ => 0, ad, sz, str, stv, TK, SW)) (hE : E = (D, cA, glA q0 F q1 f1 q2, ad, sz, str, stv, TK, SW)) : gFnd E M00 ((wdW E0 q0 F ++ mdW E0 (nA q1 f1) (mCP mFR 502) mFR (mCP (mNN 65) 65) (mNN 65)) ++ [(q2, .inl (gcA E0 1, 1, .inr (.inl (fun _ => 0))))]) 110 := by
  subst h0
  subst hE
  exact ⟨_, (sg_R2 q0 F q1 f1 q2 _ 7 (by decide) rfl), fun d hd H h => by cases hd; exact h⟩
set_option maxRecDepth 100000 in
set_option maxHeartbeats 4000000 in
theorem fnd_111 {D : va_G} {cA : Nat → ClassId} {ad str stv : Nat → Nat} {TK SW sz : Nat} (q0 : Nat) (F : Nat → Nat → Nat) (q1 : Nat) (f1 : Nat → Nat) (q2 : Nat) (E0 E : gE) (h0 : E0 = (D, cA, fun _ => 0, ad, sz, str, stv, TK, SW)) (hE : E = (D, cA, glA q0 F q1 f1 q2, ad, sz, str, stv, TK, SW)) : gFnd E M00 ((wdW E0 q0 F ++ mdW E0 (nA q1 f1) (mCP mFR 502) mFR (mCP (mNN 65) 65) (mNN 65)) ++ [(q2, .inl (gcA E0 1, 1, .inr (.inl (fun _ => 0))))]) 111 := by
  subst h0
  subst hE
  exact ⟨_, (sg_R2 q0 F q1 f1 q2 _ 8 (by decide) rfl), fun d hd H h => by cases hd; exact h⟩
set_option maxRecDepth 100000 in
set_option maxHeartbeats 4000000 in
theorem fnd_112 {D : va_G} {cA : Nat → ClassId} {ad str stv : Nat → Nat} {TK SW sz : Nat} (q0 : Nat) (F : Nat → Nat → Nat) (q1 : Nat) (f1 : Nat → Nat) (q2 : Nat) (E0 E : gE) (h0 : E0 = (D, cA, fun _ => 0, ad, sz, str, stv, TK, SW)) (hE : E = (D, cA, glA q0 F q1 f1 q2, ad, sz, str, stv, TK, SW)) : gFnd E M00 ((wdW E0 q0 F ++ mdW E0 (nA q1 f1) (mCP mFR 502) mFR (mCP (mNN 65) 65) (mNN 65)) ++ [(q2, .inl (gcA E0 1, 1, .inr (.inl (fun _ => 0))))]) 112 := by
  subst h0
  subst hE
  exact ⟨_, (sg_R2 q0 F q1 f1 q2 _ 9 (by decide) rfl), fun d hd H h => by cases hd; exact h⟩
set_option maxRecDepth 100000 in
set_option maxHeartbeats 4000000 in
theorem fnd_113 {D : va_G} {cA : Nat → ClassId} {ad str stv : Nat → Nat} {TK SW sz : Nat} (q0 : Nat) (F : Nat → Nat → Nat) (q1 : Nat) (f1 : Nat → Nat) (q2 : Nat) (E0 E : gE) (h0 : E0 = (D, cA, fun _ => 0, ad, sz, str, stv, TK, SW)) (hE : E = (D, cA, glA q0 F q1 f1 q2, ad, sz, str, stv, TK, SW)) : gFnd E M00 ((wdW E0 q0 F ++ mdW E0 (nA q1 f1) (mCP mFR 502) mFR (mCP (mNN 65) 65) (mNN 65)) ++ [(q2, .inl (gcA E0 1, 1, .inr (.inl (fun _ => 0))))]) 113 := by
  subst h0
  subst hE
  exact ⟨_, (sg_R2 q0 F q1 f1 q2 _ 10 (by decide) rfl), fun d hd H h => by cases hd; exact h⟩
set_option maxRecDepth 100000 in
set_option maxHeartbeats 4000000 in
theorem fnd_114 {D : va_G} {cA : Nat → ClassId} {ad str stv : Nat → Nat} {TK SW sz : Nat} (q0 : Nat) (F : Nat → Nat → Nat) (q1 : Nat) (f1 : Nat → Nat) (q2 : Nat) (E0 E : gE) (h0 : E0 = (D, cA, fun _ => 0, ad, sz, str, stv, TK, SW)) (hE : E = (D, cA, glA q0 F q1 f1 q2, ad, sz, str, stv, TK, SW)) : gFnd E M00 ((wdW E0 q0 F ++ mdW E0 (nA q1 f1) (mCP mFR 502) mFR (mCP (mNN 65) 65) (mNN 65)) ++ [(q2, .inl (gcA E0 1, 1, .inr (.inl (fun _ => 0))))]) 114 := by
  subst h0
  subst hE
  exact ⟨_, (sg_R2 q0 F q1 f1 q2 _ 11 (by decide) rfl), fun d hd H h => by cases hd; exact h⟩
set_option maxRecDepth 100000 in
set_option maxHeartbeats 4000000 in
theorem fnd_115 {D : va_G} {cA : Nat → ClassId} {ad str stv : Nat → Nat} {TK SW sz : Nat} (q0 : Nat) (F : Nat → Nat → Nat) (q1 : Nat) (f1 : Nat → Nat) (q2 : Nat) (E0 E : gE) (h0 : E0 = (D, cA, fun _ => 0, ad, sz, str, stv, TK, SW)) (hE : E = (D, cA, glA q0 F q1 f1 q2, ad, sz, str, stv, TK, SW)) : gFnd E M00 ((wdW E0 q0 F ++ mdW E0 (nA q1 f1) (mCP mFR 502) mFR (mCP (mNN 65) 65) (mNN 65)) ++ [(q2, .inl (gcA E0 1, 1, .inr (.inl (fun _ => 0))))]) 115 := by
  subst h0
  subst hE
  exact ⟨_, (sg_R2 q0 F q1 f1 q2 _ 12 (by decide) rfl), fun d hd H h => by cases hd; exact h⟩
set_option maxRecDepth 100000 in
set_option maxHeartbeats 4000000 in
theorem fnd_116 {D : va_G} {cA : Nat → ClassId} {ad str stv : Nat → Nat} {TK SW sz : Nat} (q0 : Nat) (F : Nat → Nat → Nat) (q1 : Nat) (f1 : Nat → Nat) (q2 : Nat) (E0 E : gE) (h0 : E0 = (D, cA, fun _ => 0, ad, sz, str, stv, TK, SW)) (hE : E = (D, cA, glA q0 F q1 f1 q2, ad, sz, str, stv, TK, SW)) : gFnd E M00 ((wdW E0 q0 F ++ mdW E0 (nA q1 f1) (mCP mFR 502) mFR (mCP (mNN 65) 65) (mNN 65)) ++ [(q2, .inl (gcA E0 1, 1, .inr (.inl (fun _ => 0))))]) 116 := by
  subst h0
  subst hE
  exact ⟨_, (sg_R2 q0 F q1 f1 q2 _ 13 (by decide) rfl), fun d hd H h => by cases hd; exact h⟩
set_option maxRecDepth 100000 in
set_option maxHeartbeats 4000000 in
theorem fnd_117 {D : va_G} {cA : Nat → ClassId} {ad str stv : Nat → Nat} {TK SW sz : Nat} (q0 : Nat) (F : Nat → Nat → Nat) (q1 : Nat) (f1 : Nat → Nat) (q2 : Nat) (E0 E : gE) (h0 : E0 = (D, cA, fun _ => 0, ad, sz, str, stv, TK, SW)) (hE : E = (D, cA, glA q0 F q1 f1 q2, ad, sz, str, stv, TK, SW)) : gFnd E M00 ((wdW E0 q0 F ++ mdW E0 (nA q1 f1) (mCP mFR 502) mFR (mCP (mNN 65) 65) (mNN 65)) ++ [(q2, .inl (gcA E0 1, 1, .inr (.inl (fun _ => 0))))]) 117 := by
  subst h0
  subst hE
  exact ⟨_, (sg_R2 q0 F q1 f1 q2 _ 14 (by decide) rfl), fun d hd H h => by cases hd; exact h⟩
set_option maxRecDepth 100000 in
set_option maxHeartbeats 4000000 in
theorem fnd_118 {D : va_G} {cA : Nat → ClassId} {ad str stv : Nat → Nat} {TK SW sz : Nat} (q0 : Nat) (F : Nat → Nat → Nat) (q1 : Nat) (f1 : Nat → Nat) (q2 : Nat) (E0 E : gE) (h0 : E0 = (D, cA, fun _ => 0, ad, sz, str, stv, TK, SW)) (hE : E = (D, cA, glA q0 F q1 f1 q2, ad, sz, str, stv, TK, SW)) : gFnd E M00 ((wdW E0 q0 F ++ mdW E0 (nA q1 f1) (mCP mFR 502) mFR (mCP (mNN 65) 65) (mNN 65)) ++ [(q2, .inl (gcA E0 1, 1, .inr (.inl (fun _ => 0))))]) 118 := by
  subst h0
  subst hE
  exact ⟨_, (sg_R2 q0 F q1 f1 q2 _ 15 (by decide) rfl), fun d hd H h => by cases hd; exact h⟩
set_option maxRecDepth 100000 in
set_option maxHeartbeats 4000000 in
theorem fnd_119 {D : va_G} {cA : Nat → ClassId} {ad str stv : Nat → Nat} {TK SW sz : Nat} (q0 : Nat) (F : Nat → Nat → Nat) (q1 : Nat) (f1 : Nat → Nat) (q2 : Nat) (E0 E : gE) (h0 : E0 = (D, cA, fun _ => 0, ad, sz, str, stv, TK, SW)) (hE : E = (D, cA, glA q0 F q1 f1 q2, ad, sz, str, stv, TK, SW)) : gFnd E M00 ((wdW E0 q0 F ++ mdW E0 (nA q1 f1) (mCP mFR 502) mFR (mCP (mNN 65) 65) (mNN 65)) ++ [(q2, .inl (gcA E0 1, 1, .inr (.inl (fun _ => 0))))]) 119 := by
  subst h0
  subst hE
  exact ⟨_, (sg_R2 q0 F q1 f1 q2 _ 16 (by decide) rfl), fun d hd H h => by cases hd; exact h⟩
set_option maxRecDepth 100000 in
set_option maxHeartbeats 4000000 in
theorem fnd_120 {D : va_G} {cA : Nat → ClassId} {ad str stv : Nat → Nat} {TK SW sz : Nat} (q0 : Nat) (F : Nat → Nat → Nat) (q1 : Nat) (f1 : Nat → Nat) (q2 : Nat) (E0 E : gE) (h0 : E0 = (D, cA, fun _ => 0, ad, sz, str, stv, TK, SW)) (hE : E = (D, cA, glA q0 F q1 f1 q2, ad, sz, str, stv, TK, SW)) : gFnd E M00 ((wdW E0 q0 F ++ mdW E0 (nA q1 f1) (mCP mFR 502) mFR (mCP (mNN 65) 65) (mNN 65)) ++ [(q2, .inl (gcA E0 1, 1, .inr (.inl (fun _ => 0))))]) 120 := by
  subst h0
  subst hE
  exact ⟨_, (sg_R2 q0 F q1 f1 q2 _ 17 (by decide) rfl), fun d hd H h => by cases hd; exact h⟩
set_option maxRecDepth 100000 in
set_option maxHeartbeats 4000000 in
theorem fnd_121 {D : va_G} {cA : Nat → ClassId} {ad str stv : Nat → Nat} {TK SW sz : Nat} (q0 : Nat) (F : Nat → Nat → Nat) (q1 : Nat) (f1 : Nat → Nat) (q2 : Nat) (E0 E : gE) (h0 : E0 = (D, cA, fun _ => 0, ad, sz, str, stv, TK, SW)) (hE : E = (D, cA, glA q0 F q1 f1 q2, ad, sz, str, stv, TK, SW)) : gFnd E M00 ((wdW E0 q0 F ++ mdW E0 (nA q1 f1) (mCP mFR 502) mFR (mCP (mNN 65) 65) (mNN 65)) ++ [(q2, .inl (gcA E0 1, 1, .inr (.inl (fun _ => 0))))]) 121 := by
  subst h0
  subst hE
  exact ⟨_, (sg_R2 q0 F q1 f1 q2 _ 18 (by decide) rfl), fun d hd H h => by cases hd; exact h⟩
set_option maxRecDepth 100000 in
set_option maxHeartbeats 4000000 in
theorem fnd_122 {D : va_G} {cA : Nat → ClassId} {ad str stv : Nat → Nat} {TK SW sz : Nat} (q0 : Nat) (F : Nat → Nat → Nat) (q1 : Nat) (f1 : Nat → Nat) (q2 : Nat) (E0 E : gE) (h0 : E0 = (D, cA, fun _ => 0, ad, sz, str, stv, TK, SW)) (hE : E = (D, cA, glA q0 F q1 f1 q2, ad, sz, str, stv, TK, SW)) : gFnd E M00 ((wdW E0 q0 F ++ mdW E0 (nA q1 f1) (mCP mFR 502) mFR (mCP (mNN 65) 65) (mNN 65)) ++ [(q2, .inl (gcA E0 1, 1, .inr (.inl (fun _ => 0))))]) 122 := by
  subst h0
  subst hE
  exact ⟨_, (sg_R2 q0 F q1 f1 q2 _ 19 (by decide) rfl), fun d hd H h => by cases hd; exact h⟩
set_option maxRecDepth 100000 in
set_option maxHeartbeats 4000000 in
theorem fnd_123 {D : va_G} {cA : Nat → ClassId} {ad str stv : Nat → Nat} {TK SW sz : Nat} (q0 : Nat) (F : Nat → Nat → Nat) (q1 : Nat) (f1 : Nat → Nat) (q2 : Nat) (E0 E : gE) (h0 : E0 = (D, cA, fun _ => 0, ad, sz, str, stv, TK, SW)) (hE : E = (D, cA, glA q0 F q1 f1 q2, ad, sz, str, stv, TK, SW)) : gFnd E M00 ((wdW E0 q0 F ++ mdW E0 (nA q1 f1) (mCP mFR 502) mFR (mCP (mNN 65) 65) (mNN 65)) ++ [(q2, .inl (gcA E0 1, 1, .inr (.inl (fun _ => 0))))]) 123 := by
  subst h0
  subst hE
  exact ⟨_, (sg_R2 q0 F q1 f1 q2 _ 20 (by decide) rfl), fun d hd H h => by cases hd; exact h⟩
set_option maxRecDepth 100000 in
set_option maxHeartbeats 4000000 in
theorem fnd_124 {D : va_G} {cA : Nat → ClassId} {ad str stv : Nat → Nat} {TK SW sz : Nat} (q0 : Nat) (F : Nat → Nat → Nat) (q1 : Nat) (f1 : Nat → Nat) (q2 : Nat) (E0 E : gE) (h0 : E0 = (D, cA, fun _ => 0, ad, sz, str, stv, TK, SW)) (hE : E = (D, cA, glA q0 F q1 f1 q2, ad, sz, str, stv, TK, SW)) : gFnd E M00 ((wdW E0 q0 F ++ mdW E0 (nA q1 f1) (mCP mFR 502) mFR (mCP (mNN 65) 65) (mNN 65)) ++ [(q2, .inl (gcA E0 1, 1, .inr (.inl (fun _ => 0))))]) 124 := by
  subst h0
  subst hE
  exact ⟨_, (sg_R2 q0 F q1 f1 q2 _ 21 (by decide) rfl), fun d hd H h => by cases hd; exact h⟩
set_option maxRecDepth 100000 in
set_option maxHeartbeats 4000000 in
theorem fnd_125 {D : va_G} {cA : Nat → ClassId} {ad str stv : Nat → Nat} {TK SW sz : Nat} (q0 : Nat) (F : Nat → Nat → Nat) (q1 : Nat) (f1 : Nat → Nat) (q2 : Nat) (E0 E : gE) (h0 : E0 = (D, cA, fun _ => 0, ad, sz, str, stv, TK, SW)) (hE : E = (D, cA, glA q0 F q1 f1 q2, ad, sz, str, stv, TK, SW)) : gFnd E M00 ((wdW E0 q0 F ++ mdW E0 (nA q1 f1) (mCP mFR 502) mFR (mCP (mNN 65) 65) (mNN 65)) ++ [(q2, .inl (gcA E0 1, 1, .inr (.inl (fun _ => 0))))]) 125 := by
  subst h0
  subst hE
  exact ⟨_, (sg_R2 q0 F q1 f1 q2 _ 22 (by decide) rfl), fun d hd H h => by cases hd; exact h⟩
set_option maxRecDepth 100000 in
set_option maxHeartbeats 4000000 in
theorem fnd_126 {D : va_G} {cA : Nat → ClassId} {ad str stv : Nat → Nat} {TK SW sz : Nat} (q0 : Nat) (F : Nat → Nat → Nat) (q1 : Nat) (f1 : Nat → Nat) (q2 : Nat) (E0 E : gE) (h0 : E0 = (D, cA, fun _ => 0, ad, sz, str, stv, TK, SW)) (hE : E = (D, cA, glA q0 F q1 f1 q2, ad, sz, str, stv, TK, SW)) : gFnd E M00 ((wdW E0 q0 F ++ mdW E0 (nA q1 f1) (mCP mFR 502) mFR (mCP (mNN 65) 65) (mNN 65)) ++ [(q2, .inl (gcA E0 1, 1, .inr (.inl (fun _ => 0))))]) 126 := by
  subst h0
  subst hE
  exact ⟨_, (sg_R2 q0 F q1 f1 q2 _ 23 (by decide) rfl), fun d hd H h => by cases hd; exact h⟩
set_option maxRecDepth 100000 in
set_option maxHeartbeats 4000000 in
theorem fnd_127 {D : va_G} {cA : Nat → ClassId} {ad str stv : Nat → Nat} {TK SW sz : Nat} (q0 : Nat) (F : Nat → Nat → Nat) (q1 : Nat) (f1 : Nat → Nat) (q2 : Nat) (E0 E : gE) (h0 : E0 = (D, cA, fun _ => 0, ad, sz, str, stv, TK, SW)) (hE : E = (D, cA, glA q0 F q1 f1 q2, ad, sz, str, stv, TK, SW)) : gFnd E M00 ((wdW E0 q0 F ++ mdW E0 (nA q1 f1) (mCP mFR 502) mFR (mCP (mNN 65) 65) (mNN 65)) ++ [(q2, .inl (gcA E0 1, 1, .inr (.inl (fun _ => 0))))]) 127 := by
  subst h0
  subst hE
  exact ⟨_, (sg_R2 q0 F q1 f1 q2 _ 24 (by decide) rfl), fun d hd H h => by cases hd; exact h⟩
set_option maxRecDepth 100000 in
set_option maxHeartbeats 4000000 in
theorem fnd_128 {D : va_G} {cA : Nat → ClassId} {ad str stv : Nat → Nat} {TK SW sz : Nat} (q0 : Nat) (F : Nat → Nat → Nat) (q1 : Nat) (f1 : Nat → Nat) (q2 : Nat) (E0 E : gE) (h0 : E0 = (D, cA, fun _ => 0, ad, sz, str, stv, TK, SW)) (hE : E = (D, cA, glA q0 F q1 f1 q2, ad, sz, str, stv, TK, SW)) : gFnd E M00 ((wdW E0 q0 F ++ mdW E0 (nA q1 f1) (mCP mFR 502) mFR (mCP (mNN 65) 65) (mNN 65)) ++ [(q2, .inl (gcA E0 1, 1, .inr (.inl (fun _ => 0))))]) 128 := by
  subst h0
  subst hE
  exact ⟨_, (sg_R2 q0 F q1 f1 q2 _ 25 (by decide) rfl), fun d hd H h => by cases hd; exact h⟩
set_option maxRecDepth 100000 in
set_option maxHeartbeats 4000000 in
theorem fnd_129 {D : va_G} {cA : Nat → ClassId} {ad str stv : Nat → Nat} {TK SW sz : Nat} (q0 : Nat) (F : Nat → Nat → Nat) (q1 : Nat) (f1 : Nat → Nat) (q2 : Nat) (E0 E : gE) (h0 : E0 = (D, cA, fun _ => 0, ad, sz, str, stv, TK, SW)) (hE : E = (D, cA, glA q0 F q1 f1 q2, ad, sz, str, stv, TK, SW)) : gFnd E M00 ((wdW E0 q0 F ++ mdW E0 (nA q1 f1) (mCP mFR 502) mFR (mCP (mNN 65) 65) (mNN 65)) ++ [(q2, .inl (gcA E0 1, 1, .inr (.inl (fun _ => 0))))]) 129 := by
  subst h0
  subst hE
  exact ⟨_, (sg_R2 q0 F q1 f1 q2 _ 26 (by decide) rfl), fun d hd H h => by cases hd; exact h⟩
set_option maxRecDepth 100000 in
set_option maxHeartbeats 4000000 in
theorem fnd_130 {D : va_G} {cA : Nat → ClassId} {ad str stv : Nat → Nat} {TK SW sz : Nat} (q0 : Nat) (F : Nat → Nat → Nat) (q1 : Nat) (f1 : Nat → Nat) (q2 : Nat) (E0 E : gE) (h0 : E0 = (D, cA, fun _ => 0, ad, sz, str, stv, TK, SW)) (hE : E = (D, cA, glA q0 F q1 f1 q2, ad, sz, str, stv, TK, SW)) : gFnd E M00 ((wdW E0 q0 F ++ mdW E0 (nA q1 f1) (mCP mFR 502) mFR (mCP (mNN 65) 65) (mNN 65)) ++ [(q2, .inl (gcA E0 1, 1, .inr (.inl (fun _ => 0))))]) 130 := by
  subst h0
  subst hE
  exact ⟨_, (sg_R2 q0 F q1 f1 q2 _ 27 (by decide) rfl), fun d hd H h => by cases hd; exact h⟩
set_option maxRecDepth 100000 in
set_option maxHeartbeats 4000000 in
theorem fnd_131 {D : va_G} {cA : Nat → ClassId} {ad str stv : Nat → Nat} {TK SW sz : Nat} (q0 : Nat) (F : Nat → Nat → Nat) (q1 : Nat) (f1 : Nat → Nat) (q2 : Nat) (E0 E : gE) (h0 : E0 = (D, cA, fun _ => 0, ad, sz, str, stv, TK, SW)) (hE : E = (D, cA, glA q0 F q1 f1 q2, ad, sz, str, stv, TK, SW)) : gFnd E M00 ((wdW E0 q0 F ++ mdW E0 (nA q1 f1) (mCP mFR 502) mFR (mCP (mNN 65) 65) (mNN 65)) ++ [(q2, .inl (gcA E0 1, 1, .inr (.inl (fun _ => 0))))]) 131 := by
  subst h0
  subst hE
  exact ⟨_, (sg_R2 q0 F q1 f1 q2 _ 28 (by decide) rfl), fun d hd H h => by cases hd; exact h⟩
set_option maxRecDepth 100000 in
set_option maxHeartbeats 4000000 in
theorem fnd_132 {D : va_G} {cA : Nat → ClassId} {ad str stv : Nat → Nat} {TK SW sz : Nat} (q0 : Nat) (F : Nat → Nat → Nat) (q1 : Nat) (f1 : Nat → Nat) (q2 : Nat) (E0 E : gE) (h0 : E0 = (D, cA, fun _ => 0, ad, sz, str, stv, TK, SW)) (hE : E = (D, cA, glA q0 F q1 f1 q2, ad, sz, str, stv, TK, SW)) : gFnd E M00 ((wdW E0 q0 F ++ mdW E0 (nA q1 f1) (mCP mFR 502) mFR (mCP (mNN 65) 65) (mNN 65)) ++ [(q2, .inl (gcA E0 1, 1, .inr (.inl (fun _ => 0))))]) 132 := by
  subst h0
  subst hE
  exact ⟨_, (sg_R2 q0 F q1 f1 q2 _ 29 (by decide) rfl), fun d hd H h => by cases hd; exact h⟩
set_option maxRecDepth 100000 in
set_option maxHeartbeats 4000000 in
theorem fnd_133 {D : va_G} {cA : Nat → ClassId} {ad str stv : Nat → Nat} {TK SW sz : Nat} (q0 : Nat) (F : Nat → Nat → Nat) (q1 : Nat) (f1 : Nat → Nat) (q2 : Nat) (E0 E : gE) (h0 : E0 = (D, cA, fun _ => 0, ad, sz, str, stv, TK, SW)) (hE : E = (D, cA, glA q0 F q1 f1 q2, ad, sz, str, stv, TK, SW)) : gFnd E M00 ((wdW E0 q0 F ++ mdW E0 (nA q1 f1) (mCP mFR 502) mFR (mCP (mNN 65) 65) (mNN 65)) ++ [(q2, .inl (gcA E0 1, 1, .inr (.inl (fun _ => 0))))]) 133 := by
  subst h0
  subst hE
  exact ⟨_, (sg_R2 q0 F q1 f1 q2 _ 30 (by decide) rfl), fun d hd H h => by cases hd; exact h⟩
set_option maxRecDepth 100000 in
set_option maxHeartbeats 4000000 in
theorem fnd_134 {D : va_G} {cA : Nat → ClassId} {ad str stv : Nat → Nat} {TK SW sz : Nat} (q0 : Nat) (F : Nat → Nat → Nat) (q1 : Nat) (f1 : Nat → Nat) (q2 : Nat) (E0 E : gE) (h0 : E0 = (D, cA, fun _ => 0, ad, sz, str, stv, TK, SW)) (hE : E = (D, cA, glA q0 F q1 f1 q2, ad, sz, str, stv, TK, SW)) : gFnd E M00 ((wdW E0 q0 F ++ mdW E0 (nA q1 f1) (mCP mFR 502) mFR (mCP (mNN 65) 65) (mNN 65)) ++ [(q2, .inl (gcA E0 1, 1, .inr (.inl (fun _ => 0))))]) 134 := by
  subst h0
  subst hE
  exact ⟨_, (sg_R2 q0 F q1 f1 q2 _ 31 (by decide) rfl), fun d hd H h => by cases hd; exact h⟩
set_option maxRecDepth 100000 in
set_option maxHeartbeats 4000000 in
theorem fnd_135 {D : va_G} {cA : Nat → ClassId} {ad str stv : Nat → Nat} {TK SW sz : Nat} (q0 : Nat) (F : Nat → Nat → Nat) (q1 : Nat) (f1 : Nat → Nat) (q2 : Nat) (E0 E : gE) (h0 : E0 = (D, cA, fun _ => 0, ad, sz, str, stv, TK, SW)) (hE : E = (D, cA, glA q0 F q1 f1 q2, ad, sz, str, stv, TK, SW)) : gFnd E M00 ((wdW E0 q0 F ++ mdW E0 (nA q1 f1) (mCP mFR 502) mFR (mCP (mNN 65) 65) (mNN 65)) ++ [(q2, .inl (gcA E0 1, 1, .inr (.inl (fun _ => 0))))]) 135 := by
  subst h0
  subst hE
  exact ⟨_, (sg_R2 q0 F q1 f1 q2 _ 32 (by decide) rfl), fun d hd H h => by cases hd; exact h⟩
set_option maxRecDepth 100000 in
set_option maxHeartbeats 4000000 in
theorem fnd_136 {D : va_G} {cA : Nat → ClassId} {ad str stv : Nat → Nat} {TK SW sz : Nat} (q0 : Nat) (F : Nat → Nat → Nat) (q1 : Nat) (f1 : Nat → Nat) (q2 : Nat) (E0 E : gE) (h0 : E0 = (D, cA, fun _ => 0, ad, sz, str, stv, TK, SW)) (hE : E = (D, cA, glA q0 F q1 f1 q2, ad, sz, str, stv, TK, SW)) : gFnd E M00 ((wdW E0 q0 F ++ mdW E0 (nA q1 f1) (mCP mFR 502) mFR (mCP (mNN 65) 65) (mNN 65)) ++ [(q2, .inl (gcA E0 1, 1, .inr (.inl (fun _ => 0))))]) 136 := by
  subst h0
  subst hE
  exact ⟨_, (sg_R2 q0 F q1 f1 q2 _ 33 (by decide) rfl), fun d hd H h => by cases hd; exact h⟩
set_option maxRecDepth 100000 in
set_option maxHeartbeats 4000000 in
theorem fnd_137 {D : va_G} {cA : Nat → ClassId} {ad str stv : Nat → Nat} {TK SW sz : Nat} (q0 : Nat) (F : Nat → Nat → Nat) (q1 : Nat) (f1 : Nat → Nat) (q2 : Nat) (E0 E : gE) (h0 : E0 = (D, cA, fun _ => 0, ad, sz, str, stv, TK, SW)) (hE : E = (D, cA, glA q0 F q1 f1 q2, ad, sz, str, stv, TK, SW)) : gFnd E M00 ((wdW E0 q0 F ++ mdW E0 (nA q1 f1) (mCP mFR 502) mFR (mCP (mNN 65) 65) (mNN 65)) ++ [(q2, .inl (gcA E0 1, 1, .inr (.inl (fun _ => 0))))]) 137 := by
  subst h0
  subst hE
  exact ⟨_, (sg_R2 q0 F q1 f1 q2 _ 34 (by decide) rfl), fun d hd H h => by cases hd; exact h⟩
set_option maxRecDepth 100000 in
set_option maxHeartbeats 4000000 in
theorem fnd_138 {D : va_G} {cA : Nat → ClassId} {ad str stv : Nat → Nat} {TK SW sz : Nat} (q0 : Nat) (F : Nat → Nat → Nat) (q1 : Nat) (f1 : Nat → Nat) (q2 : Nat) (E0 E : gE) (h0 : E0 = (D, cA, fun _ => 0, ad, sz, str, stv, TK, SW)) (hE : E = (D, cA, glA q0 F q1 f1 q2, ad, sz, str, stv, TK, SW)) : gFnd E M00 ((wdW E0 q0 F ++ mdW E0 (nA q1 f1) (mCP mFR 502) mFR (mCP (mNN 65) 65) (mNN 65)) ++ [(q2, .inl (gcA E0 1, 1, .inr (.inl (fun _ => 0))))]) 138 := by
  subst h0
  subst hE
  exact ⟨_, (sg_R2 q0 F q1 f1 q2 _ 35 (by decide) rfl), fun d hd H h => by cases hd; exact h⟩
set_option maxRecDepth 100000 in
set_option maxHeartbeats 4000000 in
theorem fnd_139 {D : va_G} {cA : Nat → ClassId} {ad str stv : Nat → Nat} {TK SW sz : Nat} (q0 : Nat) (F : Nat → Nat → Nat) (q1 : Nat) (f1 : Nat → Nat) (q2 : Nat) (E0 E : gE) (h0 : E0 = (D, cA, fun _ => 0, ad, sz, str, stv, TK, SW)) (hE : E = (D, cA, glA q0 F q1 f1 q2, ad, sz, str, stv, TK, SW)) : gFnd E M00 ((wdW E0 q0 F ++ mdW E0 (nA q1 f1) (mCP mFR 502) mFR (mCP (mNN 65) 65) (mNN 65)) ++ [(q2, .inl (gcA E0 1, 1, .inr (.inl (fun _ => 0))))]) 139 := by
  subst h0
  subst hE
  exact ⟨_, (sg_R2 q0 F q1 f1 q2 _ 36 (by decide) rfl), fun d hd H h => by cases hd; exact h⟩
set_option maxRecDepth 100000 in
set_option maxHeartbeats 4000000 in
theorem fnd_140 {D : va_G} {cA : Nat → ClassId} {ad str stv : Nat → Nat} {TK SW sz : Nat} (q0 : Nat) (F : Nat → Nat → Nat) (q1 : Nat) (f1 : Nat → Nat) (q2 : Nat) (E0 E : gE) (h0 : E0 = (D, cA, fun _ => 0, ad, sz, str, stv, TK, SW)) (hE : E = (D, cA, glA q0 F q1 f1 q2, ad, sz, str, stv, TK, SW)) : gFnd E M00 ((wdW E0 q0 F ++ mdW E0 (nA q1 f1) (mCP mFR 502) mFR (mCP (mNN 65) 65) (mNN 65)) ++ [(q2, .inl (gcA E0 1, 1, .inr (.inl (fun _ => 0))))]) 140 := by
  subst h0
  subst hE
  exact ⟨_, (sg_R2 q0 F q1 f1 q2 _ 37 (by decide) rfl), fun d hd H h => by cases hd; exact h⟩
set_option maxRecDepth 100000 in
set_option maxHeartbeats 4000000 in
theorem fnd_141 {D : va_G} {cA : Nat → ClassId} {ad str stv : Nat → Nat} {TK SW sz : Nat} (q0 : Nat) (F : Nat → Nat → Nat) (q1 : Nat) (f1 : Nat → Nat) (q2 : Nat) (E0 E : gE) (h0 : E0 = (D, cA, fun _ => 0, ad, sz, str, stv, TK, SW)) (hE : E = (D, cA, glA q0 F q1 f1 q2, ad, sz, str, stv, TK, SW)) : gFnd E M00 ((wdW E0 q0 F ++ mdW E0 (nA q1 f1) (mCP mFR 502) mFR (mCP (mNN 65) 65) (mNN 65)) ++ [(q2, .inl (gcA E0 1, 1, .inr (.inl (fun _ => 0))))]) 141 := by
  subst h0
  subst hE
  exact ⟨_, (sg_R2 q0 F q1 f1 q2 _ 38 (by decide) rfl), fun d hd H h => by cases hd; exact h⟩
set_option maxRecDepth 100000 in
set_option maxHeartbeats 4000000 in
theorem fnd_142 {D : va_G} {cA : Nat → ClassId} {ad str stv : Nat → Nat} {TK SW sz : Nat} (q0 : Nat) (F : Nat → Nat → Nat) (q1 : Nat) (f1 : Nat → Nat) (q2 : Nat) (E0 E : gE) (h0 : E0 = (D, cA, fun _ => 0, ad, sz, str, stv, TK, SW)) (hE : E = (D, cA, glA q0 F q1 f1 q2, ad, sz, str, stv, TK, SW)) : gFnd E M00 ((wdW E0 q0 F ++ mdW E0 (nA q1 f1) (mCP mFR 502) mFR (mCP (mNN 65) 65) (mNN 65)) ++ [(q2, .inl (gcA E0 1, 1, .inr (.inl (fun _ => 0))))]) 142 := by
  subst h0
  subst hE
  exact ⟨_, (sg_R2 q0 F q1 f1 q2 _ 39 (by decide) rfl), fun d hd H h => by cases hd; exact h⟩
set_option maxRecDepth 100000 in
set_option maxHeartbeats 4000000 in
theorem fnd_143 {D : va_G} {cA : Nat → ClassId} {ad str stv : Nat → Nat} {TK SW sz : Nat} (q0 : Nat) (F : Nat → Nat → Nat) (q1 : Nat) (f1 : Nat → Nat) (q2 : Nat) (E0 E : gE) (h0 : E0 = (D, cA, fun _ => 0, ad, sz, str, stv, TK, SW)) (hE : E = (D, cA, glA q0 F q1 f1 q2, ad, sz, str, stv, TK, SW)) : gFnd E M00 ((wdW E0 q0 F ++ mdW E0 (nA q1 f1) (mCP mFR 502) mFR (mCP (mNN 65) 65) (mNN 65)) ++ [(q2, .inl (gcA E0 1, 1, .inr (.inl (fun _ => 0))))]) 143 := by
  subst h0
  subst hE
  exact ⟨_, (sg_R2 q0 F q1 f1 q2 _ 40 (by decide) rfl), fun d hd H h => by cases hd; exact h⟩
set_option maxRecDepth 100000 in
set_option maxHeartbeats 4000000 in
theorem fnd_144 {D : va_G} {cA : Nat → ClassId} {ad str stv : Nat → Nat} {TK SW sz : Nat} (q0 : Nat) (F : Nat → Nat → Nat) (q1 : Nat) (f1 : Nat → Nat) (q2 : Nat) (E0 E : gE) (h0 : E0 = (D, cA, fun _ => 0, ad, sz, str, stv, TK, SW)) (hE : E = (D, cA, glA q0 F q1 f1 q2, ad, sz, str, stv, TK, SW)) : gFnd E M00 ((wdW E0 q0 F ++ mdW E0 (nA q1 f1) (mCP mFR 502) mFR (mCP (mNN 65) 65) (mNN 65)) ++ [(q2, .inl (gcA E0 1, 1, .inr (.inl (fun _ => 0))))]) 144 := by
  subst h0
  subst hE
  exact ⟨_, (sg_R2 q0 F q1 f1 q2 _ 41 (by decide) rfl), fun d hd H h => by cases hd; exact h⟩
set_option maxRecDepth 100000 in
set_option maxHeartbeats 4000000 in
theorem fnd_145 {D : va_G} {cA : Nat → ClassId} {ad str stv : Nat → Nat} {TK SW sz : Nat} (q0 : Nat) (F : Nat → Nat → Nat) (q1 : Nat) (f1 : Nat → Nat) (q2 : Nat) (E0 E : gE) (h0 : E0 = (D, cA, fun _ => 0, ad, sz, str, stv, TK, SW)) (hE : E = (D, cA, glA q0 F q1 f1 q2, ad, sz, str, stv, TK, SW)) : gFnd E M00 ((wdW E0 q0 F ++ mdW E0 (nA q1 f1) (mCP mFR 502) mFR (mCP (mNN 65) 65) (mNN 65)) ++ [(q2, .inl (gcA E0 1, 1, .inr (.inl (fun _ => 0))))]) 145 := by
  subst h0
  subst hE
  exact ⟨_, (sg_R2 q0 F q1 f1 q2 _ 42 (by decide) rfl), fun d hd H h => by cases hd; exact h⟩
set_option maxRecDepth 100000 in
set_option maxHeartbeats 4000000 in
theorem fnd_146 {D : va_G} {cA : Nat → ClassId} {ad str stv : Nat → Nat} {TK SW sz : Nat} (q0 : Nat) (F : Nat → Nat → Nat) (q1 : Nat) (f1 : Nat → Nat) (q2 : Nat) (E0 E : gE) (h0 : E0 = (D, cA, fun _ => 0, ad, sz, str, stv, TK, SW)) (hE : E = (D, cA, glA q0 F q1 f1 q2, ad, sz, str, stv, TK, SW)) : gFnd E M00 ((wdW E0 q0 F ++ mdW E0 (nA q1 f1) (mCP mFR 502) mFR (mCP (mNN 65) 65) (mNN 65)) ++ [(q2, .inl (gcA E0 1, 1, .inr (.inl (fun _ => 0))))]) 146 := by
  subst h0
  subst hE
  exact ⟨_, (sg_R2 q0 F q1 f1 q2 _ 43 (by decide) rfl), fun d hd H h => by cases hd; exact h⟩
set_option maxRecDepth 100000 in
set_option maxHeartbeats 4000000 in
theorem fnd_147 {D : va_G} {cA : Nat → ClassId} {ad str stv : Nat → Nat} {TK SW sz : Nat} (q0 : Nat) (F : Nat → Nat → Nat) (q1 : Nat) (f1 : Nat → Nat) (q2 : Nat) (E0 E : gE) (h0 : E0 = (D, cA, fun _ => 0, ad, sz, str, stv, TK, SW)) (hE : E = (D, cA, glA q0 F q1 f1 q2, ad, sz, str, stv, TK, SW)) : gFnd E M00 ((wdW E0 q0 F ++ mdW E0 (nA q1 f1) (mCP mFR 502) mFR (mCP (mNN 65) 65) (mNN 65)) ++ [(q2, .inl (gcA E0 1, 1, .inr (.inl (fun _ => 0))))]) 147 := by
  subst h0
  subst hE
  exact ⟨_, (sg_R2 q0 F q1 f1 q2 _ 44 (by decide) rfl), fun d hd H h => by cases hd; exact h⟩
set_option maxRecDepth 100000 in
set_option maxHeartbeats 4000000 in
theorem fnd_148 {D : va_G} {cA : Nat → ClassId} {ad str stv : Nat → Nat} {TK SW sz : Nat} (q0 : Nat) (F : Nat → Nat → Nat) (q1 : Nat) (f1 : Nat → Nat) (q2 : Nat) (E0 E : gE) (h0 : E0 = (D, cA, fun _ => 0, ad, sz, str, stv, TK, SW)) (hE : E = (D, cA, glA q0 F q1 f1 q2, ad, sz, str, stv, TK, SW)) : gFnd E M00 ((wdW E0 q0 F ++ mdW E0 (nA q1 f1) (mCP mFR 502) mFR (mCP (mNN 65) 65) (mNN 65)) ++ [(q2, .inl (gcA E0 1, 1, .inr (.inl (fun _ => 0))))]) 148 := by
  subst h0
  subst hE
  exact ⟨_, (sg_R2 q0 F q1 f1 q2 _ 45 (by decide) rfl), fun d hd H h => by cases hd; exact h⟩
set_option maxRecDepth 100000 in
set_option maxHeartbeats 4000000 in
theorem fnd_149 {D : va_G} {cA : Nat → ClassId} {ad str stv : Nat → Nat} {TK SW sz : Nat} (q0 : Nat) (F : Nat → Nat → Nat) (q1 : Nat) (f1 : Nat → Nat) (q2 : Nat) (E0 E : gE) (h0 : E0 = (D, cA, fun _ => 0, ad, sz, str, stv, TK, SW)) (hE : E = (D, cA, glA q0 F q1 f1 q2, ad, sz, str, stv, TK, SW)) : gFnd E M00 ((wdW E0 q0 F ++ mdW E0 (nA q1 f1) (mCP mFR 502) mFR (mCP (mNN 65) 65) (mNN 65)) ++ [(q2, .inl (gcA E0 1, 1, .inr (.inl (fun _ => 0))))]) 149 := by
  subst h0
  subst hE
  exact ⟨_, (sg_R2 q0 F q1 f1 q2 _ 46 (by decide) rfl), fun d hd H h => by cases hd; exact h⟩
set_option maxRecDepth 100000 in
set_option maxHeartbeats 4000000 in
theorem fnd_150 {D : va_G} {cA : Nat → ClassId} {ad str stv : Nat → Nat} {TK SW sz : Nat} (q0 : Nat) (F : Nat → Nat → Nat) (q1 : Nat) (f1 : Nat → Nat) (q2 : Nat) (E0 E : gE) (h0 : E0 = (D, cA, fun _ => 0, ad, sz, str, stv, TK, SW)) (hE : E = (D, cA, glA q0 F q1 f1 q2, ad, sz, str, stv, TK, SW)) : gFnd E M00 ((wdW E0 q0 F ++ mdW E0 (nA q1 f1) (mCP mFR 502) mFR (mCP (mNN 65) 65) (mNN 65)) ++ [(q2, .inl (gcA E0 1, 1, .inr (.inl (fun _ => 0))))]) 150 := by
  subst h0
  subst hE
  exact ⟨_, (sg_R2 q0 F q1 f1 q2 _ 47 (by decide) rfl), fun d hd H h => by cases hd; exact h⟩
set_option maxRecDepth 100000 in
set_option maxHeartbeats 4000000 in
theorem fnd_151 {D : va_G} {cA : Nat → ClassId} {ad str stv : Nat → Nat} {TK SW sz : Nat} (q0 : Nat) (F : Nat → Nat → Nat) (q1 : Nat) (f1 : Nat → Nat) (q2 : Nat) (E0 E : gE) (h0 : E0 = (D, cA, fun _ => 0, ad, sz, str, stv, TK, SW)) (hE : E = (D, cA, glA q0 F q1 f1 q2, ad, sz, str, stv, TK, SW)) : gFnd E M00 ((wdW E0 q0 F ++ mdW E0 (nA q1 f1) (mCP mFR 502) mFR (mCP (mNN 65) 65) (mNN 65)) ++ [(q2, .inl (gcA E0 1, 1, .inr (.inl (fun _ => 0))))]) 151 := by
  subst h0
  subst hE
  exact ⟨_, (sg_R2 q0 F q1 f1 q2 _ 48 (by decide) rfl), fun d hd H h => by cases hd; exact h⟩
set_option maxRecDepth 100000 in
set_option maxHeartbeats 4000000 in
theorem fnd_152 {D : va_G} {cA : Nat → ClassId} {ad str stv : Nat → Nat} {TK SW sz : Nat} (q0 : Nat) (F : Nat → Nat → Nat) (q1 : Nat) (f1 : Nat → Nat) (q2 : Nat) (E0 E : gE) (h0 : E0 = (D, cA, fun _ => 0, ad, sz, str, stv, TK, SW)) (hE : E = (D, cA, glA q0 F q1 f1 q2, ad, sz, str, stv, TK, SW)) : gFnd E M00 ((wdW E0 q0 F ++ mdW E0 (nA q1 f1) (mCP mFR 502) mFR (mCP (mNN 65) 65) (mNN 65)) ++ [(q2, .inl (gcA E0 1, 1, .inr (.inl (fun _ => 0))))]) 152 := by
  subst h0
  subst hE
  exact ⟨_, (sg_R2 q0 F q1 f1 q2 _ 49 (by decide) rfl), fun d hd H h => by cases hd; exact h⟩
set_option maxRecDepth 100000 in
set_option maxHeartbeats 4000000 in
theorem fnd_153 {D : va_G} {cA : Nat → ClassId} {ad str stv : Nat → Nat} {TK SW sz : Nat} (q0 : Nat) (F : Nat → Nat → Nat) (q1 : Nat) (f1 : Nat → Nat) (q2 : Nat) (E0 E : gE) (h0 : E0 = (D, cA, fun _ => 0, ad, sz, str, stv, TK, SW)) (hE : E = (D, cA, glA q0 F q1 f1 q2, ad, sz, str, stv, TK, SW)) : gFnd E M00 ((wdW E0 q0 F ++ mdW E0 (nA q1 f1) (mCP mFR 502) mFR (mCP (mNN 65) 65) (mNN 65)) ++ [(q2, .inl (gcA E0 1, 1, .inr (.inl (fun _ => 0))))]) 153 := by
  subst h0
  subst hE
  exact ⟨_, (sg_R2 q0 F q1 f1 q2 _ 50 (by decide) rfl), fun d hd H h => by cases hd; exact h⟩
set_option maxRecDepth 100000 in
set_option maxHeartbeats 4000000 in
theorem fnd_154 {D : va_G} {cA : Nat → ClassId} {ad str stv : Nat → Nat} {TK SW sz : Nat} (q0 : Nat) (F : Nat → Nat → Nat) (q1 : Nat) (f1 : Nat → Nat) (q2 : Nat) (E0 E : gE) (h0 : E0 = (D, cA, fun _ => 0, ad, sz, str, stv, TK, SW)) (hE : E = (D, cA, glA q0 F q1 f1 q2, ad, sz, str, stv, TK, SW)) : gFnd E M00 ((wdW E0 q0 F ++ mdW E0 (nA q1 f1) (mCP mFR 502) mFR (mCP (mNN 65) 65) (mNN 65)) ++ [(q2, .inl (gcA E0 1, 1, .inr (.inl (fun _ => 0))))]) 154 := by
  subst h0
  subst hE
  exact ⟨_, (sg_R2 q0 F q1 f1 q2 _ 51 (by decide) rfl), fun d hd H h => by cases hd; exact h⟩
set_option maxRecDepth 100000 in
set_option maxHeartbeats 4000000 in
theorem fnd_155 {D : va_G} {cA : Nat → ClassId} {ad str stv : Nat → Nat} {TK SW sz : Nat} (q0 : Nat) (F : Nat → Nat → Nat) (q1 : Nat) (f1 : Nat → Nat) (q2 : Nat) (E0 E : gE) (h0 : E0 = (D, cA, fun _ => 0, ad, sz, str, stv, TK, SW)) (hE : E = (D, cA, glA q0 F q1 f1 q2, ad, sz, str, stv, TK, SW)) : gFnd E M00 ((wdW E0 q0 F ++ mdW E0 (nA q1 f1) (mCP mFR 502) mFR (mCP (mNN 65) 65) (mNN 65)) ++ [(q2, .inl (gcA E0 1, 1, .inr (.inl (fun _ => 0))))]) 155 := by
  subst h0
  subst hE
  exact ⟨_, (sg_R2 q0 F q1 f1 q2 _ 52 (by decide) rfl), fun d hd H h => by cases hd; exact h⟩
set_option maxRecDepth 100000 in
set_option maxHeartbeats 4000000 in
theorem fnd_156 {D : va_G} {cA : Nat → ClassId} {ad str stv : Nat → Nat} {TK SW sz : Nat} (q0 : Nat) (F : Nat → Nat → Nat) (q1 : Nat) (f1 : Nat → Nat) (q2 : Nat) (E0 E : gE) (h0 : E0 = (D, cA, fun _ => 0, ad, sz, str, stv, TK, SW)) (hE : E = (D, cA, glA q0 F q1 f1 q2, ad, sz, str, stv, TK, SW)) : gFnd E M00 ((wdW E0 q0 F ++ mdW E0 (nA q1 f1) (mCP mFR 502) mFR (mCP (mNN 65) 65) (mNN 65)) ++ [(q2, .inl (gcA E0 1, 1, .inr (.inl (fun _ => 0))))]) 156 := by
  subst h0
  subst hE
  exact ⟨_, (sg_R2 q0 F q1 f1 q2 _ 53 (by decide) rfl), fun d hd H h => by cases hd; exact h⟩
set_option maxRecDepth 100000 in
set_option maxHeartbeats 4000000 in
theorem fnd_157 {D : va_G} {cA : Nat → ClassId} {ad str stv : Nat → Nat} {TK SW sz : Nat} (q0 : Nat) (F : Nat → Nat → Nat) (q1 : Nat) (f1 : Nat → Nat) (q2 : Nat) (E0 E : gE) (h0 : E0 = (D, cA, fun _ => 0, ad, sz, str, stv, TK, SW)) (hE : E = (D, cA, glA q0 F q1 f1 q2, ad, sz, str, stv, TK, SW)) : gFnd E M00 ((wdW E0 q0 F ++ mdW E0 (nA q1 f1) (mCP mFR 502) mFR (mCP (mNN 65) 65) (mNN 65)) ++ [(q2, .inl (gcA E0 1, 1, .inr (.inl (fun _ => 0))))]) 157 := by
  subst h0
  subst hE
  exact ⟨_, (sg_R2 q0 F q1 f1 q2 _ 54 (by decide) rfl), fun d hd H h => by cases hd; exact h⟩
set_option maxRecDepth 100000 in
set_option maxHeartbeats 4000000 in
theorem fnd_158 {D : va_G} {cA : Nat → ClassId} {ad str stv : Nat → Nat} {TK SW sz : Nat} (q0 : Nat) (F : Nat → Nat → Nat) (q1 : Nat) (f1 : Nat → Nat) (q2 : Nat) (E0 E : gE) (h0 : E0 = (D, cA, fun _ => 0, ad, sz, str, stv, TK, SW)) (hE : E = (D, cA, glA q0 F q1 f1 q2, ad, sz, str, stv, TK, SW)) : gFnd E M00 ((wdW E0 q0 F ++ mdW E0 (nA q1 f1) (mCP mFR 502) mFR (mCP (mNN 65) 65) (mNN 65)) ++ [(q2, .inl (gcA E0 1, 1, .inr (.inl (fun _ => 0))))]) 158 := by
  subst h0
  subst hE
  exact ⟨_, (sg_R2 q0 F q1 f1 q2 _ 55 (by decide) rfl), fun d hd H h => by cases hd; exact h⟩
set_option maxRecDepth 100000 in
set_option maxHeartbeats 4000000 in
theorem fnd_159 {D : va_G} {cA : Nat → ClassId} {ad str stv : Nat → Nat} {TK SW sz : Nat} (q0 : Nat) (F : Nat → Nat → Nat) (q1 : Nat) (f1 : Nat → Nat) (q2 : Nat) (E0 E : gE) (h0 : E0 = (D, cA, fun _ => 0, ad, sz, str, stv, TK, SW)) (hE : E = (D, cA, glA q0 F q1 f1 q2, ad, sz, str, stv, TK, SW)) : gFnd E M00 ((wdW E0 q0 F ++ mdW E0 (nA q1 f1) (mCP mFR 502) mFR (mCP (mNN 65) 65) (mNN 65)) ++ [(q2, .inl (gcA E0 1, 1, .inr (.inl (fun _ => 0))))]) 159 := by
  subst h0
  subst hE
  exact ⟨_, (sg_R2 q0 F q1 f1 q2 _ 56 (by decide) rfl), fun d hd H h => by cases hd; exact h⟩
set_option maxRecDepth 100000 in
set_option maxHeartbeats 4000000 in
theorem fnd_160 {D : va_G} {cA : Nat → ClassId} {ad str stv : Nat → Nat} {TK SW sz : Nat} (q0 : Nat) (F : Nat → Nat → Nat) (q1 : Nat) (f1 : Nat → Nat) (q2 : Nat) (E0 E : gE) (h0 : E0 = (D, cA, fun _ => 0, ad, sz, str, stv, TK, SW)) (hE : E = (D, cA, glA q0 F q1 f1 q2, ad, sz, str, stv, TK, SW)) : gFnd E M00 ((wdW E0 q0 F ++ mdW E0 (nA q1 f1) (mCP mFR 502) mFR (mCP (mNN 65) 65) (mNN 65)) ++ [(q2, .inl (gcA E0 1, 1, .inr (.inl (fun _ => 0))))]) 160 := by
  subst h0
  subst hE
  exact ⟨_, (sg_R2 q0 F q1 f1 q2 _ 57 (by decide) rfl), fun d hd H h => by cases hd; exact h⟩
set_option maxRecDepth 100000 in
set_option maxHeartbeats 4000000 in
theorem fnd_161 {D : va_G} {cA : Nat → ClassId} {ad str stv : Nat → Nat} {TK SW sz : Nat} (q0 : Nat) (F : Nat → Nat → Nat) (q1 : Nat) (f1 : Nat → Nat) (q2 : Nat) (E0 E : gE) (h0 : E0 = (D, cA, fun _ => 0, ad, sz, str, stv, TK, SW)) (hE : E = (D, cA, glA q0 F q1 f1 q2, ad, sz, str, stv, TK, SW)) : gFnd E M00 ((wdW E0 q0 F ++ mdW E0 (nA q1 f1) (mCP mFR 502) mFR (mCP (mNN 65) 65) (mNN 65)) ++ [(q2, .inl (gcA E0 1, 1, .inr (.inl (fun _ => 0))))]) 161 := by
  subst h0
  subst hE
  exact ⟨_, (sg_R2 q0 F q1 f1 q2 _ 58 (by decide) rfl), fun d hd H h => by cases hd; exact h⟩
set_option maxRecDepth 100000 in
set_option maxHeartbeats 4000000 in
theorem fnd_162 {D : va_G} {cA : Nat → ClassId} {ad str stv : Nat → Nat} {TK SW sz : Nat} (q0 : Nat) (F : Nat → Nat → Nat) (q1 : Nat) (f1 : Nat → Nat) (q2 : Nat) (E0 E : gE) (h0 : E0 = (D, cA, fun _ => 0, ad, sz, str, stv, TK, SW)) (hE : E = (D, cA, glA q0 F q1 f1 q2, ad, sz, str, stv, TK, SW)) : gFnd E M00 ((wdW E0 q0 F ++ mdW E0 (nA q1 f1) (mCP mFR 502) mFR (mCP (mNN 65) 65) (mNN 65)) ++ [(q2, .inl (gcA E0 1, 1, .inr (.inl (fun _ => 0))))]) 162 := by
  subst h0
  subst hE
  exact ⟨_, (sg_R2 q0 F q1 f1 q2 _ 59 (by decide) rfl), fun d hd H h => by cases hd; exact h⟩
set_option maxRecDepth 100000 in
set_option maxHeartbeats 4000000 in
theorem fnd_163 {D : va_G} {cA : Nat → ClassId} {ad str stv : Nat → Nat} {TK SW sz : Nat} (q0 : Nat) (F : Nat → Nat → Nat) (q1 : Nat) (f1 : Nat → Nat) (q2 : Nat) (E0 E : gE) (h0 : E0 = (D, cA, fun _ => 0, ad, sz, str, stv, TK, SW)) (hE : E = (D, cA, glA q0 F q1 f1 q2, ad, sz, str, stv, TK, SW)) : gFnd E M00 ((wdW E0 q0 F ++ mdW E0 (nA q1 f1) (mCP mFR 502) mFR (mCP (mNN 65) 65) (mNN 65)) ++ [(q2, .inl (gcA E0 1, 1, .inr (.inl (fun _ => 0))))]) 163 := by
  subst h0
  subst hE
  exact ⟨_, (sg_R2 q0 F q1 f1 q2 _ 60 (by decide) rfl), fun d hd H h => by cases hd; exact h⟩
set_option maxRecDepth 100000 in
set_option maxHeartbeats 4000000 in
theorem fnd_164 {D : va_G} {cA : Nat → ClassId} {ad str stv : Nat → Nat} {TK SW sz : Nat} (q0 : Nat) (F : Nat → Nat → Nat) (q1 : Nat) (f1 : Nat → Nat) (q2 : Nat) (E0 E : gE) (h0 : E0 = (D, cA, fun _ => 0, ad, sz, str, stv, TK, SW)) (hE : E = (D, cA, glA q0 F q1 f1 q2, ad, sz, str, stv, TK, SW)) : gFnd E M00 ((wdW E0 q0 F ++ mdW E0 (nA q1 f1) (mCP mFR 502) mFR (mCP (mNN 65) 65) (mNN 65)) ++ [(q2, .inl (gcA E0 1, 1, .inr (.inl (fun _ => 0))))]) 164 := by
  subst h0
  subst hE
  exact ⟨_, (sg_R2 q0 F q1 f1 q2 _ 61 (by decide) rfl), fun d hd H h => by cases hd; exact h⟩
set_option maxRecDepth 100000 in
set_option maxHeartbeats 4000000 in
theorem fnd_165 {D : va_G} {cA : Nat → ClassId} {ad str stv : Nat → Nat} {TK SW sz : Nat} (q0 : Nat) (F : Nat → Nat → Nat) (q1 : Nat) (f1 : Nat → Nat) (q2 : Nat) (E0 E : gE) (h0 : E0 = (D, cA, fun _ => 0, ad, sz, str, stv, TK, SW)) (hE : E = (D, cA, glA q0 F q1 f1 q2, ad, sz, str, stv, TK, SW)) : gFnd E M00 ((wdW E0 q0 F ++ mdW E0 (nA q1 f1) (mCP mFR 502) mFR (mCP (mNN 65) 65) (mNN 65)) ++ [(q2, .inl (gcA E0 1, 1, .inr (.inl (fun _ => 0))))]) 165 := by
  subst h0
  subst hE
  exact ⟨_, (sg_R2 q0 F q1 f1 q2 _ 62 (by decide) rfl), fun d hd H h => by cases hd; exact h⟩
set_option maxRecDepth 100000 in
set_option maxHeartbeats 4000000 in
theorem fnd_166 {D : va_G} {cA : Nat → ClassId} {ad str stv : Nat → Nat} {TK SW sz : Nat} (q0 : Nat) (F : Nat → Nat → Nat) (q1 : Nat) (f1 : Nat → Nat) (q2 : Nat) (E0 E : gE) (h0 : E0 = (D, cA, fun _ => 0, ad, sz, str, stv, TK, SW)) (hE : E = (D, cA, glA q0 F q1 f1 q2, ad, sz, str, stv, TK, SW)) : gFnd E M00 ((wdW E0 q0 F ++ mdW E0 (nA q1 f1) (mCP mFR 502) mFR (mCP (mNN 65) 65) (mNN 65)) ++ [(q2, .inl (gcA E0 1, 1, .inr (.inl (fun _ => 0))))]) 166 := by
  subst h0
  subst hE
  exact ⟨_, (sg_R2 q0 F q1 f1 q2 _ 63 (by decide) rfl), fun d hd H h => by cases hd; exact h⟩
set_option maxRecDepth 100000 in
set_option maxHeartbeats 4000000 in
theorem fnd_167 {D : va_G} {cA : Nat → ClassId} {ad str stv : Nat → Nat} {TK SW sz : Nat} (q0 : Nat) (F : Nat → Nat → Nat) (q1 : Nat) (f1 : Nat → Nat) (q2 : Nat) (E0 E : gE) (h0 : E0 = (D, cA, fun _ => 0, ad, sz, str, stv, TK, SW)) (hE : E = (D, cA, glA q0 F q1 f1 q2, ad, sz, str, stv, TK, SW)) : gFnd E M00 ((wdW E0 q0 F ++ mdW E0 (nA q1 f1) (mCP mFR 502) mFR (mCP (mNN 65) 65) (mNN 65)) ++ [(q2, .inl (gcA E0 1, 1, .inr (.inl (fun _ => 0))))]) 167 := by
  subst h0
  subst hE
  exact ⟨_, (sg_R2 q0 F q1 f1 q2 _ 64 (by decide) rfl), fun d hd H h => by cases hd; exact h⟩
set_option maxRecDepth 100000 in
set_option maxHeartbeats 4000000 in
theorem fnd_168 {D : va_G} {cA : Nat → ClassId} {ad str stv : Nat → Nat} {TK SW sz : Nat} (q0 : Nat) (F : Nat → Nat → Nat) (q1 : Nat) (f1 : Nat → Nat) (q2 : Nat) (E0 E : gE) (h0 : E0 = (D, cA, fun _ => 0, ad, sz, str, stv, TK, SW)) (hE : E = (D, cA, glA q0 F q1 f1 q2, ad, sz, str, stv, TK, SW)) : gFnd E M00 ((wdW E0 q0 F ++ mdW E0 (nA q1 f1) (mCP mFR 502) mFR (mCP (mNN 65) 65) (mNN 65)) ++ [(q2, .inl (gcA E0 1, 1, .inr (.inl (fun _ => 0))))]) 168 := by
  subst h0
  subst hE
  exact ⟨_, (sg_R2 q0 F q1 f1 q2 _ 65 (by decide) rfl), fun d hd H h => by cases hd; exact h⟩
set_option maxRecDepth 100000 in
set_option maxHeartbeats 4000000 in
theorem fnd_169 {D : va_G} {cA : Nat → ClassId} {ad str stv : Nat → Nat} {TK SW sz : Nat} (q0 : Nat) (F : Nat → Nat → Nat) (q1 : Nat) (f1 : Nat → Nat) (q2 : Nat) (E0 E : gE) (h0 : E0 = (D, cA, fun _ => 0, ad, sz, str, stv, TK, SW)) (hE : E = (D, cA, glA q0 F q1 f1 q2, ad, sz, str, stv, TK, SW)) : gFnd E M00 ((wdW E0 q0 F ++ mdW E0 (nA q1 f1) (mCP mFR 502) mFR (mCP (mNN 65) 65) (mNN 65)) ++ [(q2, .inl (gcA E0 1, 1, .inr (.inl (fun _ => 0))))]) 169 := by
  subst h0
  subst hE
  exact ⟨_, (sg_R2 q0 F q1 f1 q2 _ 66 (by decide) rfl), fun d hd H h => by cases hd; exact h⟩
set_option maxRecDepth 100000 in
set_option maxHeartbeats 4000000 in
theorem fnd_170 {D : va_G} {cA : Nat → ClassId} {ad str stv : Nat → Nat} {TK SW sz : Nat} (q0 : Nat) (F : Nat → Nat → Nat) (q1 : Nat) (f1 : Nat → Nat) (q2 : Nat) (E0 E : gE) (h0 : E0 = (D, cA, fun _ => 0, ad, sz, str, stv, TK, SW)) (hE : E = (D, cA, glA q0 F q1 f1 q2, ad, sz, str, stv, TK, SW)) : gFnd E M00 ((wdW E0 q0 F ++ mdW E0 (nA q1 f1) (mCP mFR 502) mFR (mCP (mNN 65) 65) (mNN 65)) ++ [(q2, .inl (gcA E0 1, 1, .inr (.inl (fun _ => 0))))]) 170 := by
  subst h0
  subst hE
  exact ⟨_, (sg_R2 q0 F q1 f1 q2 _ 67 (by decide) rfl), fun d hd H h => by cases hd; exact h⟩
set_option maxRecDepth 100000 in
set_option maxHeartbeats 4000000 in
theorem fnd_171 {D : va_G} {cA : Nat → ClassId} {ad str stv : Nat → Nat} {TK SW sz : Nat} (q0 : Nat) (F : Nat → Nat → Nat) (q1 : Nat) (f1 : Nat → Nat) (q2 : Nat) (E0 E : gE) (h0 : E0 = (D, cA, fun _ => 0, ad, sz, str, stv, TK, SW)) (hE : E = (D, cA, glA q0 F q1 f1 q2, ad, sz, str, stv, TK, SW)) : gFnd E M00 ((wdW E0 q0 F ++ mdW E0 (nA q1 f1) (mCP mFR 502) mFR (mCP (mNN 65) 65) (mNN 65)) ++ [(q2, .inl (gcA E0 1, 1, .inr (.inl (fun _ => 0))))]) 171 := by
  subst h0
  subst hE
  exact ⟨_, (sg_R2 q0 F q1 f1 q2 _ 68 (by decide) rfl), fun d hd H h => by cases hd; exact h⟩
set_option maxRecDepth 100000 in
set_option maxHeartbeats 4000000 in
theorem fnd_172 {D : va_G} {cA : Nat → ClassId} {ad str stv : Nat → Nat} {TK SW sz : Nat} (q0 : Nat) (F : Nat → Nat → Nat) (q1 : Nat) (f1 : Nat → Nat) (q2 : Nat) (E0 E : gE) (h0 : E0 = (D, cA, fun _ => 0, ad, sz, str, stv, TK, SW)) (hE : E = (D, cA, glA q0 F q1 f1 q2, ad, sz, str, stv, TK, SW)) : gFnd E M00 ((wdW E0 q0 F ++ mdW E0 (nA q1 f1) (mCP mFR 502) mFR (mCP (mNN 65) 65) (mNN 65)) ++ [(q2, .inl (gcA E0 1, 1, .inr (.inl (fun _ => 0))))]) 172 := by
  subst h0
  subst hE
  exact ⟨_, (sg_R2 q0 F q1 f1 q2 _ 69 (by decide) rfl), fun d hd H h => by cases hd; exact h⟩
set_option maxRecDepth 100000 in
set_option maxHeartbeats 4000000 in
theorem fnd_173 {D : va_G} {cA : Nat → ClassId} {ad str stv : Nat → Nat} {TK SW sz : Nat} (q0 : Nat) (F : Nat → Nat → Nat) (q1 : Nat) (f1 : Nat → Nat) (q2 : Nat) (E0 E : gE) (h0 : E0 = (D, cA, fun _ => 0, ad, sz, str, stv, TK, SW)) (hE : E = (D, cA, glA q0 F q1 f1 q2, ad, sz, str, stv, TK, SW)) : gFnd E M00 ((wdW E0 q0 F ++ mdW E0 (nA q1 f1) (mCP mFR 502) mFR (mCP (mNN 65) 65) (mNN 65)) ++ [(q2, .inl (gcA E0 1, 1, .inr (.inl (fun _ => 0))))]) 173 := by
  subst h0
  subst hE
  exact ⟨_, (sg_R2 q0 F q1 f1 q2 _ 70 (by decide) rfl), fun d hd H h => by cases hd; exact h⟩
set_option maxRecDepth 100000 in
set_option maxHeartbeats 4000000 in
theorem fnd_174 {D : va_G} {cA : Nat → ClassId} {ad str stv : Nat → Nat} {TK SW sz : Nat} (q0 : Nat) (F : Nat → Nat → Nat) (q1 : Nat) (f1 : Nat → Nat) (q2 : Nat) (E0 E : gE) (h0 : E0 = (D, cA, fun _ => 0, ad, sz, str, stv, TK, SW)) (hE : E = (D, cA, glA q0 F q1 f1 q2, ad, sz, str, stv, TK, SW)) : gFnd E M00 ((wdW E0 q0 F ++ mdW E0 (nA q1 f1) (mCP mFR 502) mFR (mCP (mNN 65) 65) (mNN 65)) ++ [(q2, .inl (gcA E0 1, 1, .inr (.inl (fun _ => 0))))]) 174 := by
  subst h0
  subst hE
  exact ⟨_, (sg_R2 q0 F q1 f1 q2 _ 71 (by decide) rfl), fun d hd H h => by cases hd; exact h⟩
set_option maxRecDepth 100000 in
set_option maxHeartbeats 4000000 in
theorem fnd_175 {D : va_G} {cA : Nat → ClassId} {ad str stv : Nat → Nat} {TK SW sz : Nat} (q0 : Nat) (F : Nat → Nat → Nat) (q1 : Nat) (f1 : Nat → Nat) (q2 : Nat) (E0 E : gE) (h0 : E0 = (D, cA, fun _ => 0, ad, sz, str, stv, TK, SW)) (hE : E = (D, cA, glA q0 F q1 f1 q2, ad, sz, str, stv, TK, SW)) : gFnd E M00 ((wdW E0 q0 F ++ mdW E0 (nA q1 f1) (mCP mFR 502) mFR (mCP (mNN 65) 65) (mNN 65)) ++ [(q2, .inl (gcA E0 1, 1, .inr (.inl (fun _ => 0))))]) 175 := by
  subst h0
  subst hE
  exact ⟨_, (sg_R2 q0 F q1 f1 q2 _ 72 (by decide) rfl), fun d hd H h => by cases hd; exact h⟩
set_option maxRecDepth 100000 in
set_option maxHeartbeats 4000000 in
theorem fnd_176 {D : va_G} {cA : Nat → ClassId} {ad str stv : Nat → Nat} {TK SW sz : Nat} (q0 : Nat) (F : Nat → Nat → Nat) (q1 : Nat) (f1 : Nat → Nat) (q2 : Nat) (E0 E : gE) (h0 : E0 = (D, cA, fun _ => 0, ad, sz, str, stv, TK, SW)) (hE : E = (D, cA, glA q0 F q1 f1 q2, ad, sz, str, stv, TK, SW)) : gFnd E M00 ((wdW E0 q0 F ++ mdW E0 (nA q1 f1) (mCP mFR 502) mFR (mCP (mNN 65) 65) (mNN 65)) ++ [(q2, .inl (gcA E0 1, 1, .inr (.inl (fun _ => 0))))]) 176 := by
  subst h0
  subst hE
  exact ⟨_, (sg_R2 q0 F q1 f1 q2 _ 73 (by decide) rfl), fun d hd H h => by cases hd; exact h⟩
set_option maxRecDepth 100000 in
set_option maxHeartbeats 4000000 in
theorem fnd_177 {D : va_G} {cA : Nat → ClassId} {ad str stv : Nat → Nat} {TK SW sz : Nat} (q0 : Nat) (F : Nat → Nat → Nat) (q1 : Nat) (f1 : Nat → Nat) (q2 : Nat) (E0 E : gE) (h0 : E0 = (D, cA, fun _ => 0, ad, sz, str, stv, TK, SW)) (hE : E = (D, cA, glA q0 F q1 f1 q2, ad, sz, str, stv, TK, SW)) : gFnd E M00 ((wdW E0 q0 F ++ mdW E0 (nA q1 f1) (mCP mFR 502) mFR (mCP (mNN 65) 65) (mNN 65)) ++ [(q2, .inl (gcA E0 1, 1, .inr (.inl (fun _ => 0))))]) 177 := by
  subst h0
  subst hE
  exact ⟨_, (sg_R2 q0 F q1 f1 q2 _ 74 (by decide) rfl), fun d hd H h => by cases hd; exact h⟩
set_option maxRecDepth 100000 in
set_option maxHeartbeats 4000000 in
theorem fnd_178 {D : va_G} {cA : Nat → ClassId} {ad str stv : Nat → Nat} {TK SW sz : Nat} (q0 : Nat) (F : Nat → Nat → Nat) (q1 : Nat) (f1 : Nat → Nat) (q2 : Nat) (E0 E : gE) (h0 : E0 = (D, cA, fun _ => 0, ad, sz, str, stv, TK, SW)) (hE : E = (D, cA, glA q0 F q1 f1 q2, ad, sz, str, stv, TK, SW)) : gFnd E M00 ((wdW E0 q0 F ++ mdW E0 (nA q1 f1) (mCP mFR 502) mFR (mCP (mNN 65) 65) (mNN 65)) ++ [(q2, .inl (gcA E0 1, 1, .inr (.inl (fun _ => 0))))]) 178 := by
  subst h0
  subst hE
  exact ⟨_, (sg_R2 q0 F q1 f1 q2 _ 75 (by decide) rfl), fun d hd H h => by cases hd; exact h⟩
set_option maxRecDepth 100000 in
set_option maxHeartbeats 4000000 in
theorem fnd_179 {D : va_G} {cA : Nat → ClassId} {ad str stv : Nat → Nat} {TK SW sz : Nat} (q0 : Nat) (F : Nat → Nat → Nat) (q1 : Nat) (f1 : Nat → Nat) (q2 : Nat) (E0 E : gE) (h0 : E0 = (D, cA, fun _ => 0, ad, sz, str, stv, TK, SW)) (hE : E = (D, cA, glA q0 F q1 f1 q2, ad, sz, str, stv, TK, SW)) : gFnd E M00 ((wdW E0 q0 F ++ mdW E0 (nA q1 f1) (mCP mFR 502) mFR (mCP (mNN 65) 65) (mNN 65)) ++ [(q2, .inl (gcA E0 1, 1, .inr (.inl (fun _ => 0))))]) 179 := by
  subst h0
  subst hE
  exact ⟨_, (sg_R2 q0 F q1 f1 q2 _ 76 (by decide) rfl), fun d hd H h => by cases hd; exact h⟩
set_option maxRecDepth 100000 in
set_option maxHeartbeats 4000000 in
theorem fnd_180 {D : va_G} {cA : Nat → ClassId} {ad str stv : Nat → Nat} {TK SW sz : Nat} (q0 : Nat) (F : Nat → Nat → Nat) (q1 : Nat) (f1 : Nat → Nat) (q2 : Nat) (E0 E : gE) (h0 : E0 = (D, cA, fun _ => 0, ad, sz, str, stv, TK, SW)) (hE : E = (D, cA, glA q0 F q1 f1 q2, ad, sz, str, stv, TK, SW)) : gFnd E M00 ((wdW E0 q0 F ++ mdW E0 (nA q1 f1) (mCP mFR 502) mFR (mCP (mNN 65) 65) (mNN 65)) ++ [(q2, .inl (gcA E0 1, 1, .inr (.inl (fun _ => 0))))]) 180 := by
  subst h0
  subst hE
  exact ⟨_, (sg_R2 q0 F q1 f1 q2 _ 77 (by decide) rfl), fun d hd H h => by cases hd; exact h⟩
set_option maxRecDepth 100000 in
set_option maxHeartbeats 4000000 in
theorem fnd_181 {D : va_G} {cA : Nat → ClassId} {ad str stv : Nat → Nat} {TK SW sz : Nat} (q0 : Nat) (F : Nat → Nat → Nat) (q1 : Nat) (f1 : Nat → Nat) (q2 : Nat) (E0 E : gE) (h0 : E0 = (D, cA, fun _ => 0, ad, sz, str, stv, TK, SW)) (hE : E = (D, cA, glA q0 F q1 f1 q2, ad, sz, str, stv, TK, SW)) : gFnd E M00 ((wdW E0 q0 F ++ mdW E0 (nA q1 f1) (mCP mFR 502) mFR (mCP (mNN 65) 65) (mNN 65)) ++ [(q2, .inl (gcA E0 1, 1, .inr (.inl (fun _ => 0))))]) 181 := by
  subst h0
  subst hE
  exact ⟨_, (sg_R2 q0 F q1 f1 q2 _ 78 (by decide) rfl), fun d hd H h => by cases hd; exact h⟩
set_option maxRecDepth 100000 in
set_option maxHeartbeats 4000000 in
theorem fnd_182 {D : va_G} {cA : Nat → ClassId} {ad str stv : Nat → Nat} {TK SW sz : Nat} (q0 : Nat) (F : Nat → Nat → Nat) (q1 : Nat) (f1 : Nat → Nat) (q2 : Nat) (E0 E : gE) (h0 : E0 = (D, cA, fun _ => 0, ad, sz, str, stv, TK, SW)) (hE : E = (D, cA, glA q0 F q1 f1 q2, ad, sz, str, stv, TK, SW)) : gFnd E M00 ((wdW E0 q0 F ++ mdW E0 (nA q1 f1) (mCP mFR 502) mFR (mCP (mNN 65) 65) (mNN 65)) ++ [(q2, .inl (gcA E0 1, 1, .inr (.inl (fun _ => 0))))]) 182 := by
  subst h0
  subst hE
  exact ⟨_, (sg_R2 q0 F q1 f1 q2 _ 79 (by decide) rfl), fun d hd H h => by cases hd; exact h⟩
set_option maxRecDepth 100000 in
set_option maxHeartbeats 4000000 in
theorem fnd_183 {D : va_G} {cA : Nat → ClassId} {ad str stv : Nat → Nat} {TK SW sz : Nat} (q0 : Nat) (F : Nat → Nat → Nat) (q1 : Nat) (f1 : Nat → Nat) (q2 : Nat) (E0 E : gE) (h0 : E0 = (D, cA, fun _ => 0, ad, sz, str, stv, TK, SW)) (hE : E = (D, cA, glA q0 F q1 f1 q2, ad, sz, str, stv, TK, SW)) : gFnd E M00 ((wdW E0 q0 F ++ mdW E0 (nA q1 f1) (mCP mFR 502) mFR (mCP (mNN 65) 65) (mNN 65)) ++ [(q2, .inl (gcA E0 1, 1, .inr (.inl (fun _ => 0))))]) 183 := by
  subst h0
  subst hE
  exact ⟨_, (sg_R2 q0 F q1 f1 q2 _ 80 (by decide) rfl), fun d hd H h => by cases hd; exact h⟩
set_option maxRecDepth 100000 in
set_option maxHeartbeats 4000000 in
theorem fnd_184 {D : va_G} {cA : Nat → ClassId} {ad str stv : Nat → Nat} {TK SW sz : Nat} (q0 : Nat) (F : Nat → Nat → Nat) (q1 : Nat) (f1 : Nat → Nat) (q2 : Nat) (E0 E : gE) (h0 : E0 = (D, cA, fun _ => 0, ad, sz, str, stv, TK, SW)) (hE : E = (D, cA, glA q0 F q1 f1 q2, ad, sz, str, stv, TK, SW)) : gFnd E M00 ((wdW E0 q0 F ++ mdW E0 (nA q1 f1) (mCP mFR 502) mFR (mCP (mNN 65) 65) (mNN 65)) ++ [(q2, .inl (gcA E0 1, 1, .inr (.inl (fun _ => 0))))]) 184 := by
  subst h0
  subst hE
  exact ⟨_, (sg_R2 q0 F q1 f1 q2 _ 81 (by decide) rfl), fun d hd H h => by cases hd; exact h⟩
set_option maxRecDepth 100000 in
set_option maxHeartbeats 4000000 in
theorem fnd_185 {D : va_G} {cA : Nat → ClassId} {ad str stv : Nat → Nat} {TK SW sz : Nat} (q0 : Nat) (F : Nat → Nat → Nat) (q1 : Nat) (f1 : Nat → Nat) (q2 : Nat) (E0 E : gE) (h0 : E0 = (D, cA, fun _ => 0, ad, sz, str, stv, TK, SW)) (hE : E = (D, cA, glA q0 F q1 f1 q2, ad, sz, str, stv, TK, SW)) : gFnd E M00 ((wdW E0 q0 F ++ mdW E0 (nA q1 f1) (mCP mFR 502) mFR (mCP (mNN 65) 65) (mNN 65)) ++ [(q2, .inl (gcA E0 1, 1, .inr (.inl (fun _ => 0))))]) 185 := by
  subst h0
  subst hE
  exact ⟨_, (sg_R2 q0 F q1 f1 q2 _ 82 (by decide) rfl), fun d hd H h => by cases hd; exact h⟩
set_option maxRecDepth 100000 in
set_option maxHeartbeats 4000000 in
theorem fnd_186 {D : va_G} {cA : Nat → ClassId} {ad str stv : Nat → Nat} {TK SW sz : Nat} (q0 : Nat) (F : Nat → Nat → Nat) (q1 : Nat) (f1 : Nat → Nat) (q2 : Nat) (E0 E : gE) (h0 : E0 = (D, cA, fun _ => 0, ad, sz, str, stv, TK, SW)) (hE : E = (D, cA, glA q0 F q1 f1 q2, ad, sz, str, stv, TK, SW)) : gFnd E M00 ((wdW E0 q0 F ++ mdW E0 (nA q1 f1) (mCP mFR 502) mFR (mCP (mNN 65) 65) (mNN 65)) ++ [(q2, .inl (gcA E0 1, 1, .inr (.inl (fun _ => 0))))]) 186 := by
  subst h0
  subst hE
  exact ⟨_, (sg_R2 q0 F q1 f1 q2 _ 83 (by decide) rfl), fun d hd H h => by cases hd; exact h⟩
set_option maxRecDepth 100000 in
set_option maxHeartbeats 4000000 in
theorem fnd_187 {D : va_G} {cA : Nat → ClassId} {ad str stv : Nat → Nat} {TK SW sz : Nat} (q0 : Nat) (F : Nat → Nat → Nat) (q1 : Nat) (f1 : Nat → Nat) (q2 : Nat) (E0 E : gE) (h0 : E0 = (D, cA, fun _ => 0, ad, sz, str, stv, TK, SW)) (hE : E = (D, cA, glA q0 F q1 f1 q2, ad, sz, str, stv, TK, SW)) : gFnd E M00 ((wdW E0 q0 F ++ mdW E0 (nA q1 f1) (mCP mFR 502) mFR (mCP (mNN 65) 65) (mNN 65)) ++ [(q2, .inl (gcA E0 1, 1, .inr (.inl (fun _ => 0))))]) 187 := by
  subst h0
  subst hE
  exact ⟨_, (sg_R2 q0 F q1 f1 q2 _ 84 (by decide) rfl), fun d hd H h => by cases hd; exact h⟩
set_option maxRecDepth 100000 in
set_option maxHeartbeats 4000000 in
theorem fnd_188 {D : va_G} {cA : Nat → ClassId} {ad str stv : Nat → Nat} {TK SW sz : Nat} (q0 : Nat) (F : Nat → Nat → Nat) (q1 : Nat) (f1 : Nat → Nat) (q2 : Nat) (E0 E : gE) (h0 : E0 = (D, cA, fun _ => 0, ad, sz, str, stv, TK, SW)) (hE : E = (D, cA, glA q0 F q1 f1 q2, ad, sz, str, stv, TK, SW)) : gFnd E M00 ((wdW E0 q0 F ++ mdW E0 (nA q1 f1) (mCP mFR 502) mFR (mCP (mNN 65) 65) (mNN 65)) ++ [(q2, .inl (gcA E0 1, 1, .inr (.inl (fun _ => 0))))]) 188 := by
  subst h0
  subst hE
  exact ⟨_, (sg_R2 q0 F q1 f1 q2 _ 85 (by decide) rfl), fun d hd H h => by cases hd; exact h⟩
set_option maxRecDepth 100000 in
set_option maxHeartbeats 4000000 in
theorem fnd_189 {D : va_G} {cA : Nat → ClassId} {ad str stv : Nat → Nat} {TK SW sz : Nat} (q0 : Nat) (F : Nat → Nat → Nat) (q1 : Nat) (f1 : Nat → Nat) (q2 : Nat) (E0 E : gE) (h0 : E0 = (D, cA, fun _ => 0, ad, sz, str, stv, TK, SW)) (hE : E = (D, cA, glA q0 F q1 f1 q2, ad, sz, str, stv, TK, SW)) : gFnd E M00 ((wdW E0 q0 F ++ mdW E0 (nA q1 f1) (mCP mFR 502) mFR (mCP (mNN 65) 65) (mNN 65)) ++ [(q2, .inl (gcA E0 1, 1, .inr (.inl (fun _ => 0))))]) 189 := by
  subst h0
  subst hE
  exact ⟨_, (sg_R2 q0 F q1 f1 q2 _ 86 (by decide) rfl), fun d hd H h => by cases hd; exact h⟩
set_option maxRecDepth 100000 in
set_option maxHeartbeats 4000000 in
theorem fnd_190 {D : va_G} {cA : Nat → ClassId} {ad str stv : Nat → Nat} {TK SW sz : Nat} (q0 : Nat) (F : Nat → Nat → Nat) (q1 : Nat) (f1 : Nat → Nat) (q2 : Nat) (E0 E : gE) (h0 : E0 = (D, cA, fun _ => 0, ad, sz, str, stv, TK, SW)) (hE : E = (D, cA, glA q0 F q1 f1 q2, ad, sz, str, stv, TK, SW)) : gFnd E M00 ((wdW E0 q0 F ++ mdW E0 (nA q1 f1) (mCP mFR 502) mFR (mCP (mNN 65) 65) (mNN 65)) ++ [(q2, .inl (gcA E0 1, 1, .inr (.inl (fun _ => 0))))]) 190 := by
  subst h0
  subst hE
  exact ⟨_, (sg_R2 q0 F q1 f1 q2 _ 87 (by decide) rfl), fun d hd H h => by cases hd; exact h⟩
set_option maxRecDepth 100000 in
set_option maxHeartbeats 4000000 in
theorem fnd_191 {D : va_G} {cA : Nat → ClassId} {ad str stv : Nat → Nat} {TK SW sz : Nat} (q0 : Nat) (F : Nat → Nat → Nat) (q1 : Nat) (f1 : Nat → Nat) (q2 : Nat) (E0 E : gE) (h0 : E0 = (D, cA, fun _ => 0, ad, sz, str, stv, TK, SW)) (hE : E = (D, cA, glA q0 F q1 f1 q2, ad, sz, str, stv, TK, SW)) : gFnd E M00 ((wdW E0 q0 F ++ mdW E0 (nA q1 f1) (mCP mFR 502) mFR (mCP (mNN 65) 65) (mNN 65)) ++ [(q2, .inl (gcA E0 1, 1, .inr (.inl (fun _ => 0))))]) 191 := by
  subst h0
  subst hE
  exact ⟨_, (sg_R2 q0 F q1 f1 q2 _ 88 (by decide) rfl), fun d hd H h => by cases hd; exact h⟩
set_option maxRecDepth 100000 in
set_option maxHeartbeats 4000000 in
theorem fnd_192 {D : va_G} {cA : Nat → ClassId} {ad str stv : Nat → Nat} {TK SW sz : Nat} (q0 : Nat) (F : Nat → Nat → Nat) (q1 : Nat) (f1 : Nat → Nat) (q2 : Nat) (E0 E : gE) (h0 : E0 = (D, cA, fun _ => 0, ad, sz, str, stv, TK, SW)) (hE : E = (D, cA, glA q0 F q1 f1 q2, ad, sz, str, stv, TK, SW)) : gFnd E M00 ((wdW E0 q0 F ++ mdW E0 (nA q1 f1) (mCP mFR 502) mFR (mCP (mNN 65) 65) (mNN 65)) ++ [(q2, .inl (gcA E0 1, 1, .inr (.inl (fun _ => 0))))]) 192 := by
  subst h0
  subst hE
  exact ⟨_, (sg_R2 q0 F q1 f1 q2 _ 89 (by decide) rfl), fun d hd H h => by cases hd; exact h⟩
set_option maxRecDepth 100000 in
set_option maxHeartbeats 4000000 in
theorem fnd_193 {D : va_G} {cA : Nat → ClassId} {ad str stv : Nat → Nat} {TK SW sz : Nat} (q0 : Nat) (F : Nat → Nat → Nat) (q1 : Nat) (f1 : Nat → Nat) (q2 : Nat) (E0 E : gE) (h0 : E0 = (D, cA, fun _ => 0, ad, sz, str, stv, TK, SW)) (hE : E = (D, cA, glA q0 F q1 f1 q2, ad, sz, str, stv, TK, SW)) : gFnd E M00 ((wdW E0 q0 F ++ mdW E0 (nA q1 f1) (mCP mFR 502) mFR (mCP (mNN 65) 65) (mNN 65)) ++ [(q2, .inl (gcA E0 1, 1, .inr (.inl (fun _ => 0))))]) 193 := by
  subst h0
  subst hE
  exact ⟨_, (sg_R2 q0 F q1 f1 q2 _ 90 (by decide) rfl), fun d hd H h => by cases hd; exact h⟩
set_option maxRecDepth 100000 in
set_option maxHeartbeats 4000000 in
theorem fnd_194 {D : va_G} {cA : Nat → ClassId} {ad str stv : Nat → Nat} {TK SW sz : Nat} (q0 : Nat) (F : Nat → Nat → Nat) (q1 : Nat) (f1 : Nat → Nat) (q2 : Nat) (E0 E : gE) (h0 : E0 = (D, cA, fun _ => 0, ad, sz, str, stv, TK, SW)) (hE : E = (D, cA, glA q0 F q1 f1 q2, ad, sz, str, stv, TK, SW)) : gFnd E M00 ((wdW E0 q0 F ++ mdW E0 (nA q1 f1) (mCP mFR 502) mFR (mCP (mNN 65) 65) (mNN 65)) ++ [(q2, .inl (gcA E0 1, 1, .inr (.inl (fun _ => 0))))]) 194 := by
  subst h0
  subst hE
  exact ⟨_, (sg_R2 q0 F q1 f1 q2 _ 91 (by decide) rfl), fun d hd H h => by cases hd; exact h⟩
set_option maxRecDepth 100000 in
set_option maxHeartbeats 4000000 in
theorem fnd_195 {D : va_G} {cA : Nat → ClassId} {ad str stv : Nat → Nat} {TK SW sz : Nat} (q0 : Nat) (F : Nat → Nat → Nat) (q1 : Nat) (f1 : Nat → Nat) (q2 : Nat) (E0 E : gE) (h0 : E0 = (D, cA, fun _ => 0, ad, sz, str, stv, TK, SW)) (hE : E = (D, cA, glA q0 F q1 f1 q2, ad, sz, str, stv, TK, SW)) : gFnd E M00 ((wdW E0 q0 F ++ mdW E0 (nA q1 f1) (mCP mFR 502) mFR (mCP (mNN 65) 65) (mNN 65)) ++ [(q2, .inl (gcA E0 1, 1, .inr (.inl (fun _ => 0))))]) 195 := by
  subst h0
  subst hE
  exact ⟨_, (sg_R2 q0 F q1 f1 q2 _ 92 (by decide) rfl), fun d hd H h => by cases hd; exact h⟩
set_option maxRecDepth 100000 in
set_option maxHeartbeats 4000000 in
theorem fnd_196 {D : va_G} {cA : Nat → ClassId} {ad str stv : Nat → Nat} {TK SW sz : Nat} (q0 : Nat) (F : Nat → Nat → Nat) (q1 : Nat) (f1 : Nat → Nat) (q2 : Nat) (E0 E : gE) (h0 : E0 = (D, cA, fun _ => 0, ad, sz, str, stv, TK, SW)) (hE : E = (D, cA, glA q0 F q1 f1 q2, ad, sz, str, stv, TK, SW)) : gFnd E M00 ((wdW E0 q0 F ++ mdW E0 (nA q1 f1) (mCP mFR 502) mFR (mCP (mNN 65) 65) (mNN 65)) ++ [(q2, .inl (gcA E0 1, 1, .inr (.inl (fun _ => 0))))]) 196 := by
  subst h0
  subst hE
  exact ⟨_, (sg_R2 q0 F q1 f1 q2 _ 93 (by decide) rfl), fun d hd H h => by cases hd; exact h⟩
set_option maxRecDepth 100000 in
set_option maxHeartbeats 4000000 in
theorem fnd_197 {D : va_G} {cA : Nat → ClassId} {ad str stv : Nat → Nat} {TK SW sz : Nat} (q0 : Nat) (F : Nat → Nat → Nat) (q1 : Nat) (f1 : Nat → Nat) (q2 : Nat) (E0 E : gE) (h0 : E0 = (D, cA, fun _ => 0, ad, sz, str, stv, TK, SW)) (hE : E = (D, cA, glA q0 F q1 f1 q2, ad, sz, str, stv, TK, SW)) : gFnd E M00 ((wdW E0 q0 F ++ mdW E0 (nA q1 f1) (mCP mFR 502) mFR (mCP (mNN 65) 65) (mNN 65)) ++ [(q2, .inl (gcA E0 1, 1, .inr (.inl (fun _ => 0))))]) 197 := by
  subst h0
  subst hE
  exact ⟨_, (sg_R2 q0 F q1 f1 q2 _ 94 (by decide) rfl), fun d hd H h => by cases hd; exact h⟩
set_option maxRecDepth 100000 in
set_option maxHeartbeats 4000000 in
theorem fnd_198 {D : va_G} {cA : Nat → ClassId} {ad str stv : Nat → Nat} {TK SW sz : Nat} (q0 : Nat) (F : Nat → Nat → Nat) (q1 : Nat) (f1 : Nat → Nat) (q2 : Nat) (E0 E : gE) (h0 : E0 = (D, cA, fun _ => 0, ad, sz, str, stv, TK, SW)) (hE : E = (D, cA, glA q0 F q1 f1 q2, ad, sz, str, stv, TK, SW)) : gFnd E M00 ((wdW E0 q0 F ++ mdW E0 (nA q1 f1) (mCP mFR 502) mFR (mCP (mNN 65) 65) (mNN 65)) ++ [(q2, .inl (gcA E0 1, 1, .inr (.inl (fun _ => 0))))]) 198 := by
  subst h0
  subst hE
  exact ⟨_, (sg_R2 q0 F q1 f1 q2 _ 95 (by decide) rfl), fun d hd H h => by cases hd; exact h⟩
set_option maxRecDepth 100000 in
set_option maxHeartbeats 4000000 in
theorem fnd_199 {D : va_G} {cA : Nat → ClassId} {ad str stv : Nat → Nat} {TK SW sz : Nat} (q0 : Nat) (F : Nat → Nat → Nat) (q1 : Nat) (f1 : Nat → Nat) (q2 : Nat) (E0 E : gE) (h0 : E0 = (D, cA, fun _ => 0, ad, sz, str, stv, TK, SW)) (hE : E = (D, cA, glA q0 F q1 f1 q2, ad, sz, str, stv, TK, SW)) : gFnd E M00 ((wdW E0 q0 F ++ mdW E0 (nA q1 f1) (mCP mFR 502) mFR (mCP (mNN 65) 65) (mNN 65)) ++ [(q2, .inl (gcA E0 1, 1, .inr (.inl (fun _ => 0))))]) 199 := by
  subst h0
  subst hE
  exact ⟨_, (sg_R2 q0 F q1 f1 q2 _ 96 (by decide) rfl), fun d hd H h => by cases hd; exact h⟩
set_option maxRecDepth 100000 in
set_option maxHeartbeats 4000000 in
theorem fnd_200 {D : va_G} {cA : Nat → ClassId} {ad str stv : Nat → Nat} {TK SW sz : Nat} (q0 : Nat) (F : Nat → Nat → Nat) (q1 : Nat) (f1 : Nat → Nat) (q2 : Nat) (E0 E : gE) (h0 : E0 = (D, cA, fun _ => 0, ad, sz, str, stv, TK, SW)) (hE : E = (D, cA, glA q0 F q1 f1 q2, ad, sz, str, stv, TK, SW)) : gFnd E M00 ((wdW E0 q0 F ++ mdW E0 (nA q1 f1) (mCP mFR 502) mFR (mCP (mNN 65) 65) (mNN 65)) ++ [(q2, .inl (gcA E0 1, 1, .inr (.inl (fun _ => 0))))]) 200 := by
  subst h0
  subst hE
  exact ⟨_, (sg_R2 q0 F q1 f1 q2 _ 97 (by decide) rfl), fun d hd H h => by cases hd; exact h⟩
set_option maxRecDepth 100000 in
set_option maxHeartbeats 4000000 in
theorem fnd_201 {D : va_G} {cA : Nat → ClassId} {ad str stv : Nat → Nat} {TK SW sz : Nat} (q0 : Nat) (F : Nat → Nat → Nat) (q1 : Nat) (f1 : Nat → Nat) (q2 : Nat) (E0 E : gE) (h0 : E0 = (D, cA, fun _ => 0, ad, sz, str, stv, TK, SW)) (hE : E = (D, cA, glA q0 F q1 f1 q2, ad, sz, str, stv, TK, SW)) : gFnd E M00 ((wdW E0 q0 F ++ mdW E0 (nA q1 f1) (mCP mFR 502) mFR (mCP (mNN 65) 65) (mNN 65)) ++ [(q2, .inl (gcA E0 1, 1, .inr (.inl (fun _ => 0))))]) 201 := by
  subst h0
  subst hE
  exact ⟨_, (sg_R2 q0 F q1 f1 q2 _ 98 (by decide) rfl), fun d hd H h => by cases hd; exact h⟩
set_option maxRecDepth 100000 in
set_option maxHeartbeats 4000000 in
theorem fnd_202 {D : va_G} {cA : Nat → ClassId} {ad str stv : Nat → Nat} {TK SW sz : Nat} (q0 : Nat) (F : Nat → Nat → Nat) (q1 : Nat) (f1 : Nat → Nat) (q2 : Nat) (E0 E : gE) (h0 : E0 = (D, cA, fun _ => 0, ad, sz, str, stv, TK, SW)) (hE : E = (D, cA, glA q0 F q1 f1 q2, ad, sz, str, stv, TK, SW)) : gFnd E M00 ((wdW E0 q0 F ++ mdW E0 (nA q1 f1) (mCP mFR 502) mFR (mCP (mNN 65) 65) (mNN 65)) ++ [(q2, .inl (gcA E0 1, 1, .inr (.inl (fun _ => 0))))]) 202 := by
  subst h0
  subst hE
  exact ⟨_, (sg_R2 q0 F q1 f1 q2 _ 99 (by decide) rfl), fun d hd H h => by cases hd; exact h⟩
set_option maxRecDepth 100000 in
set_option maxHeartbeats 4000000 in
theorem fnd_203 {D : va_G} {cA : Nat → ClassId} {ad str stv : Nat → Nat} {TK SW sz : Nat} (q0 : Nat) (F : Nat → Nat → Nat) (q1 : Nat) (f1 : Nat → Nat) (q2 : Nat) (E0 E : gE) (h0 : E0 = (D, cA, fun _ => 0, ad, sz, str, stv, TK, SW)) (hE : E = (D, cA, glA q0 F q1 f1 q2, ad, sz, str, stv, TK, SW)) : gFnd E M00 ((wdW E0 q0 F ++ mdW E0 (nA q1 f1) (mCP mFR 502) mFR (mCP (mNN 65) 65) (mNN 65)) ++ [(q2, .inl (gcA E0 1, 1, .inr (.inl (fun _ => 0))))]) 203 := by
  subst h0
  subst hE
  exact ⟨_, (sg_R2 q0 F q1 f1 q2 _ 100 (by decide) rfl), fun d hd H h => by cases hd; exact h⟩
set_option maxRecDepth 100000 in
set_option maxHeartbeats 4000000 in
theorem fnd_204 {D : va_G} {cA : Nat → ClassId} {ad str stv : Nat → Nat} {TK SW sz : Nat} (q0 : Nat) (F : Nat → Nat → Nat) (q1 : Nat) (f1 : Nat → Nat) (q2 : Nat) (E0 E : gE) (h0 : E0 = (D, cA, fun _ => 0, ad, sz, str, stv, TK, SW)) (hE : E = (D, cA, glA q0 F q1 f1 q2, ad, sz, str, stv, TK, SW)) : gFnd E M00 ((wdW E0 q0 F ++ mdW E0 (nA q1 f1) (mCP mFR 502) mFR (mCP (mNN 65) 65) (mNN 65)) ++ [(q2, .inl (gcA E0 1, 1, .inr (.inl (fun _ => 0))))]) 204 := by
  subst h0
  subst hE
  exact ⟨_, (sg_TK q0 F q1 f1 q2 _ 0 (by decide) rfl), fun d hd H h => by cases hd; exact h⟩
set_option maxRecDepth 100000 in
set_option maxHeartbeats 4000000 in
theorem fnd_205 {D : va_G} {cA : Nat → ClassId} {ad str stv : Nat → Nat} {TK SW sz : Nat} (q0 : Nat) (F : Nat → Nat → Nat) (q1 : Nat) (f1 : Nat → Nat) (q2 : Nat) (E0 E : gE) (h0 : E0 = (D, cA, fun _ => 0, ad, sz, str, stv, TK, SW)) (hE : E = (D, cA, glA q0 F q1 f1 q2, ad, sz, str, stv, TK, SW)) : gFnd E M00 ((wdW E0 q0 F ++ mdW E0 (nA q1 f1) (mCP mFR 502) mFR (mCP (mNN 65) 65) (mNN 65)) ++ [(q2, .inl (gcA E0 1, 1, .inr (.inl (fun _ => 0))))]) 205 := by
  subst h0
  subst hE
  exact ⟨_, (sg_TK q0 F q1 f1 q2 _ 1 (by decide) rfl), fun d hd H h => by cases hd; exact h⟩
set_option maxRecDepth 100000 in
set_option maxHeartbeats 4000000 in
theorem fnd_206 {D : va_G} {cA : Nat → ClassId} {ad str stv : Nat → Nat} {TK SW sz : Nat} (q0 : Nat) (F : Nat → Nat → Nat) (q1 : Nat) (f1 : Nat → Nat) (q2 : Nat) (E0 E : gE) (h0 : E0 = (D, cA, fun _ => 0, ad, sz, str, stv, TK, SW)) (hE : E = (D, cA, glA q0 F q1 f1 q2, ad, sz, str, stv, TK, SW)) : gFnd E M00 ((wdW E0 q0 F ++ mdW E0 (nA q1 f1) (mCP mFR 502) mFR (mCP (mNN 65) 65) (mNN 65)) ++ [(q2, .inl (gcA E0 1, 1, .inr (.inl (fun _ => 0))))]) 206 := by
  subst h0
  subst hE
  exact ⟨_, (sg_TK q0 F q1 f1 q2 _ 2 (by decide) rfl), fun d hd H h => by cases hd; exact h⟩
set_option maxRecDepth 100000 in
set_option maxHeartbeats 4000000 in
theorem fnd_207 {D : va_G} {cA : Nat → ClassId} {ad str stv : Nat → Nat} {TK SW sz : Nat} (q0 : Nat) (F : Nat → Nat → Nat) (q1 : Nat) (f1 : Nat → Nat) (q2 : Nat) (E0 E : gE) (h0 : E0 = (D, cA, fun _ => 0, ad, sz, str, stv, TK, SW)) (hE : E = (D, cA, glA q0 F q1 f1 q2, ad, sz, str, stv, TK, SW)) : gFnd E M00 ((wdW E0 q0 F ++ mdW E0 (nA q1 f1) (mCP mFR 502) mFR (mCP (mNN 65) 65) (mNN 65)) ++ [(q2, .inl (gcA E0 1, 1, .inr (.inl (fun _ => 0))))]) 207 := by
  subst h0
  subst hE
  exact ⟨_, (sg_TK q0 F q1 f1 q2 _ 3 (by decide) rfl), fun d hd H h => by cases hd; exact h⟩
set_option maxRecDepth 100000 in
set_option maxHeartbeats 4000000 in
theorem fnd_208 {D : va_G} {cA : Nat → ClassId} {ad str stv : Nat → Nat} {TK SW sz : Nat} (q0 : Nat) (F : Nat → Nat → Nat) (q1 : Nat) (f1 : Nat → Nat) (q2 : Nat) (E0 E : gE) (h0 : E0 = (D, cA, fun _ => 0, ad, sz, str, stv, TK, SW)) (hE : E = (D, cA, glA q0 F q1 f1 q2, ad, sz, str, stv, TK, SW)) : gFnd E M00 ((wdW E0 q0 F ++ mdW E0 (nA q1 f1) (mCP mFR 502) mFR (mCP (mNN 65) 65) (mNN 65)) ++ [(q2, .inl (gcA E0 1, 1, .inr (.inl (fun _ => 0))))]) 208 := by
  subst h0
  subst hE
  exact ⟨_, (sg_D0 q0 F q1 f1 q2 _ 0 (by decide) rfl), fun d hd H h => by cases hd; exact h⟩
set_option maxRecDepth 100000 in
set_option maxHeartbeats 4000000 in
theorem fnd_209 {D : va_G} {cA : Nat → ClassId} {ad str stv : Nat → Nat} {TK SW sz : Nat} (q0 : Nat) (F : Nat → Nat → Nat) (q1 : Nat) (f1 : Nat → Nat) (q2 : Nat) (E0 E : gE) (h0 : E0 = (D, cA, fun _ => 0, ad, sz, str, stv, TK, SW)) (hE : E = (D, cA, glA q0 F q1 f1 q2, ad, sz, str, stv, TK, SW)) : gFnd E M00 ((wdW E0 q0 F ++ mdW E0 (nA q1 f1) (mCP mFR 502) mFR (mCP (mNN 65) 65) (mNN 65)) ++ [(q2, .inl (gcA E0 1, 1, .inr (.inl (fun _ => 0))))]) 209 := by
  subst h0
  subst hE
  exact ⟨_, (sg_D0 q0 F q1 f1 q2 _ 1 (by decide) rfl), fun d hd H h => by cases hd; exact h⟩
set_option maxRecDepth 100000 in
set_option maxHeartbeats 4000000 in
theorem fnd_210 {D : va_G} {cA : Nat → ClassId} {ad str stv : Nat → Nat} {TK SW sz : Nat} (q0 : Nat) (F : Nat → Nat → Nat) (q1 : Nat) (f1 : Nat → Nat) (q2 : Nat) (E0 E : gE) (h0 : E0 = (D, cA, fun _ => 0, ad, sz, str, stv, TK, SW)) (hE : E = (D, cA, glA q0 F q1 f1 q2, ad, sz, str, stv, TK, SW)) : gFnd E M00 ((wdW E0 q0 F ++ mdW E0 (nA q1 f1) (mCP mFR 502) mFR (mCP (mNN 65) 65) (mNN 65)) ++ [(q2, .inl (gcA E0 1, 1, .inr (.inl (fun _ => 0))))]) 210 := by
  subst h0
  subst hE
  exact ⟨_, (sg_D0 q0 F q1 f1 q2 _ 2 (by decide) rfl), fun d hd H h => by cases hd; exact h⟩
set_option maxRecDepth 100000 in
set_option maxHeartbeats 4000000 in
theorem fnd_211 {D : va_G} {cA : Nat → ClassId} {ad str stv : Nat → Nat} {TK SW sz : Nat} (q0 : Nat) (F : Nat → Nat → Nat) (q1 : Nat) (f1 : Nat → Nat) (q2 : Nat) (E0 E : gE) (h0 : E0 = (D, cA, fun _ => 0, ad, sz, str, stv, TK, SW)) (hE : E = (D, cA, glA q0 F q1 f1 q2, ad, sz, str, stv, TK, SW)) : gFnd E M00 ((wdW E0 q0 F ++ mdW E0 (nA q1 f1) (mCP mFR 502) mFR (mCP (mNN 65) 65) (mNN 65)) ++ [(q2, .inl (gcA E0 1, 1, .inr (.inl (fun _ => 0))))]) 211 := by
  subst h0
  subst hE
  exact ⟨_, (sg_D0 q0 F q1 f1 q2 _ 3 (by decide) rfl), fun d hd H h => by cases hd; exact h⟩
set_option maxRecDepth 100000 in
set_option maxHeartbeats 4000000 in
theorem fnd_212 {D : va_G} {cA : Nat → ClassId} {ad str stv : Nat → Nat} {TK SW sz : Nat} (q0 : Nat) (F : Nat → Nat → Nat) (q1 : Nat) (f1 : Nat → Nat) (q2 : Nat) (E0 E : gE) (h0 : E0 = (D, cA, fun _ => 0, ad, sz, str, stv, TK, SW)) (hE : E = (D, cA, glA q0 F q1 f1 q2, ad, sz, str, stv, TK, SW)) : gFnd E M00 ((wdW E0 q0 F ++ mdW E0 (nA q1 f1) (mCP mFR 502) mFR (mCP (mNN 65) 65) (mNN 65)) ++ [(q2, .inl (gcA E0 1, 1, .inr (.inl (fun _ => 0))))]) 212 := by
  subst h0
  subst hE
  exact ⟨_, (sg_D1 q0 F q1 f1 q2 _ 0 (by decide) rfl), fun d hd H h => by cases hd; exact h⟩
set_option maxRecDepth 100000 in
set_option maxHeartbeats 4000000 in
theorem fnd_213 {D : va_G} {cA : Nat → ClassId} {ad str stv : Nat → Nat} {TK SW sz : Nat} (q0 : Nat) (F : Nat → Nat → Nat) (q1 : Nat) (f1 : Nat → Nat) (q2 : Nat) (E0 E : gE) (h0 : E0 = (D, cA, fun _ => 0, ad, sz, str, stv, TK, SW)) (hE : E = (D, cA, glA q0 F q1 f1 q2, ad, sz, str, stv, TK, SW)) : gFnd E M00 ((wdW E0 q0 F ++ mdW E0 (nA q1 f1) (mCP mFR 502) mFR (mCP (mNN 65) 65) (mNN 65)) ++ [(q2, .inl (gcA E0 1, 1, .inr (.inl (fun _ => 0))))]) 213 := by
  subst h0
  subst hE
  exact ⟨_, (sg_D1 q0 F q1 f1 q2 _ 1 (by decide) rfl), fun d hd H h => by cases hd; exact h⟩
set_option maxRecDepth 100000 in
set_option maxHeartbeats 4000000 in
theorem fnd_214 {D : va_G} {cA : Nat → ClassId} {ad str stv : Nat → Nat} {TK SW sz : Nat} (q0 : Nat) (F : Nat → Nat → Nat) (q1 : Nat) (f1 : Nat → Nat) (q2 : Nat) (E0 E : gE) (h0 : E0 = (D, cA, fun _ => 0, ad, sz, str, stv, TK, SW)) (hE : E = (D, cA, glA q0 F q1 f1 q2, ad, sz, str, stv, TK, SW)) : gFnd E M00 ((wdW E0 q0 F ++ mdW E0 (nA q1 f1) (mCP mFR 502) mFR (mCP (mNN 65) 65) (mNN 65)) ++ [(q2, .inl (gcA E0 1, 1, .inr (.inl (fun _ => 0))))]) 214 := by
  subst h0
  subst hE
  exact ⟨_, (sg_D1 q0 F q1 f1 q2 _ 2 (by decide) rfl), fun d hd H h => by cases hd; exact h⟩
set_option maxRecDepth 100000 in
set_option maxHeartbeats 4000000 in
theorem fnd_215 {D : va_G} {cA : Nat → ClassId} {ad str stv : Nat → Nat} {TK SW sz : Nat} (q0 : Nat) (F : Nat → Nat → Nat) (q1 : Nat) (f1 : Nat → Nat) (q2 : Nat) (E0 E : gE) (h0 : E0 = (D, cA, fun _ => 0, ad, sz, str, stv, TK, SW)) (hE : E = (D, cA, glA q0 F q1 f1 q2, ad, sz, str, stv, TK, SW)) : gFnd E M00 ((wdW E0 q0 F ++ mdW E0 (nA q1 f1) (mCP mFR 502) mFR (mCP (mNN 65) 65) (mNN 65)) ++ [(q2, .inl (gcA E0 1, 1, .inr (.inl (fun _ => 0))))]) 215 := by
  subst h0
  subst hE
  exact ⟨_, (sg_D1 q0 F q1 f1 q2 _ 3 (by decide) rfl), fun d hd H h => by cases hd; exact h⟩
set_option maxRecDepth 100000 in
set_option maxHeartbeats 4000000 in
theorem fnd_216 {D : va_G} {cA : Nat → ClassId} {ad str stv : Nat → Nat} {TK SW sz : Nat} (q0 : Nat) (F : Nat → Nat → Nat) (q1 : Nat) (f1 : Nat → Nat) (q2 : Nat) (E0 E : gE) (h0 : E0 = (D, cA, fun _ => 0, ad, sz, str, stv, TK, SW)) (hE : E = (D, cA, glA q0 F q1 f1 q2, ad, sz, str, stv, TK, SW)) : gFnd E M00 ((wdW E0 q0 F ++ mdW E0 (nA q1 f1) (mCP mFR 502) mFR (mCP (mNN 65) 65) (mNN 65)) ++ [(q2, .inl (gcA E0 1, 1, .inr (.inl (fun _ => 0))))]) 216 := by
  subst h0
  subst hE
  exact ⟨_, (sg_LW q0 F q1 f1 q2 _ 0 (by decide) rfl), fun d hd H h => by cases hd; exact h⟩
set_option maxRecDepth 100000 in
set_option maxHeartbeats 4000000 in
theorem fnd_217 {D : va_G} {cA : Nat → ClassId} {ad str stv : Nat → Nat} {TK SW sz : Nat} (q0 : Nat) (F : Nat → Nat → Nat) (q1 : Nat) (f1 : Nat → Nat) (q2 : Nat) (E0 E : gE) (h0 : E0 = (D, cA, fun _ => 0, ad, sz, str, stv, TK, SW)) (hE : E = (D, cA, glA q0 F q1 f1 q2, ad, sz, str, stv, TK, SW)) : gFnd E M00 ((wdW E0 q0 F ++ mdW E0 (nA q1 f1) (mCP mFR 502) mFR (mCP (mNN 65) 65) (mNN 65)) ++ [(q2, .inl (gcA E0 1, 1, .inr (.inl (fun _ => 0))))]) 217 := by
  subst h0
  subst hE
  exact ⟨_, (sg_LW q0 F q1 f1 q2 _ 1 (by decide) rfl), fun d hd H h => by cases hd; exact h⟩
set_option maxRecDepth 100000 in
set_option maxHeartbeats 4000000 in
theorem fnd_218 {D : va_G} {cA : Nat → ClassId} {ad str stv : Nat → Nat} {TK SW sz : Nat} (q0 : Nat) (F : Nat → Nat → Nat) (q1 : Nat) (f1 : Nat → Nat) (q2 : Nat) (E0 E : gE) (h0 : E0 = (D, cA, fun _ => 0, ad, sz, str, stv, TK, SW)) (hE : E = (D, cA, glA q0 F q1 f1 q2, ad, sz, str, stv, TK, SW)) : gFnd E M00 ((wdW E0 q0 F ++ mdW E0 (nA q1 f1) (mCP mFR 502) mFR (mCP (mNN 65) 65) (mNN 65)) ++ [(q2, .inl (gcA E0 1, 1, .inr (.inl (fun _ => 0))))]) 218 := by
  subst h0
  subst hE
  exact ⟨_, (sg_LW q0 F q1 f1 q2 _ 2 (by decide) rfl), fun d hd H h => by cases hd; exact h⟩
set_option maxRecDepth 100000 in
set_option maxHeartbeats 4000000 in
theorem fnd_219 {D : va_G} {cA : Nat → ClassId} {ad str stv : Nat → Nat} {TK SW sz : Nat} (q0 : Nat) (F : Nat → Nat → Nat) (q1 : Nat) (f1 : Nat → Nat) (q2 : Nat) (E0 E : gE) (h0 : E0 = (D, cA, fun _ => 0, ad, sz, str, stv, TK, SW)) (hE : E = (D, cA, glA q0 F q1 f1 q2, ad, sz, str, stv, TK, SW)) : gFnd E M00 ((wdW E0 q0 F ++ mdW E0 (nA q1 f1) (mCP mFR 502) mFR (mCP (mNN 65) 65) (mNN 65)) ++ [(q2, .inl (gcA E0 1, 1, .inr (.inl (fun _ => 0))))]) 219 := by
  subst h0
  subst hE
  exact ⟨_, (sg_LW q0 F q1 f1 q2 _ 3 (by decide) rfl), fun d hd H h => by cases hd; exact h⟩
set_option maxRecDepth 100000 in
set_option maxHeartbeats 4000000 in
theorem fnd_220 {D : va_G} {cA : Nat → ClassId} {ad str stv : Nat → Nat} {TK SW sz : Nat} (q0 : Nat) (F : Nat → Nat → Nat) (q1 : Nat) (f1 : Nat → Nat) (q2 : Nat) (E0 E : gE) (h0 : E0 = (D, cA, fun _ => 0, ad, sz, str, stv, TK, SW)) (hE : E = (D, cA, glA q0 F q1 f1 q2, ad, sz, str, stv, TK, SW)) : gFnd E M00 ((wdW E0 q0 F ++ mdW E0 (nA q1 f1) (mCP mFR 502) mFR (mCP (mNN 65) 65) (mNN 65)) ++ [(q2, .inl (gcA E0 1, 1, .inr (.inl (fun _ => 0))))]) 220 := by
  subst h0
  subst hE
  exact ⟨_, (sg_ES q0 F q1 f1 q2 _ 0 (by decide) rfl), fun d hd H h => by cases hd; exact h⟩
set_option maxRecDepth 100000 in
set_option maxHeartbeats 4000000 in
theorem fnd_221 {D : va_G} {cA : Nat → ClassId} {ad str stv : Nat → Nat} {TK SW sz : Nat} (q0 : Nat) (F : Nat → Nat → Nat) (q1 : Nat) (f1 : Nat → Nat) (q2 : Nat) (E0 E : gE) (h0 : E0 = (D, cA, fun _ => 0, ad, sz, str, stv, TK, SW)) (hE : E = (D, cA, glA q0 F q1 f1 q2, ad, sz, str, stv, TK, SW)) : gFnd E M00 ((wdW E0 q0 F ++ mdW E0 (nA q1 f1) (mCP mFR 502) mFR (mCP (mNN 65) 65) (mNN 65)) ++ [(q2, .inl (gcA E0 1, 1, .inr (.inl (fun _ => 0))))]) 221 := by
  subst h0
  subst hE
  exact ⟨_, (sg_ES q0 F q1 f1 q2 _ 1 (by decide) rfl), fun d hd H h => by cases hd; exact h⟩
set_option maxRecDepth 100000 in
set_option maxHeartbeats 4000000 in
theorem fnd_222 {D : va_G} {cA : Nat → ClassId} {ad str stv : Nat → Nat} {TK SW sz : Nat} (q0 : Nat) (F : Nat → Nat → Nat) (q1 : Nat) (f1 : Nat → Nat) (q2 : Nat) (E0 E : gE) (h0 : E0 = (D, cA, fun _ => 0, ad, sz, str, stv, TK, SW)) (hE : E = (D, cA, glA q0 F q1 f1 q2, ad, sz, str, stv, TK, SW)) : gFnd E M00 ((wdW E0 q0 F ++ mdW E0 (nA q1 f1) (mCP mFR 502) mFR (mCP (mNN 65) 65) (mNN 65)) ++ [(q2, .inl (gcA E0 1, 1, .inr (.inl (fun _ => 0))))]) 222 := by
  subst h0
  subst hE
  exact ⟨_, (sg_HI q0 F q1 f1 q2 _ 0 (by decide) rfl), fun d hd H h => by cases hd; exact h⟩
set_option maxRecDepth 100000 in
set_option maxHeartbeats 4000000 in
theorem fnd_223 {D : va_G} {cA : Nat → ClassId} {ad str stv : Nat → Nat} {TK SW sz : Nat} (q0 : Nat) (F : Nat → Nat → Nat) (q1 : Nat) (f1 : Nat → Nat) (q2 : Nat) (E0 E : gE) (h0 : E0 = (D, cA, fun _ => 0, ad, sz, str, stv, TK, SW)) (hE : E = (D, cA, glA q0 F q1 f1 q2, ad, sz, str, stv, TK, SW)) : gFnd E M00 ((wdW E0 q0 F ++ mdW E0 (nA q1 f1) (mCP mFR 502) mFR (mCP (mNN 65) 65) (mNN 65)) ++ [(q2, .inl (gcA E0 1, 1, .inr (.inl (fun _ => 0))))]) 223 := by
  subst h0
  subst hE
  exact ⟨_, (sg_HI q0 F q1 f1 q2 _ 1 (by decide) rfl), fun d hd H h => by cases hd; exact h⟩
set_option maxRecDepth 100000 in
set_option maxHeartbeats 4000000 in
theorem fnd_224 {D : va_G} {cA : Nat → ClassId} {ad str stv : Nat → Nat} {TK SW sz : Nat} (q0 : Nat) (F : Nat → Nat → Nat) (q1 : Nat) (f1 : Nat → Nat) (q2 : Nat) (E0 E : gE) (h0 : E0 = (D, cA, fun _ => 0, ad, sz, str, stv, TK, SW)) (hE : E = (D, cA, glA q0 F q1 f1 q2, ad, sz, str, stv, TK, SW)) : gFnd E M00 ((wdW E0 q0 F ++ mdW E0 (nA q1 f1) (mCP mFR 502) mFR (mCP (mNN 65) 65) (mNN 65)) ++ [(q2, .inl (gcA E0 1, 1, .inr (.inl (fun _ => 0))))]) 224 := by
  subst h0
  subst hE
  exact ⟨_, (sg_HI q0 F q1 f1 q2 _ 2 (by decide) rfl), fun d hd H h => by cases hd; exact h⟩
set_option maxRecDepth 100000 in
set_option maxHeartbeats 4000000 in
theorem fnd_225 {D : va_G} {cA : Nat → ClassId} {ad str stv : Nat → Nat} {TK SW sz : Nat} (q0 : Nat) (F : Nat → Nat → Nat) (q1 : Nat) (f1 : Nat → Nat) (q2 : Nat) (E0 E : gE) (h0 : E0 = (D, cA, fun _ => 0, ad, sz, str, stv, TK, SW)) (hE : E = (D, cA, glA q0 F q1 f1 q2, ad, sz, str, stv, TK, SW)) : gFnd E M00 ((wdW E0 q0 F ++ mdW E0 (nA q1 f1) (mCP mFR 502) mFR (mCP (mNN 65) 65) (mNN 65)) ++ [(q2, .inl (gcA E0 1, 1, .inr (.inl (fun _ => 0))))]) 225 := by
  subst h0
  subst hE
  exact ⟨_, (sg_HI q0 F q1 f1 q2 _ 3 (by decide) rfl), fun d hd H h => by cases hd; exact h⟩
set_option maxRecDepth 100000 in
set_option maxHeartbeats 4000000 in
theorem fnd_226 {D : va_G} {cA : Nat → ClassId} {ad str stv : Nat → Nat} {TK SW sz : Nat} (q0 : Nat) (F : Nat → Nat → Nat) (q1 : Nat) (f1 : Nat → Nat) (q2 : Nat) (E0 E : gE) (h0 : E0 = (D, cA, fun _ => 0, ad, sz, str, stv, TK, SW)) (hE : E = (D, cA, glA q0 F q1 f1 q2, ad, sz, str, stv, TK, SW)) : gFnd E M00 ((wdW E0 q0 F ++ mdW E0 (nA q1 f1) (mCP mFR 502) mFR (mCP (mNN 65) 65) (mNN 65)) ++ [(q2, .inl (gcA E0 1, 1, .inr (.inl (fun _ => 0))))]) 226 := by
  subst h0
  subst hE
  exact ⟨_, (sg_MD q0 F q1 f1 q2 _ 0 (by decide) rfl), fun d hd H h => by cases hd; exact h⟩
set_option maxRecDepth 100000 in
set_option maxHeartbeats 4000000 in
theorem fnd_227 {D : va_G} {cA : Nat → ClassId} {ad str stv : Nat → Nat} {TK SW sz : Nat} (q0 : Nat) (F : Nat → Nat → Nat) (q1 : Nat) (f1 : Nat → Nat) (q2 : Nat) (E0 E : gE) (h0 : E0 = (D, cA, fun _ => 0, ad, sz, str, stv, TK, SW)) (hE : E = (D, cA, glA q0 F q1 f1 q2, ad, sz, str, stv, TK, SW)) : gFnd E M00 ((wdW E0 q0 F ++ mdW E0 (nA q1 f1) (mCP mFR 502) mFR (mCP (mNN 65) 65) (mNN 65)) ++ [(q2, .inl (gcA E0 1, 1, .inr (.inl (fun _ => 0))))]) 227 := by
  subst h0
  subst hE
  exact ⟨_, (sg_MD q0 F q1 f1 q2 _ 1 (by decide) rfl), fun d hd H h => by cases hd; exact h⟩
set_option maxRecDepth 100000 in
set_option maxHeartbeats 4000000 in
theorem fnd_228 {D : va_G} {cA : Nat → ClassId} {ad str stv : Nat → Nat} {TK SW sz : Nat} (q0 : Nat) (F : Nat → Nat → Nat) (q1 : Nat) (f1 : Nat → Nat) (q2 : Nat) (E0 E : gE) (h0 : E0 = (D, cA, fun _ => 0, ad, sz, str, stv, TK, SW)) (hE : E = (D, cA, glA q0 F q1 f1 q2, ad, sz, str, stv, TK, SW)) : gFnd E M00 ((wdW E0 q0 F ++ mdW E0 (nA q1 f1) (mCP mFR 502) mFR (mCP (mNN 65) 65) (mNN 65)) ++ [(q2, .inl (gcA E0 1, 1, .inr (.inl (fun _ => 0))))]) 228 := by
  subst h0
  subst hE
  exact ⟨_, (sg_MD q0 F q1 f1 q2 _ 2 (by decide) rfl), fun d hd H h => by cases hd; exact h⟩
set_option maxRecDepth 100000 in
set_option maxHeartbeats 4000000 in
theorem fnd_229 {D : va_G} {cA : Nat → ClassId} {ad str stv : Nat → Nat} {TK SW sz : Nat} (q0 : Nat) (F : Nat → Nat → Nat) (q1 : Nat) (f1 : Nat → Nat) (q2 : Nat) (E0 E : gE) (h0 : E0 = (D, cA, fun _ => 0, ad, sz, str, stv, TK, SW)) (hE : E = (D, cA, glA q0 F q1 f1 q2, ad, sz, str, stv, TK, SW)) : gFnd E M00 ((wdW E0 q0 F ++ mdW E0 (nA q1 f1) (mCP mFR 502) mFR (mCP (mNN 65) 65) (mNN 65)) ++ [(q2, .inl (gcA E0 1, 1, .inr (.inl (fun _ => 0))))]) 229 := by
  subst h0
  subst hE
  exact ⟨_, (sg_MD q0 F q1 f1 q2 _ 3 (by decide) rfl), fun d hd H h => by cases hd; exact h⟩
set_option maxRecDepth 100000 in
set_option maxHeartbeats 4000000 in
theorem fnd_230 {D : va_G} {cA : Nat → ClassId} {ad str stv : Nat → Nat} {TK SW sz : Nat} (q0 : Nat) (F : Nat → Nat → Nat) (q1 : Nat) (f1 : Nat → Nat) (q2 : Nat) (E0 E : gE) (h0 : E0 = (D, cA, fun _ => 0, ad, sz, str, stv, TK, SW)) (hE : E = (D, cA, glA q0 F q1 f1 q2, ad, sz, str, stv, TK, SW)) : gFnd E M00 ((wdW E0 q0 F ++ mdW E0 (nA q1 f1) (mCP mFR 502) mFR (mCP (mNN 65) 65) (mNN 65)) ++ [(q2, .inl (gcA E0 1, 1, .inr (.inl (fun _ => 0))))]) 230 := by
  subst h0
  subst hE
  exact ⟨_, (sg_MD q0 F q1 f1 q2 _ 4 (by decide) rfl), fun d hd H h => by cases hd; exact h⟩
set_option maxRecDepth 100000 in
set_option maxHeartbeats 4000000 in
theorem fnd_231 {D : va_G} {cA : Nat → ClassId} {ad str stv : Nat → Nat} {TK SW sz : Nat} (q0 : Nat) (F : Nat → Nat → Nat) (q1 : Nat) (f1 : Nat → Nat) (q2 : Nat) (E0 E : gE) (h0 : E0 = (D, cA, fun _ => 0, ad, sz, str, stv, TK, SW)) (hE : E = (D, cA, glA q0 F q1 f1 q2, ad, sz, str, stv, TK, SW)) : gFnd E M00 ((wdW E0 q0 F ++ mdW E0 (nA q1 f1) (mCP mFR 502) mFR (mCP (mNN 65) 65) (mNN 65)) ++ [(q2, .inl (gcA E0 1, 1, .inr (.inl (fun _ => 0))))]) 231 := by
  subst h0
  subst hE
  exact ⟨_, (sg_MD q0 F q1 f1 q2 _ 5 (by decide) rfl), fun d hd H h => by cases hd; exact h⟩
set_option maxRecDepth 100000 in
set_option maxHeartbeats 4000000 in
theorem fnd_232 {D : va_G} {cA : Nat → ClassId} {ad str stv : Nat → Nat} {TK SW sz : Nat} (q0 : Nat) (F : Nat → Nat → Nat) (q1 : Nat) (f1 : Nat → Nat) (q2 : Nat) (E0 E : gE) (h0 : E0 = (D, cA, fun _ => 0, ad, sz, str, stv, TK, SW)) (hE : E = (D, cA, glA q0 F q1 f1 q2, ad, sz, str, stv, TK, SW)) : gFnd E M00 ((wdW E0 q0 F ++ mdW E0 (nA q1 f1) (mCP mFR 502) mFR (mCP (mNN 65) 65) (mNN 65)) ++ [(q2, .inl (gcA E0 1, 1, .inr (.inl (fun _ => 0))))]) 232 := by
  subst h0
  subst hE
  exact ⟨_, (sg_MD q0 F q1 f1 q2 _ 6 (by decide) rfl), fun d hd H h => by cases hd; exact h⟩
set_option maxRecDepth 100000 in
set_option maxHeartbeats 4000000 in
theorem fnd_233 {D : va_G} {cA : Nat → ClassId} {ad str stv : Nat → Nat} {TK SW sz : Nat} (q0 : Nat) (F : Nat → Nat → Nat) (q1 : Nat) (f1 : Nat → Nat) (q2 : Nat) (E0 E : gE) (h0 : E0 = (D, cA, fun _ => 0, ad, sz, str, stv, TK, SW)) (hE : E = (D, cA, glA q0 F q1 f1 q2, ad, sz, str, stv, TK, SW)) : gFnd E M00 ((wdW E0 q0 F ++ mdW E0 (nA q1 f1) (mCP mFR 502) mFR (mCP (mNN 65) 65) (mNN 65)) ++ [(q2, .inl (gcA E0 1, 1, .inr (.inl (fun _ => 0))))]) 233 := by
  subst h0
  subst hE
  exact ⟨_, (sg_MD q0 F q1 f1 q2 _ 7 (by decide) rfl), fun d hd H h => by cases hd; exact h⟩
set_option maxRecDepth 100000 in
set_option maxHeartbeats 4000000 in
theorem fnd_234 {D : va_G} {cA : Nat → ClassId} {ad str stv : Nat → Nat} {TK SW sz : Nat} (q0 : Nat) (F : Nat → Nat → Nat) (q1 : Nat) (f1 : Nat → Nat) (q2 : Nat) (E0 E : gE) (h0 : E0 = (D, cA, fun _ => 0, ad, sz, str, stv, TK, SW)) (hE : E = (D, cA, glA q0 F q1 f1 q2, ad, sz, str, stv, TK, SW)) : gFnd E M00 ((wdW E0 q0 F ++ mdW E0 (nA q1 f1) (mCP mFR 502) mFR (mCP (mNN 65) 65) (mNN 65)) ++ [(q2, .inl (gcA E0 1, 1, .inr (.inl (fun _ => 0))))]) 234 := by
  subst h0
  subst hE
  exact ⟨_, (sg_MD q0 F q1 f1 q2 _ 8 (by decide) rfl), fun d hd H h => by cases hd; exact h⟩
set_option maxRecDepth 100000 in
set_option maxHeartbeats 4000000 in
theorem fnd_235 {D : va_G} {cA : Nat → ClassId} {ad str stv : Nat → Nat} {TK SW sz : Nat} (q0 : Nat) (F : Nat → Nat → Nat) (q1 : Nat) (f1 : Nat → Nat) (q2 : Nat) (E0 E : gE) (h0 : E0 = (D, cA, fun _ => 0, ad, sz, str, stv, TK, SW)) (hE : E = (D, cA, glA q0 F q1 f1 q2, ad, sz, str, stv, TK, SW)) : gFnd E M00 ((wdW E0 q0 F ++ mdW E0 (nA q1 f1) (mCP mFR 502) mFR (mCP (mNN 65) 65) (mNN 65)) ++ [(q2, .inl (gcA E0 1, 1, .inr (.inl (fun _ => 0))))]) 235 := by
  subst h0
  subst hE
  exact ⟨_, (sg_MD q0 F q1 f1 q2 _ 9 (by decide) rfl), fun d hd H h => by cases hd; exact h⟩
set_option maxRecDepth 100000 in
set_option maxHeartbeats 4000000 in
theorem fnd_236 {D : va_G} {cA : Nat → ClassId} {ad str stv : Nat → Nat} {TK SW sz : Nat} (q0 : Nat) (F : Nat → Nat → Nat) (q1 : Nat) (f1 : Nat → Nat) (q2 : Nat) (E0 E : gE) (h0 : E0 = (D, cA, fun _ => 0, ad, sz, str, stv, TK, SW)) (hE : E = (D, cA, glA q0 F q1 f1 q2, ad, sz, str, stv, TK, SW)) : gFnd E M00 ((wdW E0 q0 F ++ mdW E0 (nA q1 f1) (mCP mFR 502) mFR (mCP (mNN 65) 65) (mNN 65)) ++ [(q2, .inl (gcA E0 1, 1, .inr (.inl (fun _ => 0))))]) 236 := by
  subst h0
  subst hE
  exact ⟨_, (sg_MD q0 F q1 f1 q2 _ 10 (by decide) rfl), fun d hd H h => by cases hd; exact h⟩
set_option maxRecDepth 100000 in
set_option maxHeartbeats 4000000 in
theorem fnd_237 {D : va_G} {cA : Nat → ClassId} {ad str stv : Nat → Nat} {TK SW sz : Nat} (q0 : Nat) (F : Nat → Nat → Nat) (q1 : Nat) (f1 : Nat → Nat) (q2 : Nat) (E0 E : gE) (h0 : E0 = (D, cA, fun _ => 0, ad, sz, str, stv, TK, SW)) (hE : E = (D, cA, glA q0 F q1 f1 q2, ad, sz, str, stv, TK, SW)) : gFnd E M00 ((wdW E0 q0 F ++ mdW E0 (nA q1 f1) (mCP mFR 502) mFR (mCP (mNN 65) 65) (mNN 65)) ++ [(q2, .inl (gcA E0 1, 1, .inr (.inl (fun _ => 0))))]) 237 := by
  subst h0
  subst hE
  exact ⟨_, (sg_MD q0 F q1 f1 q2 _ 11 (by decide) rfl), fun d hd H h => by cases hd; exact h⟩
set_option maxRecDepth 100000 in
set_option maxHeartbeats 4000000 in
theorem fnd_238 {D : va_G} {cA : Nat → ClassId} {ad str stv : Nat → Nat} {TK SW sz : Nat} (q0 : Nat) (F : Nat → Nat → Nat) (q1 : Nat) (f1 : Nat → Nat) (q2 : Nat) (E0 E : gE) (h0 : E0 = (D, cA, fun _ => 0, ad, sz, str, stv, TK, SW)) (hE : E = (D, cA, glA q0 F q1 f1 q2, ad, sz, str, stv, TK, SW)) : gFnd E M00 ((wdW E0 q0 F ++ mdW E0 (nA q1 f1) (mCP mFR 502) mFR (mCP (mNN 65) 65) (mNN 65)) ++ [(q2, .inl (gcA E0 1, 1, .inr (.inl (fun _ => 0))))]) 238 := by
  subst h0
  subst hE
  exact ⟨_, (sg_MD q0 F q1 f1 q2 _ 12 (by decide) rfl), fun d hd H h => by cases hd; exact h⟩
set_option maxRecDepth 100000 in
set_option maxHeartbeats 4000000 in
theorem fnd_239 {D : va_G} {cA : Nat → ClassId} {ad str stv : Nat → Nat} {TK SW sz : Nat} (q0 : Nat) (F : Nat → Nat → Nat) (q1 : Nat) (f1 : Nat → Nat) (q2 : Nat) (E0 E : gE) (h0 : E0 = (D, cA, fun _ => 0, ad, sz, str, stv, TK, SW)) (hE : E = (D, cA, glA q0 F q1 f1 q2, ad, sz, str, stv, TK, SW)) : gFnd E M00 ((wdW E0 q0 F ++ mdW E0 (nA q1 f1) (mCP mFR 502) mFR (mCP (mNN 65) 65) (mNN 65)) ++ [(q2, .inl (gcA E0 1, 1, .inr (.inl (fun _ => 0))))]) 239 := by
  subst h0
  subst hE
  exact ⟨_, (sg_MD q0 F q1 f1 q2 _ 13 (by decide) rfl), fun d hd H h => by cases hd; exact h⟩
set_option maxRecDepth 100000 in
set_option maxHeartbeats 4000000 in
theorem fnd_240 {D : va_G} {cA : Nat → ClassId} {ad str stv : Nat → Nat} {TK SW sz : Nat} (q0 : Nat) (F : Nat → Nat → Nat) (q1 : Nat) (f1 : Nat → Nat) (q2 : Nat) (E0 E : gE) (h0 : E0 = (D, cA, fun _ => 0, ad, sz, str, stv, TK, SW)) (hE : E = (D, cA, glA q0 F q1 f1 q2, ad, sz, str, stv, TK, SW)) : gFnd E M00 ((wdW E0 q0 F ++ mdW E0 (nA q1 f1) (mCP mFR 502) mFR (mCP (mNN 65) 65) (mNN 65)) ++ [(q2, .inl (gcA E0 1, 1, .inr (.inl (fun _ => 0))))]) 240 := by
  subst h0
  subst hE
  exact ⟨_, (sg_OT q0 F q1 f1 q2 _ rfl), fun d hd H h => by cases hd; exact h⟩
theorem lt_S {n : Nat} {Q : Nat → Prop} (h : ∀ i, i < n → Q i) (q : Q n) : ∀ i, i < n + 1 → Q i := fun i hi => by
  rcases Nat.lt_or_ge i n with z | z
  · exact h i z
  · rw [show i = n by omega]; exact q
set_option maxRecDepth 100000 in
set_option maxHeartbeats 4000000 in
theorem fnd_all {D : va_G} {cA : Nat → ClassId} {ad str stv : Nat → Nat} {TK SW sz : Nat} (q0 : Nat) (F : Nat → Nat → Nat) (q1 : Nat) (f1 : Nat → Nat) (q2 : Nat) (E0 E : gE) (h0 : E0 = (D, cA, fun _ => 0, ad, sz, str, stv, TK, SW)) (hE : E = (D, cA, glA q0 F q1 f1 q2, ad, sz, str, stv, TK, SW)) : ∀ i, i < 241 → gFnd E M00 ((wdW E0 q0 F ++ mdW E0 (nA q1 f1) (mCP mFR 502) mFR (mCP (mNN 65) 65) (mNN 65)) ++ [(q2, .inl (gcA E0 1, 1, .inr (.inl (fun _ => 0))))]) i := by
  have z0 : ∀ i, i < 0 → gFnd E M00 ((wdW E0 q0 F ++ mdW E0 (nA q1 f1) (mCP mFR 502) mFR (mCP (mNN 65) 65) (mNN 65)) ++ [(q2, .inl (gcA E0 1, 1, .inr (.inl (fun _ => 0))))]) i := fun i hi => absurd hi (Nat.not_lt_zero i)
  have z1 := lt_S z0 (fnd_0 q0 F q1 f1 q2 E0 E h0 hE)
  have z2 := lt_S z1 (fnd_1 q0 F q1 f1 q2 E0 E h0 hE)
  have z3 := lt_S z2 (fnd_2 q0 F q1 f1 q2 E0 E h0 hE)
  have z4 := lt_S z3 (fnd_3 q0 F q1 f1 q2 E0 E h0 hE)
  have z5 := lt_S z4 (fnd_4 q0 F q1 f1 q2 E0 E h0 hE)
  have z6 := lt_S z5 (fnd_5 q0 F q1 f1 q2 E0 E h0 hE)
  have z7 := lt_S z6 (fnd_6 q0 F q1 f1 q2 E0 E h0 hE)
  have z8 := lt_S z7 (fnd_7 q0 F q1 f1 q2 E0 E h0 hE)
  have z9 := lt_S z8 (fnd_8 q0 F q1 f1 q2 E0 E h0 hE)
  have z10 := lt_S z9 (fnd_9 q0 F q1 f1 q2 E0 E h0 hE)
  have z11 := lt_S z10 (fnd_10 q0 F q1 f1 q2 E0 E h0 hE)
  have z12 := lt_S z11 (fnd_11 q0 F q1 f1 q2 E0 E h0 hE)
  have z13 := lt_S z12 (fnd_12 q0 F q1 f1 q2 E0 E h0 hE)
  have z14 := lt_S z13 (fnd_13 q0 F q1 f1 q2 E0 E h0 hE)
  have z15 := lt_S z14 (fnd_14 q0 F q1 f1 q2 E0 E h0 hE)
  have z16 := lt_S z15 (fnd_15 q0 F q1 f1 q2 E0 E h0 hE)
  have z17 := lt_S z16 (fnd_16 q0 F q1 f1 q2 E0 E h0 hE)
  have z18 := lt_S z17 (fnd_17 q0 F q1 f1 q2 E0 E h0 hE)
  have z19 := lt_S z18 (fnd_18 q0 F q1 f1 q2 E0 E h0 hE)
  have z20 := lt_S z19 (fnd_19 q0 F q1 f1 q2 E0 E h0 hE)
  have z21 := lt_S z20 (fnd_20 q0 F q1 f1 q2 E0 E h0 hE)
  have z22 := lt_S z21 (fnd_21 q0 F q1 f1 q2 E0 E h0 hE)
  have z23 := lt_S z22 (fnd_22 q0 F q1 f1 q2 E0 E h0 hE)
  have z24 := lt_S z23 (fnd_23 q0 F q1 f1 q2 E0 E h0 hE)
  have z25 := lt_S z24 (fnd_24 q0 F q1 f1 q2 E0 E h0 hE)
  have z26 := lt_S z25 (fnd_25 q0 F q1 f1 q2 E0 E h0 hE)
  have z27 := lt_S z26 (fnd_26 q0 F q1 f1 q2 E0 E h0 hE)
  have z28 := lt_S z27 (fnd_27 q0 F q1 f1 q2 E0 E h0 hE)
  have z29 := lt_S z28 (fnd_28 q0 F q1 f1 q2 E0 E h0 hE)
  have z30 := lt_S z29 (fnd_29 q0 F q1 f1 q2 E0 E h0 hE)
  have z31 := lt_S z30 (fnd_30 q0 F q1 f1 q2 E0 E h0 hE)
  have z32 := lt_S z31 (fnd_31 q0 F q1 f1 q2 E0 E h0 hE)
  have z33 := lt_S z32 (fnd_32 q0 F q1 f1 q2 E0 E h0 hE)
  have z34 := lt_S z33 (fnd_33 q0 F q1 f1 q2 E0 E h0 hE)
  have z35 := lt_S z34 (fnd_34 q0 F q1 f1 q2 E0 E h0 hE)
  have z36 := lt_S z35 (fnd_35 q0 F q1 f1 q2 E0 E h0 hE)
  have z37 := lt_S z36 (fnd_36 q0 F q1 f1 q2 E0 E h0 hE)
  have z38 := lt_S z37 (fnd_37 q0 F q1 f1 q2 E0 E h0 hE)
  have z39 := lt_S z38 (fnd_38 q0 F q1 f1 q2 E0 E h0 hE)
  have z40 := lt_S z39 (fnd_39 q0 F q1 f1 q2 E0 E h0 hE)
  have z41 := lt_S z40 (fnd_40 q0 F q1 f1 q2 E0 E h0 hE)
  have z42 := lt_S z41 (fnd_41 q0 F q1 f1 q2 E0 E h0 hE)
  have z43 := lt_S z42 (fnd_42 q0 F q1 f1 q2 E0 E h0 hE)
  have z44 := lt_S z43 (fnd_43 q0 F q1 f1 q2 E0 E h0 hE)
  have z45 := lt_S z44 (fnd_44 q0 F q1 f1 q2 E0 E h0 hE)
  have z46 := lt_S z45 (fnd_45 q0 F q1 f1 q2 E0 E h0 hE)
  have z47 := lt_S z46 (fnd_46 q0 F q1 f1 q2 E0 E h0 hE)
  have z48 := lt_S z47 (fnd_47 q0 F q1 f1 q2 E0 E h0 hE)
  have z49 := lt_S z48 (fnd_48 q0 F q1 f1 q2 E0 E h0 hE)
  have z50 := lt_S z49 (fnd_49 q0 F q1 f1 q2 E0 E h0 hE)
  have z51 := lt_S z50 (fnd_50 q0 F q1 f1 q2 E0 E h0 hE)
  have z52 := lt_S z51 (fnd_51 q0 F q1 f1 q2 E0 E h0 hE)
  have z53 := lt_S z52 (fnd_52 q0 F q1 f1 q2 E0 E h0 hE)
  have z54 := lt_S z53 (fnd_53 q0 F q1 f1 q2 E0 E h0 hE)
  have z55 := lt_S z54 (fnd_54 q0 F q1 f1 q2 E0 E h0 hE)
  have z56 := lt_S z55 (fnd_55 q0 F q1 f1 q2 E0 E h0 hE)
  have z57 := lt_S z56 (fnd_56 q0 F q1 f1 q2 E0 E h0 hE)
  have z58 := lt_S z57 (fnd_57 q0 F q1 f1 q2 E0 E h0 hE)
  have z59 := lt_S z58 (fnd_58 q0 F q1 f1 q2 E0 E h0 hE)
  have z60 := lt_S z59 (fnd_59 q0 F q1 f1 q2 E0 E h0 hE)
  have z61 := lt_S z60 (fnd_60 q0 F q1 f1 q2 E0 E h0 hE)
  have z62 := lt_S z61 (fnd_61 q0 F q1 f1 q2 E0 E h0 hE)
  have z63 := lt_S z62 (fnd_62 q0 F q1 f1 q2 E0 E h0 hE)
  have z64 := lt_S z63 (fnd_63 q0 F q1 f1 q2 E0 E h0 hE)
  have z65 := lt_S z64 (fnd_64 q0 F q1 f1 q2 E0 E h0 hE)
  have z66 := lt_S z65 (fnd_65 q0 F q1 f1 q2 E0 E h0 hE)
  have z67 := lt_S z66 (fnd_66 q0 F q1 f1 q2 E0 E h0 hE)
  have z68 := lt_S z67 (fnd_67 q0 F q1 f1 q2 E0 E h0 hE)
  have z69 := lt_S z68 (fnd_68 q0 F q1 f1 q2 E0 E h0 hE)
  have z70 := lt_S z69 (fnd_69 q0 F q1 f1 q2 E0 E h0 hE)
  have z71 := lt_S z70 (fnd_70 q0 F q1 f1 q2 E0 E h0 hE)
  have z72 := lt_S z71 (fnd_71 q0 F q1 f1 q2 E0 E h0 hE)
  have z73 := lt_S z72 (fnd_72 q0 F q1 f1 q2 E0 E h0 hE)
  have z74 := lt_S z73 (fnd_73 q0 F q1 f1 q2 E0 E h0 hE)
  have z75 := lt_S z74 (fnd_74 q0 F q1 f1 q2 E0 E h0 hE)
  have z76 := lt_S z75 (fnd_75 q0 F q1 f1 q2 E0 E h0 hE)
  have z77 := lt_S z76 (fnd_76 q0 F q1 f1 q2 E0 E h0 hE)
  have z78 := lt_S z77 (fnd_77 q0 F q1 f1 q2 E0 E h0 hE)
  have z79 := lt_S z78 (fnd_78 q0 F q1 f1 q2 E0 E h0 hE)
  have z80 := lt_S z79 (fnd_79 q0 F q1 f1 q2 E0 E h0 hE)
  have z81 := lt_S z80 (fnd_80 q0 F q1 f1 q2 E0 E h0 hE)
  have z82 := lt_S z81 (fnd_81 q0 F q1 f1 q2 E0 E h0 hE)
  have z83 := lt_S z82 (fnd_82 q0 F q1 f1 q2 E0 E h0 hE)
  have z84 := lt_S z83 (fnd_83 q0 F q1 f1 q2 E0 E h0 hE)
  have z85 := lt_S z84 (fnd_84 q0 F q1 f1 q2 E0 E h0 hE)
  have z86 := lt_S z85 (fnd_85 q0 F q1 f1 q2 E0 E h0 hE)
  have z87 := lt_S z86 (fnd_86 q0 F q1 f1 q2 E0 E h0 hE)
  have z88 := lt_S z87 (fnd_87 q0 F q1 f1 q2 E0 E h0 hE)
  have z89 := lt_S z88 (fnd_88 q0 F q1 f1 q2 E0 E h0 hE)
  have z90 := lt_S z89 (fnd_89 q0 F q1 f1 q2 E0 E h0 hE)
  have z91 := lt_S z90 (fnd_90 q0 F q1 f1 q2 E0 E h0 hE)
  have z92 := lt_S z91 (fnd_91 q0 F q1 f1 q2 E0 E h0 hE)
  have z93 := lt_S z92 (fnd_92 q0 F q1 f1 q2 E0 E h0 hE)
  have z94 := lt_S z93 (fnd_93 q0 F q1 f1 q2 E0 E h0 hE)
  have z95 := lt_S z94 (fnd_94 q0 F q1 f1 q2 E0 E h0 hE)
  have z96 := lt_S z95 (fnd_95 q0 F q1 f1 q2 E0 E h0 hE)
  have z97 := lt_S z96 (fnd_96 q0 F q1 f1 q2 E0 E h0 hE)
  have z98 := lt_S z97 (fnd_97 q0 F q1 f1 q2 E0 E h0 hE)
  have z99 := lt_S z98 (fnd_98 q0 F q1 f1 q2 E0 E h0 hE)
  have z100 := lt_S z99 (fnd_99 q0 F q1 f1 q2 E0 E h0 hE)
  have z101 := lt_S z100 (fnd_100 q0 F q1 f1 q2 E0 E h0 hE)
  have z102 := lt_S z101 (fnd_101 q0 F q1 f1 q2 E0 E h0 hE)
  have z103 := lt_S z102 (fnd_102 q0 F q1 f1 q2 E0 E h0 hE)
  have z104 := lt_S z103 (fnd_103 q0 F q1 f1 q2 E0 E h0 hE)
  have z105 := lt_S z104 (fnd_104 q0 F q1 f1 q2 E0 E h0 hE)
  have z106 := lt_S z105 (fnd_105 q0 F q1 f1 q2 E0 E h0 hE)
  have z107 := lt_S z106 (fnd_106 q0 F q1 f1 q2 E0 E h0 hE)
  have z108 := lt_S z107 (fnd_107 q0 F q1 f1 q2 E0 E h0 hE)
  have z109 := lt_S z108 (fnd_108 q0 F q1 f1 q2 E0 E h0 hE)
  have z110 := lt_S z109 (fnd_109 q0 F q1 f1 q2 E0 E h0 hE)
  have z111 := lt_S z110 (fnd_110 q0 F q1 f1 q2 E0 E h0 hE)
  have z112 := lt_S z111 (fnd_111 q0 F q1 f1 q2 E0 E h0 hE)
  have z113 := lt_S z112 (fnd_112 q0 F q1 f1 q2 E0 E h0 hE)
  have z114 := lt_S z113 (fnd_113 q0 F q1 f1 q2 E0 E h0 hE)
  have z115 := lt_S z114 (fnd_114 q0 F q1 f1 q2 E0 E h0 hE)
  have z116 := lt_S z115 (fnd_115 q0 F q1 f1 q2 E0 E h0 hE)
  have z117 := lt_S z116 (fnd_116 q0 F q1 f1 q2 E0 E h0 hE)
  have z118 := lt_S z117 (fnd_117 q0 F q1 f1 q2 E0 E h0 hE)
  have z119 := lt_S z118 (fnd_118 q0 F q1 f1 q2 E0 E h0 hE)
  have z120 := lt_S z119 (fnd_119 q0 F q1 f1 q2 E0 E h0 hE)
  have z121 := lt_S z120 (fnd_120 q0 F q1 f1 q2 E0 E h0 hE)
  have z122 := lt_S z121 (fnd_121 q0 F q1 f1 q2 E0 E h0 hE)
  have z123 := lt_S z122 (fnd_122 q0 F q1 f1 q2 E0 E h0 hE)
  have z124 := lt_S z123 (fnd_123 q0 F q1 f1 q2 E0 E h0 hE)
  have z125 := lt_S z124 (fnd_124 q0 F q1 f1 q2 E0 E h0 hE)
  have z126 := lt_S z125 (fnd_125 q0 F q1 f1 q2 E0 E h0 hE)
  have z127 := lt_S z126 (fnd_126 q0 F q1 f1 q2 E0 E h0 hE)
  have z128 := lt_S z127 (fnd_127 q0 F q1 f1 q2 E0 E h0 hE)
  have z129 := lt_S z128 (fnd_128 q0 F q1 f1 q2 E0 E h0 hE)
  have z130 := lt_S z129 (fnd_129 q0 F q1 f1 q2 E0 E h0 hE)
  have z131 := lt_S z130 (fnd_130 q0 F q1 f1 q2 E0 E h0 hE)
  have z132 := lt_S z131 (fnd_131 q0 F q1 f1 q2 E0 E h0 hE)
  have z133 := lt_S z132 (fnd_132 q0 F q1 f1 q2 E0 E h0 hE)
  have z134 := lt_S z133 (fnd_133 q0 F q1 f1 q2 E0 E h0 hE)
  have z135 := lt_S z134 (fnd_134 q0 F q1 f1 q2 E0 E h0 hE)
  have z136 := lt_S z135 (fnd_135 q0 F q1 f1 q2 E0 E h0 hE)
  have z137 := lt_S z136 (fnd_136 q0 F q1 f1 q2 E0 E h0 hE)
  have z138 := lt_S z137 (fnd_137 q0 F q1 f1 q2 E0 E h0 hE)
  have z139 := lt_S z138 (fnd_138 q0 F q1 f1 q2 E0 E h0 hE)
  have z140 := lt_S z139 (fnd_139 q0 F q1 f1 q2 E0 E h0 hE)
  have z141 := lt_S z140 (fnd_140 q0 F q1 f1 q2 E0 E h0 hE)
  have z142 := lt_S z141 (fnd_141 q0 F q1 f1 q2 E0 E h0 hE)
  have z143 := lt_S z142 (fnd_142 q0 F q1 f1 q2 E0 E h0 hE)
  have z144 := lt_S z143 (fnd_143 q0 F q1 f1 q2 E0 E h0 hE)
  have z145 := lt_S z144 (fnd_144 q0 F q1 f1 q2 E0 E h0 hE)
  have z146 := lt_S z145 (fnd_145 q0 F q1 f1 q2 E0 E h0 hE)
  have z147 := lt_S z146 (fnd_146 q0 F q1 f1 q2 E0 E h0 hE)
  have z148 := lt_S z147 (fnd_147 q0 F q1 f1 q2 E0 E h0 hE)
  have z149 := lt_S z148 (fnd_148 q0 F q1 f1 q2 E0 E h0 hE)
  have z150 := lt_S z149 (fnd_149 q0 F q1 f1 q2 E0 E h0 hE)
  have z151 := lt_S z150 (fnd_150 q0 F q1 f1 q2 E0 E h0 hE)
  have z152 := lt_S z151 (fnd_151 q0 F q1 f1 q2 E0 E h0 hE)
  have z153 := lt_S z152 (fnd_152 q0 F q1 f1 q2 E0 E h0 hE)
  have z154 := lt_S z153 (fnd_153 q0 F q1 f1 q2 E0 E h0 hE)
  have z155 := lt_S z154 (fnd_154 q0 F q1 f1 q2 E0 E h0 hE)
  have z156 := lt_S z155 (fnd_155 q0 F q1 f1 q2 E0 E h0 hE)
  have z157 := lt_S z156 (fnd_156 q0 F q1 f1 q2 E0 E h0 hE)
  have z158 := lt_S z157 (fnd_157 q0 F q1 f1 q2 E0 E h0 hE)
  have z159 := lt_S z158 (fnd_158 q0 F q1 f1 q2 E0 E h0 hE)
  have z160 := lt_S z159 (fnd_159 q0 F q1 f1 q2 E0 E h0 hE)
  have z161 := lt_S z160 (fnd_160 q0 F q1 f1 q2 E0 E h0 hE)
  have z162 := lt_S z161 (fnd_161 q0 F q1 f1 q2 E0 E h0 hE)
  have z163 := lt_S z162 (fnd_162 q0 F q1 f1 q2 E0 E h0 hE)
  have z164 := lt_S z163 (fnd_163 q0 F q1 f1 q2 E0 E h0 hE)
  have z165 := lt_S z164 (fnd_164 q0 F q1 f1 q2 E0 E h0 hE)
  have z166 := lt_S z165 (fnd_165 q0 F q1 f1 q2 E0 E h0 hE)
  have z167 := lt_S z166 (fnd_166 q0 F q1 f1 q2 E0 E h0 hE)
  have z168 := lt_S z167 (fnd_167 q0 F q1 f1 q2 E0 E h0 hE)
  have z169 := lt_S z168 (fnd_168 q0 F q1 f1 q2 E0 E h0 hE)
  have z170 := lt_S z169 (fnd_169 q0 F q1 f1 q2 E0 E h0 hE)
  have z171 := lt_S z170 (fnd_170 q0 F q1 f1 q2 E0 E h0 hE)
  have z172 := lt_S z171 (fnd_171 q0 F q1 f1 q2 E0 E h0 hE)
  have z173 := lt_S z172 (fnd_172 q0 F q1 f1 q2 E0 E h0 hE)
  have z174 := lt_S z173 (fnd_173 q0 F q1 f1 q2 E0 E h0 hE)
  have z175 := lt_S z174 (fnd_174 q0 F q1 f1 q2 E0 E h0 hE)
  have z176 := lt_S z175 (fnd_175 q0 F q1 f1 q2 E0 E h0 hE)
  have z177 := lt_S z176 (fnd_176 q0 F q1 f1 q2 E0 E h0 hE)
  have z178 := lt_S z177 (fnd_177 q0 F q1 f1 q2 E0 E h0 hE)
  have z179 := lt_S z178 (fnd_178 q0 F q1 f1 q2 E0 E h0 hE)
  have z180 := lt_S z179 (fnd_179 q0 F q1 f1 q2 E0 E h0 hE)
  have z181 := lt_S z180 (fnd_180 q0 F q1 f1 q2 E0 E h0 hE)
  have z182 := lt_S z181 (fnd_181 q0 F q1 f1 q2 E0 E h0 hE)
  have z183 := lt_S z182 (fnd_182 q0 F q1 f1 q2 E0 E h0 hE)
  have z184 := lt_S z183 (fnd_183 q0 F q1 f1 q2 E0 E h0 hE)
  have z185 := lt_S z184 (fnd_184 q0 F q1 f1 q2 E0 E h0 hE)
  have z186 := lt_S z185 (fnd_185 q0 F q1 f1 q2 E0 E h0 hE)
  have z187 := lt_S z186 (fnd_186 q0 F q1 f1 q2 E0 E h0 hE)
  have z188 := lt_S z187 (fnd_187 q0 F q1 f1 q2 E0 E h0 hE)
  have z189 := lt_S z188 (fnd_188 q0 F q1 f1 q2 E0 E h0 hE)
  have z190 := lt_S z189 (fnd_189 q0 F q1 f1 q2 E0 E h0 hE)
  have z191 := lt_S z190 (fnd_190 q0 F q1 f1 q2 E0 E h0 hE)
  have z192 := lt_S z191 (fnd_191 q0 F q1 f1 q2 E0 E h0 hE)
  have z193 := lt_S z192 (fnd_192 q0 F q1 f1 q2 E0 E h0 hE)
  have z194 := lt_S z193 (fnd_193 q0 F q1 f1 q2 E0 E h0 hE)
  have z195 := lt_S z194 (fnd_194 q0 F q1 f1 q2 E0 E h0 hE)
  have z196 := lt_S z195 (fnd_195 q0 F q1 f1 q2 E0 E h0 hE)
  have z197 := lt_S z196 (fnd_196 q0 F q1 f1 q2 E0 E h0 hE)
  have z198 := lt_S z197 (fnd_197 q0 F q1 f1 q2 E0 E h0 hE)
  have z199 := lt_S z198 (fnd_198 q0 F q1 f1 q2 E0 E h0 hE)
  have z200 := lt_S z199 (fnd_199 q0 F q1 f1 q2 E0 E h0 hE)
  have z201 := lt_S z200 (fnd_200 q0 F q1 f1 q2 E0 E h0 hE)
  have z202 := lt_S z201 (fnd_201 q0 F q1 f1 q2 E0 E h0 hE)
  have z203 := lt_S z202 (fnd_202 q0 F q1 f1 q2 E0 E h0 hE)
  have z204 := lt_S z203 (fnd_203 q0 F q1 f1 q2 E0 E h0 hE)
  have z205 := lt_S z204 (fnd_204 q0 F q1 f1 q2 E0 E h0 hE)
  have z206 := lt_S z205 (fnd_205 q0 F q1 f1 q2 E0 E h0 hE)
  have z207 := lt_S z206 (fnd_206 q0 F q1 f1 q2 E0 E h0 hE)
  have z208 := lt_S z207 (fnd_207 q0 F q1 f1 q2 E0 E h0 hE)
  have z209 := lt_S z208 (fnd_208 q0 F q1 f1 q2 E0 E h0 hE)
  have z210 := lt_S z209 (fnd_209 q0 F q1 f1 q2 E0 E h0 hE)
  have z211 := lt_S z210 (fnd_210 q0 F q1 f1 q2 E0 E h0 hE)
  have z212 := lt_S z211 (fnd_211 q0 F q1 f1 q2 E0 E h0 hE)
  have z213 := lt_S z212 (fnd_212 q0 F q1 f1 q2 E0 E h0 hE)
  have z214 := lt_S z213 (fnd_213 q0 F q1 f1 q2 E0 E h0 hE)
  have z215 := lt_S z214 (fnd_214 q0 F q1 f1 q2 E0 E h0 hE)
  have z216 := lt_S z215 (fnd_215 q0 F q1 f1 q2 E0 E h0 hE)
  have z217 := lt_S z216 (fnd_216 q0 F q1 f1 q2 E0 E h0 hE)
  have z218 := lt_S z217 (fnd_217 q0 F q1 f1 q2 E0 E h0 hE)
  have z219 := lt_S z218 (fnd_218 q0 F q1 f1 q2 E0 E h0 hE)
  have z220 := lt_S z219 (fnd_219 q0 F q1 f1 q2 E0 E h0 hE)
  have z221 := lt_S z220 (fnd_220 q0 F q1 f1 q2 E0 E h0 hE)
  have z222 := lt_S z221 (fnd_221 q0 F q1 f1 q2 E0 E h0 hE)
  have z223 := lt_S z222 (fnd_222 q0 F q1 f1 q2 E0 E h0 hE)
  have z224 := lt_S z223 (fnd_223 q0 F q1 f1 q2 E0 E h0 hE)
  have z225 := lt_S z224 (fnd_224 q0 F q1 f1 q2 E0 E h0 hE)
  have z226 := lt_S z225 (fnd_225 q0 F q1 f1 q2 E0 E h0 hE)
  have z227 := lt_S z226 (fnd_226 q0 F q1 f1 q2 E0 E h0 hE)
  have z228 := lt_S z227 (fnd_227 q0 F q1 f1 q2 E0 E h0 hE)
  have z229 := lt_S z228 (fnd_228 q0 F q1 f1 q2 E0 E h0 hE)
  have z230 := lt_S z229 (fnd_229 q0 F q1 f1 q2 E0 E h0 hE)
  have z231 := lt_S z230 (fnd_230 q0 F q1 f1 q2 E0 E h0 hE)
  have z232 := lt_S z231 (fnd_231 q0 F q1 f1 q2 E0 E h0 hE)
  have z233 := lt_S z232 (fnd_232 q0 F q1 f1 q2 E0 E h0 hE)
  have z234 := lt_S z233 (fnd_233 q0 F q1 f1 q2 E0 E h0 hE)
  have z235 := lt_S z234 (fnd_234 q0 F q1 f1 q2 E0 E h0 hE)
  have z236 := lt_S z235 (fnd_235 q0 F q1 f1 q2 E0 E h0 hE)
  have z237 := lt_S z236 (fnd_236 q0 F q1 f1 q2 E0 E h0 hE)
  have z238 := lt_S z237 (fnd_237 q0 F q1 f1 q2 E0 E h0 hE)
  have z239 := lt_S z238 (fnd_238 q0 F q1 f1 q2 E0 E h0 hE)
  have z240 := lt_S z239 (fnd_239 q0 F q1 f1 q2 E0 E h0 hE)
  have z241 := lt_S z240 (fnd_240 q0 F q1 f1 q2 E0 E h0 hE)
  exact z241
set_option maxRecDepth 100000 in
set_option maxHeartbeats 4000000 in
theorem law_start {D : va_G} {cA : Nat → ClassId} {ad str stv : Nat → Nat} {TK SW sz b L : Nat} {xs : Nat → Int32} (hL : L < 2 ^ 30) (hL2 : L ≤ 3072) (I : Nat → gM → Prop) (h0 : I 0 M00) (hstep : ∀ k M, 6 * k + 6 ≤ L → I k M → stepL M (xs (6 * k) &&& 63) (xs (6 * k + 1)) (xs (6 * k + 2)) (xs (6 * k + 3)) (xs (6 * k + 4)) (xs (6 * k + 5)) (I (k + 1))) {E0 : gE} (hE : E0 = (D, cA, fun _ => 0, ad, sz, str, stv, TK, SW)) :
    nK E0 RL code 7 ret room_1 (fun q => sz ≤ q) (fun s _ => va_X b L xs s s.heap ∧ b < s.heap.size ∧ sz = s.heap.size) lw_Z 0 0 0 [(0, .ref b)] [] [] := by
  subst hE
  obtain ⟨E0, hE⟩ : ∃ E0 : gE, E0 = (D, cA, fun _ => 0, ad, sz, str, stv, TK, SW) := ⟨_, rfl⟩
  rw [← hE]
  refine n_new 10 tyX12 (fs := [.null, .int 0, .int 0, .int 0, .null, .null, .null, .null, .null, .null, .null, .null]) rfl un_X12 tyX12_ok (gtbl_t tbin1 28 rfl rfl) (gtbl_t tbin1 29 rfl rfl) (gtbl_t tbin1 1 rfl rfl) nd_X12 ⟨Nat.le_of_ble_eq_true rfl, Nat.le_of_ble_eq_true rfl⟩ dL_law_0 (fun q0 => ?_)
  refine n_dup dL_law_3 rfl ?_
  refine n_callI (As := []) (n := 0) (nc_X12_init (E := E0) q0) nm_X12_init (gtbl_t tbin1 30 rfl rfl) ns_X12_init rfl ⟨rfl, rfl, Nat.le_of_ble_eq_true rfl, Nat.le_of_ble_eq_true rfl, Nat.le_of_ble_eq_true rfl, Nat.le_of_ble_eq_true rfl⟩ (Nat.le_of_ble_eq_true rfl) dL_law_4 (fun F => ?_)
  refine n_astore_n [(1, .ref q0), (0, .ref b)] dL_law_7 (by decide) rfl ?_
  refine n_new 11 tyX13 (fs := [.int 0, .null, .int 0, .null, .null, .null, .null, .null, .null, .null, .int 0, .null, .int 0, .int 0, .int 0, .int 0, .int 0, .int 0, .int 0, .int 0, .int 0, .int 0, .null, .int 0, .int 0, .null, .null, .int 0, .int 0, .int 0, .int 0, .null, .int 0]) rfl un_X13 tyX13_ok (gtbl_t tbin6 81 rfl rfl) (gtbl_t tbin6 82 rfl rfl) (gtbl_t tbin1 14 rfl rfl) nd_X13 ⟨Nat.le_of_ble_eq_true rfl, Nat.le_of_ble_eq_true rfl⟩ dL_law_8 (fun q1 => ?_)
  refine n_dup dL_law_11 rfl ?_
  refine n_callI (As := []) (n := 0) (nc_X13_init (E := E0) q1) nm_X13_init (gtbl_t tbin6 83 rfl rfl) ns_X13_init rfl ⟨rfl, rfl, Nat.le_of_ble_eq_true rfl, Nat.le_of_ble_eq_true rfl, Nat.le_of_ble_eq_true rfl, Nat.le_of_ble_eq_true rfl⟩ (Nat.le_of_ble_eq_true rfl) dL_law_12 (fun f1 => ?_)
  refine n_astore_n [(2, .ref q1), (1, .ref q0), (0, .ref b)] dL_law_15 (by decide) rfl ?_
  refine n_iconst (v := 1) dL_law_16 (by decide) ?_
  refine n_newa (atype := .long) (ty := .long) 1 (N := 1) (a0 := (1, .inr (.inl (fun _ => 0)))) rfl rfl (fun _ _ h => h) (gtbl_t tbin2 214 rfl rfl) (fun _ => rfl) (by decide) (by decide) (by decide) ⟨Nat.le_of_ble_eq_true rfl, Nat.le_of_ble_eq_true rfl⟩ dL_law_17 (fun q2 => ?_)
  refine n_astore_n [(3, .ref q2), (2, .ref q1), (1, .ref q0), (0, .ref b)] dL_law_19 (by decide) rfl ?_
  refine n_iconst (v := 0) dL_law_20 (by decide) ?_
  refine n_istore [(4, .int 0), (3, .ref q2), (2, .ref q1), (1, .ref q0), (0, .ref b)] dL_law_21 (by decide) rfl ?_
  subst hE
  refine n_toG (E := (D, cA, glA q0 F q1 f1 q2, ad, sz, str, stv, TK, SW)) (M := M00) (Sx := gSL (D, cA, glA q0 F q1 f1 q2, ad, sz, str, stv, TK, SW) b L xs) (fun s h => h) (fun s h => h.1) rfl (fnd_all q0 F q1 f1 q2 _ _ rfl rfl) (fun s m meth c h => h) (fun q h => h) ?_
  refine g_sub [4, 3, 2, 1, 0] (lvL (D, cA, glA q0 F q1 f1 q2, ad, sz, str, stv, TK, SW) b (6 * 0)) rfl ?_
  exact law_loop hL I hstep (L / 6 + 1) 0 _ _ M00 (by omega) (by omega) (by have : L ≤ 3072 := hL2; show _ + (L / 6 + 1) ≤ 601024; omega) (by have : L ≤ 3072 := hL2; show _ + 6 * (L / 6 + 1) ≤ 7293034; omega) h0
set_option maxRecDepth 100000 in
set_option maxHeartbeats 4000000 in
theorem law_whole {p : Program} {e : Env} {s : State} {m : MethodId} {below : List Frame} {meth : Method} {c : Code} (l : Launch) (hflags : l.flags = flags0) {b L : Nat} {xs : Nat → Int32} (hL2 : L ≤ 3072) (C0 : lw_At p s m meth c b L xs) (I : Nat → gM → Prop) (h0 : I 0 M00) (hstep : ∀ k M, 6 * k + 6 ≤ L → I k M → stepL M (xs (6 * k) &&& 63) (xs (6 * k + 1)) (xs (6 * k + 2)) (xs (6 * k + 3)) (xs (6 * k + 4)) (xs (6 * k + 5)) (I (k + 1))) :
    W p l e room_1 s m #[Value.ref b] below meth c s.heap [] 0 0 (lw_Z below #[Value.ref b] s) (entryFrame m ([Value.ref b] : List Value).toArray 7) := by
  obtain ⟨D, cA, ad, str, stv, TK, SW, hsu⟩ := su_all C0
  obtain ⟨hx, hb, hr, hml, hown, hts, hX, hbl, hlocks, hgv⟩ := C0
  have hst : l.stackTraces = false := by
    first | exact hflags ▸ rfl | (unfold Launch.stackTraces; rw [hflags]; rfl) | (rw [show l.stackTraces = l.flags.stackTraces from rfl, hflags]; rfl)
  have h := law_start (D := D) (cA := cA) (ad := ad) (str := str) (stv := stv) (TK := TK) (SW := SW) (sz := s.heap.size) (b := b) (L := L) (xs := xs) (by omega) hL2 I h0 hstep rfl
  rw [lg_entry_eq]
  exact h p l e s m #[Value.ref b] below meth c s.heap [] _ ⟨hx, hb, hr, hml, hown, hlocks, fun w hw => hts w (gtbl_lw hw), hst⟩ ⟨hX, hbl, rfl⟩ ⟨(hsu (fun _ => 0)).1, (hsu (fun _ => 0)).2, fun k q hq => (by cases hq), ⟨fun i j p q hi => (by cases hi), fun k q hq => (by cases hq)⟩, va_S.rf, fun q h => h, fun q h => h⟩ (lv_entry [Value.ref b] (n := 7) (Nat.le_of_ble_eq_true rfl))
end
