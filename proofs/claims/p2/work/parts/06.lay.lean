-- THE LAYOUT: cells by name, descriptors, what the tables say of fields and methods (written by program)
abbrev rgC (r : Nat) : Nat := 2 + 101 * r
abbrev laC (r l : Nat) : Nat := 2 + 101 * r + 9 + l
abbrev peC (r p : Nat) : Nat := 2 + 101 * r + 11 + p
abbrev thC (r t : Nat) : Nat := 2 + 101 * r + 21 + t
abbrev paC (r q : Nat) : Nat := 2 + 101 * r + 29 + 6 * q
abbrev trC (r : Nat) : Nat := 208 + 4 * r
abbrev nmL (kd : Nat) : Nat := if kd = 0 then 10 else if kd = 1 then 8 else 12
theorem lt02 : (0 : Nat) < 2 := by decide
theorem lt12 : (1 : Nat) < 2 := by decide
theorem lt03 : (0 : Nat) < 3 := by decide
theorem lt13 : (1 : Nat) < 3 := by decide
theorem lt23 : (2 : Nat) < 3 := by decide
theorem vpL {x : Int32} {n : Nat} (h : vp_in x n) : nn x < n := Nat.not_le.mp fun q => h (Or.inr q)
theorem tbin1 : ∀ w ∈ tables_1_1, w ∈ lw_tbl := fun w h => List.mem_append_right _ (by unfold tables_1; simp only [List.mem_append]; exact Or.inl h)
theorem tbin2 : ∀ w ∈ tables_1_2, w ∈ lw_tbl := fun w h => List.mem_append_right _ (by unfold tables_1; simp only [List.mem_append]; exact Or.inr (Or.inl h))
theorem tbin3 : ∀ w ∈ tables_1_3, w ∈ lw_tbl := fun w h => List.mem_append_right _ (by unfold tables_1; simp only [List.mem_append]; exact Or.inr (Or.inr (Or.inl h)))
theorem tbin4 : ∀ w ∈ tables_1_4, w ∈ lw_tbl := fun w h => List.mem_append_right _ (by unfold tables_1; simp only [List.mem_append]; exact Or.inr (Or.inr (Or.inr (Or.inl h))))
theorem tbin5 : ∀ w ∈ tables_1_5, w ∈ lw_tbl := fun w h => List.mem_append_right _ (by unfold tables_1; simp only [List.mem_append]; exact Or.inr (Or.inr (Or.inr (Or.inr (Or.inl h)))))
theorem tbin6 : ∀ w ∈ tables_1_6, w ∈ lw_tbl := fun w h => List.mem_append_right _ (by unfold tables_1; simp only [List.mem_append]; exact Or.inr (Or.inr (Or.inr (Or.inr (Or.inr (Or.inl h))))))
theorem tbin7 : ∀ w ∈ tables_1_7, w ∈ lw_tbl := fun w h => List.mem_append_right _ (by unfold tables_1; simp only [List.mem_append]; exact Or.inr (Or.inr (Or.inr (Or.inr (Or.inr (Or.inr (Or.inl h)))))))
theorem tbin8 : ∀ w ∈ tables_1_8, w ∈ lw_tbl := fun w h => List.mem_append_right _ (by unfold tables_1; simp only [List.mem_append]; exact Or.inr (Or.inr (Or.inr (Or.inr (Or.inr (Or.inr (Or.inr (h))))))))
theorem gtbl_t {T : List Cond} (h : ∀ w ∈ T, w ∈ lw_tbl) {w : Cond} (i : Nat) (hi : T[i]? = some w) (hg : goodWord w = true) : w ∈ gtbl := List.mem_filter.mpr ⟨h _ (List.mem_of_getElem? hi), hg⟩
theorem cas2 {n : Nat} (h : n < 2) : n = 0 ∨ n = 1 := by omega
theorem cas3 {n : Nat} (h : n < 3) : n = 0 ∨ n = 1 ∨ n = 2 := by omega
theorem cas8 {n : Nat} (h : n < 8) : n = 0 ∨ n = 1 ∨ n = 2 ∨ n = 3 ∨ n = 4 ∨ n = 5 ∨ n = 6 ∨ n = 7 := by omega
theorem cas10 {n : Nat} (h : n < 10) : n = 0 ∨ n = 1 ∨ n = 2 ∨ n = 3 ∨ n = 4 ∨ n = 5 ∨ n = 6 ∨ n = 7 ∨ n = 8 ∨ n = 9 := by omega
theorem cas12 {n : Nat} (h : n < 12) : n = 0 ∨ n = 1 ∨ n = 2 ∨ n = 3 ∨ n = 4 ∨ n = 5 ∨ n = 6 ∨ n = 7 ∨ n = 8 ∨ n = 9 ∨ n = 10 ∨ n = 11 := by omega
theorem aj_La (r x : Nat) : laC r 0 + 1 * x = laC r x := by simp only [laC]; omega
theorem aj_Pe (r x : Nat) : peC r 0 + 1 * x = peC r x := by simp only [peC]; omega
theorem aj_Th (r x : Nat) : thC r 0 + 1 * x = thC r x := by simp only [thC]; omega
theorem aj_Pa (r x : Nat) : paC r 0 + 6 * x = paC r x := by simp only [paC, Nat.mul_zero, Nat.add_zero]
theorem dF_Wd : DSC[0]? = some (.inl (10, [(2, 1, 0, 0, 0), (0, 0, 0, 0, 0), (0, 1, 0, 0, 0), (0, 2, 0, 0, 0), (2, rgC 0, 0, 0, 0), (2, rgC 1, 0, 0, 0), (2, 204, 0, 0, 0), (2, trC 1, 0, 0, 0), (2, trC 0, 0, 0, 0), (2, 216, 0, 0, 0), (2, 220, 0, 0, 0), (2, 222, 0, 0, 0)])) := rfl
theorem dF_Rg {r : Nat} (hr : r < 2) : DSC[rgC r]? = some (.inl (6, [(2, (rgC r + 1), 0, 0, 0), (2, (rgC r + 2), 0, 0, 0), (2, (rgC r + 3), 0, 0, 0), (2, (rgC r + 4), 0, 0, 0), (2, (rgC r + 5), 0, 0, 0), (2, (rgC r + 6), 0, 0, 0), (2, (rgC r + 7), 0, 0, 0), (2, (rgC r + 8), 0, 0, 0), (0, 4, r, 0, 0), (0, 5, r, 0, 0), (0, 6, r, 0, 0), (0, 7, r, 0, 0), (0, 8, r, 0, 0)])) := by
  rcases cas2 hr with rfl | rfl <;> rfl
theorem dF_La {r : Nat} {l : Nat} (hr : r < 2) (hl : l < 2) : DSC[laC r l]? = some (.inl (2, [(0, 13, r, l, 0), (0, 14, r, l, 0), (0, 15, r, l, 0), (0, 16, r, l, 0), (0, 17, r, l, 0), (0, 18, r, l, 0)])) := by
  rcases cas2 hr with rfl | rfl <;> rcases cas2 hl with rfl | rfl <;> rfl
theorem dF_Pe {r : Nat} {p : Nat} (hr : r < 2) (hp : p < 10) : DSC[peC r p]? = some (.inl (5, [(0, 19, r, p, 0), (0, 20, r, p, 0), (0, 21, r, p, 0)])) := by
  rcases cas2 hr with rfl | rfl <;> rcases cas10 hp with rfl | rfl | rfl | rfl | rfl | rfl | rfl | rfl | rfl | rfl <;> rfl
theorem dF_Th {r : Nat} {t : Nat} (hr : r < 2) (ht : t < 8) : DSC[thC r t]? = some (.inl (8, [(0, 22, r, t, 0), (0, 23, r, t, 0), (0, 24, r, t, 0)])) := by
  rcases cas2 hr with rfl | rfl <;> rcases cas8 ht with rfl | rfl | rfl | rfl | rfl | rfl | rfl | rfl <;> rfl
theorem dF_Pa {r : Nat} {q : Nat} (hr : r < 2) (hq : q < 12) : DSC[paC r q]? = some (.inl (4, [(0, 25, r, q, 0), (0, 26, r, q, 0), (0, 27, r, q, 0), (0, 28, r, q, 0), (0, 29, r, q, 0), (0, 30, r, q, 0), (0, 31, r, q, 0), (0, 32, r, q, 0), (0, 33, r, q, 0), (0, 34, r, q, 0), (0, 35, r, q, 0), (2, (paC r q + 1), 0, 0, 0), (2, (paC r q + 2), 0, 0, 0), (2, (paC r q + 3), 0, 0, 0), (2, (paC r q + 4), 0, 0, 0), (2, (paC r q + 5), 0, 0, 0)])) := by
  rcases cas2 hr with rfl | rfl <;> rcases cas12 hq with rfl | rfl | rfl | rfl | rfl | rfl | rfl | rfl | rfl | rfl | rfl | rfl <;> rfl
theorem dF_Tk : DSC[204]? = some (.inl (9, [(2, 205, 0, 0, 0), (2, 206, 0, 0, 0), (2, 207, 0, 0, 0), (0, 41, 0, 0, 0), (2, 1, 0, 0, 0), (0, 42, 0, 0, 0), (0, 43, 0, 0, 0)])) := rfl
theorem dF_Tr {r : Nat} (hr : r < 2) : DSC[trC r]? = some (.inl (7, [(2, 204, 0, 0, 0), (2, rgC r, 0, 0, 0), (2, (trC r + 1 + 0), 0, 0, 0), (2, (trC r + 1 + 1), 0, 0, 0), (2, (trC r + 1 + 2), 0, 0, 0), (0, 47, r, 0, 0), (0, 48, r, 0, 0), (0, 49, r, 0, 0)])) := by
  rcases cas2 hr with rfl | rfl <;> rfl
theorem dF_Lw : DSC[216]? = some (.inl (3, [(2, rgC 0, 0, 0, 0), (2, 217, 0, 0, 0), (2, 218, 0, 0, 0), (2, 219, 0, 0, 0), (0, 51, 0, 0, 0), (0, 52, 0, 0, 0)])) := rfl
theorem dF_Es : DSC[220]? = some (.inl (0, [(2, rgC 0, 0, 0, 0), (2, 216, 0, 0, 0), (2, 221, 0, 0, 0), (1, 56, 0, 0, 0), (0, 57, 0, 0, 0), (0, 58, 0, 0, 0), (0, 59, 0, 0, 0), (0, 60, 0, 0, 0)])) := rfl
theorem dF_Hi : DSC[222]? = some (.inl (1, [(2, rgC 0, 0, 0, 0), (2, 223, 0, 0, 0), (2, 224, 0, 0, 0), (2, 225, 0, 0, 0), (0, 62, 0, 0, 0), (0, 63, 0, 0, 0)])) := rfl
theorem dF_Md : DSC[226]? = some (.inl (11, [(0, 67, 0, 0, 0), (2, 227, 0, 0, 0), (0, 68, 0, 0, 0), (2, 228, 0, 0, 0), (2, 229, 0, 0, 0), (2, 230, 0, 0, 0), (2, 231, 0, 0, 0), (2, 232, 0, 0, 0), (2, 233, 0, 0, 0), (2, 234, 0, 0, 0), (0, 69, 0, 0, 0), (2, 235, 0, 0, 0), (0, 70, 0, 0, 0), (0, 71, 0, 0, 0), (0, 72, 0, 0, 0), (0, 73, 0, 0, 0), (0, 74, 0, 0, 0), (0, 75, 0, 0, 0), (0, 76, 0, 0, 0), (0, 77, 0, 0, 0), (0, 78, 0, 0, 0), (0, 79, 0, 0, 0), (2, 236, 0, 0, 0), (0, 80, 0, 0, 0), (0, 81, 0, 0, 0), (2, 237, 0, 0, 0), (2, 238, 0, 0, 0), (0, 82, 0, 0, 0), (0, 83, 0, 0, 0), (0, 84, 0, 0, 0), (0, 85, 0, 0, 0), (2, 239, 0, 0, 0), (0, 86, 0, 0, 0)])) := rfl
theorem dF_tape : DSC[1]? = some (.inr (3, 1200, 0, 3, 0, 0)) := rfl
theorem dF_Rg_lands {r : Nat} (hr : r < 2) : DSC[(rgC r + 1)]? = some (.inr (4, 2, 2, laC r 0, 1, 0)) := by
  rcases cas2 hr with rfl | rfl <;> rfl
theorem dF_Rg_persons {r : Nat} (hr : r < 2) : DSC[(rgC r + 2)]? = some (.inr (5, 10, 2, peC r 0, 1, 0)) := by
  rcases cas2 hr with rfl | rfl <;> rfl
theorem dF_Rg_things {r : Nat} (hr : r < 2) : DSC[(rgC r + 3)]? = some (.inr (6, 8, 2, thC r 0, 1, 0)) := by
  rcases cas2 hr with rfl | rfl <;> rfl
theorem dF_Rg_papers {r : Nat} (hr : r < 2) : DSC[(rgC r + 4)]? = some (.inr (7, 12, 2, paC r 0, 6, 0)) := by
  rcases cas2 hr with rfl | rfl <;> rfl
theorem dF_Rg_latestFirst {r : Nat} (hr : r < 2) : DSC[(rgC r + 5)]? = some (.inr (0, 12, 0, 9, r, 0)) := by
  rcases cas2 hr with rfl | rfl <;> rfl
theorem dF_Rg_wedOne {r : Nat} (hr : r < 2) : DSC[(rgC r + 6)]? = some (.inr (0, 6, 0, 10, r, 0)) := by
  rcases cas2 hr with rfl | rfl <;> rfl
theorem dF_Rg_wedOther {r : Nat} (hr : r < 2) : DSC[(rgC r + 7)]? = some (.inr (0, 6, 0, 11, r, 0)) := by
  rcases cas2 hr with rfl | rfl <;> rfl
theorem dF_Rg_wedDay {r : Nat} (hr : r < 2) : DSC[(rgC r + 8)]? = some (.inr (0, 6, 0, 12, r, 0)) := by
  rcases cas2 hr with rfl | rfl <;> rfl
theorem dF_Pa_giveThing {r : Nat} {q : Nat} (hr : r < 2) (hq : q < 12) : DSC[(paC r q + 1)]? = some (.inr (0, 6, 0, 36, r, q)) := by
  rcases cas2 hr with rfl | rfl <;> rcases cas12 hq with rfl | rfl | rfl | rfl | rfl | rfl | rfl | rfl | rfl | rfl | rfl | rfl <;> rfl
theorem dF_Pa_giveTo {r : Nat} {q : Nat} (hr : r < 2) (hq : q < 12) : DSC[(paC r q + 2)]? = some (.inr (0, 6, 0, 37, r, q)) := by
  rcases cas2 hr with rfl | rfl <;> rcases cas12 hq with rfl | rfl | rfl | rfl | rfl | rfl | rfl | rfl | rfl | rfl | rfl | rfl <;> rfl
theorem dF_Pa_giveCondition {r : Nat} {q : Nat} (hr : r < 2) (hq : q < 12) : DSC[(paC r q + 3)]? = some (.inr (0, 6, 0, 38, r, q)) := by
  rcases cas2 hr with rfl | rfl <;> rcases cas12 hq with rfl | rfl | rfl | rfl | rfl | rfl | rfl | rfl | rfl | rfl | rfl | rfl <;> rfl
theorem dF_Pa_givePerson {r : Nat} {q : Nat} (hr : r < 2) (hq : q < 12) : DSC[(paC r q + 4)]? = some (.inr (0, 6, 0, 39, r, q)) := by
  rcases cas2 hr with rfl | rfl <;> rcases cas12 hq with rfl | rfl | rfl | rfl | rfl | rfl | rfl | rfl | rfl | rfl | rfl | rfl <;> rfl
theorem dF_Pa_giveElse {r : Nat} {q : Nat} (hr : r < 2) (hq : q < 12) : DSC[(paC r q + 5)]? = some (.inr (0, 6, 0, 40, r, q)) := by
  rcases cas2 hr with rfl | rfl <;> rcases cas12 hq with rfl | rfl | rfl | rfl | rfl | rfl | rfl | rfl | rfl | rfl | rfl | rfl <;> rfl
theorem dF_Tk_kinds : DSC[205]? = some (.inr (8, 1201, 3, 44, 0, 0)) := rfl
theorem dF_Tk_places : DSC[206]? = some (.inr (0, 1201, 0, 45, 0, 0)) := rfl
theorem dF_Tk_values : DSC[207]? = some (.inr (0, 1201, 0, 46, 0, 0)) := rfl
theorem dF_Tr_names {r : Nat} {kd : Nat} (hr : r < 2) (hkd : kd < 3) : DSC[(trC r + 1 + kd)]? = some (.inr (0, (nmL kd), 0, 50, r, kd)) := by
  rcases cas2 hr with rfl | rfl <;> rcases cas3 hkd with rfl | rfl | rfl <;> rfl
theorem dF_Lw_good : DSC[217]? = some (.inr (2, 12, 0, 53, 0, 0)) := rfl
theorem dF_Lw_why : DSC[218]? = some (.inr (0, 12, 0, 54, 0, 0)) := rfl
theorem dF_Lw_striker : DSC[219]? = some (.inr (0, 12, 0, 55, 0, 0)) := rfl
theorem dF_Es_parts : DSC[221]? = some (.inr (1, 11, 1, 61, 0, 0)) := rfl
theorem dF_Hi_kinds : DSC[223]? = some (.inr (0, 16, 0, 64, 0, 0)) := rfl
theorem dF_Hi_numbers : DSC[224]? = some (.inr (0, 16, 0, 65, 0, 0)) := rfl
theorem dF_Hi_befores : DSC[225]? = some (.inr (0, 16, 0, 66, 0, 0)) := rfl
theorem dF_Md_tape : DSC[227]? = some (.inr (0, 1200, 0, 87, 0, 0)) := rfl
theorem dF_Md_world : DSC[228]? = some (.inr (0, 502, 0, 88, 0, 0)) := rfl
theorem dF_Md_fresh : DSC[229]? = some (.inr (0, 502, 0, 89, 0, 0)) := rfl
theorem dF_Md_strikes : DSC[230]? = some (.inr (0, 12, 0, 90, 0, 0)) := rfl
theorem dF_Md_newStrikes : DSC[231]? = some (.inr (0, 12, 0, 91, 0, 0)) := rfl
theorem dF_Md_now : DSC[232]? = some (.inr (0, 65, 0, 92, 0, 0)) := rfl
theorem dF_Md_newNow : DSC[233]? = some (.inr (0, 65, 0, 93, 0, 0)) := rfl
theorem dF_Md_past : DSC[234]? = some (.inr (0, 1040, 0, 94, 0, 0)) := rfl
theorem dF_Md_name : DSC[235]? = some (.inr (0, 36, 0, 95, 0, 0)) := rfl
theorem dF_Md_hasLand : DSC[236]? = some (.inr (2, 2, 0, 96, 0, 0)) := rfl
theorem dF_Md_above : DSC[237]? = some (.inr (1, 11, 1, 97, 0, 0)) := rfl
theorem dF_Md_below : DSC[238]? = some (.inr (1, 11, 1, 98, 0, 0)) := rfl
theorem dF_Md_days : DSC[239]? = some (.inr (0, 60, 0, 99, 0, 0)) := rfl
theorem dF_out : DSC[240]? = some (.inr (1, 1, 1, 100, 0, 0)) := rfl
theorem un_X1 : ∀ w ∈ wsX10, w ∈ gtbl := (List.forall_mem_cons.mpr ⟨(gtbl_t tbin2 197 rfl rfl), (List.forall_mem_cons.mpr ⟨(gtbl_t tbin2 199 rfl rfl), (List.forall_mem_cons.mpr ⟨(gtbl_t tbin2 201 rfl rfl), (List.forall_mem_cons.mpr ⟨(gtbl_t tbin2 203 rfl rfl), (List.forall_mem_cons.mpr ⟨(gtbl_t tbin2 205 rfl rfl), (List.forall_mem_cons.mpr ⟨(gtbl_t tbin2 207 rfl rfl), (List.forall_mem_cons.mpr ⟨(gtbl_t tbin2 209 rfl rfl), (List.forall_mem_cons.mpr ⟨(gtbl_t tbin2 211 rfl rfl), (fun _ h => absurd h List.not_mem_nil)⟩)⟩)⟩)⟩)⟩)⟩)⟩)⟩)
theorem un_X2 : ∀ w ∈ wsX20, w ∈ gtbl := (List.forall_mem_cons.mpr ⟨(gtbl_t tbin2 228 rfl rfl), (List.forall_mem_cons.mpr ⟨(gtbl_t tbin2 230 rfl rfl), (List.forall_mem_cons.mpr ⟨(gtbl_t tbin2 232 rfl rfl), (List.forall_mem_cons.mpr ⟨(gtbl_t tbin2 234 rfl rfl), (List.forall_mem_cons.mpr ⟨(gtbl_t tbin2 236 rfl rfl), (List.forall_mem_cons.mpr ⟨(gtbl_t tbin2 238 rfl rfl), (fun _ h => absurd h List.not_mem_nil)⟩)⟩)⟩)⟩)⟩)⟩)
theorem un_X3 : ∀ w ∈ wsX30, w ∈ gtbl := (List.forall_mem_cons.mpr ⟨(gtbl_t tbin1 77 rfl rfl), (List.forall_mem_cons.mpr ⟨(gtbl_t tbin1 79 rfl rfl), (List.forall_mem_cons.mpr ⟨(gtbl_t tbin1 81 rfl rfl), (List.forall_mem_cons.mpr ⟨(gtbl_t tbin1 83 rfl rfl), (List.forall_mem_cons.mpr ⟨(gtbl_t tbin1 85 rfl rfl), (List.forall_mem_cons.mpr ⟨(gtbl_t tbin1 87 rfl rfl), (fun _ h => absurd h List.not_mem_nil)⟩)⟩)⟩)⟩)⟩)⟩)
theorem un_X4 : ∀ w ∈ wsX40, w ∈ gtbl := (List.forall_mem_cons.mpr ⟨(gtbl_t tbin2 164 rfl rfl), (List.forall_mem_cons.mpr ⟨(gtbl_t tbin2 166 rfl rfl), (List.forall_mem_cons.mpr ⟨(gtbl_t tbin2 168 rfl rfl), (List.forall_mem_cons.mpr ⟨(gtbl_t tbin2 170 rfl rfl), (List.forall_mem_cons.mpr ⟨(gtbl_t tbin2 172 rfl rfl), (List.forall_mem_cons.mpr ⟨(gtbl_t tbin2 174 rfl rfl), (fun _ h => absurd h List.not_mem_nil)⟩)⟩)⟩)⟩)⟩)⟩)
theorem un_X5 : ∀ w ∈ wsX50, w ∈ gtbl := (List.forall_mem_cons.mpr ⟨(gtbl_t tbin1 205 rfl rfl), (List.forall_mem_cons.mpr ⟨(gtbl_t tbin1 207 rfl rfl), (List.forall_mem_cons.mpr ⟨(gtbl_t tbin1 209 rfl rfl), (List.forall_mem_cons.mpr ⟨(gtbl_t tbin1 211 rfl rfl), (List.forall_mem_cons.mpr ⟨(gtbl_t tbin1 213 rfl rfl), (List.forall_mem_cons.mpr ⟨(gtbl_t tbin1 215 rfl rfl), (List.forall_mem_cons.mpr ⟨(gtbl_t tbin1 217 rfl rfl), (List.forall_mem_cons.mpr ⟨(gtbl_t tbin1 219 rfl rfl), (List.forall_mem_cons.mpr ⟨(gtbl_t tbin1 221 rfl rfl), (List.forall_mem_cons.mpr ⟨(gtbl_t tbin1 223 rfl rfl), (List.forall_mem_cons.mpr ⟨(gtbl_t tbin1 225 rfl rfl), (List.forall_mem_cons.mpr ⟨(gtbl_t tbin1 227 rfl rfl), (List.forall_mem_cons.mpr ⟨(gtbl_t tbin1 229 rfl rfl), (List.forall_mem_cons.mpr ⟨(gtbl_t tbin1 231 rfl rfl), (List.forall_mem_cons.mpr ⟨(gtbl_t tbin1 233 rfl rfl), (List.forall_mem_cons.mpr ⟨(gtbl_t tbin1 235 rfl rfl), (fun _ h => absurd h List.not_mem_nil)⟩)⟩)⟩)⟩)⟩)⟩)⟩)⟩)⟩)⟩)⟩)⟩)⟩)⟩)⟩)⟩)
theorem un_X6 : ∀ w ∈ wsX60, w ∈ gtbl := (List.forall_mem_cons.mpr ⟨(gtbl_t tbin1 109 rfl rfl), (List.forall_mem_cons.mpr ⟨(gtbl_t tbin1 111 rfl rfl), (List.forall_mem_cons.mpr ⟨(gtbl_t tbin1 113 rfl rfl), (fun _ h => absurd h List.not_mem_nil)⟩)⟩)⟩)
theorem un_X7 : ∀ w ∈ wsX70, w ∈ gtbl := (List.forall_mem_cons.mpr ⟨(gtbl_t tbin2 51 rfl rfl), (List.forall_mem_cons.mpr ⟨(gtbl_t tbin2 53 rfl rfl), (List.forall_mem_cons.mpr ⟨(gtbl_t tbin2 55 rfl rfl), (List.forall_mem_cons.mpr ⟨(gtbl_t tbin2 57 rfl rfl), (List.forall_mem_cons.mpr ⟨(gtbl_t tbin2 59 rfl rfl), (List.forall_mem_cons.mpr ⟨(gtbl_t tbin2 61 rfl rfl), (List.forall_mem_cons.mpr ⟨(gtbl_t tbin2 63 rfl rfl), (List.forall_mem_cons.mpr ⟨(gtbl_t tbin2 65 rfl rfl), (List.forall_mem_cons.mpr ⟨(gtbl_t tbin2 67 rfl rfl), (List.forall_mem_cons.mpr ⟨(gtbl_t tbin2 69 rfl rfl), (List.forall_mem_cons.mpr ⟨(gtbl_t tbin2 71 rfl rfl), (List.forall_mem_cons.mpr ⟨(gtbl_t tbin2 73 rfl rfl), (List.forall_mem_cons.mpr ⟨(gtbl_t tbin2 75 rfl rfl), (fun _ h => absurd h List.not_mem_nil)⟩)⟩)⟩)⟩)⟩)⟩)⟩)⟩)⟩)⟩)⟩)⟩)⟩)
theorem un_X8 : ∀ w ∈ wsX80, w ∈ gtbl := (List.forall_mem_cons.mpr ⟨(gtbl_t tbin2 130 rfl rfl), (List.forall_mem_cons.mpr ⟨(gtbl_t tbin2 132 rfl rfl), (List.forall_mem_cons.mpr ⟨(gtbl_t tbin2 134 rfl rfl), (List.forall_mem_cons.mpr ⟨(gtbl_t tbin2 136 rfl rfl), (List.forall_mem_cons.mpr ⟨(gtbl_t tbin2 138 rfl rfl), (List.forall_mem_cons.mpr ⟨(gtbl_t tbin2 140 rfl rfl), (List.forall_mem_cons.mpr ⟨(gtbl_t tbin2 142 rfl rfl), (List.forall_mem_cons.mpr ⟨(gtbl_t tbin2 144 rfl rfl), (fun _ h => absurd h List.not_mem_nil)⟩)⟩)⟩)⟩)⟩)⟩)⟩)⟩)
theorem un_X9 : ∀ w ∈ wsX90, w ∈ gtbl := (List.forall_mem_cons.mpr ⟨(gtbl_t tbin1 131 rfl rfl), (List.forall_mem_cons.mpr ⟨(gtbl_t tbin1 133 rfl rfl), (List.forall_mem_cons.mpr ⟨(gtbl_t tbin1 135 rfl rfl), (fun _ h => absurd h List.not_mem_nil)⟩)⟩)⟩)
theorem un_X11 : ∀ w ∈ wsX110, w ∈ gtbl := (List.forall_mem_cons.mpr ⟨(gtbl_t tbin2 99 rfl rfl), (List.forall_mem_cons.mpr ⟨(gtbl_t tbin2 101 rfl rfl), (List.forall_mem_cons.mpr ⟨(gtbl_t tbin2 103 rfl rfl), (List.forall_mem_cons.mpr ⟨(gtbl_t tbin2 105 rfl rfl), (List.forall_mem_cons.mpr ⟨(gtbl_t tbin2 107 rfl rfl), (List.forall_mem_cons.mpr ⟨(gtbl_t tbin2 109 rfl rfl), (List.forall_mem_cons.mpr ⟨(gtbl_t tbin2 111 rfl rfl), (fun _ h => absurd h List.not_mem_nil)⟩)⟩)⟩)⟩)⟩)⟩)⟩)
theorem un_X12 : ∀ w ∈ wsX120, w ∈ gtbl := (List.forall_mem_cons.mpr ⟨(gtbl_t tbin3 13 rfl rfl), (List.forall_mem_cons.mpr ⟨(gtbl_t tbin3 15 rfl rfl), (List.forall_mem_cons.mpr ⟨(gtbl_t tbin3 17 rfl rfl), (List.forall_mem_cons.mpr ⟨(gtbl_t tbin3 19 rfl rfl), (List.forall_mem_cons.mpr ⟨(gtbl_t tbin3 21 rfl rfl), (List.forall_mem_cons.mpr ⟨(gtbl_t tbin3 23 rfl rfl), (List.forall_mem_cons.mpr ⟨(gtbl_t tbin3 25 rfl rfl), (List.forall_mem_cons.mpr ⟨(gtbl_t tbin3 27 rfl rfl), (List.forall_mem_cons.mpr ⟨(gtbl_t tbin3 29 rfl rfl), (List.forall_mem_cons.mpr ⟨(gtbl_t tbin3 31 rfl rfl), (List.forall_mem_cons.mpr ⟨(gtbl_t tbin3 33 rfl rfl), (List.forall_mem_cons.mpr ⟨(gtbl_t tbin3 35 rfl rfl), (fun _ h => absurd h List.not_mem_nil)⟩)⟩)⟩)⟩)⟩)⟩)⟩)⟩)⟩)⟩)⟩)⟩)
theorem un_X13 : ∀ w ∈ wsX130, w ∈ gtbl := (List.forall_mem_cons.mpr ⟨(gtbl_t tbin6 128 rfl rfl), (List.forall_mem_cons.mpr ⟨(gtbl_t tbin6 130 rfl rfl), (List.forall_mem_cons.mpr ⟨(gtbl_t tbin6 132 rfl rfl), (List.forall_mem_cons.mpr ⟨(gtbl_t tbin6 134 rfl rfl), (List.forall_mem_cons.mpr ⟨(gtbl_t tbin6 136 rfl rfl), (List.forall_mem_cons.mpr ⟨(gtbl_t tbin6 138 rfl rfl), (List.forall_mem_cons.mpr ⟨(gtbl_t tbin6 140 rfl rfl), (List.forall_mem_cons.mpr ⟨(gtbl_t tbin6 142 rfl rfl), (List.forall_mem_cons.mpr ⟨(gtbl_t tbin6 144 rfl rfl), (List.forall_mem_cons.mpr ⟨(gtbl_t tbin6 146 rfl rfl), (List.forall_mem_cons.mpr ⟨(gtbl_t tbin6 148 rfl rfl), (List.forall_mem_cons.mpr ⟨(gtbl_t tbin6 150 rfl rfl), (List.forall_mem_cons.mpr ⟨(gtbl_t tbin6 152 rfl rfl), (List.forall_mem_cons.mpr ⟨(gtbl_t tbin6 154 rfl rfl), (List.forall_mem_cons.mpr ⟨(gtbl_t tbin6 156 rfl rfl), (List.forall_mem_cons.mpr ⟨(gtbl_t tbin6 158 rfl rfl), (List.forall_mem_cons.mpr ⟨(gtbl_t tbin6 160 rfl rfl), (List.forall_mem_cons.mpr ⟨(gtbl_t tbin6 162 rfl rfl), (List.forall_mem_cons.mpr ⟨(gtbl_t tbin6 164 rfl rfl), (List.forall_mem_cons.mpr ⟨(gtbl_t tbin6 166 rfl rfl), (List.forall_mem_cons.mpr ⟨(gtbl_t tbin6 168 rfl rfl), (List.forall_mem_cons.mpr ⟨(gtbl_t tbin6 170 rfl rfl), (List.forall_mem_cons.mpr ⟨(gtbl_t tbin6 172 rfl rfl), (List.forall_mem_cons.mpr ⟨(gtbl_t tbin6 174 rfl rfl), (List.forall_mem_cons.mpr ⟨(gtbl_t tbin6 176 rfl rfl), (List.forall_mem_cons.mpr ⟨(gtbl_t tbin6 178 rfl rfl), (List.forall_mem_cons.mpr ⟨(gtbl_t tbin6 180 rfl rfl), (List.forall_mem_cons.mpr ⟨(gtbl_t tbin6 182 rfl rfl), (List.forall_mem_cons.mpr ⟨(gtbl_t tbin6 184 rfl rfl), (List.forall_mem_cons.mpr ⟨(gtbl_t tbin6 186 rfl rfl), (List.forall_mem_cons.mpr ⟨(gtbl_t tbin6 188 rfl rfl), (List.forall_mem_cons.mpr ⟨(gtbl_t tbin6 190 rfl rfl), (List.forall_mem_cons.mpr ⟨(gtbl_t tbin6 192 rfl rfl), (fun _ h => absurd h List.not_mem_nil)⟩)⟩)⟩)⟩)⟩)⟩)⟩)⟩)⟩)⟩)⟩)⟩)⟩)⟩)⟩)⟩)⟩)⟩)⟩)⟩)⟩)⟩)⟩)⟩)⟩)⟩)⟩)⟩)⟩)⟩)⟩)⟩)⟩)
theorem fd_X3_7 : gFd RX3 7 2 0 (tyX3 0) false := ⟨RX3, TX3, 6, tyX3, rfl, by decide, un_X3, (gtbl_t tbin1 55 rfl rfl), rfl, rfl, tyX3_ok, nmX3, rfl⟩
theorem fd_X8_105 : gFd RX8 105 2 0 (tyX3 0) false := ⟨RX3, TX3, 6, tyX3, rfl, by decide, un_X3, (gtbl_t tbin1 56 rfl rfl), rfl, rfl, tyX3_ok, nmX3, rfl⟩
theorem fd_X3_13 : gFd RX3 13 2 1 (tyX3 1) false := ⟨RX3, TX3, 6, tyX3, rfl, by decide, un_X3, (gtbl_t tbin1 57 rfl rfl), rfl, rfl, tyX3_ok, nmX3, rfl⟩
theorem fd_X8_114 : gFd RX8 114 2 1 (tyX3 1) false := ⟨RX3, TX3, 6, tyX3, rfl, by decide, un_X3, (gtbl_t tbin1 58 rfl rfl), rfl, rfl, tyX3_ok, nmX3, rfl⟩
theorem fd_X4_102 : gFd RX4 102 2 1 (tyX3 1) false := ⟨RX3, TX3, 6, tyX3, rfl, by decide, un_X3, (gtbl_t tbin1 59 rfl rfl), rfl, rfl, tyX3_ok, nmX3, rfl⟩
theorem fd_X12_212 : gFd RX12 212 2 1 (tyX3 1) false := ⟨RX3, TX3, 6, tyX3, rfl, by decide, un_X3, (gtbl_t tbin1 60 rfl rfl), rfl, rfl, tyX3_ok, nmX3, rfl⟩
theorem fd_X3_17 : gFd RX3 17 2 2 (tyX3 2) false := ⟨RX3, TX3, 6, tyX3, rfl, by decide, un_X3, (gtbl_t tbin1 61 rfl rfl), rfl, rfl, tyX3_ok, nmX3, rfl⟩
theorem fd_X8_124 : gFd RX8 124 2 2 (tyX3 2) false := ⟨RX3, TX3, 6, tyX3, rfl, by decide, un_X3, (gtbl_t tbin1 62 rfl rfl), rfl, rfl, tyX3_ok, nmX3, rfl⟩
theorem fd_X4_112 : gFd RX4 112 2 2 (tyX3 2) false := ⟨RX3, TX3, 6, tyX3, rfl, by decide, un_X3, (gtbl_t tbin1 63 rfl rfl), rfl, rfl, tyX3_ok, nmX3, rfl⟩
theorem fd_X12_215 : gFd RX12 215 2 2 (tyX3 2) false := ⟨RX3, TX3, 6, tyX3, rfl, by decide, un_X3, (gtbl_t tbin1 64 rfl rfl), rfl, rfl, tyX3_ok, nmX3, rfl⟩
theorem fd_X3_20 : gFd RX3 20 2 3 (tyX3 3) false := ⟨RX3, TX3, 6, tyX3, rfl, by decide, un_X3, (gtbl_t tbin1 65 rfl rfl), rfl, rfl, tyX3_ok, nmX3, rfl⟩
theorem fd_X8_131 : gFd RX8 131 2 3 (tyX3 3) false := ⟨RX3, TX3, 6, tyX3, rfl, by decide, un_X3, (gtbl_t tbin1 66 rfl rfl), rfl, rfl, tyX3_ok, nmX3, rfl⟩
theorem fd_X4_134 : gFd RX4 134 2 3 (tyX3 3) false := ⟨RX3, TX3, 6, tyX3, rfl, by decide, un_X3, (gtbl_t tbin1 67 rfl rfl), rfl, rfl, tyX3_ok, nmX3, rfl⟩
theorem fd_X12_218 : gFd RX12 218 2 3 (tyX3 3) false := ⟨RX3, TX3, 6, tyX3, rfl, by decide, un_X3, (gtbl_t tbin1 68 rfl rfl), rfl, rfl, tyX3_ok, nmX3, rfl⟩
theorem fd_X3_23 : gFd RX3 23 2 4 (tyX3 4) false := ⟨RX3, TX3, 6, tyX3, rfl, by decide, un_X3, (gtbl_t tbin1 69 rfl rfl), rfl, rfl, tyX3_ok, nmX3, rfl⟩
theorem fd_X4_94 : gFd RX4 94 2 4 (tyX3 4) false := ⟨RX3, TX3, 6, tyX3, rfl, by decide, un_X3, (gtbl_t tbin1 70 rfl rfl), rfl, rfl, tyX3_ok, nmX3, rfl⟩
theorem fd_X8_134 : gFd RX8 134 2 4 (tyX3 4) false := ⟨RX3, TX3, 6, tyX3, rfl, by decide, un_X3, (gtbl_t tbin1 71 rfl rfl), rfl, rfl, tyX3_ok, nmX3, rfl⟩
theorem fd_X12_221 : gFd RX12 221 2 4 (tyX3 4) false := ⟨RX3, TX3, 6, tyX3, rfl, by decide, un_X3, (gtbl_t tbin1 72 rfl rfl), rfl, rfl, tyX3_ok, nmX3, rfl⟩
theorem fd_X3_26 : gFd RX3 26 2 5 (tyX3 5) false := ⟨RX3, TX3, 6, tyX3, rfl, by decide, un_X3, (gtbl_t tbin1 73 rfl rfl), rfl, rfl, tyX3_ok, nmX3, rfl⟩
theorem fd_X1_91 : gFd RX1 91 2 5 (tyX3 5) false := ⟨RX3, TX3, 6, tyX3, rfl, by decide, un_X3, (gtbl_t tbin1 74 rfl rfl), rfl, rfl, tyX3_ok, nmX3, rfl⟩
theorem fd_X8_137 : gFd RX8 137 2 5 (tyX3 5) false := ⟨RX3, TX3, 6, tyX3, rfl, by decide, un_X3, (gtbl_t tbin1 75 rfl rfl), rfl, rfl, tyX3_ok, nmX3, rfl⟩
theorem fd_X12_223 : gFd RX12 223 2 5 (tyX3 5) false := ⟨RX3, TX3, 6, tyX3, rfl, by decide, un_X3, (gtbl_t tbin1 76 rfl rfl), rfl, rfl, tyX3_ok, nmX3, rfl⟩
theorem fd_X7_72 : gFd RX7 72 5 0 (tyX6 0) false := ⟨RX6, TX6, 3, tyX6, rfl, by decide, un_X6, (gtbl_t tbin1 97 rfl rfl), rfl, rfl, tyX6_ok, nmX6, rfl⟩
theorem fd_X12_116 : gFd RX12 116 5 0 (tyX6 0) false := ⟨RX6, TX6, 3, tyX6, rfl, by decide, un_X6, (gtbl_t tbin1 98 rfl rfl), rfl, rfl, tyX6_ok, nmX6, rfl⟩
theorem fd_X6_9 : gFd RX6 9 5 1 (tyX6 1) false := ⟨RX6, TX6, 3, tyX6, rfl, by decide, un_X6, (gtbl_t tbin1 99 rfl rfl), rfl, rfl, tyX6_ok, nmX6, rfl⟩
theorem fd_X1_75 : gFd RX1 75 5 1 (tyX6 1) false := ⟨RX6, TX6, 3, tyX6, rfl, by decide, un_X6, (gtbl_t tbin1 100 rfl rfl), rfl, rfl, tyX6_ok, nmX6, rfl⟩
theorem fd_X4_70 : gFd RX4 70 5 1 (tyX6 1) false := ⟨RX6, TX6, 3, tyX6, rfl, by decide, un_X6, (gtbl_t tbin1 101 rfl rfl), rfl, rfl, tyX6_ok, nmX6, rfl⟩
theorem fd_X2_59 : gFd RX2 59 5 1 (tyX6 1) false := ⟨RX6, TX6, 3, tyX6, rfl, by decide, un_X6, (gtbl_t tbin1 102 rfl rfl), rfl, rfl, tyX6_ok, nmX6, rfl⟩
theorem fd_X7_75 : gFd RX7 75 5 1 (tyX6 1) false := ⟨RX6, TX6, 3, tyX6, rfl, by decide, un_X6, (gtbl_t tbin1 103 rfl rfl), rfl, rfl, tyX6_ok, nmX6, rfl⟩
theorem fd_X12_121 : gFd RX12 121 5 1 (tyX6 1) false := ⟨RX6, TX6, 3, tyX6, rfl, by decide, un_X6, (gtbl_t tbin1 104 rfl rfl), rfl, rfl, tyX6_ok, nmX6, rfl⟩
theorem fd_X8_285 : gFd RX8 285 5 1 (tyX6 1) false := ⟨RX6, TX6, 3, tyX6, rfl, by decide, un_X6, (gtbl_t tbin1 105 rfl rfl), rfl, rfl, tyX6_ok, nmX6, rfl⟩
theorem fd_X8_161 : gFd RX8 161 5 2 (tyX6 2) false := ⟨RX6, TX6, 3, tyX6, rfl, by decide, un_X6, (gtbl_t tbin1 106 rfl rfl), rfl, rfl, tyX6_ok, nmX6, rfl⟩
theorem fd_X7_78 : gFd RX7 78 5 2 (tyX6 2) false := ⟨RX6, TX6, 3, tyX6, rfl, by decide, un_X6, (gtbl_t tbin1 107 rfl rfl), rfl, rfl, tyX6_ok, nmX6, rfl⟩
theorem fd_X12_131 : gFd RX12 131 5 2 (tyX6 2) false := ⟨RX6, TX6, 3, tyX6, rfl, by decide, un_X6, (gtbl_t tbin1 108 rfl rfl), rfl, rfl, tyX6_ok, nmX6, rfl⟩
theorem fd_X1_45 : gFd RX1 45 8 0 (tyX9 0) false := ⟨RX9, TX9, 3, tyX9, rfl, by decide, un_X9, (gtbl_t tbin1 121 rfl rfl), rfl, rfl, tyX9_ok, nmX9, rfl⟩
theorem fd_X7_81 : gFd RX7 81 8 0 (tyX9 0) false := ⟨RX9, TX9, 3, tyX9, rfl, by decide, un_X9, (gtbl_t tbin1 122 rfl rfl), rfl, rfl, tyX9_ok, nmX9, rfl⟩
theorem fd_X12_196 : gFd RX12 196 8 0 (tyX9 0) false := ⟨RX9, TX9, 3, tyX9, rfl, by decide, un_X9, (gtbl_t tbin1 123 rfl rfl), rfl, rfl, tyX9_ok, nmX9, rfl⟩
theorem fd_X4_32 : gFd RX4 32 8 1 (tyX9 1) false := ⟨RX9, TX9, 3, tyX9, rfl, by decide, un_X9, (gtbl_t tbin1 124 rfl rfl), rfl, rfl, tyX9_ok, nmX9, rfl⟩
theorem fd_X1_88 : gFd RX1 88 8 1 (tyX9 1) false := ⟨RX9, TX9, 3, tyX9, rfl, by decide, un_X9, (gtbl_t tbin1 125 rfl rfl), rfl, rfl, tyX9_ok, nmX9, rfl⟩
theorem fd_X7_84 : gFd RX7 84 8 1 (tyX9 1) false := ⟨RX9, TX9, 3, tyX9, rfl, by decide, un_X9, (gtbl_t tbin1 126 rfl rfl), rfl, rfl, tyX9_ok, nmX9, rfl⟩
theorem fd_X12_201 : gFd RX12 201 8 1 (tyX9 1) false := ⟨RX9, TX9, 3, tyX9, rfl, by decide, un_X9, (gtbl_t tbin1 127 rfl rfl), rfl, rfl, tyX9_ok, nmX9, rfl⟩
theorem fd_X7_87 : gFd RX7 87 8 2 (tyX9 2) false := ⟨RX9, TX9, 3, tyX9, rfl, by decide, un_X9, (gtbl_t tbin1 128 rfl rfl), rfl, rfl, tyX9_ok, nmX9, rfl⟩
theorem fd_X1_130 : gFd RX1 130 8 2 (tyX9 2) false := ⟨RX9, TX9, 3, tyX9, rfl, by decide, un_X9, (gtbl_t tbin1 129 rfl rfl), rfl, rfl, tyX9_ok, nmX9, rfl⟩
theorem fd_X12_202 : gFd RX12 202 8 2 (tyX9 2) false := ⟨RX9, TX9, 3, tyX9, rfl, by decide, un_X9, (gtbl_t tbin1 130 rfl rfl), rfl, rfl, tyX9_ok, nmX9, rfl⟩
theorem fd_X4_61 : gFd RX4 61 4 0 (tyX5 0) false := ⟨RX5, TX5, 16, tyX5, rfl, by decide, un_X5, (gtbl_t tbin1 143 rfl rfl), rfl, rfl, tyX5_ok, nmX5, rfl⟩
theorem fd_X12_152 : gFd RX12 152 4 0 (tyX5 0) false := ⟨RX5, TX5, 16, tyX5, rfl, by decide, un_X5, (gtbl_t tbin1 144 rfl rfl), rfl, rfl, tyX5_ok, nmX5, rfl⟩
theorem fd_X8_195 : gFd RX8 195 4 0 (tyX5 0) false := ⟨RX5, TX5, 16, tyX5, rfl, by decide, un_X5, (gtbl_t tbin1 145 rfl rfl), rfl, rfl, tyX5_ok, nmX5, rfl⟩
theorem fd_X4_79 : gFd RX4 79 4 1 (tyX5 1) false := ⟨RX5, TX5, 16, tyX5, rfl, by decide, un_X5, (gtbl_t tbin1 146 rfl rfl), rfl, rfl, tyX5_ok, nmX5, rfl⟩
theorem fd_X12_157 : gFd RX12 157 4 1 (tyX5 1) false := ⟨RX5, TX5, 16, tyX5, rfl, by decide, un_X5, (gtbl_t tbin1 147 rfl rfl), rfl, rfl, tyX5_ok, nmX5, rfl⟩
theorem fd_X7_90 : gFd RX7 90 4 1 (tyX5 1) false := ⟨RX5, TX5, 16, tyX5, rfl, by decide, un_X5, (gtbl_t tbin1 148 rfl rfl), rfl, rfl, tyX5_ok, nmX5, rfl⟩
theorem fd_X8_198 : gFd RX8 198 4 1 (tyX5 1) false := ⟨RX5, TX5, 16, tyX5, rfl, by decide, un_X5, (gtbl_t tbin1 149 rfl rfl), rfl, rfl, tyX5_ok, nmX5, rfl⟩
theorem fd_X4_93 : gFd RX4 93 4 2 (tyX5 2) false := ⟨RX5, TX5, 16, tyX5, rfl, by decide, un_X5, (gtbl_t tbin1 150 rfl rfl), rfl, rfl, tyX5_ok, nmX5, rfl⟩
theorem fd_X12_160 : gFd RX12 160 4 2 (tyX5 2) false := ⟨RX5, TX5, 16, tyX5, rfl, by decide, un_X5, (gtbl_t tbin1 151 rfl rfl), rfl, rfl, tyX5_ok, nmX5, rfl⟩
theorem fd_X8_201 : gFd RX8 201 4 2 (tyX5 2) false := ⟨RX5, TX5, 16, tyX5, rfl, by decide, un_X5, (gtbl_t tbin1 152 rfl rfl), rfl, rfl, tyX5_ok, nmX5, rfl⟩
theorem fd_X12_163 : gFd RX12 163 4 3 (tyX5 3) false := ⟨RX5, TX5, 16, tyX5, rfl, by decide, un_X5, (gtbl_t tbin1 153 rfl rfl), rfl, rfl, tyX5_ok, nmX5, rfl⟩
theorem fd_X4_127 : gFd RX4 127 4 3 (tyX5 3) false := ⟨RX5, TX5, 16, tyX5, rfl, by decide, un_X5, (gtbl_t tbin1 154 rfl rfl), rfl, rfl, tyX5_ok, nmX5, rfl⟩
theorem fd_X8_207 : gFd RX8 207 4 3 (tyX5 3) false := ⟨RX5, TX5, 16, tyX5, rfl, by decide, un_X5, (gtbl_t tbin1 155 rfl rfl), rfl, rfl, tyX5_ok, nmX5, rfl⟩
theorem fd_X5_27 : gFd RX5 27 4 4 (tyX5 4) false := ⟨RX5, TX5, 16, tyX5, rfl, by decide, un_X5, (gtbl_t tbin1 156 rfl rfl), rfl, rfl, tyX5_ok, nmX5, rfl⟩
theorem fd_X4_109 : gFd RX4 109 4 4 (tyX5 4) false := ⟨RX5, TX5, 16, tyX5, rfl, by decide, un_X5, (gtbl_t tbin1 157 rfl rfl), rfl, rfl, tyX5_ok, nmX5, rfl⟩
theorem fd_X12_166 : gFd RX12 166 4 4 (tyX5 4) false := ⟨RX5, TX5, 16, tyX5, rfl, by decide, un_X5, (gtbl_t tbin1 158 rfl rfl), rfl, rfl, tyX5_ok, nmX5, rfl⟩
theorem fd_X8_217 : gFd RX8 217 4 4 (tyX5 4) false := ⟨RX5, TX5, 16, tyX5, rfl, by decide, un_X5, (gtbl_t tbin1 159 rfl rfl), rfl, rfl, tyX5_ok, nmX5, rfl⟩
theorem fd_X5_31 : gFd RX5 31 4 5 (tyX5 5) false := ⟨RX5, TX5, 16, tyX5, rfl, by decide, un_X5, (gtbl_t tbin1 160 rfl rfl), rfl, rfl, tyX5_ok, nmX5, rfl⟩
theorem fd_X2_49 : gFd RX2 49 4 5 (tyX5 5) false := ⟨RX5, TX5, 16, tyX5, rfl, by decide, un_X5, (gtbl_t tbin1 161 rfl rfl), rfl, rfl, tyX5_ok, nmX5, rfl⟩
theorem fd_X4_115 : gFd RX4 115 4 5 (tyX5 5) false := ⟨RX5, TX5, 16, tyX5, rfl, by decide, un_X5, (gtbl_t tbin1 162 rfl rfl), rfl, rfl, tyX5_ok, nmX5, rfl⟩
theorem fd_X12_174 : gFd RX12 174 4 5 (tyX5 5) false := ⟨RX5, TX5, 16, tyX5, rfl, by decide, un_X5, (gtbl_t tbin1 163 rfl rfl), rfl, rfl, tyX5_ok, nmX5, rfl⟩
theorem fd_X8_232 : gFd RX8 232 4 5 (tyX5 5) false := ⟨RX5, TX5, 16, tyX5, rfl, by decide, un_X5, (gtbl_t tbin1 164 rfl rfl), rfl, rfl, tyX5_ok, nmX5, rfl⟩
theorem fd_X5_35 : gFd RX5 35 4 6 (tyX5 6) false := ⟨RX5, TX5, 16, tyX5, rfl, by decide, un_X5, (gtbl_t tbin1 165 rfl rfl), rfl, rfl, tyX5_ok, nmX5, rfl⟩
theorem fd_X8_267 : gFd RX8 267 4 6 (tyX5 6) false := ⟨RX5, TX5, 16, tyX5, rfl, by decide, un_X5, (gtbl_t tbin1 166 rfl rfl), rfl, rfl, tyX5_ok, nmX5, rfl⟩
theorem fd_X5_38 : gFd RX5 38 4 7 (tyX5 7) false := ⟨RX5, TX5, 16, tyX5, rfl, by decide, un_X5, (gtbl_t tbin1 167 rfl rfl), rfl, rfl, tyX5_ok, nmX5, rfl⟩
theorem fd_X12_180 : gFd RX12 180 4 7 (tyX5 7) false := ⟨RX5, TX5, 16, tyX5, rfl, by decide, un_X5, (gtbl_t tbin1 168 rfl rfl), rfl, rfl, tyX5_ok, nmX5, rfl⟩
theorem fd_X4_155 : gFd RX4 155 4 7 (tyX5 7) false := ⟨RX5, TX5, 16, tyX5, rfl, by decide, un_X5, (gtbl_t tbin1 169 rfl rfl), rfl, rfl, tyX5_ok, nmX5, rfl⟩
theorem fd_X8_226 : gFd RX8 226 4 7 (tyX5 7) false := ⟨RX5, TX5, 16, tyX5, rfl, by decide, un_X5, (gtbl_t tbin1 170 rfl rfl), rfl, rfl, tyX5_ok, nmX5, rfl⟩
theorem fd_X5_41 : gFd RX5 41 4 8 (tyX5 8) false := ⟨RX5, TX5, 16, tyX5, rfl, by decide, un_X5, (gtbl_t tbin1 171 rfl rfl), rfl, rfl, tyX5_ok, nmX5, rfl⟩
theorem fd_X4_86 : gFd RX4 86 4 8 (tyX5 8) false := ⟨RX5, TX5, 16, tyX5, rfl, by decide, un_X5, (gtbl_t tbin1 172 rfl rfl), rfl, rfl, tyX5_ok, nmX5, rfl⟩
theorem fd_X2_44 : gFd RX2 44 4 8 (tyX5 8) false := ⟨RX5, TX5, 16, tyX5, rfl, by decide, un_X5, (gtbl_t tbin1 173 rfl rfl), rfl, rfl, tyX5_ok, nmX5, rfl⟩
theorem fd_X12_183 : gFd RX12 183 4 8 (tyX5 8) false := ⟨RX5, TX5, 16, tyX5, rfl, by decide, un_X5, (gtbl_t tbin1 174 rfl rfl), rfl, rfl, tyX5_ok, nmX5, rfl⟩
theorem fd_X8_280 : gFd RX8 280 4 8 (tyX5 8) false := ⟨RX5, TX5, 16, tyX5, rfl, by decide, un_X5, (gtbl_t tbin1 175 rfl rfl), rfl, rfl, tyX5_ok, nmX5, rfl⟩
theorem fd_X5_44 : gFd RX5 44 4 9 (tyX5 9) false := ⟨RX5, TX5, 16, tyX5, rfl, by decide, un_X5, (gtbl_t tbin1 176 rfl rfl), rfl, rfl, tyX5_ok, nmX5, rfl⟩
theorem fd_X4_75 : gFd RX4 75 4 9 (tyX5 9) false := ⟨RX5, TX5, 16, tyX5, rfl, by decide, un_X5, (gtbl_t tbin1 177 rfl rfl), rfl, rfl, tyX5_ok, nmX5, rfl⟩
theorem fd_X2_64 : gFd RX2 64 4 9 (tyX5 9) false := ⟨RX5, TX5, 16, tyX5, rfl, by decide, un_X5, (gtbl_t tbin1 178 rfl rfl), rfl, rfl, tyX5_ok, nmX5, rfl⟩
theorem fd_X12_186 : gFd RX12 186 4 9 (tyX5 9) false := ⟨RX5, TX5, 16, tyX5, rfl, by decide, un_X5, (gtbl_t tbin1 179 rfl rfl), rfl, rfl, tyX5_ok, nmX5, rfl⟩
theorem fd_X1_137 : gFd RX1 137 4 9 (tyX5 9) false := ⟨RX5, TX5, 16, tyX5, rfl, by decide, un_X5, (gtbl_t tbin1 180 rfl rfl), rfl, rfl, tyX5_ok, nmX5, rfl⟩
theorem fd_X5_47 : gFd RX5 47 4 10 (tyX5 10) false := ⟨RX5, TX5, 16, tyX5, rfl, by decide, un_X5, (gtbl_t tbin1 181 rfl rfl), rfl, rfl, tyX5_ok, nmX5, rfl⟩
theorem fd_X12_177 : gFd RX12 177 4 10 (tyX5 10) false := ⟨RX5, TX5, 16, tyX5, rfl, by decide, un_X5, (gtbl_t tbin1 182 rfl rfl), rfl, rfl, tyX5_ok, nmX5, rfl⟩
theorem fd_X4_162 : gFd RX4 162 4 10 (tyX5 10) false := ⟨RX5, TX5, 16, tyX5, rfl, by decide, un_X5, (gtbl_t tbin1 183 rfl rfl), rfl, rfl, tyX5_ok, nmX5, rfl⟩
theorem fd_X8_237 : gFd RX8 237 4 10 (tyX5 10) false := ⟨RX5, TX5, 16, tyX5, rfl, by decide, un_X5, (gtbl_t tbin1 184 rfl rfl), rfl, rfl, tyX5_ok, nmX5, rfl⟩
theorem fd_X5_9 : gFd RX5 9 4 11 (tyX5 11) true := ⟨RX5, TX5, 16, tyX5, rfl, by decide, un_X5, (gtbl_t tbin1 185 rfl rfl), rfl, rfl, tyX5_ok, nmX5, rfl⟩
theorem fd_X12_226 : gFd RX12 226 4 11 (tyX5 11) true := ⟨RX5, TX5, 16, tyX5, rfl, by decide, un_X5, (gtbl_t tbin1 186 rfl rfl), rfl, rfl, tyX5_ok, nmX5, rfl⟩
theorem fd_X4_165 : gFd RX4 165 4 11 (tyX5 11) true := ⟨RX5, TX5, 16, tyX5, rfl, by decide, un_X5, (gtbl_t tbin1 187 rfl rfl), rfl, rfl, tyX5_ok, nmX5, rfl⟩
theorem fd_X8_240 : gFd RX8 240 4 11 (tyX5 11) true := ⟨RX5, TX5, 16, tyX5, rfl, by decide, un_X5, (gtbl_t tbin1 188 rfl rfl), rfl, rfl, tyX5_ok, nmX5, rfl⟩
theorem fd_X5_15 : gFd RX5 15 4 12 (tyX5 12) true := ⟨RX5, TX5, 16, tyX5, rfl, by decide, un_X5, (gtbl_t tbin1 189 rfl rfl), rfl, rfl, tyX5_ok, nmX5, rfl⟩
theorem fd_X12_230 : gFd RX12 230 4 12 (tyX5 12) true := ⟨RX5, TX5, 16, tyX5, rfl, by decide, un_X5, (gtbl_t tbin1 190 rfl rfl), rfl, rfl, tyX5_ok, nmX5, rfl⟩
theorem fd_X4_171 : gFd RX4 171 4 12 (tyX5 12) true := ⟨RX5, TX5, 16, tyX5, rfl, by decide, un_X5, (gtbl_t tbin1 191 rfl rfl), rfl, rfl, tyX5_ok, nmX5, rfl⟩
theorem fd_X8_246 : gFd RX8 246 4 12 (tyX5 12) true := ⟨RX5, TX5, 16, tyX5, rfl, by decide, un_X5, (gtbl_t tbin1 192 rfl rfl), rfl, rfl, tyX5_ok, nmX5, rfl⟩
theorem fd_X5_18 : gFd RX5 18 4 13 (tyX5 13) true := ⟨RX5, TX5, 16, tyX5, rfl, by decide, un_X5, (gtbl_t tbin1 193 rfl rfl), rfl, rfl, tyX5_ok, nmX5, rfl⟩
theorem fd_X12_233 : gFd RX12 233 4 13 (tyX5 13) true := ⟨RX5, TX5, 16, tyX5, rfl, by decide, un_X5, (gtbl_t tbin1 194 rfl rfl), rfl, rfl, tyX5_ok, nmX5, rfl⟩
theorem fd_X4_180 : gFd RX4 180 4 13 (tyX5 13) true := ⟨RX5, TX5, 16, tyX5, rfl, by decide, un_X5, (gtbl_t tbin1 195 rfl rfl), rfl, rfl, tyX5_ok, nmX5, rfl⟩
theorem fd_X8_249 : gFd RX8 249 4 13 (tyX5 13) true := ⟨RX5, TX5, 16, tyX5, rfl, by decide, un_X5, (gtbl_t tbin1 196 rfl rfl), rfl, rfl, tyX5_ok, nmX5, rfl⟩
theorem fd_X5_21 : gFd RX5 21 4 14 (tyX5 14) true := ⟨RX5, TX5, 16, tyX5, rfl, by decide, un_X5, (gtbl_t tbin1 197 rfl rfl), rfl, rfl, tyX5_ok, nmX5, rfl⟩
theorem fd_X12_236 : gFd RX12 236 4 14 (tyX5 14) true := ⟨RX5, TX5, 16, tyX5, rfl, by decide, un_X5, (gtbl_t tbin1 198 rfl rfl), rfl, rfl, tyX5_ok, nmX5, rfl⟩
theorem fd_X4_177 : gFd RX4 177 4 14 (tyX5 14) true := ⟨RX5, TX5, 16, tyX5, rfl, by decide, un_X5, (gtbl_t tbin1 199 rfl rfl), rfl, rfl, tyX5_ok, nmX5, rfl⟩
theorem fd_X8_252 : gFd RX8 252 4 14 (tyX5 14) true := ⟨RX5, TX5, 16, tyX5, rfl, by decide, un_X5, (gtbl_t tbin1 200 rfl rfl), rfl, rfl, tyX5_ok, nmX5, rfl⟩
theorem fd_X5_24 : gFd RX5 24 4 15 (tyX5 15) true := ⟨RX5, TX5, 16, tyX5, rfl, by decide, un_X5, (gtbl_t tbin1 201 rfl rfl), rfl, rfl, tyX5_ok, nmX5, rfl⟩
theorem fd_X12_239 : gFd RX12 239 4 15 (tyX5 15) true := ⟨RX5, TX5, 16, tyX5, rfl, by decide, un_X5, (gtbl_t tbin1 202 rfl rfl), rfl, rfl, tyX5_ok, nmX5, rfl⟩
theorem fd_X4_174 : gFd RX4 174 4 15 (tyX5 15) true := ⟨RX5, TX5, 16, tyX5, rfl, by decide, un_X5, (gtbl_t tbin1 203 rfl rfl), rfl, rfl, tyX5_ok, nmX5, rfl⟩
theorem fd_X8_255 : gFd RX8 255 4 15 (tyX5 15) true := ⟨RX5, TX5, 16, tyX5, rfl, by decide, un_X5, (gtbl_t tbin1 204 rfl rfl), rfl, rfl, tyX5_ok, nmX5, rfl⟩
theorem fd_X7_11 : gFd RX7 11 6 0 (tyX7 0) true := ⟨RX7, TX7, 13, tyX7, rfl, by decide, un_X7, (gtbl_t tbin2 6 rfl rfl), rfl, rfl, tyX7_ok, nmX7, rfl⟩
theorem fd_X1_84 : gFd RX1 84 6 0 (tyX7 0) true := ⟨RX7, TX7, 13, tyX7, rfl, by decide, un_X7, (gtbl_t tbin2 7 rfl rfl), rfl, rfl, tyX7_ok, nmX7, rfl⟩
theorem fd_X8_97 : gFd RX8 97 6 0 (tyX7 0) true := ⟨RX7, TX7, 13, tyX7, rfl, by decide, un_X7, (gtbl_t tbin2 8 rfl rfl), rfl, rfl, tyX7_ok, nmX7, rfl⟩
theorem fd_X4_89 : gFd RX4 89 6 0 (tyX7 0) true := ⟨RX7, TX7, 13, tyX7, rfl, by decide, un_X7, (gtbl_t tbin2 9 rfl rfl), rfl, rfl, tyX7_ok, nmX7, rfl⟩
theorem fd_X12_208 : gFd RX12 208 6 0 (tyX7 0) true := ⟨RX7, TX7, 13, tyX7, rfl, by decide, un_X7, (gtbl_t tbin2 10 rfl rfl), rfl, rfl, tyX7_ok, nmX7, rfl⟩
theorem fd_X7_19 : gFd RX7 19 6 1 (tyX7 1) true := ⟨RX7, TX7, 13, tyX7, rfl, by decide, un_X7, (gtbl_t tbin2 11 rfl rfl), rfl, rfl, tyX7_ok, nmX7, rfl⟩
theorem fd_X1_71 : gFd RX1 71 6 1 (tyX7 1) true := ⟨RX7, TX7, 13, tyX7, rfl, by decide, un_X7, (gtbl_t tbin2 12 rfl rfl), rfl, rfl, tyX7_ok, nmX7, rfl⟩
theorem fd_X4_66 : gFd RX4 66 6 1 (tyX7 1) true := ⟨RX7, TX7, 13, tyX7, rfl, by decide, un_X7, (gtbl_t tbin2 13 rfl rfl), rfl, rfl, tyX7_ok, nmX7, rfl⟩
theorem fd_X2_55 : gFd RX2 55 6 1 (tyX7 1) true := ⟨RX7, TX7, 13, tyX7, rfl, by decide, un_X7, (gtbl_t tbin2 14 rfl rfl), rfl, rfl, tyX7_ok, nmX7, rfl⟩
theorem fd_X8_157 : gFd RX8 157 6 1 (tyX7 1) true := ⟨RX7, TX7, 13, tyX7, rfl, by decide, un_X7, (gtbl_t tbin2 15 rfl rfl), rfl, rfl, tyX7_ok, nmX7, rfl⟩
theorem fd_X12_112 : gFd RX12 112 6 1 (tyX7 1) true := ⟨RX7, TX7, 13, tyX7, rfl, by decide, un_X7, (gtbl_t tbin2 16 rfl rfl), rfl, rfl, tyX7_ok, nmX7, rfl⟩
theorem fd_X7_25 : gFd RX7 25 6 2 (tyX7 2) true := ⟨RX7, TX7, 13, tyX7, rfl, by decide, un_X7, (gtbl_t tbin2 17 rfl rfl), rfl, rfl, tyX7_ok, nmX7, rfl⟩
theorem fd_X4_26 : gFd RX4 26 6 2 (tyX7 2) true := ⟨RX7, TX7, 13, tyX7, rfl, by decide, un_X7, (gtbl_t tbin2 18 rfl rfl), rfl, rfl, tyX7_ok, nmX7, rfl⟩
theorem fd_X1_39 : gFd RX1 39 6 2 (tyX7 2) true := ⟨RX7, TX7, 13, tyX7, rfl, by decide, un_X7, (gtbl_t tbin2 19 rfl rfl), rfl, rfl, tyX7_ok, nmX7, rfl⟩
theorem fd_X12_192 : gFd RX12 192 6 2 (tyX7 2) true := ⟨RX7, TX7, 13, tyX7, rfl, by decide, un_X7, (gtbl_t tbin2 20 rfl rfl), rfl, rfl, tyX7_ok, nmX7, rfl⟩
theorem fd_X7_31 : gFd RX7 31 6 3 (tyX7 3) true := ⟨RX7, TX7, 13, tyX7, rfl, by decide, un_X7, (gtbl_t tbin2 21 rfl rfl), rfl, rfl, tyX7_ok, nmX7, rfl⟩
theorem fd_X4_41 : gFd RX4 41 6 3 (tyX7 3) true := ⟨RX7, TX7, 13, tyX7, rfl, by decide, un_X7, (gtbl_t tbin2 22 rfl rfl), rfl, rfl, tyX7_ok, nmX7, rfl⟩
theorem fd_X2_38 : gFd RX2 38 6 3 (tyX7 3) true := ⟨RX7, TX7, 13, tyX7, rfl, by decide, un_X7, (gtbl_t tbin2 23 rfl rfl), rfl, rfl, tyX7_ok, nmX7, rfl⟩
theorem fd_X12_148 : gFd RX12 148 6 3 (tyX7 3) true := ⟨RX7, TX7, 13, tyX7, rfl, by decide, un_X7, (gtbl_t tbin2 24 rfl rfl), rfl, rfl, tyX7_ok, nmX7, rfl⟩
theorem fd_X1_133 : gFd RX1 133 6 3 (tyX7 3) true := ⟨RX7, TX7, 13, tyX7, rfl, by decide, un_X7, (gtbl_t tbin2 25 rfl rfl), rfl, rfl, tyX7_ok, nmX7, rfl⟩
theorem fd_X8_188 : gFd RX8 188 6 3 (tyX7 3) true := ⟨RX7, TX7, 13, tyX7, rfl, by decide, un_X7, (gtbl_t tbin2 26 rfl rfl), rfl, rfl, tyX7_ok, nmX7, rfl⟩
theorem fd_X7_35 : gFd RX7 35 6 4 (tyX7 4) true := ⟨RX7, TX7, 13, tyX7, rfl, by decide, un_X7, (gtbl_t tbin2 27 rfl rfl), rfl, rfl, tyX7_ok, nmX7, rfl⟩
theorem fd_X4_124 : gFd RX4 124 6 4 (tyX7 4) true := ⟨RX7, TX7, 13, tyX7, rfl, by decide, un_X7, (gtbl_t tbin2 28 rfl rfl), rfl, rfl, tyX7_ok, nmX7, rfl⟩
theorem fd_X12_313 : gFd RX12 313 6 4 (tyX7 4) true := ⟨RX7, TX7, 13, tyX7, rfl, by decide, un_X7, (gtbl_t tbin2 29 rfl rfl), rfl, rfl, tyX7_ok, nmX7, rfl⟩
theorem fd_X7_39 : gFd RX7 39 6 5 (tyX7 5) true := ⟨RX7, TX7, 13, tyX7, rfl, by decide, un_X7, (gtbl_t tbin2 30 rfl rfl), rfl, rfl, tyX7_ok, nmX7, rfl⟩
theorem fd_X7_42 : gFd RX7 42 6 6 (tyX7 6) true := ⟨RX7, TX7, 13, tyX7, rfl, by decide, un_X7, (gtbl_t tbin2 31 rfl rfl), rfl, rfl, tyX7_ok, nmX7, rfl⟩
theorem fd_X7_45 : gFd RX7 45 6 7 (tyX7 7) true := ⟨RX7, TX7, 13, tyX7, rfl, by decide, un_X7, (gtbl_t tbin2 32 rfl rfl), rfl, rfl, tyX7_ok, nmX7, rfl⟩
theorem fd_X7_56 : gFd RX7 56 6 8 (tyX7 8) false := ⟨RX7, TX7, 13, tyX7, rfl, by decide, un_X7, (gtbl_t tbin2 33 rfl rfl), rfl, rfl, tyX7_ok, nmX7, rfl⟩
theorem fd_X12_98 : gFd RX12 98 6 8 (tyX7 8) false := ⟨RX7, TX7, 13, tyX7, rfl, by decide, un_X7, (gtbl_t tbin2 34 rfl rfl), rfl, rfl, tyX7_ok, nmX7, rfl⟩
theorem fd_X8_310 : gFd RX8 310 6 8 (tyX7 8) false := ⟨RX7, TX7, 13, tyX7, rfl, by decide, un_X7, (gtbl_t tbin2 35 rfl rfl), rfl, rfl, tyX7_ok, nmX7, rfl⟩
theorem fd_X7_60 : gFd RX7 60 6 9 (tyX7 9) false := ⟨RX7, TX7, 13, tyX7, rfl, by decide, un_X7, (gtbl_t tbin2 36 rfl rfl), rfl, rfl, tyX7_ok, nmX7, rfl⟩
theorem fd_X8_140 : gFd RX8 140 6 9 (tyX7 9) false := ⟨RX7, TX7, 13, tyX7, rfl, by decide, un_X7, (gtbl_t tbin2 37 rfl rfl), rfl, rfl, tyX7_ok, nmX7, rfl⟩
theorem fd_X12_242 : gFd RX12 242 6 9 (tyX7 9) false := ⟨RX7, TX7, 13, tyX7, rfl, by decide, un_X7, (gtbl_t tbin2 38 rfl rfl), rfl, rfl, tyX7_ok, nmX7, rfl⟩
theorem fd_X7_63 : gFd RX7 63 6 10 (tyX7 10) false := ⟨RX7, TX7, 13, tyX7, rfl, by decide, un_X7, (gtbl_t tbin2 39 rfl rfl), rfl, rfl, tyX7_ok, nmX7, rfl⟩
theorem fd_X1_125 : gFd RX1 125 6 10 (tyX7 10) false := ⟨RX7, TX7, 13, tyX7, rfl, by decide, un_X7, (gtbl_t tbin2 40 rfl rfl), rfl, rfl, tyX7_ok, nmX7, rfl⟩
theorem fd_X8_179 : gFd RX8 179 6 10 (tyX7 10) false := ⟨RX7, TX7, 13, tyX7, rfl, by decide, un_X7, (gtbl_t tbin2 41 rfl rfl), rfl, rfl, tyX7_ok, nmX7, rfl⟩
theorem fd_X12_245 : gFd RX12 245 6 10 (tyX7 10) false := ⟨RX7, TX7, 13, tyX7, rfl, by decide, un_X7, (gtbl_t tbin2 42 rfl rfl), rfl, rfl, tyX7_ok, nmX7, rfl⟩
theorem fd_X4_38 : gFd RX4 38 6 11 (tyX7 11) false := ⟨RX7, TX7, 13, tyX7, rfl, by decide, un_X7, (gtbl_t tbin2 43 rfl rfl), rfl, rfl, tyX7_ok, nmX7, rfl⟩
theorem fd_X7_66 : gFd RX7 66 6 11 (tyX7 11) false := ⟨RX7, TX7, 13, tyX7, rfl, by decide, un_X7, (gtbl_t tbin2 44 rfl rfl), rfl, rfl, tyX7_ok, nmX7, rfl⟩
theorem fd_X8_185 : gFd RX8 185 6 11 (tyX7 11) false := ⟨RX7, TX7, 13, tyX7, rfl, by decide, un_X7, (gtbl_t tbin2 45 rfl rfl), rfl, rfl, tyX7_ok, nmX7, rfl⟩
theorem fd_X12_248 : gFd RX12 248 6 11 (tyX7 11) false := ⟨RX7, TX7, 13, tyX7, rfl, by decide, un_X7, (gtbl_t tbin2 46 rfl rfl), rfl, rfl, tyX7_ok, nmX7, rfl⟩
theorem fd_X7_69 : gFd RX7 69 6 12 (tyX7 12) false := ⟨RX7, TX7, 13, tyX7, rfl, by decide, un_X7, (gtbl_t tbin2 47 rfl rfl), rfl, rfl, tyX7_ok, nmX7, rfl⟩
theorem fd_X2_52 : gFd RX2 52 6 12 (tyX7 12) false := ⟨RX7, TX7, 13, tyX7, rfl, by decide, un_X7, (gtbl_t tbin2 48 rfl rfl), rfl, rfl, tyX7_ok, nmX7, rfl⟩
theorem fd_X8_172 : gFd RX8 172 6 12 (tyX7 12) false := ⟨RX7, TX7, 13, tyX7, rfl, by decide, un_X7, (gtbl_t tbin2 49 rfl rfl), rfl, rfl, tyX7_ok, nmX7, rfl⟩
theorem fd_X12_251 : gFd RX12 251 6 12 (tyX7 12) false := ⟨RX7, TX7, 13, tyX7, rfl, by decide, un_X7, (gtbl_t tbin2 50 rfl rfl), rfl, rfl, tyX7_ok, nmX7, rfl⟩
theorem fd_X11_11 : gFd RX11 11 9 0 (tyX11 0) true := ⟨RX11, TX11, 7, tyX11, rfl, by decide, un_X11, (gtbl_t tbin2 88 rfl rfl), rfl, rfl, tyX11_ok, nmX11, rfl⟩
theorem fd_X8_303 : gFd RX8 303 9 0 (tyX11 0) true := ⟨RX11, TX11, 7, tyX11, rfl, by decide, un_X11, (gtbl_t tbin2 89 rfl rfl), rfl, rfl, tyX11_ok, nmX11, rfl⟩
theorem fd_X11_17 : gFd RX11 17 9 1 (tyX11 1) true := ⟨RX11, TX11, 7, tyX11, rfl, by decide, un_X11, (gtbl_t tbin2 90 rfl rfl), rfl, rfl, tyX11_ok, nmX11, rfl⟩
theorem fd_X8_316 : gFd RX8 316 9 1 (tyX11 1) true := ⟨RX11, TX11, 7, tyX11, rfl, by decide, un_X11, (gtbl_t tbin2 91 rfl rfl), rfl, rfl, tyX11_ok, nmX11, rfl⟩
theorem fd_X11_21 : gFd RX11 21 9 2 (tyX11 2) true := ⟨RX11, TX11, 7, tyX11, rfl, by decide, un_X11, (gtbl_t tbin2 92 rfl rfl), rfl, rfl, tyX11_ok, nmX11, rfl⟩
theorem fd_X8_298 : gFd RX8 298 9 2 (tyX11 2) true := ⟨RX11, TX11, 7, tyX11, rfl, by decide, un_X11, (gtbl_t tbin2 93 rfl rfl), rfl, rfl, tyX11_ok, nmX11, rfl⟩
theorem fd_X11_45 : gFd RX11 45 9 3 (tyX11 3) false := ⟨RX11, TX11, 7, tyX11, rfl, by decide, un_X11, (gtbl_t tbin2 94 rfl rfl), rfl, rfl, tyX11_ok, nmX11, rfl⟩
theorem fd_X8_313 : gFd RX8 313 9 3 (tyX11 3) false := ⟨RX11, TX11, 7, tyX11, rfl, by decide, un_X11, (gtbl_t tbin2 95 rfl rfl), rfl, rfl, tyX11_ok, nmX11, rfl⟩
theorem fd_X11_24 : gFd RX11 24 9 4 (tyX11 4) true := ⟨RX11, TX11, 7, tyX11, rfl, by decide, un_X11, (gtbl_t tbin2 96 rfl rfl), rfl, rfl, tyX11_ok, nmX11, rfl⟩
theorem fd_X11_38 : gFd RX11 38 9 5 (tyX11 5) false := ⟨RX11, TX11, 7, tyX11, rfl, by decide, un_X11, (gtbl_t tbin2 97 rfl rfl), rfl, rfl, tyX11_ok, nmX11, rfl⟩
theorem fd_X11_42 : gFd RX11 42 9 6 (tyX11 6) false := ⟨RX11, TX11, 7, tyX11, rfl, by decide, un_X11, (gtbl_t tbin2 98 rfl rfl), rfl, rfl, tyX11_ok, nmX11, rfl⟩
theorem fd_X8_21 : gFd RX8 21 7 0 (tyX8 0) true := ⟨RX8, TX8, 8, tyX8, rfl, by decide, un_X8, (gtbl_t tbin2 120 rfl rfl), rfl, rfl, tyX8_ok, nmX8, rfl⟩
theorem fd_X8_25 : gFd RX8 25 7 1 (tyX8 1) true := ⟨RX8, TX8, 8, tyX8, rfl, by decide, un_X8, (gtbl_t tbin2 121 rfl rfl), rfl, rfl, tyX8_ok, nmX8, rfl⟩
theorem fd_X8_9 : gFd RX8 9 7 2 (tyX8 2) true := ⟨RX8, TX8, 8, tyX8, rfl, by decide, un_X8, (gtbl_t tbin2 122 rfl rfl), rfl, rfl, tyX8_ok, nmX8, rfl⟩
theorem fd_X8_15 : gFd RX8 15 7 3 (tyX8 3) true := ⟨RX8, TX8, 8, tyX8, rfl, by decide, un_X8, (gtbl_t tbin2 123 rfl rfl), rfl, rfl, tyX8_ok, nmX8, rfl⟩
theorem fd_X8_18 : gFd RX8 18 7 4 (tyX8 4) true := ⟨RX8, TX8, 8, tyX8, rfl, by decide, un_X8, (gtbl_t tbin2 124 rfl rfl), rfl, rfl, tyX8_ok, nmX8, rfl⟩
theorem fd_X8_34 : gFd RX8 34 7 5 (tyX8 5) false := ⟨RX8, TX8, 8, tyX8, rfl, by decide, un_X8, (gtbl_t tbin2 125 rfl rfl), rfl, rfl, tyX8_ok, nmX8, rfl⟩
theorem fd_X8_38 : gFd RX8 38 7 6 (tyX8 6) false := ⟨RX8, TX8, 8, tyX8, rfl, by decide, un_X8, (gtbl_t tbin2 126 rfl rfl), rfl, rfl, tyX8_ok, nmX8, rfl⟩
theorem fd_X12_89 : gFd RX12 89 7 6 (tyX8 6) false := ⟨RX8, TX8, 8, tyX8, rfl, by decide, un_X8, (gtbl_t tbin2 127 rfl rfl), rfl, rfl, tyX8_ok, nmX8, rfl⟩
theorem fd_X8_41 : gFd RX8 41 7 7 (tyX8 7) false := ⟨RX8, TX8, 8, tyX8, rfl, by decide, un_X8, (gtbl_t tbin2 128 rfl rfl), rfl, rfl, tyX8_ok, nmX8, rfl⟩
theorem fd_X12_92 : gFd RX12 92 7 7 (tyX8 7) false := ⟨RX8, TX8, 8, tyX8, rfl, by decide, un_X8, (gtbl_t tbin2 129 rfl rfl), rfl, rfl, tyX8_ok, nmX8, rfl⟩
theorem fd_X4_22 : gFd RX4 22 3 0 (tyX4 0) true := ⟨RX4, TX4, 6, tyX4, rfl, by decide, un_X4, (gtbl_t tbin2 153 rfl rfl), rfl, rfl, tyX4_ok, nmX4, rfl⟩
theorem fd_X4_9 : gFd RX4 9 3 1 (tyX4 1) true := ⟨RX4, TX4, 6, tyX4, rfl, by decide, un_X4, (gtbl_t tbin2 154 rfl rfl), rfl, rfl, tyX4_ok, nmX4, rfl⟩
theorem fd_X4_15 : gFd RX4 15 3 2 (tyX4 2) true := ⟨RX4, TX4, 6, tyX4, rfl, by decide, un_X4, (gtbl_t tbin2 155 rfl rfl), rfl, rfl, tyX4_ok, nmX4, rfl⟩
theorem fd_X12_307 : gFd RX12 307 3 2 (tyX4 2) true := ⟨RX4, TX4, 6, tyX4, rfl, by decide, un_X4, (gtbl_t tbin2 156 rfl rfl), rfl, rfl, tyX4_ok, nmX4, rfl⟩
theorem fd_X4_19 : gFd RX4 19 3 3 (tyX4 3) true := ⟨RX4, TX4, 6, tyX4, rfl, by decide, un_X4, (gtbl_t tbin2 157 rfl rfl), rfl, rfl, tyX4_ok, nmX4, rfl⟩
theorem fd_X12_310 : gFd RX12 310 3 3 (tyX4 3) true := ⟨RX4, TX4, 6, tyX4, rfl, by decide, un_X4, (gtbl_t tbin2 158 rfl rfl), rfl, rfl, tyX4_ok, nmX4, rfl⟩
theorem fd_X1_110 : gFd RX1 110 3 4 (tyX4 4) false := ⟨RX4, TX4, 6, tyX4, rfl, by decide, un_X4, (gtbl_t tbin2 159 rfl rfl), rfl, rfl, tyX4_ok, nmX4, rfl⟩
theorem fd_X4_141 : gFd RX4 141 3 4 (tyX4 4) false := ⟨RX4, TX4, 6, tyX4, rfl, by decide, un_X4, (gtbl_t tbin2 160 rfl rfl), rfl, rfl, tyX4_ok, nmX4, rfl⟩
theorem fd_X12_326 : gFd RX12 326 3 4 (tyX4 4) false := ⟨RX4, TX4, 6, tyX4, rfl, by decide, un_X4, (gtbl_t tbin2 161 rfl rfl), rfl, rfl, tyX4_ok, nmX4, rfl⟩
theorem fd_X4_144 : gFd RX4 144 3 5 (tyX4 5) false := ⟨RX4, TX4, 6, tyX4, rfl, by decide, un_X4, (gtbl_t tbin2 162 rfl rfl), rfl, rfl, tyX4_ok, nmX4, rfl⟩
theorem fd_X12_329 : gFd RX12 329 3 5 (tyX4 5) false := ⟨RX4, TX4, 6, tyX4, rfl, by decide, un_X4, (gtbl_t tbin2 163 rfl rfl), rfl, rfl, tyX4_ok, nmX4, rfl⟩
theorem fd_X1_19 : gFd RX1 19 0 0 (tyX1 0) true := ⟨RX1, TX1, 8, tyX1, rfl, by decide, un_X1, (gtbl_t tbin2 184 rfl rfl), rfl, rfl, tyX1_ok, nmX1, rfl⟩
theorem fd_X1_23 : gFd RX1 23 0 1 (tyX1 1) true := ⟨RX1, TX1, 8, tyX1, rfl, by decide, un_X1, (gtbl_t tbin2 185 rfl rfl), rfl, rfl, tyX1_ok, nmX1, rfl⟩
theorem fd_X1_9 : gFd RX1 9 0 2 (tyX1 2) true := ⟨RX1, TX1, 8, tyX1, rfl, by decide, un_X1, (gtbl_t tbin2 186 rfl rfl), rfl, rfl, tyX1_ok, nmX1, rfl⟩
theorem fd_X12_358 : gFd RX12 358 0 2 (tyX1 2) true := ⟨RX1, TX1, 8, tyX1, rfl, by decide, un_X1, (gtbl_t tbin2 187 rfl rfl), rfl, rfl, tyX1_ok, nmX1, rfl⟩
theorem fd_X1_15 : gFd RX1 15 0 3 (tyX1 3) false := ⟨RX1, TX1, 8, tyX1, rfl, by decide, un_X1, (gtbl_t tbin2 188 rfl rfl), rfl, rfl, tyX1_ok, nmX1, rfl⟩
theorem fd_X12_365 : gFd RX12 365 0 3 (tyX1 3) false := ⟨RX1, TX1, 8, tyX1, rfl, by decide, un_X1, (gtbl_t tbin2 189 rfl rfl), rfl, rfl, tyX1_ok, nmX1, rfl⟩
theorem fd_X1_55 : gFd RX1 55 0 4 (tyX1 4) false := ⟨RX1, TX1, 8, tyX1, rfl, by decide, un_X1, (gtbl_t tbin2 190 rfl rfl), rfl, rfl, tyX1_ok, nmX1, rfl⟩
theorem fd_X12_379 : gFd RX12 379 0 4 (tyX1 4) false := ⟨RX1, TX1, 8, tyX1, rfl, by decide, un_X1, (gtbl_t tbin2 191 rfl rfl), rfl, rfl, tyX1_ok, nmX1, rfl⟩
theorem fd_X1_58 : gFd RX1 58 0 5 (tyX1 5) false := ⟨RX1, TX1, 8, tyX1, rfl, by decide, un_X1, (gtbl_t tbin2 192 rfl rfl), rfl, rfl, tyX1_ok, nmX1, rfl⟩
theorem fd_X1_61 : gFd RX1 61 0 6 (tyX1 6) false := ⟨RX1, TX1, 8, tyX1, rfl, by decide, un_X1, (gtbl_t tbin2 193 rfl rfl), rfl, rfl, tyX1_ok, nmX1, rfl⟩
theorem fd_X12_388 : gFd RX12 388 0 6 (tyX1 6) false := ⟨RX1, TX1, 8, tyX1, rfl, by decide, un_X1, (gtbl_t tbin2 194 rfl rfl), rfl, rfl, tyX1_ok, nmX1, rfl⟩
theorem fd_X1_64 : gFd RX1 64 0 7 (tyX1 7) false := ⟨RX1, TX1, 8, tyX1, rfl, by decide, un_X1, (gtbl_t tbin2 195 rfl rfl), rfl, rfl, tyX1_ok, nmX1, rfl⟩
theorem fd_X12_391 : gFd RX12 391 0 7 (tyX1 7) false := ⟨RX1, TX1, 8, tyX1, rfl, by decide, un_X1, (gtbl_t tbin2 196 rfl rfl), rfl, rfl, tyX1_ok, nmX1, rfl⟩
theorem fd_X2_28 : gFd RX2 28 1 0 (tyX2 0) true := ⟨RX2, TX2, 6, tyX2, rfl, by decide, un_X2, (gtbl_t tbin2 221 rfl rfl), rfl, rfl, tyX2_ok, nmX2, rfl⟩
theorem fd_X2_9 : gFd RX2 9 1 1 (tyX2 1) true := ⟨RX2, TX2, 6, tyX2, rfl, by decide, un_X2, (gtbl_t tbin2 222 rfl rfl), rfl, rfl, tyX2_ok, nmX2, rfl⟩
theorem fd_X2_15 : gFd RX2 15 1 2 (tyX2 2) true := ⟨RX2, TX2, 6, tyX2, rfl, by decide, un_X2, (gtbl_t tbin2 223 rfl rfl), rfl, rfl, tyX2_ok, nmX2, rfl⟩
theorem fd_X2_18 : gFd RX2 18 1 3 (tyX2 3) true := ⟨RX2, TX2, 6, tyX2, rfl, by decide, un_X2, (gtbl_t tbin2 224 rfl rfl), rfl, rfl, tyX2_ok, nmX2, rfl⟩
theorem fd_X2_21 : gFd RX2 21 1 4 (tyX2 4) false := ⟨RX2, TX2, 6, tyX2, rfl, by decide, un_X2, (gtbl_t tbin2 225 rfl rfl), rfl, rfl, tyX2_ok, nmX2, rfl⟩
theorem fd_X2_25 : gFd RX2 25 1 5 (tyX2 5) false := ⟨RX2, TX2, 6, tyX2, rfl, by decide, un_X2, (gtbl_t tbin2 226 rfl rfl), rfl, rfl, tyX2_ok, nmX2, rfl⟩
theorem fd_X12_261 : gFd RX12 261 1 5 (tyX2 5) false := ⟨RX2, TX2, 6, tyX2, rfl, by decide, un_X2, (gtbl_t tbin2 227 rfl rfl), rfl, rfl, tyX2_ok, nmX2, rfl⟩
theorem fd_X12_9 : gFd RX12 9 10 0 (tyX12 0) true := ⟨RX12, TX12, 12, tyX12, rfl, by decide, un_X12, (gtbl_t tbin3 1 rfl rfl), rfl, rfl, tyX12_ok, nmX12, rfl⟩
theorem fd_X12_13 : gFd RX12 13 10 1 (tyX12 1) false := ⟨RX12, TX12, 12, tyX12, rfl, by decide, un_X12, (gtbl_t tbin3 2 rfl rfl), rfl, rfl, tyX12_ok, nmX12, rfl⟩
theorem fd_X12_17 : gFd RX12 17 10 2 (tyX12 2) false := ⟨RX12, TX12, 12, tyX12, rfl, by decide, un_X12, (gtbl_t tbin3 3 rfl rfl), rfl, rfl, tyX12_ok, nmX12, rfl⟩
theorem fd_X12_20 : gFd RX12 20 10 3 (tyX12 3) false := ⟨RX12, TX12, 12, tyX12, rfl, by decide, un_X12, (gtbl_t tbin3 4 rfl rfl), rfl, rfl, tyX12_ok, nmX12, rfl⟩
theorem fd_X12_26 : gFd RX12 26 10 4 (tyX12 4) true := ⟨RX12, TX12, 12, tyX12, rfl, by decide, un_X12, (gtbl_t tbin3 5 rfl rfl), rfl, rfl, tyX12_ok, nmX12, rfl⟩
theorem fd_X12_30 : gFd RX12 30 10 5 (tyX12 5) true := ⟨RX12, TX12, 12, tyX12, rfl, by decide, un_X12, (gtbl_t tbin3 6 rfl rfl), rfl, rfl, tyX12_ok, nmX12, rfl⟩
theorem fd_X12_38 : gFd RX12 38 10 6 (tyX12 6) true := ⟨RX12, TX12, 12, tyX12, rfl, by decide, un_X12, (gtbl_t tbin3 7 rfl rfl), rfl, rfl, tyX12_ok, nmX12, rfl⟩
theorem fd_X12_47 : gFd RX12 47 10 7 (tyX12 7) true := ⟨RX12, TX12, 12, tyX12, rfl, by decide, un_X12, (gtbl_t tbin3 8 rfl rfl), rfl, rfl, tyX12_ok, nmX12, rfl⟩
theorem fd_X12_51 : gFd RX12 51 10 8 (tyX12 8) true := ⟨RX12, TX12, 12, tyX12, rfl, by decide, un_X12, (gtbl_t tbin3 9 rfl rfl), rfl, rfl, tyX12_ok, nmX12, rfl⟩
theorem fd_X12_59 : gFd RX12 59 10 9 (tyX12 9) true := ⟨RX12, TX12, 12, tyX12, rfl, by decide, un_X12, (gtbl_t tbin3 10 rfl rfl), rfl, rfl, tyX12_ok, nmX12, rfl⟩
theorem fd_X12_68 : gFd RX12 68 10 10 (tyX12 10) true := ⟨RX12, TX12, 12, tyX12, rfl, by decide, un_X12, (gtbl_t tbin3 11 rfl rfl), rfl, rfl, tyX12_ok, nmX12, rfl⟩
theorem fd_X12_75 : gFd RX12 75 10 11 (tyX12 11) true := ⟨RX12, TX12, 12, tyX12, rfl, by decide, un_X12, (gtbl_t tbin3 12 rfl rfl), rfl, rfl, tyX12_ok, nmX12, rfl⟩
theorem fd_X13_61 : gFd RX13 61 11 0 (tyX13 0) false := ⟨RX13, TX13, 33, tyX13, rfl, by decide, un_X13, (gtbl_t tbin6 95 rfl rfl), rfl, rfl, tyX13_ok, nmX13, rfl⟩
theorem fd_X13_7 : gFd RX13 7 11 1 (tyX13 1) true := ⟨RX13, TX13, 33, tyX13, rfl, by decide, un_X13, (gtbl_t tbin6 96 rfl rfl), rfl, rfl, tyX13_ok, nmX13, rfl⟩
theorem fd_X13_64 : gFd RX13 64 11 2 (tyX13 2) false := ⟨RX13, TX13, 33, tyX13, rfl, by decide, un_X13, (gtbl_t tbin6 97 rfl rfl), rfl, rfl, tyX13_ok, nmX13, rfl⟩
theorem fd_X13_13 : gFd RX13 13 11 3 (tyX13 3) true := ⟨RX13, TX13, 33, tyX13, rfl, by decide, un_X13, (gtbl_t tbin6 98 rfl rfl), rfl, rfl, tyX13_ok, nmX13, rfl⟩
theorem fd_X13_16 : gFd RX13 16 11 4 (tyX13 4) true := ⟨RX13, TX13, 33, tyX13, rfl, by decide, un_X13, (gtbl_t tbin6 99 rfl rfl), rfl, rfl, tyX13_ok, nmX13, rfl⟩
theorem fd_X13_19 : gFd RX13 19 11 5 (tyX13 5) true := ⟨RX13, TX13, 33, tyX13, rfl, by decide, un_X13, (gtbl_t tbin6 100 rfl rfl), rfl, rfl, tyX13_ok, nmX13, rfl⟩
theorem fd_X13_22 : gFd RX13 22 11 6 (tyX13 6) true := ⟨RX13, TX13, 33, tyX13, rfl, by decide, un_X13, (gtbl_t tbin6 101 rfl rfl), rfl, rfl, tyX13_ok, nmX13, rfl⟩
theorem fd_X13_25 : gFd RX13 25 11 7 (tyX13 7) true := ⟨RX13, TX13, 33, tyX13, rfl, by decide, un_X13, (gtbl_t tbin6 102 rfl rfl), rfl, rfl, tyX13_ok, nmX13, rfl⟩
theorem fd_X13_28 : gFd RX13 28 11 8 (tyX13 8) true := ⟨RX13, TX13, 33, tyX13, rfl, by decide, un_X13, (gtbl_t tbin6 103 rfl rfl), rfl, rfl, tyX13_ok, nmX13, rfl⟩
theorem fd_X13_31 : gFd RX13 31 11 9 (tyX13 9) true := ⟨RX13, TX13, 33, tyX13, rfl, by decide, un_X13, (gtbl_t tbin6 104 rfl rfl), rfl, rfl, tyX13_ok, nmX13, rfl⟩
theorem fd_X13_194 : gFd RX13 194 11 10 (tyX13 10) false := ⟨RX13, TX13, 33, tyX13, rfl, by decide, un_X13, (gtbl_t tbin6 105 rfl rfl), rfl, rfl, tyX13_ok, nmX13, rfl⟩
theorem fd_X13_34 : gFd RX13 34 11 11 (tyX13 11) true := ⟨RX13, TX13, 33, tyX13, rfl, by decide, un_X13, (gtbl_t tbin6 106 rfl rfl), rfl, rfl, tyX13_ok, nmX13, rfl⟩
theorem fd_X13_70 : gFd RX13 70 11 12 (tyX13 12) false := ⟨RX13, TX13, 33, tyX13, rfl, by decide, un_X13, (gtbl_t tbin6 107 rfl rfl), rfl, rfl, tyX13_ok, nmX13, rfl⟩
theorem fd_X13_67 : gFd RX13 67 11 13 (tyX13 13) false := ⟨RX13, TX13, 33, tyX13, rfl, by decide, un_X13, (gtbl_t tbin6 108 rfl rfl), rfl, rfl, tyX13_ok, nmX13, rfl⟩
theorem fd_X13_77 : gFd RX13 77 11 14 (tyX13 14) false := ⟨RX13, TX13, 33, tyX13, rfl, by decide, un_X13, (gtbl_t tbin6 109 rfl rfl), rfl, rfl, tyX13_ok, nmX13, rfl⟩
theorem fd_X13_80 : gFd RX13 80 11 15 (tyX13 15) false := ⟨RX13, TX13, 33, tyX13, rfl, by decide, un_X13, (gtbl_t tbin6 110 rfl rfl), rfl, rfl, tyX13_ok, nmX13, rfl⟩
theorem fd_X13_93 : gFd RX13 93 11 16 (tyX13 16) false := ⟨RX13, TX13, 33, tyX13, rfl, by decide, un_X13, (gtbl_t tbin6 111 rfl rfl), rfl, rfl, tyX13_ok, nmX13, rfl⟩
theorem fd_X13_87 : gFd RX13 87 11 17 (tyX13 17) false := ⟨RX13, TX13, 33, tyX13, rfl, by decide, un_X13, (gtbl_t tbin6 112 rfl rfl), rfl, rfl, tyX13_ok, nmX13, rfl⟩
theorem fd_X13_111 : gFd RX13 111 11 18 (tyX13 18) false := ⟨RX13, TX13, 33, tyX13, rfl, by decide, un_X13, (gtbl_t tbin6 113 rfl rfl), rfl, rfl, tyX13_ok, nmX13, rfl⟩
theorem fd_X13_114 : gFd RX13 114 11 19 (tyX13 19) false := ⟨RX13, TX13, 33, tyX13, rfl, by decide, un_X13, (gtbl_t tbin6 114 rfl rfl), rfl, rfl, tyX13_ok, nmX13, rfl⟩
theorem fd_X13_200 : gFd RX13 200 11 20 (tyX13 20) false := ⟨RX13, TX13, 33, tyX13, rfl, by decide, un_X13, (gtbl_t tbin6 115 rfl rfl), rfl, rfl, tyX13_ok, nmX13, rfl⟩
theorem fd_X13_37 : gFd RX13 37 11 21 (tyX13 21) false := ⟨RX13, TX13, 33, tyX13, rfl, by decide, un_X13, (gtbl_t tbin6 116 rfl rfl), rfl, rfl, tyX13_ok, nmX13, rfl⟩
theorem fd_X13_41 : gFd RX13 41 11 22 (tyX13 22) true := ⟨RX13, TX13, 33, tyX13, rfl, by decide, un_X13, (gtbl_t tbin6 117 rfl rfl), rfl, rfl, tyX13_ok, nmX13, rfl⟩
theorem fd_X13_274 : gFd RX13 274 11 23 (tyX13 23) false := ⟨RX13, TX13, 33, tyX13, rfl, by decide, un_X13, (gtbl_t tbin6 118 rfl rfl), rfl, rfl, tyX13_ok, nmX13, rfl⟩
theorem fd_X13_277 : gFd RX13 277 11 24 (tyX13 24) false := ⟨RX13, TX13, 33, tyX13, rfl, by decide, un_X13, (gtbl_t tbin6 119 rfl rfl), rfl, rfl, tyX13_ok, nmX13, rfl⟩
theorem fd_X13_45 : gFd RX13 45 11 25 (tyX13 25) true := ⟨RX13, TX13, 33, tyX13, rfl, by decide, un_X13, (gtbl_t tbin6 120 rfl rfl), rfl, rfl, tyX13_ok, nmX13, rfl⟩
theorem fd_X13_49 : gFd RX13 49 11 26 (tyX13 26) true := ⟨RX13, TX13, 33, tyX13, rfl, by decide, un_X13, (gtbl_t tbin6 121 rfl rfl), rfl, rfl, tyX13_ok, nmX13, rfl⟩
theorem fd_X13_309 : gFd RX13 309 11 27 (tyX13 27) false := ⟨RX13, TX13, 33, tyX13, rfl, by decide, un_X13, (gtbl_t tbin6 122 rfl rfl), rfl, rfl, tyX13_ok, nmX13, rfl⟩
theorem fd_X13_312 : gFd RX13 312 11 28 (tyX13 28) false := ⟨RX13, TX13, 33, tyX13, rfl, by decide, un_X13, (gtbl_t tbin6 123 rfl rfl), rfl, rfl, tyX13_ok, nmX13, rfl⟩
theorem fd_X13_315 : gFd RX13 315 11 29 (tyX13 29) false := ⟨RX13, TX13, 33, tyX13, rfl, by decide, un_X13, (gtbl_t tbin6 124 rfl rfl), rfl, rfl, tyX13_ok, nmX13, rfl⟩
theorem fd_X13_318 : gFd RX13 318 11 30 (tyX13 30) false := ⟨RX13, TX13, 33, tyX13, rfl, by decide, un_X13, (gtbl_t tbin6 125 rfl rfl), rfl, rfl, tyX13_ok, nmX13, rfl⟩
theorem fd_X13_52 : gFd RX13 52 11 31 (tyX13 31) true := ⟨RX13, TX13, 33, tyX13, rfl, by decide, un_X13, (gtbl_t tbin6 126 rfl rfl), rfl, rfl, tyX13_ok, nmX13, rfl⟩
theorem fd_X13_356 : gFd RX13 356 11 32 (tyX13 32) false := ⟨RX13, TX13, 33, tyX13, rfl, by decide, un_X13, (gtbl_t tbin6 127 rfl rfl), rfl, rfl, tyX13_ok, nmX13, rfl⟩
theorem ml_L_20 : Cond.methodLink RL 20 yX12_init ∈ gtbl := (gtbl_t tbin1 30 rfl rfl)
theorem ml_X12_25 : Cond.methodLink RX12 25 yX7_init ∈ gtbl := (gtbl_t tbin1 38 rfl rfl)
theorem ml_X7_52 : Cond.methodLink RX7 52 yX7_clear ∈ gtbl := (gtbl_t tbin1 238 rfl rfl)
theorem ml_X7_55 : Cond.methodLink RX7 55 yX3_clear ∈ gtbl := (gtbl_t tbin2 2 rfl rfl)
theorem ml_X12_35 : Cond.methodLink RX12 35 yX11_init ∈ gtbl := (gtbl_t tbin2 80 rfl rfl)
theorem ml_X12_44 : Cond.methodLink RX12 44 yX8_init ∈ gtbl := (gtbl_t tbin2 116 rfl rfl)
theorem ml_X12_56 : Cond.methodLink RX12 56 yX4_init ∈ gtbl := (gtbl_t tbin2 149 rfl rfl)
theorem ml_X12_65 : Cond.methodLink RX12 65 yX1_init ∈ gtbl := (gtbl_t tbin2 180 rfl rfl)
theorem ml_X12_74 : Cond.methodLink RX12 74 yX2_init ∈ gtbl := (gtbl_t tbin2 217 rfl rfl)
theorem ml_L_24 : Cond.methodLink RL 24 yX12_feed ∈ gtbl := (gtbl_t tbin3 38 rfl rfl)
theorem ml_X12_79 : Cond.methodLink RX12 79 yX12_putNumber ∈ gtbl := (gtbl_t tbin3 42 rfl rfl)
theorem ml_L_29 : Cond.methodLink RL 29 yX12_text ∈ gtbl := (gtbl_t tbin3 46 rfl rfl)
theorem ml_X12_83 : Cond.methodLink RX12 83 yX11_cutTape ∈ gtbl := (gtbl_t tbin3 50 rfl rfl)
theorem ml_X11_32 : Cond.methodLink RX11 32 yJ9_min_7cf53 ∈ gtbl := (gtbl_t tbin3 54 rfl rfl)
theorem ml_X11_48 : Cond.methodLink RX11 48 yX11_skipBlanks ∈ gtbl := (gtbl_t tbin3 57 rfl rfl)
theorem ml_X11_51 : Cond.methodLink RX11 51 yX11_isDigit ∈ gtbl := (gtbl_t tbin3 61 rfl rfl)
theorem ml_X11_55 : Cond.methodLink RX11 55 yX11_cutNumber ∈ gtbl := (gtbl_t tbin3 64 rfl rfl)
theorem ml_X11_58 : Cond.methodLink RX11 58 yX11_isLetter ∈ gtbl := (gtbl_t tbin3 71 rfl rfl)
theorem ml_X11_61 : Cond.methodLink RX11 61 yX11_cutWord ∈ gtbl := (gtbl_t tbin3 74 rfl rfl)
theorem ml_X11_74 : Cond.methodLink RX11 74 yX11_wordKind ∈ gtbl := (gtbl_t tbin3 78 rfl rfl)
theorem ml_X11_88 : Cond.methodLink RX11 88 yX11_isWord ∈ gtbl := (gtbl_t tbin3 84 rfl rfl)
theorem ml_X11_92 : Cond.methodLink RX11 92 yJ0_length_8abf5 ∈ gtbl := (gtbl_t tbin3 88 rfl rfl)
theorem ml_J0_335 : Cond.methodLink RJ0 335 yJ0_coder_7d493 ∈ gtbl := (gtbl_t tbin3 92 rfl rfl)
theorem ml_X11_97 : Cond.methodLink RX11 97 yJ0_charAt_5068e ∈ gtbl := (gtbl_t tbin3 98 rfl rfl)
theorem ml_J0_492 : Cond.methodLink RJ0 492 yJ0_isLatin1_aae02 ∈ gtbl := (gtbl_t tbin3 102 rfl rfl)
theorem ml_J0_495 : Cond.methodLink RJ0 495 yJ1_charAt_3b067 ∈ gtbl := (gtbl_t tbin3 106 rfl rfl)
theorem ml_J1_9 : Cond.methodLink RJ1 9 yJ0_checkIndex_df160 ∈ gtbl := (gtbl_t tbin3 109 rfl rfl)
theorem ml_J0_1059 : Cond.methodLink RJ0 1059 yJ3_checkIndex_8e157 ∈ gtbl := (gtbl_t tbin3 114 rfl rfl)
theorem ml_J0_498 : Cond.methodLink RJ0 498 yJ2_charAt_3b067 ∈ gtbl := (gtbl_t tbin3 117 rfl rfl)
theorem ml_J2_67 : Cond.methodLink RJ2 67 yJ2_checkIndex_2214a ∈ gtbl := (gtbl_t tbin3 120 rfl rfl)
theorem ml_J2_48 : Cond.methodLink RJ2 48 yJ2_length_9d52b ∈ gtbl := (gtbl_t tbin3 123 rfl rfl)
theorem ml_J2_414 : Cond.methodLink RJ2 414 yJ0_checkIndex_df160 ∈ gtbl := (gtbl_t tbin3 126 rfl rfl)
theorem ml_J2_71 : Cond.methodLink RJ2 71 yJ2_getChar_3b067 ∈ gtbl := (gtbl_t tbin3 127 rfl rfl)
theorem ml_X12_86 : Cond.methodLink RX12 86 yX8_readAll ∈ gtbl := (gtbl_t tbin3 142 rfl rfl)
theorem ml_X8_29 : Cond.methodLink RX8 29 yX7_clear ∈ gtbl := (gtbl_t tbin3 146 rfl rfl)
theorem ml_X8_44 : Cond.methodLink RX8 44 yX8_comes ∈ gtbl := (gtbl_t tbin3 147 rfl rfl)
theorem ml_X8_63 : Cond.methodLink RX8 63 yX8_readLand ∈ gtbl := (gtbl_t tbin3 160 rfl rfl)
theorem ml_X8_94 : Cond.methodLink RX8 94 yX8_takeToken ∈ gtbl := (gtbl_t tbin3 164 rfl rfl)
theorem ml_X8_101 : Cond.methodLink RX8 101 yX8_takeNumber ∈ gtbl := (gtbl_t tbin3 168 rfl rfl)
theorem ml_X8_87 : Cond.methodLink RX8 87 yX8_fail ∈ gtbl := (gtbl_t tbin3 173 rfl rfl)
theorem ml_X8_111 : Cond.methodLink RX8 111 yX8_failAtTaken ∈ gtbl := (gtbl_t tbin3 177 rfl rfl)
theorem ml_X8_120 : Cond.methodLink RX8 120 yX8_readRight ∈ gtbl := (gtbl_t tbin3 182 rfl rfl)
theorem ml_X8_127 : Cond.methodLink RX8 127 yX8_takeOnce ∈ gtbl := (gtbl_t tbin3 186 rfl rfl)
theorem ml_X8_66 : Cond.methodLink RX8 66 yX8_readPerson ∈ gtbl := (gtbl_t tbin3 190 rfl rfl)
theorem ml_X8_143 : Cond.methodLink RX8 143 yX8_takeOneMore ∈ gtbl := (gtbl_t tbin3 194 rfl rfl)
theorem ml_X8_147 : Cond.methodLink RX8 147 yX8_takeNewName ∈ gtbl := (gtbl_t tbin3 198 rfl rfl)
theorem ml_X8_292 : Cond.methodLink RX8 292 yX8_indexOfName ∈ gtbl := (gtbl_t tbin3 203 rfl rfl)
theorem ml_X8_151 : Cond.methodLink RX8 151 yX7_addPerson ∈ gtbl := (gtbl_t tbin3 207 rfl rfl)
theorem ml_X8_69 : Cond.methodLink RX8 69 yX8_readChild ∈ gtbl := (gtbl_t tbin3 211 rfl rfl)
theorem ml_X8_154 : Cond.methodLink RX8 154 yX8_takePerson ∈ gtbl := (gtbl_t tbin3 215 rfl rfl)
theorem ml_X8_288 : Cond.methodLink RX8 288 yX8_takeKnownName ∈ gtbl := (gtbl_t tbin3 219 rfl rfl)
theorem ml_X8_166 : Cond.methodLink RX8 166 yJ6_bitCount_0f7a4 ∈ gtbl := (gtbl_t tbin3 223 rfl rfl)
theorem ml_X8_72 : Cond.methodLink RX8 72 yX8_readWedding ∈ gtbl := (gtbl_t tbin3 229 rfl rfl)
theorem ml_X8_175 : Cond.methodLink RX8 175 yX7_addWedding ∈ gtbl := (gtbl_t tbin3 233 rfl rfl)
theorem ml_X8_75 : Cond.methodLink RX8 75 yX8_readThing ∈ gtbl := (gtbl_t tbin3 237 rfl rfl)
theorem ml_X8_182 : Cond.methodLink RX8 182 yX7_addThing ∈ gtbl := (gtbl_t tbin4 1 rfl rfl)
theorem ml_X8_78 : Cond.methodLink RX8 78 yX8_readPaper ∈ gtbl := (gtbl_t tbin4 5 rfl rfl)
theorem ml_X8_192 : Cond.methodLink RX8 192 yX5_clear ∈ gtbl := (gtbl_t tbin4 9 rfl rfl)
theorem ml_X8_204 : Cond.methodLink RX8 204 yX8_takePaperKind ∈ gtbl := (gtbl_t tbin4 13 rfl rfl)
theorem ml_X8_210 : Cond.methodLink RX8 210 yX8_readPart ∈ gtbl := (gtbl_t tbin4 17 rfl rfl)
theorem ml_X8_220 : Cond.methodLink RX8 220 yX8_readWitness ∈ gtbl := (gtbl_t tbin4 21 rfl rfl)
theorem ml_X8_233 : Cond.methodLink RX8 233 yX5_isWitness ∈ gtbl := (gtbl_t tbin4 25 rfl rfl)
theorem ml_X8_223 : Cond.methodLink RX8 223 yX8_readGive ∈ gtbl := (gtbl_t tbin4 29 rfl rfl)
theorem ml_X8_243 : Cond.methodLink RX8 243 yX8_takeThing ∈ gtbl := (gtbl_t tbin4 33 rfl rfl)
theorem ml_X8_229 : Cond.methodLink RX8 229 yX8_readStrike ∈ gtbl := (gtbl_t tbin4 43 rfl rfl)
theorem ml_X8_270 : Cond.methodLink RX8 270 yX8_takePaper ∈ gtbl := (gtbl_t tbin4 47 rfl rfl)
theorem ml_X8_273 : Cond.methodLink RX8 273 yX5_strikes ∈ gtbl := (gtbl_t tbin4 51 rfl rfl)
theorem ml_X8_214 : Cond.methodLink RX8 214 yX7_addFilledPaper ∈ gtbl := (gtbl_t tbin4 55 rfl rfl)
theorem ml_X8_81 : Cond.methodLink RX8 81 yX8_readLost ∈ gtbl := (gtbl_t tbin4 59 rfl rfl)
theorem ml_X8_276 : Cond.methodLink RX8 276 yX5_isLost ∈ gtbl := (gtbl_t tbin4 63 rfl rfl)
theorem ml_X8_84 : Cond.methodLink RX8 84 yX8_readDeath ∈ gtbl := (gtbl_t tbin4 67 rfl rfl)
theorem ml_X8_282 : Cond.methodLink RX8 282 yX6_isMortal ∈ gtbl := (gtbl_t tbin4 71 rfl rfl)
theorem ml_X8_91 : Cond.methodLink RX8 91 yX8_takeSemicolon ∈ gtbl := (gtbl_t tbin4 75 rfl rfl)
theorem ml_X12_95 : Cond.methodLink RX12 95 yX2_forgetAll ∈ gtbl := (gtbl_t tbin4 79 rfl rfl)
theorem ml_L_34 : Cond.methodLink RL 34 yX12_fault ∈ gtbl := (gtbl_t tbin4 83 rfl rfl)
theorem ml_L_47 : Cond.methodLink RL 47 yX12_thing ∈ gtbl := (gtbl_t tbin4 87 rfl rfl)
theorem ml_X12_189 : Cond.methodLink RX12 189 yX7_isThing ∈ gtbl := (gtbl_t tbin4 91 rfl rfl)
theorem ml_L_51 : Cond.methodLink RL 51 yX12_land ∈ gtbl := (gtbl_t tbin4 95 rfl rfl)
theorem ml_X12_205 : Cond.methodLink RX12 205 yX12_isLand ∈ gtbl := (gtbl_t tbin4 99 rfl rfl)
theorem ml_X12_170 : Cond.methodLink RX12 170 yX12_bit ∈ gtbl := (gtbl_t tbin4 102 rfl rfl)
theorem ml_L_184 : Cond.methodLink RL 184 yX12_give ∈ gtbl := (gtbl_t tbin4 105 rfl rfl)
theorem ml_X12_143 : Cond.methodLink RX12 143 yX7_isPaper ∈ gtbl := (gtbl_t tbin4 109 rfl rfl)
theorem ml_X12_124 : Cond.methodLink RX12 124 yX12_orMinusTwo ∈ gtbl := (gtbl_t tbin4 113 rfl rfl)
theorem ml_L_188 : Cond.methodLink RL 188 yX12_count ∈ gtbl := (gtbl_t tbin4 116 rfl rfl)
theorem ml_X12_254 : Cond.methodLink RX12 254 yX7_lostPapers ∈ gtbl := (gtbl_t tbin4 120 rfl rfl)
theorem ml_X7_93 : Cond.methodLink RX7 93 yX5_isLost ∈ gtbl := (gtbl_t tbin4 124 rfl rfl)
theorem ml_X12_258 : Cond.methodLink RX12 258 yX7_deaths ∈ gtbl := (gtbl_t tbin4 125 rfl rfl)
theorem ml_X7_97 : Cond.methodLink RX7 97 yX6_isMortal ∈ gtbl := (gtbl_t tbin4 129 rfl rfl)
theorem ml_L_55 : Cond.methodLink RL 55 yX12_lose ∈ gtbl := (gtbl_t tbin4 130 rfl rfl)
theorem ml_X12_264 : Cond.methodLink RX12 264 yX12_changeCopies ∈ gtbl := (gtbl_t tbin4 134 rfl rfl)
theorem ml_X12_272 : Cond.methodLink RX12 272 yX2_keep ∈ gtbl := (gtbl_t tbin4 138 rfl rfl)
theorem ml_X2_32 : Cond.methodLink RX2 32 yJ9_min_7cf53 ∈ gtbl := (gtbl_t tbin4 142 rfl rfl)
theorem ml_L_60 : Cond.methodLink RL 60 yX12_find ∈ gtbl := (gtbl_t tbin4 143 rfl rfl)
theorem ml_X12_268 : Cond.methodLink RX12 268 yX5_isLost ∈ gtbl := (gtbl_t tbin4 147 rfl rfl)
theorem ml_L_65 : Cond.methodLink RL 65 yX12_copy ∈ gtbl := (gtbl_t tbin4 148 rfl rfl)
theorem ml_L_69 : Cond.methodLink RL 69 yX12_witness ∈ gtbl := (gtbl_t tbin4 152 rfl rfl)
theorem ml_X12_101 : Cond.methodLink RX12 101 yX7_isPerson ∈ gtbl := (gtbl_t tbin4 156 rfl rfl)
theorem ml_X12_276 : Cond.methodLink RX12 276 yJ6_bitCount_0f7a4 ∈ gtbl := (gtbl_t tbin4 160 rfl rfl)
theorem ml_X12_281 : Cond.methodLink RX12 281 yX5_isWitness ∈ gtbl := (gtbl_t tbin4 161 rfl rfl)
theorem ml_L_73 : Cond.methodLink RL 73 yX12_wed ∈ gtbl := (gtbl_t tbin4 162 rfl rfl)
theorem ml_X12_284 : Cond.methodLink RX12 284 yX12_isDay ∈ gtbl := (gtbl_t tbin4 166 rfl rfl)
theorem ml_X12_287 : Cond.methodLink RX12 287 yX7_addWedding ∈ gtbl := (gtbl_t tbin4 169 rfl rfl)
theorem ml_L_78 : Cond.methodLink RL 78 yX12_dies ∈ gtbl := (gtbl_t tbin4 170 rfl rfl)
theorem ml_X12_290 : Cond.methodLink RX12 290 yX12_isDayOrNever ∈ gtbl := (gtbl_t tbin4 174 rfl rfl)
theorem ml_L_82 : Cond.methodLink RL 82 yX12_takeBack ∈ gtbl := (gtbl_t tbin4 177 rfl rfl)
theorem ml_L_86 : Cond.methodLink RL 86 yX12_undo ∈ gtbl := (gtbl_t tbin4 181 rfl rfl)
theorem ml_X12_293 : Cond.methodLink RX12 293 yX2_undoLatest ∈ gtbl := (gtbl_t tbin4 185 rfl rfl)
theorem ml_L_91 : Cond.methodLink RL 91 yX12_form ∈ gtbl := (gtbl_t tbin4 189 rfl rfl)
theorem ml_X12_296 : Cond.methodLink RX12 296 yX4_witnessesWhoLived ∈ gtbl := (gtbl_t tbin4 193 rfl rfl)
theorem ml_X4_116 : Cond.methodLink RX4 116 yX7_livingOn ∈ gtbl := (gtbl_t tbin4 197 rfl rfl)
theorem ml_X7_100 : Cond.methodLink RX7 100 yX6_livesOn ∈ gtbl := (gtbl_t tbin4 201 rfl rfl)
theorem ml_X4_119 : Cond.methodLink RX4 119 yJ6_bitCount_0f7a4 ∈ gtbl := (gtbl_t tbin4 205 rfl rfl)
theorem ml_X12_300 : Cond.methodLink RX12 300 yX4_hasForm ∈ gtbl := (gtbl_t tbin4 206 rfl rfl)
theorem ml_X4_105 : Cond.methodLink RX4 105 yX4_hasFormByHand ∈ gtbl := (gtbl_t tbin4 210 rfl rfl)
theorem ml_L_95 : Cond.methodLink RL 95 yX12_why ∈ gtbl := (gtbl_t tbin4 214 rfl rfl)
theorem ml_X12_304 : Cond.methodLink RX12 304 yX4_weigh ∈ gtbl := (gtbl_t tbin4 218 rfl rfl)
theorem ml_X4_45 : Cond.methodLink RX4 45 yX4_witnessesWhoLived ∈ gtbl := (gtbl_t tbin4 222 rfl rfl)
theorem ml_X4_49 : Cond.methodLink RX4 49 yX4_whyNotGood ∈ gtbl := (gtbl_t tbin4 223 rfl rfl)
theorem ml_X4_82 : Cond.methodLink RX4 82 yX5_isLost ∈ gtbl := (gtbl_t tbin4 227 rfl rfl)
theorem ml_X4_98 : Cond.methodLink RX4 98 yX4_hasForm ∈ gtbl := (gtbl_t tbin4 228 rfl rfl)
theorem ml_X4_53 : Cond.methodLink RX4 53 yX4_latestStriker ∈ gtbl := (gtbl_t tbin4 229 rfl rfl)
theorem ml_X4_130 : Cond.methodLink RX4 130 yX5_strikes ∈ gtbl := (gtbl_t tbin4 233 rfl rfl)
theorem ml_X4_57 : Cond.methodLink RX4 57 yX4_isBroken ∈ gtbl := (gtbl_t tbin4 234 rfl rfl)
theorem ml_X4_137 : Cond.methodLink RX4 137 yX7_wasWedBetween ∈ gtbl := (gtbl_t tbin4 238 rfl rfl)
theorem ml_L_99 : Cond.methodLink RL 99 yX12_struckBy ∈ gtbl := (gtbl_t tbin5 2 rfl rfl)
theorem ml_L_103 : Cond.methodLink RL 103 yX12_counting ∈ gtbl := (gtbl_t tbin5 6 rfl rfl)
theorem ml_X12_316 : Cond.methodLink RX12 316 yX4_countsOf ∈ gtbl := (gtbl_t tbin5 10 rfl rfl)
theorem ml_L_107 : Cond.methodLink RL 107 yX12_taker ∈ gtbl := (gtbl_t tbin5 14 rfl rfl)
theorem ml_X12_320 : Cond.methodLink RX12 320 yX6_isMortal ∈ gtbl := (gtbl_t tbin5 18 rfl rfl)
theorem ml_X12_323 : Cond.methodLink RX12 323 yX4_chooseTaker ∈ gtbl := (gtbl_t tbin5 19 rfl rfl)
theorem ml_X4_147 : Cond.methodLink RX4 147 yX4_countsOf ∈ gtbl := (gtbl_t tbin5 23 rfl rfl)
theorem ml_X4_151 : Cond.methodLink RX4 151 yX4_takerByGives ∈ gtbl := (gtbl_t tbin5 24 rfl rfl)
theorem ml_X4_168 : Cond.methodLink RX4 168 yX4_isSo ∈ gtbl := (gtbl_t tbin5 28 rfl rfl)
theorem ml_X4_183 : Cond.methodLink RX4 183 yX7_isPerson ∈ gtbl := (gtbl_t tbin5 32 rfl rfl)
theorem ml_X4_186 : Cond.methodLink RX4 186 yX6_livesOn ∈ gtbl := (gtbl_t tbin5 33 rfl rfl)
theorem ml_X4_158 : Cond.methodLink RX4 158 yX4_mayTake ∈ gtbl := (gtbl_t tbin5 34 rfl rfl)
theorem ml_X4_189 : Cond.methodLink RX4 189 yX5_isWitness ∈ gtbl := (gtbl_t tbin5 38 rfl rfl)
theorem ml_L_111 : Cond.methodLink RL 111 yX12_takerBy ∈ gtbl := (gtbl_t tbin5 39 rfl rfl)
theorem ml_L_115 : Cond.methodLink RL 115 yX12_heirs ∈ gtbl := (gtbl_t tbin5 43 rfl rfl)
theorem ml_X12_332 : Cond.methodLink RX12 332 yX7_heirsOf ∈ gtbl := (gtbl_t tbin5 47 rfl rfl)
theorem ml_X7_104 : Cond.methodLink RX7 104 yX7_livingOn ∈ gtbl := (gtbl_t tbin5 51 rfl rfl)
theorem ml_X7_108 : Cond.methodLink RX7 108 yX7_childrenOf ∈ gtbl := (gtbl_t tbin5 52 rfl rfl)
theorem ml_X7_111 : Cond.methodLink RX7 111 yX7_lastWedUpTo ∈ gtbl := (gtbl_t tbin5 56 rfl rfl)
theorem ml_L_160 : Cond.methodLink RL 160 yX12_margin ∈ gtbl := (gtbl_t tbin5 60 rfl rfl)
theorem ml_X12_335 : Cond.methodLink RX12 335 yJ9_min_7cf53 ∈ gtbl := (gtbl_t tbin5 64 rfl rfl)
theorem ml_X12_340 : Cond.methodLink RX12 340 yX4_hasFormByHand ∈ gtbl := (gtbl_t tbin5 65 rfl rfl)
theorem ml_L_176 : Cond.methodLink RL 176 yX12_naming ∈ gtbl := (gtbl_t tbin5 66 rfl rfl)
theorem ml_X12_344 : Cond.methodLink RX12 344 yX5_givesTo ∈ gtbl := (gtbl_t tbin5 70 rfl rfl)
theorem ml_L_180 : Cond.methodLink RL 180 yX12_sees ∈ gtbl := (gtbl_t tbin5 74 rfl rfl)
theorem ml_X12_347 : Cond.methodLink RX12 347 yX6_livesOn ∈ gtbl := (gtbl_t tbin5 78 rfl rfl)
theorem ml_L_119 : Cond.methodLink RL 119 yX12_has ∈ gtbl := (gtbl_t tbin5 79 rfl rfl)
theorem ml_X12_350 : Cond.methodLink RX12 350 yX12_isPersonOrCrown ∈ gtbl := (gtbl_t tbin5 83 rfl rfl)
theorem ml_X12_355 : Cond.methodLink RX12 355 yX1_goOn ∈ gtbl := (gtbl_t tbin5 88 rfl rfl)
theorem ml_X1_27 : Cond.methodLink RX1 27 yX4_weigh ∈ gtbl := (gtbl_t tbin5 92 rfl rfl)
theorem ml_X1_33 : Cond.methodLink RX1 33 yJ7_fill_d0a16 ∈ gtbl := (gtbl_t tbin5 93 rfl rfl)
theorem ml_X1_51 : Cond.methodLink RX1 51 yX1_holdersNow ∈ gtbl := (gtbl_t tbin5 96 rfl rfl)
theorem ml_X1_67 : Cond.methodLink RX1 67 yX7_deathBehind ∈ gtbl := (gtbl_t tbin5 100 rfl rfl)
theorem ml_X7_115 : Cond.methodLink RX7 115 yX7_diesAheadOf ∈ gtbl := (gtbl_t tbin5 104 rfl rfl)
theorem ml_X1_80 : Cond.methodLink RX1 80 yX4_chooseTaker ∈ gtbl := (gtbl_t tbin5 108 rfl rfl)
theorem ml_X1_97 : Cond.methodLink RX1 97 yX1_passOn ∈ gtbl := (gtbl_t tbin5 109 rfl rfl)
theorem ml_X1_101 : Cond.methodLink RX1 101 yX7_childrenOf ∈ gtbl := (gtbl_t tbin5 113 rfl rfl)
theorem ml_X1_104 : Cond.methodLink RX1 104 yX7_livingOn ∈ gtbl := (gtbl_t tbin5 114 rfl rfl)
theorem ml_X1_107 : Cond.methodLink RX1 107 yX7_heirsOf ∈ gtbl := (gtbl_t tbin5 115 rfl rfl)
theorem ml_X1_113 : Cond.methodLink RX1 113 yJ6_bitCount_0f7a4 ∈ gtbl := (gtbl_t tbin5 116 rfl rfl)
theorem ml_X1_118 : Cond.methodLink RX1 118 yX1_shareOut ∈ gtbl := (gtbl_t tbin5 117 rfl rfl)
theorem ml_X12_362 : Cond.methodLink RX12 362 yX12_holder ∈ gtbl := (gtbl_t tbin5 121 rfl rfl)
theorem ml_X12_369 : Cond.methodLink RX12 369 yX12_greatestDivisor ∈ gtbl := (gtbl_t tbin5 124 rfl rfl)
theorem ml_L_124 : Cond.methodLink RL 124 yX12_holders ∈ gtbl := (gtbl_t tbin5 127 rfl rfl)
theorem ml_X12_373 : Cond.methodLink RX12 373 yX1_holdersOn ∈ gtbl := (gtbl_t tbin5 131 rfl rfl)
theorem ml_X1_122 : Cond.methodLink RX1 122 yX1_goOn ∈ gtbl := (gtbl_t tbin5 135 rfl rfl)
theorem ml_L_128 : Cond.methodLink RL 128 yX12_wealth ∈ gtbl := (gtbl_t tbin5 136 rfl rfl)
theorem ml_X12_376 : Cond.methodLink RX12 376 yX1_wealthOf ∈ gtbl := (gtbl_t tbin5 140 rfl rfl)
theorem ml_L_132 : Cond.methodLink RL 132 yX12_ever ∈ gtbl := (gtbl_t tbin5 145 rfl rfl)
theorem ml_L_164 : Cond.methodLink RL 164 yX12_death ∈ gtbl := (gtbl_t tbin5 149 rfl rfl)
theorem ml_X12_382 : Cond.methodLink RX12 382 yX7_deathBehind ∈ gtbl := (gtbl_t tbin5 153 rfl rfl)
theorem ml_X12_385 : Cond.methodLink RX12 385 yX1_thingsLeftBy ∈ gtbl := (gtbl_t tbin5 154 rfl rfl)
theorem ml_L_168 : Cond.methodLink RL 168 yX12_moves ∈ gtbl := (gtbl_t tbin5 158 rfl rfl)
theorem ml_L_172 : Cond.methodLink RL 172 yX12_kin ∈ gtbl := (gtbl_t tbin5 162 rfl rfl)
theorem ml_X12_394 : Cond.methodLink RX12 394 yX7_nextOfKin ∈ gtbl := (gtbl_t tbin5 166 rfl rfl)
theorem ml_L_136 : Cond.methodLink RL 136 yX12_gain ∈ gtbl := (gtbl_t tbin5 170 rfl rfl)
theorem ml_X12_398 : Cond.methodLink RX12 398 yX1_wealthWithout ∈ gtbl := (gtbl_t tbin5 175 rfl rfl)
theorem ml_X1_142 : Cond.methodLink RX1 142 yX1_wealthOf ∈ gtbl := (gtbl_t tbin5 179 rfl rfl)
theorem ml_L_140 : Cond.methodLink RL 140 yX12_against ∈ gtbl := (gtbl_t tbin5 180 rfl rfl)
theorem ml_L_144 : Cond.methodLink RL 144 yX12_key ∈ gtbl := (gtbl_t tbin5 184 rfl rfl)
theorem ml_X12_401 : Cond.methodLink RX12 401 yX1_thingsOtherWithout ∈ gtbl := (gtbl_t tbin5 188 rfl rfl)
theorem ml_X1_145 : Cond.methodLink RX1 145 yX1_holdersOn ∈ gtbl := (gtbl_t tbin5 192 rfl rfl)
theorem ml_L_148 : Cond.methodLink RL 148 yX12_wouldPaper ∈ gtbl := (gtbl_t tbin5 193 rfl rfl)
theorem ml_L_152 : Cond.methodLink RL 152 yX12_wouldDie ∈ gtbl := (gtbl_t tbin5 197 rfl rfl)
theorem ml_X12_404 : Cond.methodLink RX12 404 yX1_holdersIfDying ∈ gtbl := (gtbl_t tbin5 201 rfl rfl)
theorem ml_L_156 : Cond.methodLink RL 156 yX12_dayFor ∈ gtbl := (gtbl_t tbin5 205 rfl rfl)
theorem ml_X12_408 : Cond.methodLink RX12 408 yX7_turnBehind ∈ gtbl := (gtbl_t tbin5 209 rfl rfl)
theorem ml_X7_119 : Cond.methodLink RX7 119 yX7_nearer ∈ gtbl := (gtbl_t tbin5 213 rfl rfl)
theorem ml_X7_123 : Cond.methodLink RX7 123 yJ9_max_7cf53 ∈ gtbl := (gtbl_t tbin5 216 rfl rfl)
theorem ml_X7_128 : Cond.methodLink RX7 128 yJ9_min_7cf53 ∈ gtbl := (gtbl_t tbin5 219 rfl rfl)
theorem ml_L_38 : Cond.methodLink RL 38 yL_person ∈ gtbl := (gtbl_t tbin5 220 rfl rfl)
theorem ml_L_7 : Cond.methodLink RL 7 yX12_person ∈ gtbl := (gtbl_t tbin5 225 rfl rfl)
theorem ml_X12_128 : Cond.methodLink RX12 128 yX7_childrenOf ∈ gtbl := (gtbl_t tbin6 55 rfl rfl)
theorem ml_X12_134 : Cond.methodLink RX12 134 yX7_lastWedUpTo ∈ gtbl := (gtbl_t tbin6 56 rfl rfl)
theorem ml_L_44 : Cond.methodLink RL 44 yL_paper ∈ gtbl := (gtbl_t tbin6 73 rfl rfl)
theorem ml_L_17 : Cond.methodLink RL 17 yX12_paper ∈ gtbl := (gtbl_t tbin6 76 rfl rfl)
theorem ml_L_23 : Cond.methodLink RL 23 yX13_init ∈ gtbl := (gtbl_t tbin6 83 rfl rfl)
theorem ml_X13_55 : Cond.methodLink RX13 55 yX13_begins ∈ gtbl := (gtbl_t tbin6 87 rfl rfl)
theorem ml_X13_58 : Cond.methodLink RX13 58 yX13_becomes ∈ gtbl := (gtbl_t tbin6 91 rfl rfl)
theorem ml_L_28 : Cond.methodLink RL 28 yX13_feed ∈ gtbl := (gtbl_t tbin6 195 rfl rfl)
theorem ml_L_33 : Cond.methodLink RL 33 yX13_text ∈ gtbl := (gtbl_t tbin6 199 rfl rfl)
theorem ml_X13_117 : Cond.methodLink RX13 117 yX13_token ∈ gtbl := (gtbl_t tbin6 203 rfl rfl)
theorem ml_X13_73 : Cond.methodLink RX13 73 yX13_here ∈ gtbl := (gtbl_t tbin6 207 rfl rfl)
theorem ml_X13_83 : Cond.methodLink RX13 83 yX13_isSmall ∈ gtbl := (gtbl_t tbin6 211 rfl rfl)
theorem ml_X13_90 : Cond.methodLink RX13 90 yX13_wordHere ∈ gtbl := (gtbl_t tbin6 214 rfl rfl)
theorem ml_X13_102 : Cond.methodLink RX13 102 yJ0_length_8abf5 ∈ gtbl := (gtbl_t tbin6 219 rfl rfl)
theorem ml_X13_107 : Cond.methodLink RX13 107 yJ0_charAt_5068e ∈ gtbl := (gtbl_t tbin6 220 rfl rfl)
theorem ml_X13_96 : Cond.methodLink RX13 96 yX13_isDigit ∈ gtbl := (gtbl_t tbin6 221 rfl rfl)
theorem ml_X13_197 : Cond.methodLink RX13 197 yX13_readLine ∈ gtbl := (gtbl_t tbin6 225 rfl rfl)
theorem ml_X13_170 : Cond.methodLink RX13 170 yX13_readLand ∈ gtbl := (gtbl_t tbin6 229 rfl rfl)
theorem ml_X13_128 : Cond.methodLink RX13 128 yX13_goOn ∈ gtbl := (gtbl_t tbin6 233 rfl rfl)
theorem ml_X13_124 : Cond.methodLink RX13 124 yX13_numberHere ∈ gtbl := (gtbl_t tbin6 237 rfl rfl)
theorem ml_X13_120 : Cond.methodLink RX13 120 yX13_wrong ∈ gtbl := (gtbl_t tbin7 1 rfl rfl)
theorem ml_X13_142 : Cond.methodLink RX13 142 yX13_number ∈ gtbl := (gtbl_t tbin7 5 rfl rfl)
theorem ml_X13_145 : Cond.methodLink RX13 145 yX13_isWord ∈ gtbl := (gtbl_t tbin7 9 rfl rfl)
theorem ml_X13_173 : Cond.methodLink RX13 173 yX13_readPerson ∈ gtbl := (gtbl_t tbin7 13 rfl rfl)
theorem ml_X13_148 : Cond.methodLink RX13 148 yX13_newName ∈ gtbl := (gtbl_t tbin7 17 rfl rfl)
theorem ml_X13_131 : Cond.methodLink RX13 131 yX13_isOther ∈ gtbl := (gtbl_t tbin7 21 rfl rfl)
theorem ml_X13_135 : Cond.methodLink RX13 135 yX13_namedHere ∈ gtbl := (gtbl_t tbin7 25 rfl rfl)
theorem ml_X13_176 : Cond.methodLink RX13 176 yX13_readChild ∈ gtbl := (gtbl_t tbin7 29 rfl rfl)
theorem ml_X13_151 : Cond.methodLink RX13 151 yX13_told ∈ gtbl := (gtbl_t tbin7 33 rfl rfl)
theorem ml_X13_139 : Cond.methodLink RX13 139 yX13_toldHere ∈ gtbl := (gtbl_t tbin7 37 rfl rfl)
theorem ml_X13_154 : Cond.methodLink RX13 154 yJ6_bitCount_0f7a4 ∈ gtbl := (gtbl_t tbin7 41 rfl rfl)
theorem ml_X13_179 : Cond.methodLink RX13 179 yX13_readWed ∈ gtbl := (gtbl_t tbin7 42 rfl rfl)
theorem ml_X13_159 : Cond.methodLink RX13 159 yX13_weds ∈ gtbl := (gtbl_t tbin7 46 rfl rfl)
theorem ml_X13_182 : Cond.methodLink RX13 182 yX13_readThing ∈ gtbl := (gtbl_t tbin7 49 rfl rfl)
theorem ml_X13_185 : Cond.methodLink RX13 185 yX13_readPaper ∈ gtbl := (gtbl_t tbin7 53 rfl rfl)
theorem ml_X13_163 : Cond.methodLink RX13 163 yX13_readPart ∈ gtbl := (gtbl_t tbin7 57 rfl rfl)
theorem ml_X13_167 : Cond.methodLink RX13 167 yX13_readGive ∈ gtbl := (gtbl_t tbin7 61 rfl rfl)
theorem ml_X13_188 : Cond.methodLink RX13 188 yX13_readLost ∈ gtbl := (gtbl_t tbin7 65 rfl rfl)
theorem ml_X13_191 : Cond.methodLink RX13 191 yX13_readDies ∈ gtbl := (gtbl_t tbin7 69 rfl rfl)
theorem ml_L_37 : Cond.methodLink RL 37 yX13_fault ∈ gtbl := (gtbl_t tbin7 73 rfl rfl)
theorem ml_L_43 : Cond.methodLink RL 43 yX13_person ∈ gtbl := (gtbl_t tbin7 77 rfl rfl)
theorem ml_X13_206 : Cond.methodLink RX13 206 yX13_isPerson ∈ gtbl := (gtbl_t tbin7 81 rfl rfl)
theorem ml_X13_203 : Cond.methodLink RX13 203 yX13_diesOn ∈ gtbl := (gtbl_t tbin7 85 rfl rfl)
theorem ml_X13_209 : Cond.methodLink RX13 209 yX13_childrenOf ∈ gtbl := (gtbl_t tbin7 89 rfl rfl)
theorem ml_X13_212 : Cond.methodLink RX13 212 yX13_wedTo ∈ gtbl := (gtbl_t tbin7 93 rfl rfl)
theorem ml_L_46 : Cond.methodLink RL 46 yX13_paper ∈ gtbl := (gtbl_t tbin7 97 rfl rfl)
theorem ml_X13_215 : Cond.methodLink RX13 215 yX13_isPaper ∈ gtbl := (gtbl_t tbin7 101 rfl rfl)
theorem ml_X13_218 : Cond.methodLink RX13 218 yX13_of ∈ gtbl := (gtbl_t tbin7 105 rfl rfl)
theorem ml_L_50 : Cond.methodLink RL 50 yX13_thing ∈ gtbl := (gtbl_t tbin7 109 rfl rfl)
theorem ml_X13_221 : Cond.methodLink RX13 221 yX13_isThing ∈ gtbl := (gtbl_t tbin7 113 rfl rfl)
theorem ml_L_54 : Cond.methodLink RL 54 yX13_land ∈ gtbl := (gtbl_t tbin7 117 rfl rfl)
theorem ml_L_187 : Cond.methodLink RL 187 yX13_give ∈ gtbl := (gtbl_t tbin7 121 rfl rfl)
theorem ml_L_59 : Cond.methodLink RL 59 yX13_lose ∈ gtbl := (gtbl_t tbin7 125 rfl rfl)
theorem ml_X13_227 : Cond.methodLink RX13 227 yX13_puts ∈ gtbl := (gtbl_t tbin7 129 rfl rfl)
theorem ml_X13_224 : Cond.methodLink RX13 224 yX13_keeps ∈ gtbl := (gtbl_t tbin7 133 rfl rfl)
theorem ml_L_64 : Cond.methodLink RL 64 yX13_find ∈ gtbl := (gtbl_t tbin7 137 rfl rfl)
theorem ml_L_68 : Cond.methodLink RL 68 yX13_copy ∈ gtbl := (gtbl_t tbin7 141 rfl rfl)
theorem ml_L_72 : Cond.methodLink RL 72 yX13_witness ∈ gtbl := (gtbl_t tbin7 145 rfl rfl)
theorem ml_L_77 : Cond.methodLink RL 77 yX13_wed ∈ gtbl := (gtbl_t tbin7 149 rfl rfl)
theorem ml_X13_230 : Cond.methodLink RX13 230 yX13_isDay ∈ gtbl := (gtbl_t tbin7 153 rfl rfl)
theorem ml_L_81 : Cond.methodLink RL 81 yX13_dies ∈ gtbl := (gtbl_t tbin7 156 rfl rfl)
theorem ml_L_85 : Cond.methodLink RL 85 yX13_takeBack ∈ gtbl := (gtbl_t tbin7 160 rfl rfl)
theorem ml_L_90 : Cond.methodLink RL 90 yX13_undo ∈ gtbl := (gtbl_t tbin7 164 rfl rfl)
theorem ml_L_94 : Cond.methodLink RL 94 yX13_form ∈ gtbl := (gtbl_t tbin7 168 rfl rfl)
theorem ml_X13_242 : Cond.methodLink RX13 242 yX13_hasForm ∈ gtbl := (gtbl_t tbin7 172 rfl rfl)
theorem ml_X13_236 : Cond.methodLink RX13 236 yX13_living ∈ gtbl := (gtbl_t tbin7 176 rfl rfl)
theorem ml_X13_233 : Cond.methodLink RX13 233 yX13_lives ∈ gtbl := (gtbl_t tbin7 180 rfl rfl)
theorem ml_X13_239 : Cond.methodLink RX13 239 yX13_has ∈ gtbl := (gtbl_t tbin7 184 rfl rfl)
theorem ml_L_98 : Cond.methodLink RL 98 yX13_why ∈ gtbl := (gtbl_t tbin7 188 rfl rfl)
theorem ml_X13_263 : Cond.methodLink RX13 263 yX13_whyNot ∈ gtbl := (gtbl_t tbin7 192 rfl rfl)
theorem ml_X13_254 : Cond.methodLink RX13 254 yX13_lacks ∈ gtbl := (gtbl_t tbin7 196 rfl rfl)
theorem ml_X13_245 : Cond.methodLink RX13 245 yX13_isProved ∈ gtbl := (gtbl_t tbin7 200 rfl rfl)
theorem ml_X13_248 : Cond.methodLink RX13 248 yX13_landOf ∈ gtbl := (gtbl_t tbin7 204 rfl rfl)
theorem ml_X13_257 : Cond.methodLink RX13 257 yX13_struck ∈ gtbl := (gtbl_t tbin7 208 rfl rfl)
theorem ml_X13_251 : Cond.methodLink RX13 251 yX13_isLater ∈ gtbl := (gtbl_t tbin7 212 rfl rfl)
theorem ml_X13_260 : Cond.methodLink RX13 260 yX13_isBroken ∈ gtbl := (gtbl_t tbin7 216 rfl rfl)
theorem ml_L_102 : Cond.methodLink RL 102 yX13_struckBy ∈ gtbl := (gtbl_t tbin7 220 rfl rfl)
theorem ml_L_106 : Cond.methodLink RL 106 yX13_counting ∈ gtbl := (gtbl_t tbin7 224 rfl rfl)
theorem ml_X13_266 : Cond.methodLink RX13 266 yX13_countingAt ∈ gtbl := (gtbl_t tbin7 228 rfl rfl)
theorem ml_L_110 : Cond.methodLink RL 110 yX13_taker ∈ gtbl := (gtbl_t tbin7 232 rfl rfl)
theorem ml_X13_284 : Cond.methodLink RX13 284 yX13_laysTaker ∈ gtbl := (gtbl_t tbin7 236 rfl rfl)
theorem ml_X13_280 : Cond.methodLink RX13 280 yX13_takerBy ∈ gtbl := (gtbl_t tbin8 0 rfl rfl)
theorem ml_X13_270 : Cond.methodLink RX13 270 yX13_mayTake ∈ gtbl := (gtbl_t tbin8 4 rfl rfl)
theorem ml_L_114 : Cond.methodLink RL 114 yX13_takerBy_ ∈ gtbl := (gtbl_t tbin8 8 rfl rfl)
theorem ml_L_118 : Cond.methodLink RL 118 yX13_heirs ∈ gtbl := (gtbl_t tbin8 12 rfl rfl)
theorem ml_X13_290 : Cond.methodLink RX13 290 yX13_heirsOf ∈ gtbl := (gtbl_t tbin8 16 rfl rfl)
theorem ml_X13_288 : Cond.methodLink RX13 288 yX13_living_ ∈ gtbl := (gtbl_t tbin8 20 rfl rfl)
theorem ml_L_123 : Cond.methodLink RL 123 yX13_has_ ∈ gtbl := (gtbl_t tbin8 24 rfl rfl)
theorem ml_X13_329 : Cond.methodLink RX13 329 yX13_laysParts ∈ gtbl := (gtbl_t tbin8 29 rfl rfl)
theorem ml_X13_306 : Cond.methodLink RX13 306 yX13_holding ∈ gtbl := (gtbl_t tbin8 33 rfl rfl)
theorem ml_X13_321 : Cond.methodLink RX13 321 yX13_nextDeath ∈ gtbl := (gtbl_t tbin8 37 rfl rfl)
theorem ml_X13_324 : Cond.methodLink RX13 324 yX13_goesOn ∈ gtbl := (gtbl_t tbin8 41 rfl rfl)
theorem ml_X13_301 : Cond.methodLink RX13 301 yX13_alike ∈ gtbl := (gtbl_t tbin8 45 rfl rfl)
theorem ml_X13_297 : Cond.methodLink RX13 297 yX13_comes ∈ gtbl := (gtbl_t tbin8 49 rfl rfl)
theorem ml_X13_293 : Cond.methodLink RX13 293 yX13_common ∈ gtbl := (gtbl_t tbin8 53 rfl rfl)
theorem ml_L_127 : Cond.methodLink RL 127 yX13_holders ∈ gtbl := (gtbl_t tbin8 57 rfl rfl)
theorem ml_X13_332 : Cond.methodLink RX13 332 yX13_holdersIn ∈ gtbl := (gtbl_t tbin8 61 rfl rfl)
theorem ml_L_131 : Cond.methodLink RL 131 yX13_wealth ∈ gtbl := (gtbl_t tbin8 65 rfl rfl)
theorem ml_X13_337 : Cond.methodLink RX13 337 yX13_wealthOf ∈ gtbl := (gtbl_t tbin8 69 rfl rfl)
theorem ml_L_135 : Cond.methodLink RL 135 yX13_ever ∈ gtbl := (gtbl_t tbin8 74 rfl rfl)
theorem ml_L_167 : Cond.methodLink RL 167 yX13_death ∈ gtbl := (gtbl_t tbin8 78 rfl rfl)
theorem ml_L_171 : Cond.methodLink RL 171 yX13_moves ∈ gtbl := (gtbl_t tbin8 82 rfl rfl)
theorem ml_L_175 : Cond.methodLink RL 175 yX13_kin ∈ gtbl := (gtbl_t tbin8 86 rfl rfl)
theorem ml_X13_340 : Cond.methodLink RX13 340 yX13_nextKin ∈ gtbl := (gtbl_t tbin8 90 rfl rfl)
theorem ml_L_179 : Cond.methodLink RL 179 yX13_naming ∈ gtbl := (gtbl_t tbin8 94 rfl rfl)
theorem ml_X13_343 : Cond.methodLink RX13 343 yX13_namedIn ∈ gtbl := (gtbl_t tbin8 98 rfl rfl)
theorem ml_L_139 : Cond.methodLink RL 139 yX13_gain ∈ gtbl := (gtbl_t tbin8 102 rfl rfl)
theorem ml_X13_346 : Cond.methodLink RX13 346 yX13_gainOf ∈ gtbl := (gtbl_t tbin8 106 rfl rfl)
theorem ml_L_143 : Cond.methodLink RL 143 yX13_against ∈ gtbl := (gtbl_t tbin8 111 rfl rfl)
theorem ml_L_147 : Cond.methodLink RL 147 yX13_key ∈ gtbl := (gtbl_t tbin8 115 rfl rfl)
theorem ml_X13_353 : Cond.methodLink RX13 353 yX13_others ∈ gtbl := (gtbl_t tbin8 119 rfl rfl)
theorem ml_X13_350 : Cond.methodLink RX13 350 yX13_wouldBe ∈ gtbl := (gtbl_t tbin8 123 rfl rfl)
theorem ml_L_151 : Cond.methodLink RL 151 yX13_wouldPaper ∈ gtbl := (gtbl_t tbin8 127 rfl rfl)
theorem ml_L_155 : Cond.methodLink RL 155 yX13_wouldDie ∈ gtbl := (gtbl_t tbin8 131 rfl rfl)
theorem ml_L_159 : Cond.methodLink RL 159 yX13_dayFor ∈ gtbl := (gtbl_t tbin8 135 rfl rfl)
theorem ml_X13_362 : Cond.methodLink RX13 362 yX13_laysDays ∈ gtbl := (gtbl_t tbin8 139 rfl rfl)
theorem ml_X13_359 : Cond.methodLink RX13 359 yX13_laysDay ∈ gtbl := (gtbl_t tbin8 143 rfl rfl)
theorem ml_L_163 : Cond.methodLink RL 163 yX13_margin ∈ gtbl := (gtbl_t tbin8 147 rfl rfl)
theorem ml_X13_365 : Cond.methodLink RX13 365 yJ9_min_7cf53 ∈ gtbl := (gtbl_t tbin8 151 rfl rfl)
theorem ml_L_183 : Cond.methodLink RL 183 yX13_sees ∈ gtbl := (gtbl_t tbin8 152 rfl rfl)
theorem ml_L_191 : Cond.methodLink RL 191 yX13_count ∈ gtbl := (gtbl_t tbin8 156 rfl rfl)
theorem ml_X13_370 : Cond.methodLink RX13 370 yX13_manyLost ∈ gtbl := (gtbl_t tbin8 160 rfl rfl)
theorem ml_X13_373 : Cond.methodLink RX13 373 yX13_manyDie ∈ gtbl := (gtbl_t tbin8 164 rfl rfl)
theorem kc_X11_70 : Cond.constant RX11 70 100000 ∈ gtbl := (gtbl_t tbin3 68 rfl rfl)
theorem kc_J6_265 : Cond.constant RJ6 265 1431655765 ∈ gtbl := (gtbl_t tbin3 226 rfl rfl)
theorem kc_J6_266 : Cond.constant RJ6 266 858993459 ∈ gtbl := (gtbl_t tbin3 227 rfl rfl)
theorem kc_J6_267 : Cond.constant RJ6 267 252645135 ∈ gtbl := (gtbl_t tbin3 228 rfl rfl)
theorem kc_X12_353 : Cond.constantLong RX12 353 (-1) ∈ gtbl := (gtbl_t tbin5 87 rfl rfl)
theorem kc_X1_128 : Cond.constantLong RX1 128 100 ∈ gtbl := (gtbl_t tbin5 144 rfl rfl)
theorem kc_X12_397 : Cond.constant RX12 397 (-1000000) ∈ gtbl := (gtbl_t tbin5 174 rfl rfl)
theorem kc_X13_99 : Cond.constant RX13 99 99999 ∈ gtbl := (gtbl_t tbin6 224 rfl rfl)
theorem kc_X13_327 : Cond.constantLong RX13 327 (-1) ∈ gtbl := (gtbl_t tbin8 28 rfl rfl)
theorem kc_X13_304 : Cond.constantLong RX13 304 2 ∈ gtbl := (gtbl_t tbin8 56 rfl rfl)
theorem kc_X13_335 : Cond.constantLong RX13 335 100 ∈ gtbl := (gtbl_t tbin8 73 rfl rfl)
theorem kc_X13_349 : Cond.constant RX13 349 (-1000000) ∈ gtbl := (gtbl_t tbin8 110 rfl rfl)
theorem letIx_lt (i : Nat) : letIx i < 23 := by unfold letIx; split <;> omega
theorem tl_X11_28 : Cond.fieldLink RX11 28 "WillDeposit$Token" (tokNm.getD 25 "") "LWillDeposit$Token;" ∈ gtbl := (gtbl_t tbin2 86 rfl rfl)
theorem tl_X11_71 : Cond.fieldLink RX11 71 "WillDeposit$Token" (tokNm.getD 22 "") "LWillDeposit$Token;" ∈ gtbl := (gtbl_t tbin3 69 rfl rfl)
theorem cs_J0_38 : Cond.fieldLink RJ0 38 "java/lang/String" "COMPACT_STRINGS" "Z" ∈ gtbl := (gtbl_t tbin3 96 rfl rfl)
theorem sb_J0_1053 : Cond.fieldLink RJ0 1053 "jdk/internal/util/Preconditions" "SIOOBE_FORMATTER" "Ljava/util/function/BiFunction;" ∈ gtbl := (gtbl_t tbin3 112 rfl rfl)
theorem tl_X11_78 : Cond.fieldLink RX11 78 "WillDeposit$Token" (tokNm.getD 21 "") "LWillDeposit$Token;" ∈ gtbl := (gtbl_t tbin3 136 rfl rfl)
theorem tl_X11_67 : Cond.fieldLink RX11 67 "WillDeposit$Token" (tokNm.getD 24 "") "LWillDeposit$Token;" ∈ gtbl := (gtbl_t tbin3 138 rfl rfl)
theorem tl_X11_64 : Cond.fieldLink RX11 64 "WillDeposit$Token" (tokNm.getD 23 "") "LWillDeposit$Token;" ∈ gtbl := (gtbl_t tbin3 140 rfl rfl)
theorem tl_X8_48 : Cond.fieldLink RX8 48 "WillDeposit$Token" (tokNm.getD 25 "") "LWillDeposit$Token;" ∈ gtbl := (gtbl_t tbin3 151 rfl rfl)
theorem sl_X8_54 : Cond.fieldLink RX8 54 "WillDeposit$1" "$SwitchMap$WillDeposit$Token" "[I" ∈ gtbl := (gtbl_t tbin3 152 rfl rfl)
theorem tl_X8_307 : Cond.fieldLink RX8 307 "WillDeposit$Token" (tokNm.getD 22 "") "LWillDeposit$Token;" ∈ gtbl := (gtbl_t tbin3 172 rfl rfl)
theorem tl_X8_117 : Cond.fieldLink RX8 117 "WillDeposit$Token" (tokNm.getD 23 "") "LWillDeposit$Token;" ∈ gtbl := (gtbl_t tbin3 181 rfl rfl)
theorem tl_X8_295 : Cond.fieldLink RX8 295 "WillDeposit$Token" (tokNm.getD 21 "") "LWillDeposit$Token;" ∈ gtbl := (gtbl_t tbin3 202 rfl rfl)
theorem tl_X8_258 : Cond.fieldLink RX8 258 "WillDeposit$Token" (tokNm.getD 16 "") "LWillDeposit$Token;" ∈ gtbl := (gtbl_t tbin4 37 rfl rfl)
theorem tl_X8_261 : Cond.fieldLink RX8 261 "WillDeposit$Token" (tokNm.getD 17 "") "LWillDeposit$Token;" ∈ gtbl := (gtbl_t tbin4 39 rfl rfl)
theorem tl_X8_264 : Cond.fieldLink RX8 264 "WillDeposit$Token" (tokNm.getD 18 "") "LWillDeposit$Token;" ∈ gtbl := (gtbl_t tbin4 41 rfl rfl)
theorem ll_X11_84 : Cond.fieldLink RX11 84 "WillDeposit$Token" "letters" "Ljava/lang/String;" ∈ gtbl := (gtbl_t tbin8 186 rfl rfl)
theorem jl_J0_9 : Cond.fieldLink RJ0 9 "java/lang/String" "value" "[B" ∈ gtbl := (gtbl_t tbin8 187 rfl rfl)
theorem jl_J0_15 : Cond.fieldLink RJ0 15 "java/lang/String" "coder" "B" ∈ gtbl := (gtbl_t tbin8 188 rfl rfl)
theorem ol_Jx29ce0_7 : Cond.fieldLink RJx29ce0 7 "java/lang/Enum" "ordinal" "I" ∈ gtbl := (gtbl_t tbin8 189 rfl rfl)
theorem ms_min : Cond.static Lib.Math.min.name ∈ gtbl := (gtbl_t tbin3 55 rfl rfl)
theorem mc_min : Cond.code Lib.Math.min.name Lib.Math.min.code 2 (some .int) ∈ gtbl := (gtbl_t tbin3 56 rfl rfl)
theorem ms_max : Cond.static Lib.Math.max.name ∈ gtbl := (gtbl_t tbin5 217 rfl rfl)
theorem mc_max : Cond.code Lib.Math.max.name Lib.Math.max.code 2 (some .int) ∈ gtbl := (gtbl_t tbin5 218 rfl rfl)
theorem ms_ini : Cond.initialized "java/lang/Math" ∈ gtbl := (gtbl_t tbin1 15 rfl rfl)
theorem xl_105 : Cond.classLink "WillDeposit" 105 exI ∈ gtbl := (gtbl_t tbin5 229 rfl rfl)
theorem xi_1 : Cond.initialized exI ∈ gtbl := (gtbl_t tbin1 25 rfl rfl)
theorem xl_138 : Cond.classLink "WillDeposit" 138 exN ∈ gtbl := (gtbl_t tbin6 57 rfl rfl)
theorem xi_2 : Cond.initialized exN ∈ gtbl := (gtbl_t tbin1 26 rfl rfl)
def yTokOrd : MethodName := ⟨"WillDeposit$Token", "ordinal", "()I"⟩
theorem ow_sm : Cond.sameMethod yTokOrd.cls "java/lang/Enum" yTokOrd.name yTokOrd.desc ∈ gtbl := (gtbl_t tbin3 155 rfl rfl)
theorem ow_sel : Cond.selects "WillDeposit$Token" yTokOrd yJx29ce0_ordinal_8abf5 ∈ gtbl := (gtbl_t tbin3 157 rfl rfl)
theorem ow_in : Cond.instanceMethod yJx29ce0_ordinal_8abf5 ∈ gtbl := (gtbl_t tbin3 158 rfl rfl)
theorem ow_ini : Cond.initialized yJx29ce0_ordinal_8abf5.cls ∈ gtbl := (gtbl_t tbin1 8 rfl rfl)
theorem ow_code : Cond.code yJx29ce0_ordinal_8abf5 cJx29ce0_ordinal_8abf5 1 (some .int) ∈ gtbl := (gtbl_t tbin3 159 rfl rfl)
theorem ow_sg : (parseMethodDescriptor yTokOrd.desc).map (fun d => d.parameters.length) = some 0 := by decide +kernel
theorem mo_X8_59 : Cond.methodLink RX8 59 yTokOrd ∈ gtbl := (gtbl_t tbin3 154 rfl rfl)
theorem mt_X1_goOn : gMt yX1_goOn cX1_goOn 6 none := ⟨(gtbl_t tbin5 89 rfl rfl), (gtbl_t tbin5 90 rfl rfl), (gtbl_t tbin1 12 rfl rfl), (gtbl_t tbin5 91 rfl rfl), by decide +kernel, by decide +kernel⟩
theorem sg_X1_goOn : (parseMethodDescriptor yX1_goOn.desc).map (fun d => d.parameters.length) = some 2 := by decide +kernel
theorem mt_X1_passOn : gMt yX1_passOn cX1_passOn 5 none := ⟨(gtbl_t tbin5 111 rfl rfl), (gtbl_in 44 rfl rfl), (gtbl_t tbin1 12 rfl rfl), (gtbl_t tbin5 112 rfl rfl), by decide +kernel, by decide +kernel⟩
theorem sg_X1_passOn : (parseMethodDescriptor yX1_passOn.desc).map (fun d => d.parameters.length) = some 2 := by decide +kernel
theorem mt_X1_shareOut : gMt yX1_shareOut cX1_shareOut 9 none := ⟨(gtbl_t tbin5 119 rfl rfl), (gtbl_in 45 rfl rfl), (gtbl_t tbin1 12 rfl rfl), (gtbl_t tbin5 120 rfl rfl), by decide +kernel, by decide +kernel⟩
theorem sg_X1_shareOut : (parseMethodDescriptor yX1_shareOut.desc).map (fun d => d.parameters.length) = some 4 := by decide +kernel
theorem mt_X1_holdersNow : gMt yX1_holdersNow cX1_holdersNow 3 (some .int) := ⟨(gtbl_t tbin5 98 rfl rfl), (gtbl_in 42 rfl rfl), (gtbl_t tbin1 12 rfl rfl), (gtbl_t tbin5 99 rfl rfl), by decide +kernel, by decide +kernel⟩
theorem sg_X1_holdersNow : (parseMethodDescriptor yX1_holdersNow.desc).map (fun d => d.parameters.length) = some 0 := by decide +kernel
theorem mt_X1_holdersOn : gMt yX1_holdersOn cX1_holdersOn 3 (some .int) := ⟨(gtbl_t tbin5 132 rfl rfl), (gtbl_t tbin5 133 rfl rfl), (gtbl_t tbin1 12 rfl rfl), (gtbl_t tbin5 134 rfl rfl), by decide +kernel, by decide +kernel⟩
theorem sg_X1_holdersOn : (parseMethodDescriptor yX1_holdersOn.desc).map (fun d => d.parameters.length) = some 2 := by decide +kernel
theorem mt_X1_wealthOf : gMt yX1_wealthOf cX1_wealthOf 5 (some .int) := ⟨(gtbl_t tbin5 141 rfl rfl), (gtbl_t tbin5 142 rfl rfl), (gtbl_t tbin1 12 rfl rfl), (gtbl_t tbin5 143 rfl rfl), by decide +kernel, by decide +kernel⟩
theorem sg_X1_wealthOf : (parseMethodDescriptor yX1_wealthOf.desc).map (fun d => d.parameters.length) = some 1 := by decide +kernel
theorem mt_X1_wealthWithout : gMt yX1_wealthWithout cX1_wealthWithout 6 (some .int) := ⟨(gtbl_t tbin5 176 rfl rfl), (gtbl_t tbin5 177 rfl rfl), (gtbl_t tbin1 12 rfl rfl), (gtbl_t tbin5 178 rfl rfl), by decide +kernel, by decide +kernel⟩
theorem sg_X1_wealthWithout : (parseMethodDescriptor yX1_wealthWithout.desc).map (fun d => d.parameters.length) = some 2 := by decide +kernel
theorem mt_X1_thingsOtherWithout : gMt yX1_thingsOtherWithout cX1_thingsOtherWithout 7 (some .int) := ⟨(gtbl_t tbin5 189 rfl rfl), (gtbl_t tbin5 190 rfl rfl), (gtbl_t tbin1 12 rfl rfl), (gtbl_t tbin5 191 rfl rfl), by decide +kernel, by decide +kernel⟩
theorem sg_X1_thingsOtherWithout : (parseMethodDescriptor yX1_thingsOtherWithout.desc).map (fun d => d.parameters.length) = some 1 := by decide +kernel
theorem mt_X1_holdersIfDying : gMt yX1_holdersIfDying cX1_holdersIfDying 7 (some .int) := ⟨(gtbl_t tbin5 202 rfl rfl), (gtbl_t tbin5 203 rfl rfl), (gtbl_t tbin1 12 rfl rfl), (gtbl_t tbin5 204 rfl rfl), by decide +kernel, by decide +kernel⟩
theorem sg_X1_holdersIfDying : (parseMethodDescriptor yX1_holdersIfDying.desc).map (fun d => d.parameters.length) = some 3 := by decide +kernel
theorem mt_X1_thingsLeftBy : gMt yX1_thingsLeftBy cX1_thingsLeftBy 4 (some .int) := ⟨(gtbl_t tbin5 155 rfl rfl), (gtbl_t tbin5 156 rfl rfl), (gtbl_t tbin1 12 rfl rfl), (gtbl_t tbin5 157 rfl rfl), by decide +kernel, by decide +kernel⟩
theorem sg_X1_thingsLeftBy : (parseMethodDescriptor yX1_thingsLeftBy.desc).map (fun d => d.parameters.length) = some 1 := by decide +kernel
theorem mt_X2_forgetAll : gMt yX2_forgetAll cX2_forgetAll 1 none := ⟨(gtbl_t tbin4 80 rfl rfl), (gtbl_t tbin4 81 rfl rfl), (gtbl_t tbin1 13 rfl rfl), (gtbl_t tbin4 82 rfl rfl), by decide +kernel, by decide +kernel⟩
theorem sg_X2_forgetAll : (parseMethodDescriptor yX2_forgetAll.desc).map (fun d => d.parameters.length) = some 0 := by decide +kernel
theorem mt_X2_keep : gMt yX2_keep cX2_keep 4 none := ⟨(gtbl_t tbin4 139 rfl rfl), (gtbl_t tbin4 140 rfl rfl), (gtbl_t tbin1 13 rfl rfl), (gtbl_t tbin4 141 rfl rfl), by decide +kernel, by decide +kernel⟩
theorem sg_X2_keep : (parseMethodDescriptor yX2_keep.desc).map (fun d => d.parameters.length) = some 3 := by decide +kernel
theorem mt_X2_undoLatest : gMt yX2_undoLatest cX2_undoLatest 3 none := ⟨(gtbl_t tbin4 186 rfl rfl), (gtbl_t tbin4 187 rfl rfl), (gtbl_t tbin1 13 rfl rfl), (gtbl_t tbin4 188 rfl rfl), by decide +kernel, by decide +kernel⟩
theorem sg_X2_undoLatest : (parseMethodDescriptor yX2_undoLatest.desc).map (fun d => d.parameters.length) = some 0 := by decide +kernel
theorem mt_X3_clear : gMt yX3_clear cX3_clear 1 none := ⟨(gtbl_t tbin2 3 rfl rfl), (gtbl_t tbin2 4 rfl rfl), (gtbl_t tbin1 3 rfl rfl), (gtbl_t tbin2 5 rfl rfl), by decide +kernel, by decide +kernel⟩
theorem sg_X3_clear : (parseMethodDescriptor yX3_clear.desc).map (fun d => d.parameters.length) = some 0 := by decide +kernel
theorem mt_X4_weigh : gMt yX4_weigh cX4_weigh 5 none := ⟨(gtbl_t tbin4 219 rfl rfl), (gtbl_t tbin4 220 rfl rfl), (gtbl_t tbin1 11 rfl rfl), (gtbl_t tbin4 221 rfl rfl), by decide +kernel, by decide +kernel⟩
theorem sg_X4_weigh : (parseMethodDescriptor yX4_weigh.desc).map (fun d => d.parameters.length) = some 1 := by decide +kernel
theorem mt_X4_countsOf : gMt yX4_countsOf cX4_countsOf 3 (some .boolean) := ⟨(gtbl_t tbin5 11 rfl rfl), (gtbl_t tbin5 12 rfl rfl), (gtbl_t tbin1 11 rfl rfl), (gtbl_t tbin5 13 rfl rfl), by decide +kernel, by decide +kernel⟩
theorem sg_X4_countsOf : (parseMethodDescriptor yX4_countsOf.desc).map (fun d => d.parameters.length) = some 2 := by decide +kernel
theorem mt_X4_whyNotGood : gMt yX4_whyNotGood cX4_whyNotGood 5 (some .int) := ⟨(gtbl_t tbin4 225 rfl rfl), (gtbl_in 35 rfl rfl), (gtbl_t tbin1 11 rfl rfl), (gtbl_t tbin4 226 rfl rfl), by decide +kernel, by decide +kernel⟩
theorem sg_X4_whyNotGood : (parseMethodDescriptor yX4_whyNotGood.desc).map (fun d => d.parameters.length) = some 3 := by decide +kernel
theorem mt_X4_hasForm : gMt yX4_hasForm cX4_hasForm 4 (some .boolean) := ⟨(gtbl_t tbin4 207 rfl rfl), (gtbl_t tbin4 208 rfl rfl), (gtbl_t tbin1 11 rfl rfl), (gtbl_t tbin4 209 rfl rfl), by decide +kernel, by decide +kernel⟩
theorem sg_X4_hasForm : (parseMethodDescriptor yX4_hasForm.desc).map (fun d => d.parameters.length) = some 3 := by decide +kernel
theorem mt_X4_hasFormByHand : gMt yX4_hasFormByHand cX4_hasFormByHand 3 (some .boolean) := ⟨(gtbl_t tbin4 211 rfl rfl), (gtbl_t tbin4 212 rfl rfl), (gtbl_t tbin1 11 rfl rfl), (gtbl_t tbin4 213 rfl rfl), by decide +kernel, by decide +kernel⟩
theorem sg_X4_hasFormByHand : (parseMethodDescriptor yX4_hasFormByHand.desc).map (fun d => d.parameters.length) = some 2 := by decide +kernel
theorem mt_X4_witnessesWhoLived : gMt yX4_witnessesWhoLived cX4_witnessesWhoLived 2 (some .int) := ⟨(gtbl_t tbin4 194 rfl rfl), (gtbl_t tbin4 195 rfl rfl), (gtbl_t tbin1 11 rfl rfl), (gtbl_t tbin4 196 rfl rfl), by decide +kernel, by decide +kernel⟩
theorem sg_X4_witnessesWhoLived : (parseMethodDescriptor yX4_witnessesWhoLived.desc).map (fun d => d.parameters.length) = some 1 := by decide +kernel
theorem mt_X4_latestStriker : gMt yX4_latestStriker cX4_latestStriker 6 (some .int) := ⟨(gtbl_t tbin4 231 rfl rfl), (gtbl_in 36 rfl rfl), (gtbl_t tbin1 11 rfl rfl), (gtbl_t tbin4 232 rfl rfl), by decide +kernel, by decide +kernel⟩
theorem sg_X4_latestStriker : (parseMethodDescriptor yX4_latestStriker.desc).map (fun d => d.parameters.length) = some 1 := by decide +kernel
theorem mt_X4_isBroken : gMt yX4_isBroken cX4_isBroken 3 (some .boolean) := ⟨(gtbl_t tbin4 236 rfl rfl), (gtbl_in 37 rfl rfl), (gtbl_t tbin1 11 rfl rfl), (gtbl_t tbin4 237 rfl rfl), by decide +kernel, by decide +kernel⟩
theorem sg_X4_isBroken : (parseMethodDescriptor yX4_isBroken.desc).map (fun d => d.parameters.length) = some 1 := by decide +kernel
theorem mt_X4_chooseTaker : gMt yX4_chooseTaker cX4_chooseTaker 5 none := ⟨(gtbl_t tbin5 20 rfl rfl), (gtbl_t tbin5 21 rfl rfl), (gtbl_t tbin1 11 rfl rfl), (gtbl_t tbin5 22 rfl rfl), by decide +kernel, by decide +kernel⟩
theorem sg_X4_chooseTaker : (parseMethodDescriptor yX4_chooseTaker.desc).map (fun d => d.parameters.length) = some 2 := by decide +kernel
theorem mt_X4_takerByGives : gMt yX4_takerByGives cX4_takerByGives 4 (some .int) := ⟨(gtbl_t tbin5 26 rfl rfl), (gtbl_in 38 rfl rfl), (gtbl_t tbin1 11 rfl rfl), (gtbl_t tbin5 27 rfl rfl), by decide +kernel, by decide +kernel⟩
theorem sg_X4_takerByGives : (parseMethodDescriptor yX4_takerByGives.desc).map (fun d => d.parameters.length) = some 2 := by decide +kernel
theorem mt_X4_isSo : gMt yX4_isSo cX4_isSo 5 (some .boolean) := ⟨(gtbl_t tbin5 30 rfl rfl), (gtbl_in 39 rfl rfl), (gtbl_t tbin1 11 rfl rfl), (gtbl_t tbin5 31 rfl rfl), by decide +kernel, by decide +kernel⟩
theorem sg_X4_isSo : (parseMethodDescriptor yX4_isSo.desc).map (fun d => d.parameters.length) = some 2 := by decide +kernel
theorem mt_X4_mayTake : gMt yX4_mayTake cX4_mayTake 4 (some .boolean) := ⟨(gtbl_t tbin5 36 rfl rfl), (gtbl_in 40 rfl rfl), (gtbl_t tbin1 11 rfl rfl), (gtbl_t tbin5 37 rfl rfl), by decide +kernel, by decide +kernel⟩
theorem sg_X4_mayTake : (parseMethodDescriptor yX4_mayTake.desc).map (fun d => d.parameters.length) = some 3 := by decide +kernel
theorem mt_X5_clear : gMt yX5_clear cX5_clear 1 none := ⟨(gtbl_t tbin4 10 rfl rfl), (gtbl_t tbin4 11 rfl rfl), (gtbl_t tbin1 6 rfl rfl), (gtbl_t tbin4 12 rfl rfl), by decide +kernel, by decide +kernel⟩
theorem sg_X5_clear : (parseMethodDescriptor yX5_clear.desc).map (fun d => d.parameters.length) = some 0 := by decide +kernel
theorem mt_X5_isLost : gMt yX5_isLost cX5_isLost 1 (some .boolean) := ⟨(gtbl_t tbin4 64 rfl rfl), (gtbl_t tbin4 65 rfl rfl), (gtbl_t tbin1 6 rfl rfl), (gtbl_t tbin4 66 rfl rfl), by decide +kernel, by decide +kernel⟩
theorem sg_X5_isLost : (parseMethodDescriptor yX5_isLost.desc).map (fun d => d.parameters.length) = some 0 := by decide +kernel
theorem mt_X5_isWitness : gMt yX5_isWitness cX5_isWitness 2 (some .boolean) := ⟨(gtbl_t tbin4 26 rfl rfl), (gtbl_t tbin4 27 rfl rfl), (gtbl_t tbin1 6 rfl rfl), (gtbl_t tbin4 28 rfl rfl), by decide +kernel, by decide +kernel⟩
theorem sg_X5_isWitness : (parseMethodDescriptor yX5_isWitness.desc).map (fun d => d.parameters.length) = some 1 := by decide +kernel
theorem mt_X5_strikes : gMt yX5_strikes cX5_strikes 2 (some .boolean) := ⟨(gtbl_t tbin4 52 rfl rfl), (gtbl_t tbin4 53 rfl rfl), (gtbl_t tbin1 6 rfl rfl), (gtbl_t tbin4 54 rfl rfl), by decide +kernel, by decide +kernel⟩
theorem sg_X5_strikes : (parseMethodDescriptor yX5_strikes.desc).map (fun d => d.parameters.length) = some 1 := by decide +kernel
theorem mt_X5_givesTo : gMt yX5_givesTo cX5_givesTo 3 (some .boolean) := ⟨(gtbl_t tbin5 71 rfl rfl), (gtbl_t tbin5 72 rfl rfl), (gtbl_t tbin1 6 rfl rfl), (gtbl_t tbin5 73 rfl rfl), by decide +kernel, by decide +kernel⟩
theorem sg_X5_givesTo : (parseMethodDescriptor yX5_givesTo.desc).map (fun d => d.parameters.length) = some 1 := by decide +kernel
theorem mt_X6_isMortal : gMt yX6_isMortal cX6_isMortal 1 (some .boolean) := ⟨(gtbl_t tbin4 72 rfl rfl), (gtbl_t tbin4 73 rfl rfl), (gtbl_t tbin1 4 rfl rfl), (gtbl_t tbin4 74 rfl rfl), by decide +kernel, by decide +kernel⟩
theorem sg_X6_isMortal : (parseMethodDescriptor yX6_isMortal.desc).map (fun d => d.parameters.length) = some 0 := by decide +kernel
theorem mt_X6_livesOn : gMt yX6_livesOn cX6_livesOn 2 (some .boolean) := ⟨(gtbl_t tbin4 202 rfl rfl), (gtbl_t tbin4 203 rfl rfl), (gtbl_t tbin1 4 rfl rfl), (gtbl_t tbin4 204 rfl rfl), by decide +kernel, by decide +kernel⟩
theorem sg_X6_livesOn : (parseMethodDescriptor yX6_livesOn.desc).map (fun d => d.parameters.length) = some 1 := by decide +kernel
theorem mt_X7_clear : gMt yX7_clear cX7_clear 2 none := ⟨(gtbl_t tbin1 239 rfl rfl), (gtbl_t tbin2 0 rfl rfl), (gtbl_t tbin1 2 rfl rfl), (gtbl_t tbin2 1 rfl rfl), by decide +kernel, by decide +kernel⟩
theorem sg_X7_clear : (parseMethodDescriptor yX7_clear.desc).map (fun d => d.parameters.length) = some 0 := by decide +kernel
theorem mt_X7_isPerson : gMt yX7_isPerson cX7_isPerson 2 (some .boolean) := ⟨(gtbl_t tbin4 157 rfl rfl), (gtbl_t tbin4 158 rfl rfl), (gtbl_t tbin1 2 rfl rfl), (gtbl_t tbin4 159 rfl rfl), by decide +kernel, by decide +kernel⟩
theorem sg_X7_isPerson : (parseMethodDescriptor yX7_isPerson.desc).map (fun d => d.parameters.length) = some 1 := by decide +kernel
theorem mt_X7_isThing : gMt yX7_isThing cX7_isThing 2 (some .boolean) := ⟨(gtbl_t tbin4 92 rfl rfl), (gtbl_t tbin4 93 rfl rfl), (gtbl_t tbin1 2 rfl rfl), (gtbl_t tbin4 94 rfl rfl), by decide +kernel, by decide +kernel⟩
theorem sg_X7_isThing : (parseMethodDescriptor yX7_isThing.desc).map (fun d => d.parameters.length) = some 1 := by decide +kernel
theorem mt_X7_isPaper : gMt yX7_isPaper cX7_isPaper 2 (some .boolean) := ⟨(gtbl_t tbin4 110 rfl rfl), (gtbl_t tbin4 111 rfl rfl), (gtbl_t tbin1 2 rfl rfl), (gtbl_t tbin4 112 rfl rfl), by decide +kernel, by decide +kernel⟩
theorem sg_X7_isPaper : (parseMethodDescriptor yX7_isPaper.desc).map (fun d => d.parameters.length) = some 1 := by decide +kernel
theorem mt_X7_addPerson : gMt yX7_addPerson cX7_addPerson 3 none := ⟨(gtbl_t tbin3 208 rfl rfl), (gtbl_t tbin3 209 rfl rfl), (gtbl_t tbin1 2 rfl rfl), (gtbl_t tbin3 210 rfl rfl), by decide +kernel, by decide +kernel⟩
theorem sg_X7_addPerson : (parseMethodDescriptor yX7_addPerson.desc).map (fun d => d.parameters.length) = some 1 := by decide +kernel
theorem mt_X7_addThing : gMt yX7_addThing cX7_addThing 5 none := ⟨(gtbl_t tbin4 2 rfl rfl), (gtbl_t tbin4 3 rfl rfl), (gtbl_t tbin1 2 rfl rfl), (gtbl_t tbin4 4 rfl rfl), by decide +kernel, by decide +kernel⟩
theorem sg_X7_addThing : (parseMethodDescriptor yX7_addThing.desc).map (fun d => d.parameters.length) = some 3 := by decide +kernel
theorem mt_X7_addWedding : gMt yX7_addWedding cX7_addWedding 4 none := ⟨(gtbl_t tbin3 234 rfl rfl), (gtbl_t tbin3 235 rfl rfl), (gtbl_t tbin1 2 rfl rfl), (gtbl_t tbin3 236 rfl rfl), by decide +kernel, by decide +kernel⟩
theorem sg_X7_addWedding : (parseMethodDescriptor yX7_addWedding.desc).map (fun d => d.parameters.length) = some 3 := by decide +kernel
theorem mt_X7_addFilledPaper : gMt yX7_addFilledPaper cX7_addFilledPaper 3 none := ⟨(gtbl_t tbin4 56 rfl rfl), (gtbl_t tbin4 57 rfl rfl), (gtbl_t tbin1 2 rfl rfl), (gtbl_t tbin4 58 rfl rfl), by decide +kernel, by decide +kernel⟩
theorem sg_X7_addFilledPaper : (parseMethodDescriptor yX7_addFilledPaper.desc).map (fun d => d.parameters.length) = some 0 := by decide +kernel
theorem mt_X7_lostPapers : gMt yX7_lostPapers cX7_lostPapers 3 (some .int) := ⟨(gtbl_t tbin4 121 rfl rfl), (gtbl_t tbin4 122 rfl rfl), (gtbl_t tbin1 2 rfl rfl), (gtbl_t tbin4 123 rfl rfl), by decide +kernel, by decide +kernel⟩
theorem sg_X7_lostPapers : (parseMethodDescriptor yX7_lostPapers.desc).map (fun d => d.parameters.length) = some 0 := by decide +kernel
theorem mt_X7_deaths : gMt yX7_deaths cX7_deaths 3 (some .int) := ⟨(gtbl_t tbin4 126 rfl rfl), (gtbl_t tbin4 127 rfl rfl), (gtbl_t tbin1 2 rfl rfl), (gtbl_t tbin4 128 rfl rfl), by decide +kernel, by decide +kernel⟩
theorem sg_X7_deaths : (parseMethodDescriptor yX7_deaths.desc).map (fun d => d.parameters.length) = some 0 := by decide +kernel
theorem mt_X7_livingOn : gMt yX7_livingOn cX7_livingOn 4 (some .int) := ⟨(gtbl_t tbin4 198 rfl rfl), (gtbl_t tbin4 199 rfl rfl), (gtbl_t tbin1 2 rfl rfl), (gtbl_t tbin4 200 rfl rfl), by decide +kernel, by decide +kernel⟩
theorem sg_X7_livingOn : (parseMethodDescriptor yX7_livingOn.desc).map (fun d => d.parameters.length) = some 1 := by decide +kernel
theorem mt_X7_childrenOf : gMt yX7_childrenOf cX7_childrenOf 4 (some .int) := ⟨(gtbl_t tbin5 53 rfl rfl), (gtbl_t tbin5 54 rfl rfl), (gtbl_t tbin1 2 rfl rfl), (gtbl_t tbin5 55 rfl rfl), by decide +kernel, by decide +kernel⟩
theorem sg_X7_childrenOf : (parseMethodDescriptor yX7_childrenOf.desc).map (fun d => d.parameters.length) = some 1 := by decide +kernel
theorem mt_X7_lastWedUpTo : gMt yX7_lastWedUpTo cX7_lastWedUpTo 7 (some .int) := ⟨(gtbl_t tbin5 57 rfl rfl), (gtbl_t tbin5 58 rfl rfl), (gtbl_t tbin1 2 rfl rfl), (gtbl_t tbin5 59 rfl rfl), by decide +kernel, by decide +kernel⟩
theorem sg_X7_lastWedUpTo : (parseMethodDescriptor yX7_lastWedUpTo.desc).map (fun d => d.parameters.length) = some 2 := by decide +kernel
theorem mt_X7_wasWedBetween : gMt yX7_wasWedBetween cX7_wasWedBetween 6 (some .boolean) := ⟨(gtbl_t tbin4 239 rfl rfl), (gtbl_t tbin5 0 rfl rfl), (gtbl_t tbin1 2 rfl rfl), (gtbl_t tbin5 1 rfl rfl), by decide +kernel, by decide +kernel⟩
theorem sg_X7_wasWedBetween : (parseMethodDescriptor yX7_wasWedBetween.desc).map (fun d => d.parameters.length) = some 3 := by decide +kernel
theorem mt_X7_heirsOf : gMt yX7_heirsOf cX7_heirsOf 6 (some .int) := ⟨(gtbl_t tbin5 48 rfl rfl), (gtbl_t tbin5 49 rfl rfl), (gtbl_t tbin1 2 rfl rfl), (gtbl_t tbin5 50 rfl rfl), by decide +kernel, by decide +kernel⟩
theorem sg_X7_heirsOf : (parseMethodDescriptor yX7_heirsOf.desc).map (fun d => d.parameters.length) = some 1 := by decide +kernel
theorem mt_X7_nextOfKin : gMt yX7_nextOfKin cX7_nextOfKin 4 (some .int) := ⟨(gtbl_t tbin5 167 rfl rfl), (gtbl_t tbin5 168 rfl rfl), (gtbl_t tbin1 2 rfl rfl), (gtbl_t tbin5 169 rfl rfl), by decide +kernel, by decide +kernel⟩
theorem sg_X7_nextOfKin : (parseMethodDescriptor yX7_nextOfKin.desc).map (fun d => d.parameters.length) = some 1 := by decide +kernel
theorem mt_X7_deathBehind : gMt yX7_deathBehind cX7_deathBehind 5 (some .int) := ⟨(gtbl_t tbin5 101 rfl rfl), (gtbl_t tbin5 102 rfl rfl), (gtbl_t tbin1 2 rfl rfl), (gtbl_t tbin5 103 rfl rfl), by decide +kernel, by decide +kernel⟩
theorem sg_X7_deathBehind : (parseMethodDescriptor yX7_deathBehind.desc).map (fun d => d.parameters.length) = some 1 := by decide +kernel
theorem mt_X7_diesAheadOf : gMt yX7_diesAheadOf cX7_diesAheadOf 5 (some .boolean) := ⟨(gtbl_t tbin5 106 rfl rfl), (gtbl_in 43 rfl rfl), (gtbl_t tbin1 2 rfl rfl), (gtbl_t tbin5 107 rfl rfl), by decide +kernel, by decide +kernel⟩
theorem sg_X7_diesAheadOf : (parseMethodDescriptor yX7_diesAheadOf.desc).map (fun d => d.parameters.length) = some 2 := by decide +kernel
theorem mt_X7_turnBehind : gMt yX7_turnBehind cX7_turnBehind 5 (some .int) := ⟨(gtbl_t tbin5 210 rfl rfl), (gtbl_t tbin5 211 rfl rfl), (gtbl_t tbin1 2 rfl rfl), (gtbl_t tbin5 212 rfl rfl), by decide +kernel, by decide +kernel⟩
theorem sg_X7_turnBehind : (parseMethodDescriptor yX7_turnBehind.desc).map (fun d => d.parameters.length) = some 2 := by decide +kernel
theorem mt_X7_nearer : gMs yX7_nearer cX7_nearer 3 (some .int) := ⟨(gtbl_t tbin5 214 rfl rfl), (gtbl_t tbin1 2 rfl rfl), (gtbl_t tbin5 215 rfl rfl), by decide +kernel, by decide +kernel⟩
theorem sg_X7_nearer : (parseMethodDescriptor yX7_nearer.desc).map (fun d => d.parameters.length) = some 3 := by decide +kernel
theorem mt_X8_readAll : gMt yX8_readAll cX8_readAll 2 none := ⟨(gtbl_t tbin3 143 rfl rfl), (gtbl_t tbin3 144 rfl rfl), (gtbl_t tbin1 10 rfl rfl), (gtbl_t tbin3 145 rfl rfl), by decide +kernel, by decide +kernel⟩
theorem sg_X8_readAll : (parseMethodDescriptor yX8_readAll.desc).map (fun d => d.parameters.length) = some 0 := by decide +kernel
theorem mt_X8_readLand : gMt yX8_readLand cX8_readLand 3 none := ⟨(gtbl_t tbin3 162 rfl rfl), (gtbl_in 7 rfl rfl), (gtbl_t tbin1 10 rfl rfl), (gtbl_t tbin3 163 rfl rfl), by decide +kernel, by decide +kernel⟩
theorem sg_X8_readLand : (parseMethodDescriptor yX8_readLand.desc).map (fun d => d.parameters.length) = some 0 := by decide +kernel
theorem mt_X8_readRight : gMt yX8_readRight cX8_readRight 2 none := ⟨(gtbl_t tbin3 184 rfl rfl), (gtbl_in 12 rfl rfl), (gtbl_t tbin1 10 rfl rfl), (gtbl_t tbin3 185 rfl rfl), by decide +kernel, by decide +kernel⟩
theorem sg_X8_readRight : (parseMethodDescriptor yX8_readRight.desc).map (fun d => d.parameters.length) = some 1 := by decide +kernel
theorem mt_X8_readPerson : gMt yX8_readPerson cX8_readPerson 2 none := ⟨(gtbl_t tbin3 192 rfl rfl), (gtbl_in 14 rfl rfl), (gtbl_t tbin1 10 rfl rfl), (gtbl_t tbin3 193 rfl rfl), by decide +kernel, by decide +kernel⟩
theorem sg_X8_readPerson : (parseMethodDescriptor yX8_readPerson.desc).map (fun d => d.parameters.length) = some 0 := by decide +kernel
theorem mt_X8_readChild : gMt yX8_readChild cX8_readChild 5 none := ⟨(gtbl_t tbin3 213 rfl rfl), (gtbl_in 18 rfl rfl), (gtbl_t tbin1 10 rfl rfl), (gtbl_t tbin3 214 rfl rfl), by decide +kernel, by decide +kernel⟩
theorem sg_X8_readChild : (parseMethodDescriptor yX8_readChild.desc).map (fun d => d.parameters.length) = some 0 := by decide +kernel
theorem mt_X8_readWedding : gMt yX8_readWedding cX8_readWedding 4 none := ⟨(gtbl_t tbin3 231 rfl rfl), (gtbl_in 21 rfl rfl), (gtbl_t tbin1 10 rfl rfl), (gtbl_t tbin3 232 rfl rfl), by decide +kernel, by decide +kernel⟩
theorem sg_X8_readWedding : (parseMethodDescriptor yX8_readWedding.desc).map (fun d => d.parameters.length) = some 0 := by decide +kernel
theorem mt_X8_readThing : gMt yX8_readThing cX8_readThing 4 none := ⟨(gtbl_t tbin3 239 rfl rfl), (gtbl_in 22 rfl rfl), (gtbl_t tbin1 10 rfl rfl), (gtbl_t tbin4 0 rfl rfl), by decide +kernel, by decide +kernel⟩
theorem sg_X8_readThing : (parseMethodDescriptor yX8_readThing.desc).map (fun d => d.parameters.length) = some 0 := by decide +kernel
theorem mt_X8_readPaper : gMt yX8_readPaper cX8_readPaper 3 none := ⟨(gtbl_t tbin4 7 rfl rfl), (gtbl_in 23 rfl rfl), (gtbl_t tbin1 10 rfl rfl), (gtbl_t tbin4 8 rfl rfl), by decide +kernel, by decide +kernel⟩
theorem sg_X8_readPaper : (parseMethodDescriptor yX8_readPaper.desc).map (fun d => d.parameters.length) = some 0 := by decide +kernel
theorem mt_X8_takePaperKind : gMt yX8_takePaperKind cX8_takePaperKind 2 (some .int) := ⟨(gtbl_t tbin4 15 rfl rfl), (gtbl_in 24 rfl rfl), (gtbl_t tbin1 10 rfl rfl), (gtbl_t tbin4 16 rfl rfl), by decide +kernel, by decide +kernel⟩
theorem sg_X8_takePaperKind : (parseMethodDescriptor yX8_takePaperKind.desc).map (fun d => d.parameters.length) = some 0 := by decide +kernel
theorem mt_X8_readPart : gMt yX8_readPart cX8_readPart 2 none := ⟨(gtbl_t tbin4 19 rfl rfl), (gtbl_in 25 rfl rfl), (gtbl_t tbin1 10 rfl rfl), (gtbl_t tbin4 20 rfl rfl), by decide +kernel, by decide +kernel⟩
theorem sg_X8_readPart : (parseMethodDescriptor yX8_readPart.desc).map (fun d => d.parameters.length) = some 1 := by decide +kernel
theorem mt_X8_readWitness : gMt yX8_readWitness cX8_readWitness 3 none := ⟨(gtbl_t tbin4 23 rfl rfl), (gtbl_in 26 rfl rfl), (gtbl_t tbin1 10 rfl rfl), (gtbl_t tbin4 24 rfl rfl), by decide +kernel, by decide +kernel⟩
theorem sg_X8_readWitness : (parseMethodDescriptor yX8_readWitness.desc).map (fun d => d.parameters.length) = some 1 := by decide +kernel
theorem mt_X8_readGive : gMt yX8_readGive cX8_readGive 3 none := ⟨(gtbl_t tbin4 31 rfl rfl), (gtbl_in 27 rfl rfl), (gtbl_t tbin1 10 rfl rfl), (gtbl_t tbin4 32 rfl rfl), by decide +kernel, by decide +kernel⟩
theorem sg_X8_readGive : (parseMethodDescriptor yX8_readGive.desc).map (fun d => d.parameters.length) = some 1 := by decide +kernel
theorem mt_X8_readStrike : gMt yX8_readStrike cX8_readStrike 3 none := ⟨(gtbl_t tbin4 45 rfl rfl), (gtbl_in 29 rfl rfl), (gtbl_t tbin1 10 rfl rfl), (gtbl_t tbin4 46 rfl rfl), by decide +kernel, by decide +kernel⟩
theorem sg_X8_readStrike : (parseMethodDescriptor yX8_readStrike.desc).map (fun d => d.parameters.length) = some 1 := by decide +kernel
theorem mt_X8_readLost : gMt yX8_readLost cX8_readLost 3 none := ⟨(gtbl_t tbin4 61 rfl rfl), (gtbl_in 31 rfl rfl), (gtbl_t tbin1 10 rfl rfl), (gtbl_t tbin4 62 rfl rfl), by decide +kernel, by decide +kernel⟩
theorem sg_X8_readLost : (parseMethodDescriptor yX8_readLost.desc).map (fun d => d.parameters.length) = some 0 := by decide +kernel
theorem mt_X8_readDeath : gMt yX8_readDeath cX8_readDeath 3 none := ⟨(gtbl_t tbin4 69 rfl rfl), (gtbl_in 32 rfl rfl), (gtbl_t tbin1 10 rfl rfl), (gtbl_t tbin4 70 rfl rfl), by decide +kernel, by decide +kernel⟩
theorem sg_X8_readDeath : (parseMethodDescriptor yX8_readDeath.desc).map (fun d => d.parameters.length) = some 0 := by decide +kernel
theorem mt_X8_takePerson : gMt yX8_takePerson cX8_takePerson 1 (some .int) := ⟨(gtbl_t tbin3 217 rfl rfl), (gtbl_in 19 rfl rfl), (gtbl_t tbin1 10 rfl rfl), (gtbl_t tbin3 218 rfl rfl), by decide +kernel, by decide +kernel⟩
theorem sg_X8_takePerson : (parseMethodDescriptor yX8_takePerson.desc).map (fun d => d.parameters.length) = some 0 := by decide +kernel
theorem mt_X8_takeThing : gMt yX8_takeThing cX8_takeThing 1 (some .int) := ⟨(gtbl_t tbin4 35 rfl rfl), (gtbl_in 28 rfl rfl), (gtbl_t tbin1 10 rfl rfl), (gtbl_t tbin4 36 rfl rfl), by decide +kernel, by decide +kernel⟩
theorem sg_X8_takeThing : (parseMethodDescriptor yX8_takeThing.desc).map (fun d => d.parameters.length) = some 0 := by decide +kernel
theorem mt_X8_takePaper : gMt yX8_takePaper cX8_takePaper 1 (some .int) := ⟨(gtbl_t tbin4 49 rfl rfl), (gtbl_in 30 rfl rfl), (gtbl_t tbin1 10 rfl rfl), (gtbl_t tbin4 50 rfl rfl), by decide +kernel, by decide +kernel⟩
theorem sg_X8_takePaper : (parseMethodDescriptor yX8_takePaper.desc).map (fun d => d.parameters.length) = some 0 := by decide +kernel
theorem mt_X8_takeKnownName : gMt yX8_takeKnownName cX8_takeKnownName 4 (some .int) := ⟨(gtbl_t tbin3 221 rfl rfl), (gtbl_in 20 rfl rfl), (gtbl_t tbin1 10 rfl rfl), (gtbl_t tbin3 222 rfl rfl), by decide +kernel, by decide +kernel⟩
theorem sg_X8_takeKnownName : (parseMethodDescriptor yX8_takeKnownName.desc).map (fun d => d.parameters.length) = some 2 := by decide +kernel
theorem mt_X8_takeNewName : gMt yX8_takeNewName cX8_takeNewName 3 none := ⟨(gtbl_t tbin3 200 rfl rfl), (gtbl_in 16 rfl rfl), (gtbl_t tbin1 10 rfl rfl), (gtbl_t tbin3 201 rfl rfl), by decide +kernel, by decide +kernel⟩
theorem sg_X8_takeNewName : (parseMethodDescriptor yX8_takeNewName.desc).map (fun d => d.parameters.length) = some 2 := by decide +kernel
theorem mt_X8_indexOfName : gMt yX8_indexOfName cX8_indexOfName 4 (some .int) := ⟨(gtbl_t tbin3 205 rfl rfl), (gtbl_in 17 rfl rfl), (gtbl_t tbin1 10 rfl rfl), (gtbl_t tbin3 206 rfl rfl), by decide +kernel, by decide +kernel⟩
theorem sg_X8_indexOfName : (parseMethodDescriptor yX8_indexOfName.desc).map (fun d => d.parameters.length) = some 2 := by decide +kernel
theorem mt_X8_takeNumber : gMt yX8_takeNumber cX8_takeNumber 4 (some .int) := ⟨(gtbl_t tbin3 170 rfl rfl), (gtbl_in 9 rfl rfl), (gtbl_t tbin1 10 rfl rfl), (gtbl_t tbin3 171 rfl rfl), by decide +kernel, by decide +kernel⟩
theorem sg_X8_takeNumber : (parseMethodDescriptor yX8_takeNumber.desc).map (fun d => d.parameters.length) = some 2 := by decide +kernel
theorem mt_X8_takeOneMore : gMt yX8_takeOneMore cX8_takeOneMore 3 none := ⟨(gtbl_t tbin3 196 rfl rfl), (gtbl_in 15 rfl rfl), (gtbl_t tbin1 10 rfl rfl), (gtbl_t tbin3 197 rfl rfl), by decide +kernel, by decide +kernel⟩
theorem sg_X8_takeOneMore : (parseMethodDescriptor yX8_takeOneMore.desc).map (fun d => d.parameters.length) = some 2 := by decide +kernel
theorem mt_X8_takeOnce : gMt yX8_takeOnce cX8_takeOnce 2 none := ⟨(gtbl_t tbin3 188 rfl rfl), (gtbl_in 13 rfl rfl), (gtbl_t tbin1 10 rfl rfl), (gtbl_t tbin3 189 rfl rfl), by decide +kernel, by decide +kernel⟩
theorem sg_X8_takeOnce : (parseMethodDescriptor yX8_takeOnce.desc).map (fun d => d.parameters.length) = some 1 := by decide +kernel
theorem mt_X8_takeSemicolon : gMt yX8_takeSemicolon cX8_takeSemicolon 1 none := ⟨(gtbl_t tbin4 77 rfl rfl), (gtbl_in 33 rfl rfl), (gtbl_t tbin1 10 rfl rfl), (gtbl_t tbin4 78 rfl rfl), by decide +kernel, by decide +kernel⟩
theorem sg_X8_takeSemicolon : (parseMethodDescriptor yX8_takeSemicolon.desc).map (fun d => d.parameters.length) = some 0 := by decide +kernel
theorem mt_X8_comes : gMt yX8_comes cX8_comes 1 (some (.object "WillDeposit$Token")) := ⟨(gtbl_t tbin3 149 rfl rfl), (gtbl_in 6 rfl rfl), (gtbl_t tbin1 10 rfl rfl), (gtbl_t tbin3 150 rfl rfl), by decide +kernel, by decide +kernel⟩
theorem sg_X8_comes : (parseMethodDescriptor yX8_comes.desc).map (fun d => d.parameters.length) = some 0 := by decide +kernel
theorem mt_X8_takeToken : gMt yX8_takeToken cX8_takeToken 1 none := ⟨(gtbl_t tbin3 166 rfl rfl), (gtbl_in 8 rfl rfl), (gtbl_t tbin1 10 rfl rfl), (gtbl_t tbin3 167 rfl rfl), by decide +kernel, by decide +kernel⟩
theorem sg_X8_takeToken : (parseMethodDescriptor yX8_takeToken.desc).map (fun d => d.parameters.length) = some 0 := by decide +kernel
theorem mt_X8_fail : gMt yX8_fail cX8_fail 2 none := ⟨(gtbl_t tbin3 175 rfl rfl), (gtbl_in 10 rfl rfl), (gtbl_t tbin1 10 rfl rfl), (gtbl_t tbin3 176 rfl rfl), by decide +kernel, by decide +kernel⟩
theorem sg_X8_fail : (parseMethodDescriptor yX8_fail.desc).map (fun d => d.parameters.length) = some 1 := by decide +kernel
theorem mt_X8_failAtTaken : gMt yX8_failAtTaken cX8_failAtTaken 1 none := ⟨(gtbl_t tbin3 179 rfl rfl), (gtbl_in 11 rfl rfl), (gtbl_t tbin1 10 rfl rfl), (gtbl_t tbin3 180 rfl rfl), by decide +kernel, by decide +kernel⟩
theorem sg_X8_failAtTaken : (parseMethodDescriptor yX8_failAtTaken.desc).map (fun d => d.parameters.length) = some 0 := by decide +kernel
theorem mt_X11_cutTape : gMt yX11_cutTape cX11_cutTape 2 none := ⟨(gtbl_t tbin3 51 rfl rfl), (gtbl_t tbin3 52 rfl rfl), (gtbl_t tbin1 7 rfl rfl), (gtbl_t tbin3 53 rfl rfl), by decide +kernel, by decide +kernel⟩
theorem sg_X11_cutTape : (parseMethodDescriptor yX11_cutTape.desc).map (fun d => d.parameters.length) = some 1 := by decide +kernel
theorem mt_X11_skipBlanks : gMt yX11_skipBlanks cX11_skipBlanks 1 none := ⟨(gtbl_t tbin3 59 rfl rfl), (gtbl_in 1 rfl rfl), (gtbl_t tbin1 7 rfl rfl), (gtbl_t tbin3 60 rfl rfl), by decide +kernel, by decide +kernel⟩
theorem sg_X11_skipBlanks : (parseMethodDescriptor yX11_skipBlanks.desc).map (fun d => d.parameters.length) = some 0 := by decide +kernel
theorem mt_X11_cutNumber : gMt yX11_cutNumber cX11_cutNumber 2 none := ⟨(gtbl_t tbin3 66 rfl rfl), (gtbl_in 2 rfl rfl), (gtbl_t tbin1 7 rfl rfl), (gtbl_t tbin3 67 rfl rfl), by decide +kernel, by decide +kernel⟩
theorem sg_X11_cutNumber : (parseMethodDescriptor yX11_cutNumber.desc).map (fun d => d.parameters.length) = some 0 := by decide +kernel
theorem mt_X11_cutWord : gMt yX11_cutWord cX11_cutWord 3 none := ⟨(gtbl_t tbin3 76 rfl rfl), (gtbl_in 3 rfl rfl), (gtbl_t tbin1 7 rfl rfl), (gtbl_t tbin3 77 rfl rfl), by decide +kernel, by decide +kernel⟩
theorem sg_X11_cutWord : (parseMethodDescriptor yX11_cutWord.desc).map (fun d => d.parameters.length) = some 0 := by decide +kernel
theorem mt_X11_wordKind : gMt yX11_wordKind cX11_wordKind 3 (some (.object "WillDeposit$Token")) := ⟨(gtbl_t tbin3 80 rfl rfl), (gtbl_in 4 rfl rfl), (gtbl_t tbin1 7 rfl rfl), (gtbl_t tbin3 81 rfl rfl), by decide +kernel, by decide +kernel⟩
theorem sg_X11_wordKind : (parseMethodDescriptor yX11_wordKind.desc).map (fun d => d.parameters.length) = some 1 := by decide +kernel
theorem mt_X11_isWord : gMt yX11_isWord cX11_isWord 4 (some .boolean) := ⟨(gtbl_t tbin3 86 rfl rfl), (gtbl_in 5 rfl rfl), (gtbl_t tbin1 7 rfl rfl), (gtbl_t tbin3 87 rfl rfl), by decide +kernel, by decide +kernel⟩
theorem sg_X11_isWord : (parseMethodDescriptor yX11_isWord.desc).map (fun d => d.parameters.length) = some 2 := by decide +kernel
theorem mt_X11_isDigit : gMs yX11_isDigit cX11_isDigit 1 (some .boolean) := ⟨(gtbl_t tbin3 62 rfl rfl), (gtbl_t tbin1 7 rfl rfl), (gtbl_t tbin3 63 rfl rfl), by decide +kernel, by decide +kernel⟩
theorem sg_X11_isDigit : (parseMethodDescriptor yX11_isDigit.desc).map (fun d => d.parameters.length) = some 1 := by decide +kernel
theorem mt_X11_isLetter : gMs yX11_isLetter cX11_isLetter 1 (some .boolean) := ⟨(gtbl_t tbin3 72 rfl rfl), (gtbl_t tbin1 7 rfl rfl), (gtbl_t tbin3 73 rfl rfl), by decide +kernel, by decide +kernel⟩
theorem sg_X11_isLetter : (parseMethodDescriptor yX11_isLetter.desc).map (fun d => d.parameters.length) = some 1 := by decide +kernel
theorem mt_X12_feed : gMt yX12_feed cX12_feed 6 (some .int) := ⟨(gtbl_t tbin3 39 rfl rfl), (gtbl_t tbin3 40 rfl rfl), (gtbl_t tbin1 1 rfl rfl), (gtbl_t tbin3 41 rfl rfl), by decide +kernel, by decide +kernel⟩
theorem sg_X12_feed : (parseMethodDescriptor yX12_feed.desc).map (fun d => d.parameters.length) = some 5 := by decide +kernel
theorem mt_X12_putNumber : gMt yX12_putNumber cX12_putNumber 3 none := ⟨(gtbl_t tbin3 44 rfl rfl), (gtbl_in 0 rfl rfl), (gtbl_t tbin1 1 rfl rfl), (gtbl_t tbin3 45 rfl rfl), by decide +kernel, by decide +kernel⟩
theorem sg_X12_putNumber : (parseMethodDescriptor yX12_putNumber.desc).map (fun d => d.parameters.length) = some 1 := by decide +kernel
theorem mt_X12_text : gMt yX12_text cX12_text 2 (some .int) := ⟨(gtbl_t tbin3 47 rfl rfl), (gtbl_t tbin3 48 rfl rfl), (gtbl_t tbin1 1 rfl rfl), (gtbl_t tbin3 49 rfl rfl), by decide +kernel, by decide +kernel⟩
theorem sg_X12_text : (parseMethodDescriptor yX12_text.desc).map (fun d => d.parameters.length) = some 1 := by decide +kernel
theorem mt_X12_fault : gMt yX12_fault cX12_fault 2 (some .int) := ⟨(gtbl_t tbin4 84 rfl rfl), (gtbl_t tbin4 85 rfl rfl), (gtbl_t tbin1 1 rfl rfl), (gtbl_t tbin4 86 rfl rfl), by decide +kernel, by decide +kernel⟩
theorem sg_X12_fault : (parseMethodDescriptor yX12_fault.desc).map (fun d => d.parameters.length) = some 1 := by decide +kernel
theorem mt_X12_person : gMt yX12_person cX12_person 4 (some .int) := ⟨(gtbl_t tbin5 226 rfl rfl), (gtbl_t tbin5 227 rfl rfl), (gtbl_t tbin1 1 rfl rfl), (gtbl_t tbin5 228 rfl rfl), by decide +kernel, by decide +kernel⟩
theorem sg_X12_person : (parseMethodDescriptor yX12_person.desc).map (fun d => d.parameters.length) = some 2 := by decide +kernel
theorem mt_X12_paper : gMt yX12_paper cX12_paper 4 (some .int) := ⟨(gtbl_t tbin6 77 rfl rfl), (gtbl_t tbin6 78 rfl rfl), (gtbl_t tbin1 1 rfl rfl), (gtbl_t tbin6 79 rfl rfl), by decide +kernel, by decide +kernel⟩
theorem sg_X12_paper : (parseMethodDescriptor yX12_paper.desc).map (fun d => d.parameters.length) = some 2 := by decide +kernel
theorem mt_X12_thing : gMt yX12_thing cX12_thing 3 (some .int) := ⟨(gtbl_t tbin4 88 rfl rfl), (gtbl_t tbin4 89 rfl rfl), (gtbl_t tbin1 1 rfl rfl), (gtbl_t tbin4 90 rfl rfl), by decide +kernel, by decide +kernel⟩
theorem sg_X12_thing : (parseMethodDescriptor yX12_thing.desc).map (fun d => d.parameters.length) = some 2 := by decide +kernel
theorem mt_X12_land : gMt yX12_land cX12_land 3 (some .int) := ⟨(gtbl_t tbin4 96 rfl rfl), (gtbl_t tbin4 97 rfl rfl), (gtbl_t tbin1 1 rfl rfl), (gtbl_t tbin4 98 rfl rfl), by decide +kernel, by decide +kernel⟩
theorem sg_X12_land : (parseMethodDescriptor yX12_land.desc).map (fun d => d.parameters.length) = some 2 := by decide +kernel
theorem mt_X12_give : gMt yX12_give cX12_give 5 (some .int) := ⟨(gtbl_t tbin4 106 rfl rfl), (gtbl_t tbin4 107 rfl rfl), (gtbl_t tbin1 1 rfl rfl), (gtbl_t tbin4 108 rfl rfl), by decide +kernel, by decide +kernel⟩
theorem sg_X12_give : (parseMethodDescriptor yX12_give.desc).map (fun d => d.parameters.length) = some 3 := by decide +kernel
theorem mt_X12_count : gMt yX12_count cX12_count 2 (some .int) := ⟨(gtbl_t tbin4 117 rfl rfl), (gtbl_t tbin4 118 rfl rfl), (gtbl_t tbin1 1 rfl rfl), (gtbl_t tbin4 119 rfl rfl), by decide +kernel, by decide +kernel⟩
theorem sg_X12_count : (parseMethodDescriptor yX12_count.desc).map (fun d => d.parameters.length) = some 1 := by decide +kernel
theorem mt_X12_lose : gMt yX12_lose cX12_lose 3 (some .boolean) := ⟨(gtbl_t tbin4 131 rfl rfl), (gtbl_t tbin4 132 rfl rfl), (gtbl_t tbin1 1 rfl rfl), (gtbl_t tbin4 133 rfl rfl), by decide +kernel, by decide +kernel⟩
theorem sg_X12_lose : (parseMethodDescriptor yX12_lose.desc).map (fun d => d.parameters.length) = some 2 := by decide +kernel
theorem mt_X12_find : gMt yX12_find cX12_find 2 (some .boolean) := ⟨(gtbl_t tbin4 144 rfl rfl), (gtbl_t tbin4 145 rfl rfl), (gtbl_t tbin1 1 rfl rfl), (gtbl_t tbin4 146 rfl rfl), by decide +kernel, by decide +kernel⟩
theorem sg_X12_find : (parseMethodDescriptor yX12_find.desc).map (fun d => d.parameters.length) = some 1 := by decide +kernel
theorem mt_X12_copy : gMt yX12_copy cX12_copy 3 (some .int) := ⟨(gtbl_t tbin4 149 rfl rfl), (gtbl_t tbin4 150 rfl rfl), (gtbl_t tbin1 1 rfl rfl), (gtbl_t tbin4 151 rfl rfl), by decide +kernel, by decide +kernel⟩
theorem sg_X12_copy : (parseMethodDescriptor yX12_copy.desc).map (fun d => d.parameters.length) = some 1 := by decide +kernel
theorem mt_X12_changeCopies : gMt yX12_changeCopies cX12_changeCopies 3 none := ⟨(gtbl_t tbin4 136 rfl rfl), (gtbl_in 34 rfl rfl), (gtbl_t tbin1 1 rfl rfl), (gtbl_t tbin4 137 rfl rfl), by decide +kernel, by decide +kernel⟩
theorem sg_X12_changeCopies : (parseMethodDescriptor yX12_changeCopies.desc).map (fun d => d.parameters.length) = some 2 := by decide +kernel
theorem mt_X12_witness : gMt yX12_witness cX12_witness 4 (some .int) := ⟨(gtbl_t tbin4 153 rfl rfl), (gtbl_t tbin4 154 rfl rfl), (gtbl_t tbin1 1 rfl rfl), (gtbl_t tbin4 155 rfl rfl), by decide +kernel, by decide +kernel⟩
theorem sg_X12_witness : (parseMethodDescriptor yX12_witness.desc).map (fun d => d.parameters.length) = some 2 := by decide +kernel
theorem mt_X12_wed : gMt yX12_wed cX12_wed 4 (some .int) := ⟨(gtbl_t tbin4 163 rfl rfl), (gtbl_t tbin4 164 rfl rfl), (gtbl_t tbin1 1 rfl rfl), (gtbl_t tbin4 165 rfl rfl), by decide +kernel, by decide +kernel⟩
theorem sg_X12_wed : (parseMethodDescriptor yX12_wed.desc).map (fun d => d.parameters.length) = some 3 := by decide +kernel
theorem mt_X12_dies : gMt yX12_dies cX12_dies 3 (some .boolean) := ⟨(gtbl_t tbin4 171 rfl rfl), (gtbl_t tbin4 172 rfl rfl), (gtbl_t tbin1 1 rfl rfl), (gtbl_t tbin4 173 rfl rfl), by decide +kernel, by decide +kernel⟩
theorem sg_X12_dies : (parseMethodDescriptor yX12_dies.desc).map (fun d => d.parameters.length) = some 2 := by decide +kernel
theorem mt_X12_takeBack : gMt yX12_takeBack cX12_takeBack 2 (some .boolean) := ⟨(gtbl_t tbin4 178 rfl rfl), (gtbl_t tbin4 179 rfl rfl), (gtbl_t tbin1 1 rfl rfl), (gtbl_t tbin4 180 rfl rfl), by decide +kernel, by decide +kernel⟩
theorem sg_X12_takeBack : (parseMethodDescriptor yX12_takeBack.desc).map (fun d => d.parameters.length) = some 1 := by decide +kernel
theorem mt_X12_undo : gMt yX12_undo cX12_undo 1 (some .int) := ⟨(gtbl_t tbin4 182 rfl rfl), (gtbl_t tbin4 183 rfl rfl), (gtbl_t tbin1 1 rfl rfl), (gtbl_t tbin4 184 rfl rfl), by decide +kernel, by decide +kernel⟩
theorem sg_X12_undo : (parseMethodDescriptor yX12_undo.desc).map (fun d => d.parameters.length) = some 0 := by decide +kernel
theorem mt_X12_form : gMt yX12_form cX12_form 4 (some .int) := ⟨(gtbl_t tbin4 190 rfl rfl), (gtbl_t tbin4 191 rfl rfl), (gtbl_t tbin1 1 rfl rfl), (gtbl_t tbin4 192 rfl rfl), by decide +kernel, by decide +kernel⟩
theorem sg_X12_form : (parseMethodDescriptor yX12_form.desc).map (fun d => d.parameters.length) = some 2 := by decide +kernel
theorem mt_X12_why : gMt yX12_why cX12_why 3 (some .int) := ⟨(gtbl_t tbin4 215 rfl rfl), (gtbl_t tbin4 216 rfl rfl), (gtbl_t tbin1 1 rfl rfl), (gtbl_t tbin4 217 rfl rfl), by decide +kernel, by decide +kernel⟩
theorem sg_X12_why : (parseMethodDescriptor yX12_why.desc).map (fun d => d.parameters.length) = some 2 := by decide +kernel
theorem mt_X12_struckBy : gMt yX12_struckBy cX12_struckBy 3 (some .int) := ⟨(gtbl_t tbin5 3 rfl rfl), (gtbl_t tbin5 4 rfl rfl), (gtbl_t tbin1 1 rfl rfl), (gtbl_t tbin5 5 rfl rfl), by decide +kernel, by decide +kernel⟩
theorem sg_X12_struckBy : (parseMethodDescriptor yX12_struckBy.desc).map (fun d => d.parameters.length) = some 2 := by decide +kernel
theorem mt_X12_counting : gMt yX12_counting cX12_counting 7 (some .int) := ⟨(gtbl_t tbin5 7 rfl rfl), (gtbl_t tbin5 8 rfl rfl), (gtbl_t tbin1 1 rfl rfl), (gtbl_t tbin5 9 rfl rfl), by decide +kernel, by decide +kernel⟩
theorem sg_X12_counting : (parseMethodDescriptor yX12_counting.desc).map (fun d => d.parameters.length) = some 3 := by decide +kernel
theorem mt_X12_taker : gMt yX12_taker cX12_taker 3 (some .int) := ⟨(gtbl_t tbin5 15 rfl rfl), (gtbl_t tbin5 16 rfl rfl), (gtbl_t tbin1 1 rfl rfl), (gtbl_t tbin5 17 rfl rfl), by decide +kernel, by decide +kernel⟩
theorem sg_X12_taker : (parseMethodDescriptor yX12_taker.desc).map (fun d => d.parameters.length) = some 2 := by decide +kernel
theorem mt_X12_takerBy : gMt yX12_takerBy cX12_takerBy 3 (some .int) := ⟨(gtbl_t tbin5 40 rfl rfl), (gtbl_t tbin5 41 rfl rfl), (gtbl_t tbin1 1 rfl rfl), (gtbl_t tbin5 42 rfl rfl), by decide +kernel, by decide +kernel⟩
theorem sg_X12_takerBy : (parseMethodDescriptor yX12_takerBy.desc).map (fun d => d.parameters.length) = some 2 := by decide +kernel
theorem mt_X12_heirs : gMt yX12_heirs cX12_heirs 2 (some .int) := ⟨(gtbl_t tbin5 44 rfl rfl), (gtbl_t tbin5 45 rfl rfl), (gtbl_t tbin1 1 rfl rfl), (gtbl_t tbin5 46 rfl rfl), by decide +kernel, by decide +kernel⟩
theorem sg_X12_heirs : (parseMethodDescriptor yX12_heirs.desc).map (fun d => d.parameters.length) = some 1 := by decide +kernel
theorem mt_X12_margin : gMt yX12_margin cX12_margin 5 (some .int) := ⟨(gtbl_t tbin5 61 rfl rfl), (gtbl_t tbin5 62 rfl rfl), (gtbl_t tbin1 1 rfl rfl), (gtbl_t tbin5 63 rfl rfl), by decide +kernel, by decide +kernel⟩
theorem sg_X12_margin : (parseMethodDescriptor yX12_margin.desc).map (fun d => d.parameters.length) = some 1 := by decide +kernel
theorem mt_X12_naming : gMt yX12_naming cX12_naming 5 (some .int) := ⟨(gtbl_t tbin5 67 rfl rfl), (gtbl_t tbin5 68 rfl rfl), (gtbl_t tbin1 1 rfl rfl), (gtbl_t tbin5 69 rfl rfl), by decide +kernel, by decide +kernel⟩
theorem sg_X12_naming : (parseMethodDescriptor yX12_naming.desc).map (fun d => d.parameters.length) = some 2 := by decide +kernel
theorem mt_X12_sees : gMt yX12_sees cX12_sees 6 (some .int) := ⟨(gtbl_t tbin5 75 rfl rfl), (gtbl_t tbin5 76 rfl rfl), (gtbl_t tbin1 1 rfl rfl), (gtbl_t tbin5 77 rfl rfl), by decide +kernel, by decide +kernel⟩
theorem sg_X12_sees : (parseMethodDescriptor yX12_sees.desc).map (fun d => d.parameters.length) = some 3 := by decide +kernel
theorem mt_X12_has : gMt yX12_has cX12_has 9 (some .long) := ⟨(gtbl_t tbin5 80 rfl rfl), (gtbl_t tbin5 81 rfl rfl), (gtbl_t tbin1 1 rfl rfl), (gtbl_t tbin5 82 rfl rfl), by decide +kernel, by decide +kernel⟩
theorem sg_X12_has : (parseMethodDescriptor yX12_has.desc).map (fun d => d.parameters.length) = some 4 := by decide +kernel
theorem mt_X12_holders : gMt yX12_holders cX12_holders 3 (some .int) := ⟨(gtbl_t tbin5 128 rfl rfl), (gtbl_t tbin5 129 rfl rfl), (gtbl_t tbin1 1 rfl rfl), (gtbl_t tbin5 130 rfl rfl), by decide +kernel, by decide +kernel⟩
theorem sg_X12_holders : (parseMethodDescriptor yX12_holders.desc).map (fun d => d.parameters.length) = some 2 := by decide +kernel
theorem mt_X12_wealth : gMt yX12_wealth cX12_wealth 2 (some .int) := ⟨(gtbl_t tbin5 137 rfl rfl), (gtbl_t tbin5 138 rfl rfl), (gtbl_t tbin1 1 rfl rfl), (gtbl_t tbin5 139 rfl rfl), by decide +kernel, by decide +kernel⟩
theorem sg_X12_wealth : (parseMethodDescriptor yX12_wealth.desc).map (fun d => d.parameters.length) = some 1 := by decide +kernel
theorem mt_X12_ever : gMt yX12_ever cX12_ever 4 (some .int) := ⟨(gtbl_t tbin5 146 rfl rfl), (gtbl_t tbin5 147 rfl rfl), (gtbl_t tbin1 1 rfl rfl), (gtbl_t tbin5 148 rfl rfl), by decide +kernel, by decide +kernel⟩
theorem sg_X12_ever : (parseMethodDescriptor yX12_ever.desc).map (fun d => d.parameters.length) = some 1 := by decide +kernel
theorem mt_X12_death : gMt yX12_death cX12_death 5 (some .int) := ⟨(gtbl_t tbin5 150 rfl rfl), (gtbl_t tbin5 151 rfl rfl), (gtbl_t tbin1 1 rfl rfl), (gtbl_t tbin5 152 rfl rfl), by decide +kernel, by decide +kernel⟩
theorem sg_X12_death : (parseMethodDescriptor yX12_death.desc).map (fun d => d.parameters.length) = some 2 := by decide +kernel
theorem mt_X12_moves : gMt yX12_moves cX12_moves 3 (some .int) := ⟨(gtbl_t tbin5 159 rfl rfl), (gtbl_t tbin5 160 rfl rfl), (gtbl_t tbin1 1 rfl rfl), (gtbl_t tbin5 161 rfl rfl), by decide +kernel, by decide +kernel⟩
theorem sg_X12_moves : (parseMethodDescriptor yX12_moves.desc).map (fun d => d.parameters.length) = some 2 := by decide +kernel
theorem mt_X12_kin : gMt yX12_kin cX12_kin 5 (some .int) := ⟨(gtbl_t tbin5 163 rfl rfl), (gtbl_t tbin5 164 rfl rfl), (gtbl_t tbin1 1 rfl rfl), (gtbl_t tbin5 165 rfl rfl), by decide +kernel, by decide +kernel⟩
theorem sg_X12_kin : (parseMethodDescriptor yX12_kin.desc).map (fun d => d.parameters.length) = some 2 := by decide +kernel
theorem mt_X12_gain : gMt yX12_gain cX12_gain 3 (some .int) := ⟨(gtbl_t tbin5 171 rfl rfl), (gtbl_t tbin5 172 rfl rfl), (gtbl_t tbin1 1 rfl rfl), (gtbl_t tbin5 173 rfl rfl), by decide +kernel, by decide +kernel⟩
theorem sg_X12_gain : (parseMethodDescriptor yX12_gain.desc).map (fun d => d.parameters.length) = some 2 := by decide +kernel
theorem mt_X12_against : gMt yX12_against cX12_against 8 (some .int) := ⟨(gtbl_t tbin5 181 rfl rfl), (gtbl_t tbin5 182 rfl rfl), (gtbl_t tbin1 1 rfl rfl), (gtbl_t tbin5 183 rfl rfl), by decide +kernel, by decide +kernel⟩
theorem sg_X12_against : (parseMethodDescriptor yX12_against.desc).map (fun d => d.parameters.length) = some 2 := by decide +kernel
theorem mt_X12_key : gMt yX12_key cX12_key 6 (some .int) := ⟨(gtbl_t tbin5 185 rfl rfl), (gtbl_t tbin5 186 rfl rfl), (gtbl_t tbin1 1 rfl rfl), (gtbl_t tbin5 187 rfl rfl), by decide +kernel, by decide +kernel⟩
theorem sg_X12_key : (parseMethodDescriptor yX12_key.desc).map (fun d => d.parameters.length) = some 1 := by decide +kernel
theorem mt_X12_wouldPaper : gMt yX12_wouldPaper cX12_wouldPaper 8 (some .int) := ⟨(gtbl_t tbin5 194 rfl rfl), (gtbl_t tbin5 195 rfl rfl), (gtbl_t tbin1 1 rfl rfl), (gtbl_t tbin5 196 rfl rfl), by decide +kernel, by decide +kernel⟩
theorem sg_X12_wouldPaper : (parseMethodDescriptor yX12_wouldPaper.desc).map (fun d => d.parameters.length) = some 3 := by decide +kernel
theorem mt_X12_wouldDie : gMt yX12_wouldDie cX12_wouldDie 4 (some .int) := ⟨(gtbl_t tbin5 198 rfl rfl), (gtbl_t tbin5 199 rfl rfl), (gtbl_t tbin1 1 rfl rfl), (gtbl_t tbin5 200 rfl rfl), by decide +kernel, by decide +kernel⟩
theorem sg_X12_wouldDie : (parseMethodDescriptor yX12_wouldDie.desc).map (fun d => d.parameters.length) = some 3 := by decide +kernel
theorem mt_X12_dayFor : gMt yX12_dayFor cX12_dayFor 7 (some .int) := ⟨(gtbl_t tbin5 206 rfl rfl), (gtbl_t tbin5 207 rfl rfl), (gtbl_t tbin1 1 rfl rfl), (gtbl_t tbin5 208 rfl rfl), by decide +kernel, by decide +kernel⟩
theorem sg_X12_dayFor : (parseMethodDescriptor yX12_dayFor.desc).map (fun d => d.parameters.length) = some 3 := by decide +kernel
theorem mt_X12_bit : gMs yX12_bit cX12_bit 1 (some .int) := ⟨(gtbl_t tbin4 103 rfl rfl), (gtbl_t tbin1 1 rfl rfl), (gtbl_t tbin4 104 rfl rfl), by decide +kernel, by decide +kernel⟩
theorem sg_X12_bit : (parseMethodDescriptor yX12_bit.desc).map (fun d => d.parameters.length) = some 1 := by decide +kernel
theorem mt_X12_orMinusTwo : gMs yX12_orMinusTwo cX12_orMinusTwo 1 (some .int) := ⟨(gtbl_t tbin4 114 rfl rfl), (gtbl_t tbin1 1 rfl rfl), (gtbl_t tbin4 115 rfl rfl), by decide +kernel, by decide +kernel⟩
theorem sg_X12_orMinusTwo : (parseMethodDescriptor yX12_orMinusTwo.desc).map (fun d => d.parameters.length) = some 1 := by decide +kernel
theorem mt_X12_isLand : gMs yX12_isLand cX12_isLand 1 (some .boolean) := ⟨(gtbl_t tbin4 100 rfl rfl), (gtbl_t tbin1 1 rfl rfl), (gtbl_t tbin4 101 rfl rfl), by decide +kernel, by decide +kernel⟩
theorem sg_X12_isLand : (parseMethodDescriptor yX12_isLand.desc).map (fun d => d.parameters.length) = some 1 := by decide +kernel
theorem mt_X12_isDay : gMs yX12_isDay cX12_isDay 1 (some .boolean) := ⟨(gtbl_t tbin4 167 rfl rfl), (gtbl_t tbin1 1 rfl rfl), (gtbl_t tbin4 168 rfl rfl), by decide +kernel, by decide +kernel⟩
theorem sg_X12_isDay : (parseMethodDescriptor yX12_isDay.desc).map (fun d => d.parameters.length) = some 1 := by decide +kernel
theorem mt_X12_isDayOrNever : gMs yX12_isDayOrNever cX12_isDayOrNever 1 (some .boolean) := ⟨(gtbl_t tbin4 175 rfl rfl), (gtbl_t tbin1 1 rfl rfl), (gtbl_t tbin4 176 rfl rfl), by decide +kernel, by decide +kernel⟩
theorem sg_X12_isDayOrNever : (parseMethodDescriptor yX12_isDayOrNever.desc).map (fun d => d.parameters.length) = some 1 := by decide +kernel
theorem mt_X12_isPersonOrCrown : gMt yX12_isPersonOrCrown cX12_isPersonOrCrown 2 (some .boolean) := ⟨(gtbl_t tbin5 85 rfl rfl), (gtbl_in 41 rfl rfl), (gtbl_t tbin1 1 rfl rfl), (gtbl_t tbin5 86 rfl rfl), by decide +kernel, by decide +kernel⟩
theorem sg_X12_isPersonOrCrown : (parseMethodDescriptor yX12_isPersonOrCrown.desc).map (fun d => d.parameters.length) = some 1 := by decide +kernel
theorem mt_X12_holder : gMs yX12_holder cX12_holder 1 (some .int) := ⟨(gtbl_t tbin5 122 rfl rfl), (gtbl_t tbin1 1 rfl rfl), (gtbl_t tbin5 123 rfl rfl), by decide +kernel, by decide +kernel⟩
theorem sg_X12_holder : (parseMethodDescriptor yX12_holder.desc).map (fun d => d.parameters.length) = some 1 := by decide +kernel
theorem mt_X12_greatestDivisor : gMs yX12_greatestDivisor cX12_greatestDivisor 11 (some .long) := ⟨(gtbl_t tbin5 125 rfl rfl), (gtbl_t tbin1 1 rfl rfl), (gtbl_t tbin5 126 rfl rfl), by decide +kernel, by decide +kernel⟩
theorem sg_X12_greatestDivisor : (parseMethodDescriptor yX12_greatestDivisor.desc).map (fun d => d.parameters.length) = some 2 := by decide +kernel
theorem mt_X13_feed : gMt yX13_feed cX13_feed 8 (some .int) := ⟨(gtbl_t tbin6 196 rfl rfl), (gtbl_t tbin6 197 rfl rfl), (gtbl_t tbin1 14 rfl rfl), (gtbl_t tbin6 198 rfl rfl), by decide +kernel, by decide +kernel⟩
theorem sg_X13_feed : (parseMethodDescriptor yX13_feed.desc).map (fun d => d.parameters.length) = some 5 := by decide +kernel
theorem mt_X13_here : gMt yX13_here cX13_here 1 (some .int) := ⟨(gtbl_t tbin6 209 rfl rfl), (gtbl_in 50 rfl rfl), (gtbl_t tbin1 14 rfl rfl), (gtbl_t tbin6 210 rfl rfl), by decide +kernel, by decide +kernel⟩
theorem sg_X13_here : (parseMethodDescriptor yX13_here.desc).map (fun d => d.parameters.length) = some 0 := by decide +kernel
theorem mt_X13_isSmall : gMs yX13_isSmall cX13_isSmall 1 (some .boolean) := ⟨(gtbl_t tbin6 212 rfl rfl), (gtbl_t tbin1 14 rfl rfl), (gtbl_t tbin6 213 rfl rfl), by decide +kernel, by decide +kernel⟩
theorem sg_X13_isSmall : (parseMethodDescriptor yX13_isSmall.desc).map (fun d => d.parameters.length) = some 1 := by decide +kernel
theorem mt_X13_isDigit : gMs yX13_isDigit cX13_isDigit 1 (some .boolean) := ⟨(gtbl_t tbin6 222 rfl rfl), (gtbl_t tbin1 14 rfl rfl), (gtbl_t tbin6 223 rfl rfl), by decide +kernel, by decide +kernel⟩
theorem sg_X13_isDigit : (parseMethodDescriptor yX13_isDigit.desc).map (fun d => d.parameters.length) = some 1 := by decide +kernel
theorem mt_X13_token : gMt yX13_token cX13_token 2 none := ⟨(gtbl_t tbin6 205 rfl rfl), (gtbl_in 49 rfl rfl), (gtbl_t tbin1 14 rfl rfl), (gtbl_t tbin6 206 rfl rfl), by decide +kernel, by decide +kernel⟩
theorem sg_X13_token : (parseMethodDescriptor yX13_token.desc).map (fun d => d.parameters.length) = some 0 := by decide +kernel
theorem mt_X13_wordHere : gMt yX13_wordHere cX13_wordHere 4 (some .int) := ⟨(gtbl_t tbin6 216 rfl rfl), (gtbl_in 51 rfl rfl), (gtbl_t tbin1 14 rfl rfl), (gtbl_t tbin6 217 rfl rfl), by decide +kernel, by decide +kernel⟩
theorem sg_X13_wordHere : (parseMethodDescriptor yX13_wordHere.desc).map (fun d => d.parameters.length) = some 0 := by decide +kernel
theorem mt_X13_wrong : gMt yX13_wrong cX13_wrong 2 none := ⟨(gtbl_t tbin7 3 rfl rfl), (gtbl_in 56 rfl rfl), (gtbl_t tbin1 14 rfl rfl), (gtbl_t tbin7 4 rfl rfl), by decide +kernel, by decide +kernel⟩
theorem sg_X13_wrong : (parseMethodDescriptor yX13_wrong.desc).map (fun d => d.parameters.length) = some 1 := by decide +kernel
theorem mt_X13_goOn : gMt yX13_goOn cX13_goOn 1 none := ⟨(gtbl_t tbin6 235 rfl rfl), (gtbl_in 54 rfl rfl), (gtbl_t tbin1 14 rfl rfl), (gtbl_t tbin6 236 rfl rfl), by decide +kernel, by decide +kernel⟩
theorem sg_X13_goOn : (parseMethodDescriptor yX13_goOn.desc).map (fun d => d.parameters.length) = some 0 := by decide +kernel
theorem mt_X13_isWord : gMt yX13_isWord cX13_isWord 2 (some .boolean) := ⟨(gtbl_t tbin7 11 rfl rfl), (gtbl_in 58 rfl rfl), (gtbl_t tbin1 14 rfl rfl), (gtbl_t tbin7 12 rfl rfl), by decide +kernel, by decide +kernel⟩
theorem sg_X13_isWord : (parseMethodDescriptor yX13_isWord.desc).map (fun d => d.parameters.length) = some 1 := by decide +kernel
theorem mt_X13_isOther : gMt yX13_isOther cX13_isOther 1 (some .boolean) := ⟨(gtbl_t tbin7 23 rfl rfl), (gtbl_in 61 rfl rfl), (gtbl_t tbin1 14 rfl rfl), (gtbl_t tbin7 24 rfl rfl), by decide +kernel, by decide +kernel⟩
theorem sg_X13_isOther : (parseMethodDescriptor yX13_isOther.desc).map (fun d => d.parameters.length) = some 0 := by decide +kernel
theorem mt_X13_numberHere : gMt yX13_numberHere cX13_numberHere 3 (some .int) := ⟨(gtbl_t tbin6 239 rfl rfl), (gtbl_in 55 rfl rfl), (gtbl_t tbin1 14 rfl rfl), (gtbl_t tbin7 0 rfl rfl), by decide +kernel, by decide +kernel⟩
theorem sg_X13_numberHere : (parseMethodDescriptor yX13_numberHere.desc).map (fun d => d.parameters.length) = some 2 := by decide +kernel
theorem mt_X13_number : gMt yX13_number cX13_number 4 (some .int) := ⟨(gtbl_t tbin7 7 rfl rfl), (gtbl_in 57 rfl rfl), (gtbl_t tbin1 14 rfl rfl), (gtbl_t tbin7 8 rfl rfl), by decide +kernel, by decide +kernel⟩
theorem sg_X13_number : (parseMethodDescriptor yX13_number.desc).map (fun d => d.parameters.length) = some 2 := by decide +kernel
theorem mt_X13_namedHere : gMt yX13_namedHere cX13_namedHere 3 (some .int) := ⟨(gtbl_t tbin7 27 rfl rfl), (gtbl_in 62 rfl rfl), (gtbl_t tbin1 14 rfl rfl), (gtbl_t tbin7 28 rfl rfl), by decide +kernel, by decide +kernel⟩
theorem sg_X13_namedHere : (parseMethodDescriptor yX13_namedHere.desc).map (fun d => d.parameters.length) = some 1 := by decide +kernel
theorem mt_X13_toldHere : gMt yX13_toldHere cX13_toldHere 2 (some .int) := ⟨(gtbl_t tbin7 39 rfl rfl), (gtbl_in 65 rfl rfl), (gtbl_t tbin1 14 rfl rfl), (gtbl_t tbin7 40 rfl rfl), by decide +kernel, by decide +kernel⟩
theorem sg_X13_toldHere : (parseMethodDescriptor yX13_toldHere.desc).map (fun d => d.parameters.length) = some 1 := by decide +kernel
theorem mt_X13_told : gMt yX13_told cX13_told 3 (some .int) := ⟨(gtbl_t tbin7 35 rfl rfl), (gtbl_in 64 rfl rfl), (gtbl_t tbin1 14 rfl rfl), (gtbl_t tbin7 36 rfl rfl), by decide +kernel, by decide +kernel⟩
theorem sg_X13_told : (parseMethodDescriptor yX13_told.desc).map (fun d => d.parameters.length) = some 1 := by decide +kernel
theorem mt_X13_newName : gMt yX13_newName cX13_newName 2 none := ⟨(gtbl_t tbin7 19 rfl rfl), (gtbl_in 60 rfl rfl), (gtbl_t tbin1 14 rfl rfl), (gtbl_t tbin7 20 rfl rfl), by decide +kernel, by decide +kernel⟩
theorem sg_X13_newName : (parseMethodDescriptor yX13_newName.desc).map (fun d => d.parameters.length) = some 1 := by decide +kernel
theorem mt_X13_readLand : gMt yX13_readLand cX13_readLand 4 none := ⟨(gtbl_t tbin6 231 rfl rfl), (gtbl_in 53 rfl rfl), (gtbl_t tbin1 14 rfl rfl), (gtbl_t tbin6 232 rfl rfl), by decide +kernel, by decide +kernel⟩
theorem sg_X13_readLand : (parseMethodDescriptor yX13_readLand.desc).map (fun d => d.parameters.length) = some 0 := by decide +kernel
theorem mt_X13_readPerson : gMt yX13_readPerson cX13_readPerson 2 none := ⟨(gtbl_t tbin7 15 rfl rfl), (gtbl_in 59 rfl rfl), (gtbl_t tbin1 14 rfl rfl), (gtbl_t tbin7 16 rfl rfl), by decide +kernel, by decide +kernel⟩
theorem sg_X13_readPerson : (parseMethodDescriptor yX13_readPerson.desc).map (fun d => d.parameters.length) = some 0 := by decide +kernel
theorem mt_X13_readChild : gMt yX13_readChild cX13_readChild 3 none := ⟨(gtbl_t tbin7 31 rfl rfl), (gtbl_in 63 rfl rfl), (gtbl_t tbin1 14 rfl rfl), (gtbl_t tbin7 32 rfl rfl), by decide +kernel, by decide +kernel⟩
theorem sg_X13_readChild : (parseMethodDescriptor yX13_readChild.desc).map (fun d => d.parameters.length) = some 0 := by decide +kernel
theorem mt_X13_readWed : gMt yX13_readWed cX13_readWed 4 none := ⟨(gtbl_t tbin7 44 rfl rfl), (gtbl_in 66 rfl rfl), (gtbl_t tbin1 14 rfl rfl), (gtbl_t tbin7 45 rfl rfl), by decide +kernel, by decide +kernel⟩
theorem sg_X13_readWed : (parseMethodDescriptor yX13_readWed.desc).map (fun d => d.parameters.length) = some 0 := by decide +kernel
theorem mt_X13_weds : gMs yX13_weds cX13_weds 5 none := ⟨(gtbl_t tbin7 47 rfl rfl), (gtbl_t tbin1 14 rfl rfl), (gtbl_t tbin7 48 rfl rfl), by decide +kernel, by decide +kernel⟩
theorem sg_X13_weds : (parseMethodDescriptor yX13_weds.desc).map (fun d => d.parameters.length) = some 4 := by decide +kernel
theorem mt_X13_readThing : gMt yX13_readThing cX13_readThing 5 none := ⟨(gtbl_t tbin7 51 rfl rfl), (gtbl_in 67 rfl rfl), (gtbl_t tbin1 14 rfl rfl), (gtbl_t tbin7 52 rfl rfl), by decide +kernel, by decide +kernel⟩
theorem sg_X13_readThing : (parseMethodDescriptor yX13_readThing.desc).map (fun d => d.parameters.length) = some 0 := by decide +kernel
theorem mt_X13_readPaper : gMt yX13_readPaper cX13_readPaper 6 none := ⟨(gtbl_t tbin7 55 rfl rfl), (gtbl_in 68 rfl rfl), (gtbl_t tbin1 14 rfl rfl), (gtbl_t tbin7 56 rfl rfl), by decide +kernel, by decide +kernel⟩
theorem sg_X13_readPaper : (parseMethodDescriptor yX13_readPaper.desc).map (fun d => d.parameters.length) = some 0 := by decide +kernel
theorem mt_X13_readPart : gMt yX13_readPart cX13_readPart 4 (some .boolean) := ⟨(gtbl_t tbin7 59 rfl rfl), (gtbl_in 69 rfl rfl), (gtbl_t tbin1 14 rfl rfl), (gtbl_t tbin7 60 rfl rfl), by decide +kernel, by decide +kernel⟩
theorem sg_X13_readPart : (parseMethodDescriptor yX13_readPart.desc).map (fun d => d.parameters.length) = some 2 := by decide +kernel
theorem mt_X13_readGive : gMt yX13_readGive cX13_readGive 9 (some .boolean) := ⟨(gtbl_t tbin7 63 rfl rfl), (gtbl_in 70 rfl rfl), (gtbl_t tbin1 14 rfl rfl), (gtbl_t tbin7 64 rfl rfl), by decide +kernel, by decide +kernel⟩
theorem sg_X13_readGive : (parseMethodDescriptor yX13_readGive.desc).map (fun d => d.parameters.length) = some 2 := by decide +kernel
theorem mt_X13_readLost : gMt yX13_readLost cX13_readLost 3 none := ⟨(gtbl_t tbin7 67 rfl rfl), (gtbl_in 71 rfl rfl), (gtbl_t tbin1 14 rfl rfl), (gtbl_t tbin7 68 rfl rfl), by decide +kernel, by decide +kernel⟩
theorem sg_X13_readLost : (parseMethodDescriptor yX13_readLost.desc).map (fun d => d.parameters.length) = some 0 := by decide +kernel
theorem mt_X13_readDies : gMt yX13_readDies cX13_readDies 3 none := ⟨(gtbl_t tbin7 71 rfl rfl), (gtbl_in 72 rfl rfl), (gtbl_t tbin1 14 rfl rfl), (gtbl_t tbin7 72 rfl rfl), by decide +kernel, by decide +kernel⟩
theorem sg_X13_readDies : (parseMethodDescriptor yX13_readDies.desc).map (fun d => d.parameters.length) = some 0 := by decide +kernel
theorem mt_X13_readLine : gMt yX13_readLine cX13_readLine 2 none := ⟨(gtbl_t tbin6 227 rfl rfl), (gtbl_in 52 rfl rfl), (gtbl_t tbin1 14 rfl rfl), (gtbl_t tbin6 228 rfl rfl), by decide +kernel, by decide +kernel⟩
theorem sg_X13_readLine : (parseMethodDescriptor yX13_readLine.desc).map (fun d => d.parameters.length) = some 0 := by decide +kernel
theorem mt_X13_begins : gMt yX13_begins cX13_begins 2 none := ⟨(gtbl_t tbin6 89 rfl rfl), (gtbl_in 47 rfl rfl), (gtbl_t tbin1 14 rfl rfl), (gtbl_t tbin6 90 rfl rfl), by decide +kernel, by decide +kernel⟩
theorem sg_X13_begins : (parseMethodDescriptor yX13_begins.desc).map (fun d => d.parameters.length) = some 0 := by decide +kernel
theorem mt_X13_becomes : gMt yX13_becomes cX13_becomes 2 none := ⟨(gtbl_t tbin6 93 rfl rfl), (gtbl_in 48 rfl rfl), (gtbl_t tbin1 14 rfl rfl), (gtbl_t tbin6 94 rfl rfl), by decide +kernel, by decide +kernel⟩
theorem sg_X13_becomes : (parseMethodDescriptor yX13_becomes.desc).map (fun d => d.parameters.length) = some 0 := by decide +kernel
theorem mt_X13_text : gMt yX13_text cX13_text 2 (some .int) := ⟨(gtbl_t tbin6 200 rfl rfl), (gtbl_t tbin6 201 rfl rfl), (gtbl_t tbin1 14 rfl rfl), (gtbl_t tbin6 202 rfl rfl), by decide +kernel, by decide +kernel⟩
theorem sg_X13_text : (parseMethodDescriptor yX13_text.desc).map (fun d => d.parameters.length) = some 1 := by decide +kernel
theorem mt_X13_fault : gMt yX13_fault cX13_fault 2 (some .int) := ⟨(gtbl_t tbin7 74 rfl rfl), (gtbl_t tbin7 75 rfl rfl), (gtbl_t tbin1 14 rfl rfl), (gtbl_t tbin7 76 rfl rfl), by decide +kernel, by decide +kernel⟩
theorem sg_X13_fault : (parseMethodDescriptor yX13_fault.desc).map (fun d => d.parameters.length) = some 1 := by decide +kernel
theorem mt_X13_isPerson : gMt yX13_isPerson cX13_isPerson 2 (some .boolean) := ⟨(gtbl_t tbin7 83 rfl rfl), (gtbl_in 73 rfl rfl), (gtbl_t tbin1 14 rfl rfl), (gtbl_t tbin7 84 rfl rfl), by decide +kernel, by decide +kernel⟩
theorem sg_X13_isPerson : (parseMethodDescriptor yX13_isPerson.desc).map (fun d => d.parameters.length) = some 1 := by decide +kernel
theorem mt_X13_isPaper : gMt yX13_isPaper cX13_isPaper 2 (some .boolean) := ⟨(gtbl_t tbin7 103 rfl rfl), (gtbl_in 77 rfl rfl), (gtbl_t tbin1 14 rfl rfl), (gtbl_t tbin7 104 rfl rfl), by decide +kernel, by decide +kernel⟩
theorem sg_X13_isPaper : (parseMethodDescriptor yX13_isPaper.desc).map (fun d => d.parameters.length) = some 1 := by decide +kernel
theorem mt_X13_isThing : gMt yX13_isThing cX13_isThing 2 (some .boolean) := ⟨(gtbl_t tbin7 115 rfl rfl), (gtbl_in 79 rfl rfl), (gtbl_t tbin1 14 rfl rfl), (gtbl_t tbin7 116 rfl rfl), by decide +kernel, by decide +kernel⟩
theorem sg_X13_isThing : (parseMethodDescriptor yX13_isThing.desc).map (fun d => d.parameters.length) = some 1 := by decide +kernel
theorem mt_X13_isDay : gMs yX13_isDay cX13_isDay 1 (some .boolean) := ⟨(gtbl_t tbin7 154 rfl rfl), (gtbl_t tbin1 14 rfl rfl), (gtbl_t tbin7 155 rfl rfl), by decide +kernel, by decide +kernel⟩
theorem sg_X13_isDay : (parseMethodDescriptor yX13_isDay.desc).map (fun d => d.parameters.length) = some 1 := by decide +kernel
theorem mt_X13_of : gMt yX13_of cX13_of 3 (some .int) := ⟨(gtbl_t tbin7 107 rfl rfl), (gtbl_in 78 rfl rfl), (gtbl_t tbin1 14 rfl rfl), (gtbl_t tbin7 108 rfl rfl), by decide +kernel, by decide +kernel⟩
theorem sg_X13_of : (parseMethodDescriptor yX13_of.desc).map (fun d => d.parameters.length) = some 2 := by decide +kernel
theorem mt_X13_landOf : gMt yX13_landOf cX13_landOf 2 (some .int) := ⟨(gtbl_t tbin7 206 rfl rfl), (gtbl_in 89 rfl rfl), (gtbl_t tbin1 14 rfl rfl), (gtbl_t tbin7 207 rfl rfl), by decide +kernel, by decide +kernel⟩
theorem sg_X13_landOf : (parseMethodDescriptor yX13_landOf.desc).map (fun d => d.parameters.length) = some 1 := by decide +kernel
theorem mt_X13_has : gMt yX13_has cX13_has 3 (some .boolean) := ⟨(gtbl_t tbin7 186 rfl rfl), (gtbl_in 85 rfl rfl), (gtbl_t tbin1 14 rfl rfl), (gtbl_t tbin7 187 rfl rfl), by decide +kernel, by decide +kernel⟩
theorem sg_X13_has : (parseMethodDescriptor yX13_has.desc).map (fun d => d.parameters.length) = some 2 := by decide +kernel
theorem mt_X13_diesOn : gMt yX13_diesOn cX13_diesOn 2 (some .int) := ⟨(gtbl_t tbin7 87 rfl rfl), (gtbl_in 74 rfl rfl), (gtbl_t tbin1 14 rfl rfl), (gtbl_t tbin7 88 rfl rfl), by decide +kernel, by decide +kernel⟩
theorem sg_X13_diesOn : (parseMethodDescriptor yX13_diesOn.desc).map (fun d => d.parameters.length) = some 1 := by decide +kernel
theorem mt_X13_lives : gMt yX13_lives cX13_lives 3 (some .boolean) := ⟨(gtbl_t tbin7 182 rfl rfl), (gtbl_in 84 rfl rfl), (gtbl_t tbin1 14 rfl rfl), (gtbl_t tbin7 183 rfl rfl), by decide +kernel, by decide +kernel⟩
theorem sg_X13_lives : (parseMethodDescriptor yX13_lives.desc).map (fun d => d.parameters.length) = some 2 := by decide +kernel
theorem mt_X13_childrenOf : gMt yX13_childrenOf cX13_childrenOf 4 (some .int) := ⟨(gtbl_t tbin7 91 rfl rfl), (gtbl_in 75 rfl rfl), (gtbl_t tbin1 14 rfl rfl), (gtbl_t tbin7 92 rfl rfl), by decide +kernel, by decide +kernel⟩
theorem sg_X13_childrenOf : (parseMethodDescriptor yX13_childrenOf.desc).map (fun d => d.parameters.length) = some 1 := by decide +kernel
theorem mt_X13_wedTo : gMt yX13_wedTo cX13_wedTo 8 (some .int) := ⟨(gtbl_t tbin7 95 rfl rfl), (gtbl_in 76 rfl rfl), (gtbl_t tbin1 14 rfl rfl), (gtbl_t tbin7 96 rfl rfl), by decide +kernel, by decide +kernel⟩
theorem sg_X13_wedTo : (parseMethodDescriptor yX13_wedTo.desc).map (fun d => d.parameters.length) = some 2 := by decide +kernel
theorem mt_X13_person : gMt yX13_person cX13_person 3 (some .int) := ⟨(gtbl_t tbin7 78 rfl rfl), (gtbl_t tbin7 79 rfl rfl), (gtbl_t tbin1 14 rfl rfl), (gtbl_t tbin7 80 rfl rfl), by decide +kernel, by decide +kernel⟩
theorem sg_X13_person : (parseMethodDescriptor yX13_person.desc).map (fun d => d.parameters.length) = some 2 := by decide +kernel
theorem mt_X13_paper : gMt yX13_paper cX13_paper 3 (some .int) := ⟨(gtbl_t tbin7 98 rfl rfl), (gtbl_t tbin7 99 rfl rfl), (gtbl_t tbin1 14 rfl rfl), (gtbl_t tbin7 100 rfl rfl), by decide +kernel, by decide +kernel⟩
theorem sg_X13_paper : (parseMethodDescriptor yX13_paper.desc).map (fun d => d.parameters.length) = some 2 := by decide +kernel
theorem mt_X13_thing : gMt yX13_thing cX13_thing 3 (some .int) := ⟨(gtbl_t tbin7 110 rfl rfl), (gtbl_t tbin7 111 rfl rfl), (gtbl_t tbin1 14 rfl rfl), (gtbl_t tbin7 112 rfl rfl), by decide +kernel, by decide +kernel⟩
theorem sg_X13_thing : (parseMethodDescriptor yX13_thing.desc).map (fun d => d.parameters.length) = some 2 := by decide +kernel
theorem mt_X13_land : gMt yX13_land cX13_land 3 (some .int) := ⟨(gtbl_t tbin7 118 rfl rfl), (gtbl_t tbin7 119 rfl rfl), (gtbl_t tbin1 14 rfl rfl), (gtbl_t tbin7 120 rfl rfl), by decide +kernel, by decide +kernel⟩
theorem sg_X13_land : (parseMethodDescriptor yX13_land.desc).map (fun d => d.parameters.length) = some 2 := by decide +kernel
theorem mt_X13_give : gMt yX13_give cX13_give 4 (some .int) := ⟨(gtbl_t tbin7 122 rfl rfl), (gtbl_t tbin7 123 rfl rfl), (gtbl_t tbin1 14 rfl rfl), (gtbl_t tbin7 124 rfl rfl), by decide +kernel, by decide +kernel⟩
theorem sg_X13_give : (parseMethodDescriptor yX13_give.desc).map (fun d => d.parameters.length) = some 3 := by decide +kernel
theorem mt_X13_keeps : gMt yX13_keeps cX13_keeps 2 none := ⟨(gtbl_t tbin7 135 rfl rfl), (gtbl_in 81 rfl rfl), (gtbl_t tbin1 14 rfl rfl), (gtbl_t tbin7 136 rfl rfl), by decide +kernel, by decide +kernel⟩
theorem sg_X13_keeps : (parseMethodDescriptor yX13_keeps.desc).map (fun d => d.parameters.length) = some 0 := by decide +kernel
theorem mt_X13_puts : gMt yX13_puts cX13_puts 3 (some .boolean) := ⟨(gtbl_t tbin7 131 rfl rfl), (gtbl_in 80 rfl rfl), (gtbl_t tbin1 14 rfl rfl), (gtbl_t tbin7 132 rfl rfl), by decide +kernel, by decide +kernel⟩
theorem sg_X13_puts : (parseMethodDescriptor yX13_puts.desc).map (fun d => d.parameters.length) = some 2 := by decide +kernel
theorem mt_X13_lose : gMt yX13_lose cX13_lose 3 (some .boolean) := ⟨(gtbl_t tbin7 126 rfl rfl), (gtbl_t tbin7 127 rfl rfl), (gtbl_t tbin1 14 rfl rfl), (gtbl_t tbin7 128 rfl rfl), by decide +kernel, by decide +kernel⟩
theorem sg_X13_lose : (parseMethodDescriptor yX13_lose.desc).map (fun d => d.parameters.length) = some 2 := by decide +kernel
theorem mt_X13_find : gMt yX13_find cX13_find 2 (some .boolean) := ⟨(gtbl_t tbin7 138 rfl rfl), (gtbl_t tbin7 139 rfl rfl), (gtbl_t tbin1 14 rfl rfl), (gtbl_t tbin7 140 rfl rfl), by decide +kernel, by decide +kernel⟩
theorem sg_X13_find : (parseMethodDescriptor yX13_find.desc).map (fun d => d.parameters.length) = some 1 := by decide +kernel
theorem mt_X13_copy : gMt yX13_copy cX13_copy 2 (some .int) := ⟨(gtbl_t tbin7 142 rfl rfl), (gtbl_t tbin7 143 rfl rfl), (gtbl_t tbin1 14 rfl rfl), (gtbl_t tbin7 144 rfl rfl), by decide +kernel, by decide +kernel⟩
theorem sg_X13_copy : (parseMethodDescriptor yX13_copy.desc).map (fun d => d.parameters.length) = some 1 := by decide +kernel
theorem mt_X13_witness : gMt yX13_witness cX13_witness 4 (some .int) := ⟨(gtbl_t tbin7 146 rfl rfl), (gtbl_t tbin7 147 rfl rfl), (gtbl_t tbin1 14 rfl rfl), (gtbl_t tbin7 148 rfl rfl), by decide +kernel, by decide +kernel⟩
theorem sg_X13_witness : (parseMethodDescriptor yX13_witness.desc).map (fun d => d.parameters.length) = some 2 := by decide +kernel
theorem mt_X13_wed : gMt yX13_wed cX13_wed 4 (some .int) := ⟨(gtbl_t tbin7 150 rfl rfl), (gtbl_t tbin7 151 rfl rfl), (gtbl_t tbin1 14 rfl rfl), (gtbl_t tbin7 152 rfl rfl), by decide +kernel, by decide +kernel⟩
theorem sg_X13_wed : (parseMethodDescriptor yX13_wed.desc).map (fun d => d.parameters.length) = some 3 := by decide +kernel
theorem mt_X13_dies : gMt yX13_dies cX13_dies 3 (some .boolean) := ⟨(gtbl_t tbin7 157 rfl rfl), (gtbl_t tbin7 158 rfl rfl), (gtbl_t tbin1 14 rfl rfl), (gtbl_t tbin7 159 rfl rfl), by decide +kernel, by decide +kernel⟩
theorem sg_X13_dies : (parseMethodDescriptor yX13_dies.desc).map (fun d => d.parameters.length) = some 2 := by decide +kernel
theorem mt_X13_takeBack : gMt yX13_takeBack cX13_takeBack 2 (some .boolean) := ⟨(gtbl_t tbin7 161 rfl rfl), (gtbl_t tbin7 162 rfl rfl), (gtbl_t tbin1 14 rfl rfl), (gtbl_t tbin7 163 rfl rfl), by decide +kernel, by decide +kernel⟩
theorem sg_X13_takeBack : (parseMethodDescriptor yX13_takeBack.desc).map (fun d => d.parameters.length) = some 1 := by decide +kernel
theorem mt_X13_undo : gMt yX13_undo cX13_undo 2 (some .int) := ⟨(gtbl_t tbin7 165 rfl rfl), (gtbl_t tbin7 166 rfl rfl), (gtbl_t tbin1 14 rfl rfl), (gtbl_t tbin7 167 rfl rfl), by decide +kernel, by decide +kernel⟩
theorem sg_X13_undo : (parseMethodDescriptor yX13_undo.desc).map (fun d => d.parameters.length) = some 0 := by decide +kernel
theorem mt_X13_living : gMt yX13_living cX13_living 4 (some .int) := ⟨(gtbl_t tbin7 178 rfl rfl), (gtbl_in 83 rfl rfl), (gtbl_t tbin1 14 rfl rfl), (gtbl_t tbin7 179 rfl rfl), by decide +kernel, by decide +kernel⟩
theorem sg_X13_living : (parseMethodDescriptor yX13_living.desc).map (fun d => d.parameters.length) = some 1 := by decide +kernel
theorem mt_X13_hasForm : gMt yX13_hasForm cX13_hasForm 3 (some .boolean) := ⟨(gtbl_t tbin7 174 rfl rfl), (gtbl_in 82 rfl rfl), (gtbl_t tbin1 14 rfl rfl), (gtbl_t tbin7 175 rfl rfl), by decide +kernel, by decide +kernel⟩
theorem sg_X13_hasForm : (parseMethodDescriptor yX13_hasForm.desc).map (fun d => d.parameters.length) = some 2 := by decide +kernel
theorem mt_X13_form : gMt yX13_form cX13_form 3 (some .int) := ⟨(gtbl_t tbin7 169 rfl rfl), (gtbl_t tbin7 170 rfl rfl), (gtbl_t tbin1 14 rfl rfl), (gtbl_t tbin7 171 rfl rfl), by decide +kernel, by decide +kernel⟩
theorem sg_X13_form : (parseMethodDescriptor yX13_form.desc).map (fun d => d.parameters.length) = some 2 := by decide +kernel
theorem mt_X13_isProved : gMt yX13_isProved cX13_isProved 2 (some .boolean) := ⟨(gtbl_t tbin7 202 rfl rfl), (gtbl_in 88 rfl rfl), (gtbl_t tbin1 14 rfl rfl), (gtbl_t tbin7 203 rfl rfl), by decide +kernel, by decide +kernel⟩
theorem sg_X13_isProved : (parseMethodDescriptor yX13_isProved.desc).map (fun d => d.parameters.length) = some 1 := by decide +kernel
theorem mt_X13_lacks : gMt yX13_lacks cX13_lacks 4 (some .int) := ⟨(gtbl_t tbin7 198 rfl rfl), (gtbl_in 87 rfl rfl), (gtbl_t tbin1 14 rfl rfl), (gtbl_t tbin7 199 rfl rfl), by decide +kernel, by decide +kernel⟩
theorem sg_X13_lacks : (parseMethodDescriptor yX13_lacks.desc).map (fun d => d.parameters.length) = some 2 := by decide +kernel
theorem mt_X13_isLater : gMt yX13_isLater cX13_isLater 3 (some .boolean) := ⟨(gtbl_t tbin7 214 rfl rfl), (gtbl_in 91 rfl rfl), (gtbl_t tbin1 14 rfl rfl), (gtbl_t tbin7 215 rfl rfl), by decide +kernel, by decide +kernel⟩
theorem sg_X13_isLater : (parseMethodDescriptor yX13_isLater.desc).map (fun d => d.parameters.length) = some 2 := by decide +kernel
theorem mt_X13_struck : gMt yX13_struck cX13_struck 6 (some .int) := ⟨(gtbl_t tbin7 210 rfl rfl), (gtbl_in 90 rfl rfl), (gtbl_t tbin1 14 rfl rfl), (gtbl_t tbin7 211 rfl rfl), by decide +kernel, by decide +kernel⟩
theorem sg_X13_struck : (parseMethodDescriptor yX13_struck.desc).map (fun d => d.parameters.length) = some 2 := by decide +kernel
theorem mt_X13_isBroken : gMt yX13_isBroken cX13_isBroken 6 (some .boolean) := ⟨(gtbl_t tbin7 218 rfl rfl), (gtbl_in 92 rfl rfl), (gtbl_t tbin1 14 rfl rfl), (gtbl_t tbin7 219 rfl rfl), by decide +kernel, by decide +kernel⟩
theorem sg_X13_isBroken : (parseMethodDescriptor yX13_isBroken.desc).map (fun d => d.parameters.length) = some 1 := by decide +kernel
theorem mt_X13_whyNot : gMt yX13_whyNot cX13_whyNot 4 (some .int) := ⟨(gtbl_t tbin7 194 rfl rfl), (gtbl_in 86 rfl rfl), (gtbl_t tbin1 14 rfl rfl), (gtbl_t tbin7 195 rfl rfl), by decide +kernel, by decide +kernel⟩
theorem sg_X13_whyNot : (parseMethodDescriptor yX13_whyNot.desc).map (fun d => d.parameters.length) = some 2 := by decide +kernel
theorem mt_X13_why : gMt yX13_why cX13_why 3 (some .int) := ⟨(gtbl_t tbin7 189 rfl rfl), (gtbl_t tbin7 190 rfl rfl), (gtbl_t tbin1 14 rfl rfl), (gtbl_t tbin7 191 rfl rfl), by decide +kernel, by decide +kernel⟩
theorem sg_X13_why : (parseMethodDescriptor yX13_why.desc).map (fun d => d.parameters.length) = some 2 := by decide +kernel
theorem mt_X13_struckBy : gMt yX13_struckBy cX13_struckBy 3 (some .int) := ⟨(gtbl_t tbin7 221 rfl rfl), (gtbl_t tbin7 222 rfl rfl), (gtbl_t tbin1 14 rfl rfl), (gtbl_t tbin7 223 rfl rfl), by decide +kernel, by decide +kernel⟩
theorem sg_X13_struckBy : (parseMethodDescriptor yX13_struckBy.desc).map (fun d => d.parameters.length) = some 2 := by decide +kernel
theorem mt_X13_countingAt : gMt yX13_countingAt cX13_countingAt 7 (some .int) := ⟨(gtbl_t tbin7 230 rfl rfl), (gtbl_in 93 rfl rfl), (gtbl_t tbin1 14 rfl rfl), (gtbl_t tbin7 231 rfl rfl), by decide +kernel, by decide +kernel⟩
theorem sg_X13_countingAt : (parseMethodDescriptor yX13_countingAt.desc).map (fun d => d.parameters.length) = some 3 := by decide +kernel
theorem mt_X13_counting : gMt yX13_counting cX13_counting 4 (some .int) := ⟨(gtbl_t tbin7 225 rfl rfl), (gtbl_t tbin7 226 rfl rfl), (gtbl_t tbin1 14 rfl rfl), (gtbl_t tbin7 227 rfl rfl), by decide +kernel, by decide +kernel⟩
theorem sg_X13_counting : (parseMethodDescriptor yX13_counting.desc).map (fun d => d.parameters.length) = some 3 := by decide +kernel
theorem mt_X13_mayTake : gMt yX13_mayTake cX13_mayTake 6 (some .boolean) := ⟨(gtbl_t tbin8 6 rfl rfl), (gtbl_in 96 rfl rfl), (gtbl_t tbin1 14 rfl rfl), (gtbl_t tbin8 7 rfl rfl), by decide +kernel, by decide +kernel⟩
theorem sg_X13_mayTake : (parseMethodDescriptor yX13_mayTake.desc).map (fun d => d.parameters.length) = some 4 := by decide +kernel
theorem mt_X13_takerBy : gMt yX13_takerBy cX13_takerBy 8 (some .int) := ⟨(gtbl_t tbin8 2 rfl rfl), (gtbl_in 95 rfl rfl), (gtbl_t tbin1 14 rfl rfl), (gtbl_t tbin8 3 rfl rfl), by decide +kernel, by decide +kernel⟩
theorem sg_X13_takerBy : (parseMethodDescriptor yX13_takerBy.desc).map (fun d => d.parameters.length) = some 4 := by decide +kernel
theorem mt_X13_laysTaker : gMt yX13_laysTaker cX13_laysTaker 5 none := ⟨(gtbl_t tbin7 238 rfl rfl), (gtbl_in 94 rfl rfl), (gtbl_t tbin1 14 rfl rfl), (gtbl_t tbin7 239 rfl rfl), by decide +kernel, by decide +kernel⟩
theorem sg_X13_laysTaker : (parseMethodDescriptor yX13_laysTaker.desc).map (fun d => d.parameters.length) = some 2 := by decide +kernel
theorem mt_X13_taker : gMt yX13_taker cX13_taker 3 (some .int) := ⟨(gtbl_t tbin7 233 rfl rfl), (gtbl_t tbin7 234 rfl rfl), (gtbl_t tbin1 14 rfl rfl), (gtbl_t tbin7 235 rfl rfl), by decide +kernel, by decide +kernel⟩
theorem sg_X13_taker : (parseMethodDescriptor yX13_taker.desc).map (fun d => d.parameters.length) = some 2 := by decide +kernel
theorem mt_X13_takerBy_ : gMt yX13_takerBy_ cX13_takerBy_ 3 (some .int) := ⟨(gtbl_t tbin8 9 rfl rfl), (gtbl_t tbin8 10 rfl rfl), (gtbl_t tbin1 14 rfl rfl), (gtbl_t tbin8 11 rfl rfl), by decide +kernel, by decide +kernel⟩
theorem sg_X13_takerBy_ : (parseMethodDescriptor yX13_takerBy_.desc).map (fun d => d.parameters.length) = some 2 := by decide +kernel
theorem mt_X13_living_ : gMt yX13_living_ cX13_living_ 6 (some .int) := ⟨(gtbl_t tbin8 22 rfl rfl), (gtbl_in 98 rfl rfl), (gtbl_t tbin1 14 rfl rfl), (gtbl_t tbin8 23 rfl rfl), by decide +kernel, by decide +kernel⟩
theorem sg_X13_living_ : (parseMethodDescriptor yX13_living_.desc).map (fun d => d.parameters.length) = some 3 := by decide +kernel
theorem mt_X13_heirsOf : gMt yX13_heirsOf cX13_heirsOf 5 (some .int) := ⟨(gtbl_t tbin8 18 rfl rfl), (gtbl_in 97 rfl rfl), (gtbl_t tbin1 14 rfl rfl), (gtbl_t tbin8 19 rfl rfl), by decide +kernel, by decide +kernel⟩
theorem sg_X13_heirsOf : (parseMethodDescriptor yX13_heirsOf.desc).map (fun d => d.parameters.length) = some 1 := by decide +kernel
theorem mt_X13_heirs : gMt yX13_heirs cX13_heirs 2 (some .int) := ⟨(gtbl_t tbin8 13 rfl rfl), (gtbl_t tbin8 14 rfl rfl), (gtbl_t tbin1 14 rfl rfl), (gtbl_t tbin8 15 rfl rfl), by decide +kernel, by decide +kernel⟩
theorem sg_X13_heirs : (parseMethodDescriptor yX13_heirs.desc).map (fun d => d.parameters.length) = some 1 := by decide +kernel
theorem mt_X13_common : gMs yX13_common cX13_common 10 (some .long) := ⟨(gtbl_t tbin8 54 rfl rfl), (gtbl_t tbin1 14 rfl rfl), (gtbl_t tbin8 55 rfl rfl), by decide +kernel, by decide +kernel⟩
theorem sg_X13_common : (parseMethodDescriptor yX13_common.desc).map (fun d => d.parameters.length) = some 2 := by decide +kernel
theorem mt_X13_comes : gMt yX13_comes cX13_comes 14 none := ⟨(gtbl_t tbin8 51 rfl rfl), (gtbl_in 104 rfl rfl), (gtbl_t tbin1 14 rfl rfl), (gtbl_t tbin8 52 rfl rfl), by decide +kernel, by decide +kernel⟩
theorem sg_X13_comes : (parseMethodDescriptor yX13_comes.desc).map (fun d => d.parameters.length) = some 3 := by decide +kernel
theorem mt_X13_alike : gMt yX13_alike cX13_alike 8 none := ⟨(gtbl_t tbin8 47 rfl rfl), (gtbl_in 103 rfl rfl), (gtbl_t tbin1 14 rfl rfl), (gtbl_t tbin8 48 rfl rfl), by decide +kernel, by decide +kernel⟩
theorem sg_X13_alike : (parseMethodDescriptor yX13_alike.desc).map (fun d => d.parameters.length) = some 3 := by decide +kernel
theorem mt_X13_goesOn : gMt yX13_goesOn cX13_goesOn 9 none := ⟨(gtbl_t tbin8 43 rfl rfl), (gtbl_in 102 rfl rfl), (gtbl_t tbin1 14 rfl rfl), (gtbl_t tbin8 44 rfl rfl), by decide +kernel, by decide +kernel⟩
theorem sg_X13_goesOn : (parseMethodDescriptor yX13_goesOn.desc).map (fun d => d.parameters.length) = some 2 := by decide +kernel
theorem mt_X13_holding : gMt yX13_holding cX13_holding 3 (some .int) := ⟨(gtbl_t tbin8 35 rfl rfl), (gtbl_in 100 rfl rfl), (gtbl_t tbin1 14 rfl rfl), (gtbl_t tbin8 36 rfl rfl), by decide +kernel, by decide +kernel⟩
theorem sg_X13_holding : (parseMethodDescriptor yX13_holding.desc).map (fun d => d.parameters.length) = some 0 := by decide +kernel
theorem mt_X13_laysParts : gMt yX13_laysParts cX13_laysParts 5 none := ⟨(gtbl_t tbin8 31 rfl rfl), (gtbl_in 99 rfl rfl), (gtbl_t tbin1 14 rfl rfl), (gtbl_t tbin8 32 rfl rfl), by decide +kernel, by decide +kernel⟩
theorem sg_X13_laysParts : (parseMethodDescriptor yX13_laysParts.desc).map (fun d => d.parameters.length) = some 2 := by decide +kernel
theorem mt_X13_nextDeath : gMt yX13_nextDeath cX13_nextDeath 5 (some .int) := ⟨(gtbl_t tbin8 39 rfl rfl), (gtbl_in 101 rfl rfl), (gtbl_t tbin1 14 rfl rfl), (gtbl_t tbin8 40 rfl rfl), by decide +kernel, by decide +kernel⟩
theorem sg_X13_nextDeath : (parseMethodDescriptor yX13_nextDeath.desc).map (fun d => d.parameters.length) = some 2 := by decide +kernel
theorem mt_X13_has_ : gMt yX13_has_ cX13_has_ 6 (some .long) := ⟨(gtbl_t tbin8 25 rfl rfl), (gtbl_t tbin8 26 rfl rfl), (gtbl_t tbin1 14 rfl rfl), (gtbl_t tbin8 27 rfl rfl), by decide +kernel, by decide +kernel⟩
theorem sg_X13_has_ : (parseMethodDescriptor yX13_has_.desc).map (fun d => d.parameters.length) = some 4 := by decide +kernel
theorem mt_X13_holdersIn : gMt yX13_holdersIn cX13_holdersIn 3 (some .int) := ⟨(gtbl_t tbin8 63 rfl rfl), (gtbl_in 105 rfl rfl), (gtbl_t tbin1 14 rfl rfl), (gtbl_t tbin8 64 rfl rfl), by decide +kernel, by decide +kernel⟩
theorem sg_X13_holdersIn : (parseMethodDescriptor yX13_holdersIn.desc).map (fun d => d.parameters.length) = some 2 := by decide +kernel
theorem mt_X13_holders : gMt yX13_holders cX13_holders 3 (some .int) := ⟨(gtbl_t tbin8 58 rfl rfl), (gtbl_t tbin8 59 rfl rfl), (gtbl_t tbin1 14 rfl rfl), (gtbl_t tbin8 60 rfl rfl), by decide +kernel, by decide +kernel⟩
theorem sg_X13_holders : (parseMethodDescriptor yX13_holders.desc).map (fun d => d.parameters.length) = some 2 := by decide +kernel
theorem mt_X13_wealthOf : gMt yX13_wealthOf cX13_wealthOf 5 (some .int) := ⟨(gtbl_t tbin8 71 rfl rfl), (gtbl_in 106 rfl rfl), (gtbl_t tbin1 14 rfl rfl), (gtbl_t tbin8 72 rfl rfl), by decide +kernel, by decide +kernel⟩
theorem sg_X13_wealthOf : (parseMethodDescriptor yX13_wealthOf.desc).map (fun d => d.parameters.length) = some 1 := by decide +kernel
theorem mt_X13_wealth : gMt yX13_wealth cX13_wealth 2 (some .int) := ⟨(gtbl_t tbin8 66 rfl rfl), (gtbl_t tbin8 67 rfl rfl), (gtbl_t tbin1 14 rfl rfl), (gtbl_t tbin8 68 rfl rfl), by decide +kernel, by decide +kernel⟩
theorem sg_X13_wealth : (parseMethodDescriptor yX13_wealth.desc).map (fun d => d.parameters.length) = some 1 := by decide +kernel
theorem mt_X13_ever : gMt yX13_ever cX13_ever 4 (some .int) := ⟨(gtbl_t tbin8 75 rfl rfl), (gtbl_t tbin8 76 rfl rfl), (gtbl_t tbin1 14 rfl rfl), (gtbl_t tbin8 77 rfl rfl), by decide +kernel, by decide +kernel⟩
theorem sg_X13_ever : (parseMethodDescriptor yX13_ever.desc).map (fun d => d.parameters.length) = some 1 := by decide +kernel
theorem mt_X13_death : gMt yX13_death cX13_death 7 (some .int) := ⟨(gtbl_t tbin8 79 rfl rfl), (gtbl_t tbin8 80 rfl rfl), (gtbl_t tbin1 14 rfl rfl), (gtbl_t tbin8 81 rfl rfl), by decide +kernel, by decide +kernel⟩
theorem sg_X13_death : (parseMethodDescriptor yX13_death.desc).map (fun d => d.parameters.length) = some 2 := by decide +kernel
theorem mt_X13_moves : gMt yX13_moves cX13_moves 3 (some .int) := ⟨(gtbl_t tbin8 83 rfl rfl), (gtbl_t tbin8 84 rfl rfl), (gtbl_t tbin1 14 rfl rfl), (gtbl_t tbin8 85 rfl rfl), by decide +kernel, by decide +kernel⟩
theorem sg_X13_moves : (parseMethodDescriptor yX13_moves.desc).map (fun d => d.parameters.length) = some 2 := by decide +kernel
theorem mt_X13_nextKin : gMt yX13_nextKin cX13_nextKin 4 (some .int) := ⟨(gtbl_t tbin8 92 rfl rfl), (gtbl_in 107 rfl rfl), (gtbl_t tbin1 14 rfl rfl), (gtbl_t tbin8 93 rfl rfl), by decide +kernel, by decide +kernel⟩
theorem sg_X13_nextKin : (parseMethodDescriptor yX13_nextKin.desc).map (fun d => d.parameters.length) = some 1 := by decide +kernel
theorem mt_X13_kin : gMt yX13_kin cX13_kin 5 (some .int) := ⟨(gtbl_t tbin8 87 rfl rfl), (gtbl_t tbin8 88 rfl rfl), (gtbl_t tbin1 14 rfl rfl), (gtbl_t tbin8 89 rfl rfl), by decide +kernel, by decide +kernel⟩
theorem sg_X13_kin : (parseMethodDescriptor yX13_kin.desc).map (fun d => d.parameters.length) = some 2 := by decide +kernel
theorem mt_X13_naming : gMt yX13_naming cX13_naming 5 (some .int) := ⟨(gtbl_t tbin8 95 rfl rfl), (gtbl_t tbin8 96 rfl rfl), (gtbl_t tbin1 14 rfl rfl), (gtbl_t tbin8 97 rfl rfl), by decide +kernel, by decide +kernel⟩
theorem sg_X13_naming : (parseMethodDescriptor yX13_naming.desc).map (fun d => d.parameters.length) = some 2 := by decide +kernel
theorem mt_X13_gainOf : gMt yX13_gainOf cX13_gainOf 6 (some .int) := ⟨(gtbl_t tbin8 108 rfl rfl), (gtbl_in 109 rfl rfl), (gtbl_t tbin1 14 rfl rfl), (gtbl_t tbin8 109 rfl rfl), by decide +kernel, by decide +kernel⟩
theorem sg_X13_gainOf : (parseMethodDescriptor yX13_gainOf.desc).map (fun d => d.parameters.length) = some 2 := by decide +kernel
theorem mt_X13_gain : gMt yX13_gain cX13_gain 3 (some .int) := ⟨(gtbl_t tbin8 103 rfl rfl), (gtbl_t tbin8 104 rfl rfl), (gtbl_t tbin1 14 rfl rfl), (gtbl_t tbin8 105 rfl rfl), by decide +kernel, by decide +kernel⟩
theorem sg_X13_gain : (parseMethodDescriptor yX13_gain.desc).map (fun d => d.parameters.length) = some 2 := by decide +kernel
theorem mt_X13_against : gMt yX13_against cX13_against 7 (some .int) := ⟨(gtbl_t tbin8 112 rfl rfl), (gtbl_t tbin8 113 rfl rfl), (gtbl_t tbin1 14 rfl rfl), (gtbl_t tbin8 114 rfl rfl), by decide +kernel, by decide +kernel⟩
theorem sg_X13_against : (parseMethodDescriptor yX13_against.desc).map (fun d => d.parameters.length) = some 2 := by decide +kernel
theorem mt_X13_others : gMt yX13_others cX13_others 4 (some .int) := ⟨(gtbl_t tbin8 121 rfl rfl), (gtbl_in 110 rfl rfl), (gtbl_t tbin1 14 rfl rfl), (gtbl_t tbin8 122 rfl rfl), by decide +kernel, by decide +kernel⟩
theorem sg_X13_others : (parseMethodDescriptor yX13_others.desc).map (fun d => d.parameters.length) = some 1 := by decide +kernel
theorem mt_X13_wouldBe : gMt yX13_wouldBe cX13_wouldBe 6 (some .int) := ⟨(gtbl_t tbin8 125 rfl rfl), (gtbl_in 111 rfl rfl), (gtbl_t tbin1 14 rfl rfl), (gtbl_t tbin8 126 rfl rfl), by decide +kernel, by decide +kernel⟩
theorem sg_X13_wouldBe : (parseMethodDescriptor yX13_wouldBe.desc).map (fun d => d.parameters.length) = some 3 := by decide +kernel
theorem mt_X13_key : gMt yX13_key cX13_key 6 (some .int) := ⟨(gtbl_t tbin8 116 rfl rfl), (gtbl_t tbin8 117 rfl rfl), (gtbl_t tbin1 14 rfl rfl), (gtbl_t tbin8 118 rfl rfl), by decide +kernel, by decide +kernel⟩
theorem sg_X13_key : (parseMethodDescriptor yX13_key.desc).map (fun d => d.parameters.length) = some 1 := by decide +kernel
theorem mt_X13_wouldPaper : gMt yX13_wouldPaper cX13_wouldPaper 4 (some .int) := ⟨(gtbl_t tbin8 128 rfl rfl), (gtbl_t tbin8 129 rfl rfl), (gtbl_t tbin1 14 rfl rfl), (gtbl_t tbin8 130 rfl rfl), by decide +kernel, by decide +kernel⟩
theorem sg_X13_wouldPaper : (parseMethodDescriptor yX13_wouldPaper.desc).map (fun d => d.parameters.length) = some 3 := by decide +kernel
theorem mt_X13_wouldDie : gMt yX13_wouldDie cX13_wouldDie 4 (some .int) := ⟨(gtbl_t tbin8 132 rfl rfl), (gtbl_t tbin8 133 rfl rfl), (gtbl_t tbin1 14 rfl rfl), (gtbl_t tbin8 134 rfl rfl), by decide +kernel, by decide +kernel⟩
theorem sg_X13_wouldDie : (parseMethodDescriptor yX13_wouldDie.desc).map (fun d => d.parameters.length) = some 3 := by decide +kernel
theorem mt_X13_laysDay : gMt yX13_laysDay cX13_laysDay 2 none := ⟨(gtbl_t tbin8 145 rfl rfl), (gtbl_in 113 rfl rfl), (gtbl_t tbin1 14 rfl rfl), (gtbl_t tbin8 146 rfl rfl), by decide +kernel, by decide +kernel⟩
theorem sg_X13_laysDay : (parseMethodDescriptor yX13_laysDay.desc).map (fun d => d.parameters.length) = some 1 := by decide +kernel
theorem mt_X13_laysDays : gMt yX13_laysDays cX13_laysDays 2 none := ⟨(gtbl_t tbin8 141 rfl rfl), (gtbl_in 112 rfl rfl), (gtbl_t tbin1 14 rfl rfl), (gtbl_t tbin8 142 rfl rfl), by decide +kernel, by decide +kernel⟩
theorem sg_X13_laysDays : (parseMethodDescriptor yX13_laysDays.desc).map (fun d => d.parameters.length) = some 0 := by decide +kernel
theorem mt_X13_dayFor : gMt yX13_dayFor cX13_dayFor 7 (some .int) := ⟨(gtbl_t tbin8 136 rfl rfl), (gtbl_t tbin8 137 rfl rfl), (gtbl_t tbin1 14 rfl rfl), (gtbl_t tbin8 138 rfl rfl), by decide +kernel, by decide +kernel⟩
theorem sg_X13_dayFor : (parseMethodDescriptor yX13_dayFor.desc).map (fun d => d.parameters.length) = some 3 := by decide +kernel
theorem mt_X13_margin : gMt yX13_margin cX13_margin 3 (some .int) := ⟨(gtbl_t tbin8 148 rfl rfl), (gtbl_t tbin8 149 rfl rfl), (gtbl_t tbin1 14 rfl rfl), (gtbl_t tbin8 150 rfl rfl), by decide +kernel, by decide +kernel⟩
theorem sg_X13_margin : (parseMethodDescriptor yX13_margin.desc).map (fun d => d.parameters.length) = some 1 := by decide +kernel
theorem mt_X13_namedIn : gMt yX13_namedIn cX13_namedIn 5 (some .int) := ⟨(gtbl_t tbin8 100 rfl rfl), (gtbl_in 108 rfl rfl), (gtbl_t tbin1 14 rfl rfl), (gtbl_t tbin8 101 rfl rfl), by decide +kernel, by decide +kernel⟩
theorem sg_X13_namedIn : (parseMethodDescriptor yX13_namedIn.desc).map (fun d => d.parameters.length) = some 1 := by decide +kernel
theorem mt_X13_sees : gMt yX13_sees cX13_sees 6 (some .int) := ⟨(gtbl_t tbin8 153 rfl rfl), (gtbl_t tbin8 154 rfl rfl), (gtbl_t tbin1 14 rfl rfl), (gtbl_t tbin8 155 rfl rfl), by decide +kernel, by decide +kernel⟩
theorem sg_X13_sees : (parseMethodDescriptor yX13_sees.desc).map (fun d => d.parameters.length) = some 3 := by decide +kernel
theorem mt_X13_manyLost : gMt yX13_manyLost cX13_manyLost 3 (some .int) := ⟨(gtbl_t tbin8 162 rfl rfl), (gtbl_in 114 rfl rfl), (gtbl_t tbin1 14 rfl rfl), (gtbl_t tbin8 163 rfl rfl), by decide +kernel, by decide +kernel⟩
theorem sg_X13_manyLost : (parseMethodDescriptor yX13_manyLost.desc).map (fun d => d.parameters.length) = some 0 := by decide +kernel
theorem mt_X13_manyDie : gMt yX13_manyDie cX13_manyDie 3 (some .int) := ⟨(gtbl_t tbin8 166 rfl rfl), (gtbl_in 115 rfl rfl), (gtbl_t tbin1 14 rfl rfl), (gtbl_t tbin8 167 rfl rfl), by decide +kernel, by decide +kernel⟩
theorem sg_X13_manyDie : (parseMethodDescriptor yX13_manyDie.desc).map (fun d => d.parameters.length) = some 0 := by decide +kernel
theorem mt_X13_count : gMt yX13_count cX13_count 2 (some .int) := ⟨(gtbl_t tbin8 157 rfl rfl), (gtbl_t tbin8 158 rfl rfl), (gtbl_t tbin1 14 rfl rfl), (gtbl_t tbin8 159 rfl rfl), by decide +kernel, by decide +kernel⟩
theorem sg_X13_count : (parseMethodDescriptor yX13_count.desc).map (fun d => d.parameters.length) = some 1 := by decide +kernel
theorem mt_J6_bitCount_0f7a4 : gMs yJ6_bitCount_0f7a4 cJ6_bitCount_0f7a4 1 (some .int) := ⟨(gtbl_t tbin3 224 rfl rfl), (gtbl_t tbin1 21 rfl rfl), (gtbl_t tbin3 225 rfl rfl), by decide +kernel, by decide +kernel⟩
theorem sg_J6_bitCount_0f7a4 : (parseMethodDescriptor yJ6_bitCount_0f7a4.desc).map (fun d => d.parameters.length) = some 1 := by decide +kernel
theorem mt_J9_max_7cf53 : gMs yJ9_max_7cf53 cJ9_max_7cf53 2 (some .int) := ⟨(gtbl_t tbin5 217 rfl rfl), (gtbl_t tbin1 15 rfl rfl), (gtbl_t tbin5 218 rfl rfl), by decide +kernel, by decide +kernel⟩
theorem sg_J9_max_7cf53 : (parseMethodDescriptor yJ9_max_7cf53.desc).map (fun d => d.parameters.length) = some 2 := by decide +kernel
theorem mt_J9_min_7cf53 : gMs yJ9_min_7cf53 cJ9_min_7cf53 2 (some .int) := ⟨(gtbl_t tbin3 55 rfl rfl), (gtbl_t tbin1 15 rfl rfl), (gtbl_t tbin3 56 rfl rfl), by decide +kernel, by decide +kernel⟩
theorem sg_J9_min_7cf53 : (parseMethodDescriptor yJ9_min_7cf53.desc).map (fun d => d.parameters.length) = some 2 := by decide +kernel
theorem mt_J0_length_8abf5 : gMt yJ0_length_8abf5 cJ0_length_8abf5 1 (some .int) := ⟨(gtbl_t tbin3 89 rfl rfl), (gtbl_t tbin3 90 rfl rfl), (gtbl_t tbin1 16 rfl rfl), (gtbl_t tbin3 91 rfl rfl), by decide +kernel, by decide +kernel⟩
theorem sg_J0_length_8abf5 : (parseMethodDescriptor yJ0_length_8abf5.desc).map (fun d => d.parameters.length) = some 0 := by decide +kernel
theorem mt_J0_charAt_5068e : gMt yJ0_charAt_5068e cJ0_charAt_5068e 2 (some .char) := ⟨(gtbl_t tbin3 99 rfl rfl), (gtbl_t tbin3 100 rfl rfl), (gtbl_t tbin1 16 rfl rfl), (gtbl_t tbin3 101 rfl rfl), by decide +kernel, by decide +kernel⟩
theorem sg_J0_charAt_5068e : (parseMethodDescriptor yJ0_charAt_5068e.desc).map (fun d => d.parameters.length) = some 1 := by decide +kernel
theorem mt_J0_coder_7d493 : gMt yJ0_coder_7d493 cJ0_coder_7d493 1 (some .byte) := ⟨(gtbl_t tbin3 93 rfl rfl), (gtbl_t tbin3 94 rfl rfl), (gtbl_t tbin1 16 rfl rfl), (gtbl_t tbin3 95 rfl rfl), by decide +kernel, by decide +kernel⟩
theorem sg_J0_coder_7d493 : (parseMethodDescriptor yJ0_coder_7d493.desc).map (fun d => d.parameters.length) = some 0 := by decide +kernel
theorem mt_J0_isLatin1_aae02 : gMt yJ0_isLatin1_aae02 cJ0_isLatin1_aae02 1 (some .boolean) := ⟨(gtbl_t tbin3 103 rfl rfl), (gtbl_t tbin3 104 rfl rfl), (gtbl_t tbin1 16 rfl rfl), (gtbl_t tbin3 105 rfl rfl), by decide +kernel, by decide +kernel⟩
theorem sg_J0_isLatin1_aae02 : (parseMethodDescriptor yJ0_isLatin1_aae02.desc).map (fun d => d.parameters.length) = some 0 := by decide +kernel
theorem mt_J0_checkIndex_df160 : gMs yJ0_checkIndex_df160 cJ0_checkIndex_df160 2 none := ⟨(gtbl_t tbin3 110 rfl rfl), (gtbl_t tbin1 16 rfl rfl), (gtbl_t tbin3 111 rfl rfl), by decide +kernel, by decide +kernel⟩
theorem sg_J0_checkIndex_df160 : (parseMethodDescriptor yJ0_checkIndex_df160.desc).map (fun d => d.parameters.length) = some 2 := by decide +kernel
theorem mt_J1_charAt_3b067 : gMs yJ1_charAt_3b067 cJ1_charAt_3b067 2 (some .char) := ⟨(gtbl_t tbin3 107 rfl rfl), (gtbl_t tbin1 17 rfl rfl), (gtbl_t tbin3 108 rfl rfl), by decide +kernel, by decide +kernel⟩
theorem sg_J1_charAt_3b067 : (parseMethodDescriptor yJ1_charAt_3b067.desc).map (fun d => d.parameters.length) = some 2 := by decide +kernel
theorem mt_J2_getChar_3b067 : gMs yJ2_getChar_3b067 cJ2_getChar_3b067 2 (some .char) := ⟨(gtbl_t tbin3 128 rfl rfl), (gtbl_t tbin1 19 rfl rfl), (gtbl_t tbin3 129 rfl rfl), by decide +kernel, by decide +kernel⟩
theorem sg_J2_getChar_3b067 : (parseMethodDescriptor yJ2_getChar_3b067.desc).map (fun d => d.parameters.length) = some 2 := by decide +kernel
theorem mt_J2_length_9d52b : gMs yJ2_length_9d52b cJ2_length_9d52b 1 (some .int) := ⟨(gtbl_t tbin3 124 rfl rfl), (gtbl_t tbin1 19 rfl rfl), (gtbl_t tbin3 125 rfl rfl), by decide +kernel, by decide +kernel⟩
theorem sg_J2_length_9d52b : (parseMethodDescriptor yJ2_length_9d52b.desc).map (fun d => d.parameters.length) = some 1 := by decide +kernel
theorem mt_J2_charAt_3b067 : gMs yJ2_charAt_3b067 cJ2_charAt_3b067 2 (some .char) := ⟨(gtbl_t tbin3 118 rfl rfl), (gtbl_t tbin1 19 rfl rfl), (gtbl_t tbin3 119 rfl rfl), by decide +kernel, by decide +kernel⟩
theorem sg_J2_charAt_3b067 : (parseMethodDescriptor yJ2_charAt_3b067.desc).map (fun d => d.parameters.length) = some 2 := by decide +kernel
theorem mt_J2_checkIndex_2214a : gMs yJ2_checkIndex_2214a cJ2_checkIndex_2214a 2 none := ⟨(gtbl_t tbin3 121 rfl rfl), (gtbl_t tbin1 19 rfl rfl), (gtbl_t tbin3 122 rfl rfl), by decide +kernel, by decide +kernel⟩
theorem sg_J2_checkIndex_2214a : (parseMethodDescriptor yJ2_checkIndex_2214a.desc).map (fun d => d.parameters.length) = some 2 := by decide +kernel
theorem mt_J7_fill_d0a16 : gMs yJ7_fill_d0a16 cJ7_fill_d0a16 5 none := ⟨(gtbl_t tbin5 94 rfl rfl), (gtbl_t tbin1 27 rfl rfl), (gtbl_t tbin5 95 rfl rfl), by decide +kernel, by decide +kernel⟩
theorem sg_J7_fill_d0a16 : (parseMethodDescriptor yJ7_fill_d0a16.desc).map (fun d => d.parameters.length) = some 2 := by decide +kernel
theorem mt_J3_checkIndex_8e157 : gMs yJ3_checkIndex_8e157 cJ3_checkIndex_8e157 3 (some .int) := ⟨(gtbl_t tbin3 115 rfl rfl), (gtbl_t tbin1 18 rfl rfl), (gtbl_t tbin3 116 rfl rfl), by decide +kernel, by decide +kernel⟩
theorem sg_J3_checkIndex_8e157 : (parseMethodDescriptor yJ3_checkIndex_8e157.desc).map (fun d => d.parameters.length) = some 3 := by decide +kernel
