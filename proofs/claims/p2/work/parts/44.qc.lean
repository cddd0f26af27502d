set_option linter.all false
noncomputable section
-- ===== what is held to be undone =====
def psh {α : Type} (n : Nat) (E : Nat → α) (e : α) : Nat → α := fun j => if n < 16 then (if j = n then e else E j) else (if j = 15 then e else E (j + 1))
def up (n : Nat) : Nat := if n < 16 then n + 1 else 16
abbrev hE : Type := Int32 × Int32 × Int32
/-- the class's ring: n entries, the next place x -/
def CH (M : gM) (n x : Nat) (E : Nat → hE) : Prop := rdI M 63 0 0 0 = nI n ∧ rdI M 62 0 0 0 = nI x ∧ n ≤ 16 ∧ x < 16 ∧ ∀ j, j < n → E j = (rdI M 64 0 0 ((x + 16 - n + j) % 16), rdI M 65 0 0 ((x + 16 - n + j) % 16), rdI M 66 0 0 ((x + 16 - n + j) % 16))
/-- the reference's rows -/
def MH (M : gM) (n : Nat) (R : Nat → Nat → Int32) : Prop := rdI M 69 0 0 0 = nI n ∧ n ≤ 16 ∧ ∀ j, j < n → ∀ i, R j i = if i < 65 then rdI M 94 0 0 (65 * j + i) else rdI M 92 0 0 i
def eqX (r1 r0 : Nat → Int32) (k : Nat) : Prop := ∀ i, i ≠ k → r1 i = r0 i
/-- one entry takes one row back to the row before -/
def stp (V : vV) (r1 r0 : Nat → Int32) (e : hE) : Prop :=
  (e.1 = 0 ∧ ∃ q, q < vA V ∧ e.2.1 = nI q ∧ e.2.2 = mo (r0 (10 + q)) ∧ eqX r1 r0 (10 + q)) ∨
  (e.1 = 1 ∧ ∃ q, q < vA V ∧ e.2.1 = nI q ∧ e.2.2 = r0 (22 + q) ∧ eqX r1 r0 (22 + q)) ∨
  (e.1 = 2 ∧ e.2.2 = r0 64 ∧ nn (r0 64) ≤ nn (r1 64) ∧ ∀ i, i ≠ 64 → (i < 46 + 3 * nn (r0 64) ∨ 64 < i) → r1 i = r0 i) ∨
  (e.1 = 3 ∧ ∃ p, p < vP V ∧ e.2.1 = nI p ∧ e.2.2 = mo (r0 p) ∧ eqX r1 r0 p) ∨
  (e.1 = 4 ∧ ∃ q, q < vA V ∧ e.2.1 = nI q ∧ r0 (34 + q) = 0 ∧ eqX r1 r0 (34 + q))
def rw2 (V : vV) (r : Nat → Int32) : vV := (V.1, r, V.2.2)
def Hs (V : vV) (n : Nat) (E : Nat → hE) (R : Nat → Nat → Int32) : Prop := ∀ j, j < n → WF (rw2 V (R j)) ∧ stp V (if j + 1 = n then V.2.1 else R (j + 1)) (R j) (E j)
theorem CH.off {M N : gM} {n x : Nat} {E : Nat → hE} {W : List Nat} (h : CH M n x E) (o : offW W M N) (k : W.all (fun g => Nat.blt g 62 || Nat.blt 66 g) = true) : CH N n x E := by
  have e : ∀ g, 62 ≤ g → g ≤ 66 → ∀ c, rdI N g 0 0 c = rdI M g 0 0 c := fun g h1 h2 c => (o g 0 0 c fun q => by
    have := List.all_eq_true.mp k g q
    rcases (Bool.or_eq_true _ _).mp this with z | z
    · have := Nat.le_of_ble_eq_true z; omega
    · have := Nat.le_of_ble_eq_true z; omega).1
  obtain ⟨h1, h2, h3, h4, h5⟩ := h
  exact ⟨by rw [e 63 (by omega) (by omega)]; exact h1, by rw [e 62 (by omega) (by omega)]; exact h2, h3, h4, fun j hj => by rw [e 64 (by omega) (by omega), e 65 (by omega) (by omega), e 66 (by omega) (by omega)]; exact h5 j hj⟩
theorem CH.wr {M : gM} {n x : Nat} {E : Nat → hE} (h : CH M n x E) {g a b c : Nat} {v : Int32} (k : g < 62 ∨ 66 < g) : CH (wrI M g a b c v) n x E := by
  obtain ⟨h1, h2, h3, h4, h5⟩ := h
  refine ⟨?_, ?_, h3, h4, fun j hj => ?_⟩
  · rw [rwI, if_neg (by omega)]; exact h1
  · rw [rwI, if_neg (by omega)]; exact h2
  · rw [rwI, if_neg (by omega), rwI, if_neg (by omega), rwI, if_neg (by omega)]; exact h5 j hj
theorem MH.off {M N : gM} {n : Nat} {R : Nat → Nat → Int32} {W : List Nat} (h : MH M n R) (o : offW W M N) (k : W.all (fun g => g != 69 && g != 92 && g != 94) = true) : MH N n R := by
  have e : ∀ g, (g = 69 ∨ g = 92 ∨ g = 94) → ∀ c, rdI N g 0 0 c = rdI M g 0 0 c := fun g hg c => (o g 0 0 c fun q => by
    have := List.all_eq_true.mp k g q
    rcases hg with rfl | rfl | rfl <;> simp at this).1
  obtain ⟨h1, h2, h3⟩ := h
  exact ⟨by rw [e 69 (Or.inl rfl)]; exact h1, h2, fun j hj i => by rw [e 92 (Or.inr (Or.inl rfl)), e 94 (Or.inr (Or.inr rfl))]; exact h3 j hj i⟩
theorem MH.wr {M : gM} {n : Nat} {R : Nat → Nat → Int32} (h : MH M n R) {g a b c : Nat} {v : Int32} (k : g ≠ 69 ∧ g ≠ 94 ∧ (g ≠ 92 ∨ c < 65)) : MH (wrI M g a b c v) n R := by
  obtain ⟨h1, h2, h3⟩ := h
  refine ⟨?_, h2, fun j hj i => ?_⟩
  · rw [rwI, if_neg (by omega)]; exact h1
  · rw [h3 j hj i]
    by_cases z : i < 65
    · rw [if_pos z, if_pos z, rwI, if_neg (by omega)]
    · rw [if_neg z, if_neg z, rwI, if_neg (by omega)]
theorem rwN {M : gM} {g a b c g' a' b' c' : Nat} {v : Int32} (h : g' ≠ g) : rdI (wrI M g a b c v) g' a' b' c' = rdI M g' a' b' c' := by rw [rwI, if_neg (fun z => h z.1)]
theorem nx16 : ∀ x, x < 16 → (nI x + 1) - (nI x + 1) / 16 * 16 = nI ((x + 1) % 16) := by decide
theorem pv16 : ∀ x, x < 16 → ((nI x + 16) - 1) - ((nI x + 16) - 1) / 16 * 16 = nI ((x + 15) % 16) := by decide
theorem mn16 : ∀ n, n ≤ 16 → mn (nI n + 1) 16 = nI (up n) := by decide
theorem C_keep {M : gM} {n x : Nat} {E : Nat → hE} (h : CH M n x E) (k a b : Int32) : s_X2_keep M k a b ∧ CH (f_X2_keep M k a b) (up n) ((x + 1) % 16) (psh n E (k, a, b)) := by
  obtain ⟨h1, h2, h3, h4, h5⟩ := h
  have i16 : vp_in (nI x) 16 := vpi h4
  have e : f_X2_keep M k a b = wrI (wrI (wrI (wrI (wrI M 64 0 0 x k) 65 0 0 x a) 66 0 0 x b) 62 0 0 0 (nI ((x + 1) % 16))) 63 0 0 0 (nI (up n)) := by
    simp only [f_X2_keep, bnd, rwN (show (62 : Nat) ≠ 64 by decide), rwN (show (62 : Nat) ≠ 65 by decide), rwN (show (62 : Nat) ≠ 66 by decide), rwN (show (63 : Nat) ≠ 64 by decide), rwN (show (63 : Nat) ≠ 65 by decide), rwN (show (63 : Nat) ≠ 66 by decide), rwN (show (63 : Nat) ≠ 62 by decide), h2, h1, nn_nI (show x < 2 ^ 31 by omega), nx16 x h4, mn16 n h3]
  constructor
  · simp only [s_X2_keep, bndP, rwN (show (62 : Nat) ≠ 64 by decide), rwN (show (62 : Nat) ≠ 65 by decide), h2, nn_nI (show x < 2 ^ 31 by omega), i16, true_and]
  · rw [e]
    refine ⟨?_, ?_, ?_, Nat.mod_lt _ (by omega), fun j hj => ?_⟩
    · rw [rwI, if_pos ⟨rfl, rfl, rfl, rfl⟩]
    · rw [rwI, if_neg (by omega), rwI, if_pos ⟨rfl, rfl, rfl, rfl⟩]
    · unfold up; split <;> omega
    · have q : ∀ g y, (g = 64 ∨ g = 65 ∨ g = 66) → y < 16 → rdI (wrI (wrI (wrI (wrI (wrI M 64 0 0 x k) 65 0 0 x a) 66 0 0 x b) 62 0 0 0 (nI ((x + 1) % 16))) 63 0 0 0 (nI (up n))) g 0 0 y = if y = x then (if g = 64 then k else if g = 65 then a else b) else rdI M g 0 0 y := by
        intro g y hg hy
        simp only [rwI]
        rcases hg with rfl | rfl | rfl <;> by_cases z : y = x <;> simp [z]
      rw [q 64 _ (by omega) (Nat.mod_lt _ (by omega)), q 65 _ (by omega) (Nat.mod_lt _ (by omega)), q 66 _ (by omega) (Nat.mod_lt _ (by omega))]
      unfold psh up at *
      by_cases z : n < 16
      · rw [if_pos z] at hj
        simp only [if_pos z]
        by_cases y : j = n
        · subst y
          rw [if_pos rfl, show ((x + 1) % 16 + 16 - (j + 1) + j) % 16 = x by omega]
          simp
        · rw [if_neg y]
          have w : ((x + 1) % 16 + 16 - (n + 1) + j) % 16 = (x + 16 - n + j) % 16 := by omega
          have w2 : (x + 16 - n + j) % 16 ≠ x := by omega
          rw [w, if_neg w2, if_neg w2, if_neg w2]
          exact h5 j (by omega)
      · rw [if_neg z] at hj
        simp only [if_neg z]
        have hn : n = 16 := by omega
        subst hn
        by_cases y : j = 15
        · subst y
          rw [if_pos rfl, show ((x + 1) % 16 + 16 - 16 + 15) % 16 = x by omega]
          simp
        · rw [if_neg y]
          have w : ((x + 1) % 16 + 16 - 16 + j) % 16 = (x + 16 - 16 + (j + 1)) % 16 := by omega
          have w2 : (x + 16 - 16 + (j + 1)) % 16 ≠ x := by omega
          rw [w, if_neg w2, if_neg w2, if_neg w2]
          exact h5 (j + 1) (by omega)
-- ===== the reference's rows kept =====
theorem M_k54 {M : gM} {n : Nat} (hn : n < 16) (h : rdI M 69 0 0 0 = nI n) : s_X13_keeps_54 FU M 0 ∧ (rdI (f_X13_keeps_54 FU M 0) 69 0 0 0 = nI (n + 1) ∧ (∀ y, rdI (f_X13_keeps_54 FU M 0) 94 0 0 y = if 65 * n ≤ y ∧ y < 65 * n + 65 then rdI M 92 0 0 (y - 65 * n) else rdI M 94 0 0 y)) := by
  refine lp (fun f i (s : gM) => f_X13_keeps_54 f s (nI i)) (fun f i s => s_X13_keeps_54 f s (nI i))
    (fun i s => (rdI s 69 0 0 0 = nI n ∧ (∀ y, rdI s 92 0 0 y = rdI M 92 0 0 y)) ∧ (∀ y, rdI s 94 0 0 y = if 65 * n ≤ y ∧ y < 65 * n + i then rdI M 92 0 0 (y - 65 * n) else rdI M 94 0 0 y))
    (fun z => rdI z 69 0 0 0 = nI (n + 1) ∧ (∀ y, rdI z 94 0 0 y = if 65 * n ≤ y ∧ y < 65 * n + 65 then rdI M 92 0 0 (y - 65 * n) else rdI M 94 0 0 y)) 65 ?_ ?_ FU 0 M (Nat.zero_le _) (by rw [FU_eq]; omega) ⟨⟨h, fun _ => rfl⟩, fun y => by rw [if_neg (by omega)]⟩
  · rintro f i N hi ⟨⟨a1, a2⟩, a3⟩ ih
    have g : ¬ (65 : Int32) ≤ nI i := nI_ge (a := i) (b := 65) hi (by omega)
    have e : (65 : Int32) * nI n + nI i = nI (65 * n + i) := by rw [show (65 : Int32) * nI n = nI (65 * n) from pk_mul 65 n, nI_add]
    simp only [s_X13_keeps_54, f_X13_keeps_54, bnd, bndP, if_neg g, a1, e, nn_nI (show i < 2 ^ 31 by omega), nn_nI (show 65 * n + i < 2 ^ 31 by omega), p1]
    have := ih (wrI N 94 0 0 (65 * n + i) (rdI N 92 0 0 i)) ⟨⟨by rw [rwI, if_neg (by omega)]; exact a1, fun y => by rw [rwI, if_neg (by omega)]; exact a2 y⟩, fun y => by
      rw [rwI, a3 y, a2 i]
      by_cases z : y = 65 * n + i
      · subst z
        rw [if_pos ⟨rfl, rfl, rfl, rfl⟩, if_pos (by omega), Nat.add_sub_cancel_left]
      · rw [if_neg (by omega)]
        by_cases w : 65 * n ≤ y ∧ y < 65 * n + i
        · rw [if_pos w, if_pos (by omega)]
        · rw [if_neg w, if_neg (by omega)]⟩
    exact ⟨⟨vpi (by omega), vpi (by omega), this.1⟩, this.2⟩
  · rintro f N ⟨⟨a1, a2⟩, a3⟩
    have g : (65 : Int32) ≤ nI 65 := by decide
    simp only [s_X13_keeps_54, f_X13_keeps_54, bnd, bndP, if_pos g, a1, p1, true_and]
    exact ⟨by rw [rwI, if_pos ⟨rfl, rfl, rfl, rfl⟩], fun y => by rw [rwI, if_neg (by omega)]; exact a3 y⟩
theorem M_keeps {M : gM} {n : Nat} {R : Nat → Nat → Int32} (h : MH M n R) : s_X13_keeps M ∧ MH (f_X13_keeps M) (up n) (psh n R (mV M).2.1) := by
  obtain ⟨h1, h2, h3⟩ := h
  have e92 : ∀ y, rdI (f_X13_keeps M) 92 0 0 y = rdI M 92 0 0 y := fun y => (o_X13_keeps M 92 0 0 y (by decide)).1
  by_cases z : n < 16
  · have zz : ¬ nI n = 16 := fun q => by
      have := congrArg nn q
      rw [nn_nI (by omega)] at this
      have h16 : nn (16 : Int32) = 16 := by decide
      omega
    obtain ⟨a1, a2, a3⟩ := M_k54 z h1
    simp only [s_X13_keeps, f_X13_keeps, h1, if_neg zz] at e92 ⊢
    refine ⟨a1, ?_, ?_, fun j hj i => ?_⟩
    · rw [up, if_pos z]; exact a2
    · unfold up; split <;> omega
    · rw [up, if_pos z] at hj
      unfold psh
      rw [if_pos z, a3, e92]
      by_cases y : j = n
      · subst y
        rw [if_pos rfl]
        by_cases w : i < 65
        · rw [if_pos w, if_pos (by omega), Nat.add_sub_cancel_left]; rfl
        · rw [if_neg w]; rfl
      · rw [if_neg y, h3 j (by omega) i]
        by_cases w : i < 65
        · rw [if_pos w, if_pos w, if_neg (by omega)]
        · rw [if_neg w, if_neg w]
  · obtain rfl : n = 16 := by omega
    have zz : nI 16 = 16 := rfl
    have key : s_X13_keeps_12 FU M 65 ∧ (rdI (f_X13_keeps_12 FU M 65) 69 0 0 0 = nI 16 ∧ ∀ y, y < 1040 → rdI (f_X13_keeps_12 FU M 65) 94 0 0 y = if y < 975 then rdI M 94 0 0 (y + 65) else rdI M 92 0 0 (y - 975)) := by
      refine lp (fun f i (s : gM) => f_X13_keeps_12 f s (nI i)) (fun f i s => s_X13_keeps_12 f s (nI i))
        (fun i s => (65 ≤ i ∧ rdI s 69 0 0 0 = nI 16 ∧ (∀ y, rdI s 92 0 0 y = rdI M 92 0 0 y)) ∧ (∀ y, rdI s 94 0 0 y = if y + 65 < i then rdI M 94 0 0 (y + 65) else rdI M 94 0 0 y))
        (fun z => rdI z 69 0 0 0 = nI 16 ∧ ∀ y, y < 1040 → rdI z 94 0 0 y = if y < 975 then rdI M 94 0 0 (y + 65) else rdI M 92 0 0 (y - 975)) 1040 ?_ ?_ FU 65 M (by omega) (by rw [FU_eq]; omega) ⟨⟨Nat.le_refl _, h1, fun _ => rfl⟩, fun y => by rw [if_neg (by omega)]⟩
      · rintro f i N hi ⟨⟨a0, a1, a2⟩, a3⟩ ih
        have g : ¬ (1040 : Int32) ≤ nI i := nI_ge (a := i) (b := 1040) hi (by omega)
        have e : nI i - 65 = nI (i - 65) := by
          have := nI_add (i - 65) 65
          rw [show i - 65 + 65 = i by omega] at this
          rw [← this]
          exact Int32.add_sub_cancel _ _
        simp only [s_X13_keeps_12, f_X13_keeps_12, bnd, bndP, if_neg g, e, nn_nI (show i < 2 ^ 31 by omega), nn_nI (show i - 65 < 2 ^ 31 by omega), p1]
        have := ih (wrI N 94 0 0 (i - 65) (rdI N 94 0 0 i)) ⟨⟨by omega, by rw [rwI, if_neg (by omega)]; exact a1, fun y => by rw [rwI, if_neg (by omega)]; exact a2 y⟩, fun y => by
          rw [rwI, a3 y, a3 i]
          by_cases z : y = i - 65
          · subst z
            rw [if_pos ⟨rfl, rfl, rfl, rfl⟩, if_neg (by omega), if_pos (by omega), show i - 65 + 65 = i by omega]
          · rw [if_neg (by omega)]
            by_cases w : y + 65 < i
            · rw [if_pos w, if_pos (by omega)]
            · rw [if_neg w, if_neg (by omega)]⟩
        exact ⟨⟨vpi (by omega), vpi (by omega), this.1⟩, this.2⟩
      · rintro f N ⟨⟨a0, a1, a2⟩, a3⟩
        have g : (1040 : Int32) ≤ nI 1040 := by decide
        simp only [s_X13_keeps_12, f_X13_keeps_12, bnd, bndP, if_pos g]
        obtain ⟨b1, b2, b3⟩ := M_k54 (M := wrI N 69 0 0 0 (rdI N 69 0 0 0 - 1)) (n := 15) (by omega) (by rw [rwI, if_pos ⟨rfl, rfl, rfl, rfl⟩, a1]; decide)
        refine ⟨b1, b2, fun y hy => ?_⟩
        rw [b3 y, rwN (show (92 : Nat) ≠ 69 by decide), rwN (show (94 : Nat) ≠ 69 by decide), a3 y]
        by_cases w : y < 975
        · rw [if_pos w, if_neg (by omega), if_pos (by omega)]
        · rw [if_neg w, if_pos (by omega), a2]
    simp only [s_X13_keeps, f_X13_keeps, h1, if_pos zz] at e92 ⊢
    refine ⟨key.1, key.2.1, Nat.le_refl _, fun j hj i => ?_⟩
    have hj : j < 16 := hj
    unfold psh
    rw [if_neg (by omega), e92]
    by_cases y : j = 15
    · subst y
      rw [if_pos rfl]
      by_cases w : i < 65
      · rw [if_pos w, key.2.2 _ (by omega), if_neg (by omega), show 65 * 15 + i - 975 = i by omega]; rfl
      · rw [if_neg w]; rfl
    · rw [if_neg y, h3 (j + 1) (by omega) i]
      by_cases w : i < 65
      · rw [if_pos w, if_pos w, key.2.2 _ (by omega), if_pos (by omega), show 65 * (j + 1) + i = 65 * j + i + 65 by omega]
      · rw [if_neg w, if_neg w]
theorem mV_keeps (M : gM) : mV (f_X13_keeps M) = mV M := mV_off (o_X13_keeps M) (by decide)
theorem Hs_psh {V : vV} {n : Nat} {E : Nat → hE} {R : Nat → Nat → Int32} (h : Hs V n E R) (w : WF V) (hn : n ≤ 16) {r : Nat → Int32} {e : hE} (s : stp V r V.2.1 e) : Hs (rw2 V r) (up n) (psh n E e) (psh n R V.2.1) := by
  have w2 : WF (rw2 V V.2.1) := w
  intro j hj
  unfold psh up at *
  show WF (rw2 V _) ∧ stp V _ _ _
  by_cases z : n < 16
  · simp only [if_pos z] at hj ⊢
    by_cases y : j = n
    · subst y
      rw [if_pos rfl, if_pos rfl, if_pos rfl]
      exact ⟨w2, s⟩
    · rw [if_neg y, if_neg y, if_neg (by omega)]
      have := h j (by omega)
      by_cases x : j + 1 = n
      · rw [if_pos x] at this ⊢; exact this
      · rw [if_neg x] at this ⊢; exact this
  · simp only [if_neg z] at hj ⊢
    obtain rfl : n = 16 := by omega
    by_cases y : j = 15
    · subst y
      rw [if_pos rfl, if_pos rfl, if_pos rfl]
      exact ⟨w2, s⟩
    · rw [if_neg y, if_neg y, if_neg (by omega)]
      have := h (j + 1) (by omega)
      by_cases x : j + 1 = 15
      · rw [if_pos (show j + 1 + 1 = 16 by omega)] at this
        rw [if_pos x]; exact this
      · rw [if_neg (show ¬ j + 1 + 1 = 16 by omega)] at this
        rw [if_neg x]; exact this
end
