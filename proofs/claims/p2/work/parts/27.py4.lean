set_option linter.all false
noncomputable section
theorem ct_inj {f : Nat → Nat} {n : Nat} : ∀ (m : Nat) (P : Nat → Bool), (∀ i, i < m → f i < n) → (∀ i j, i < j → j < m → f i ≠ f j) → fb_ct (fun i => P (f i)) m ≤ fb_ct P n := by
  intro m
  induction m with
  | zero => intro P _ _; exact Nat.zero_le _
  | succ m ih =>
    intro P h1 h2
    have u := fb_ct_upd P false (h1 m (by omega))
    have i1 := ih (fun k => if k = f m then false else P k) (fun i hi => h1 i (by omega)) (fun i j a b => h2 i j a (by omega))
    have e : fb_ct (fun i => (fun k => if k = f m then false else P k) (f i)) m = fb_ct (fun i => P (f i)) m := fb_ct_cong fun k hk => by
      show (if f k = f m then false else P (f k)) = P (f k)
      rw [if_neg (h2 k m hk (by omega))]
    rw [e] at i1
    rw [fb_ct_succ]
    have z : (if false = true then 1 else 0) = 0 := rfl
    rw [z] at u
    omega
theorem ct_perm {f : Nat → Nat} {n : Nat} (P : Nat → Bool) (h1 : ∀ i, i < n → f i < n) (h2 : ∀ i j, i < j → j < n → f i ≠ f j) : fb_ct (fun i => P (f i)) n = fb_ct P n := by
  have a := ct_inj n P h1 h2
  have b := ct_inj n (fun k => !P k) h1 h2
  have e1 := fb_ct_not P n
  have e2 := fb_ct_not (fun i => P (f i)) n
  have b' : fb_ct (fun i => !P (f i)) n ≤ fb_ct (fun k => !P k) n := b
  omega
theorem ct_upto (P : Nat → Bool) {i n : Nat} (h : i ≤ n) : fb_ct (fun j => P j && decide (j < i)) n = fb_ct P i := by
  obtain ⟨d, rfl⟩ : ∃ d, n = i + d := ⟨n - i, by omega⟩
  rw [fb_ct_split, fb_ct_cong (q := P) (n := i) (fun k hk => by simp [hk])]
  rw [(fb_ct_zero (p := fun k => P (i + k) && decide (i + k < i)) (n := d)).mpr (fun k hk => by simp)]
  omega
-- ===== the papers of a maker that count =====
def vcnt (V : vV) (m t q : Nat) : Bool := decide (V.1 (58 + 7 * q) = nI m) && decide (vwhy V q t = 0)
def vrank (V : vV) (m t q : Nat) : Nat := fb_ct (fun r => vcnt V m t r && vlater V r q) (vA V)
theorem vrank_le {V : vV} (h : WF V) (m t q : Nat) : vrank V m t q ≤ 12 := Nat.le_trans (fb_ct_le _ _) h.A.2
theorem vrank_lf {V : vV} {M : gM} {lf : Nat → Nat} (F : cvF M V lf) {m t i : Nat} (hi : i < vA V) : vrank V m t (lf i) = fb_ct (fun j => vcnt V m t (lf j)) i := by
  unfold vrank
  rw [← ct_perm (f := lf) (fun r => vcnt V m t r && vlater V r (lf i)) (fun i hi => (F.1 i hi).1) (fun i j a b => lf_ne F a b)]
  rw [← ct_upto (fun j => vcnt V m t (lf j)) (Nat.le_of_lt hi)]
  exact fb_ct_cong fun k hk => by
    show (vcnt V m t (lf k) && vlater V (lf k) (lf i)) = _
    rw [lf_lt F hk hi]
def vat (V : vV) (m t k : Nat) : Nat → Nat → Int32
  | 0, _ => -2
  | j + 1, q => if vcnt V m t q = true ∧ vrank V m t q = k then nI q else vat V m t k j (q + 1)
theorem vat_no {V : vV} {m t k : Nat} : ∀ j q0, (∀ q, q0 ≤ q → q < q0 + j → vcnt V m t q = true → vrank V m t q ≠ k) → vat V m t k j q0 = -2 := by
  intro j
  induction j with
  | zero => intro q0 _; rfl
  | succ j ih =>
    intro q0 h
    rw [vat, if_neg (fun z => h q0 (Nat.le_refl _) (by omega) z.1 z.2)]
    exact ih _ (fun q a b => h q (by omega) (by omega))
theorem vat_is {V : vV} {m t k b : Nat} (hb : vcnt V m t b = true ∧ vrank V m t b = k) : ∀ j q0, q0 ≤ b → b < q0 + j → (∀ q, q0 ≤ q → q < q0 + j → vcnt V m t q = true → vrank V m t q = k → q = b) → vat V m t k j q0 = nI b := by
  intro j
  induction j with
  | zero => intro q0 h1 h2; omega
  | succ j ih =>
    intro q0 h1 h2 h
    rw [vat]
    by_cases z : vcnt V m t q0 = true ∧ vrank V m t q0 = k
    · rw [if_pos z, h q0 (Nat.le_refl _) (by omega) z.1 z.2]
    · rw [if_neg z]
      have : q0 ≠ b := fun e => z (by rw [e]; exact hb)
      exact ih _ (by omega) (by omega) (fun q a b => h q (by omega) (by omega))
theorem vat_lf {V : vV} {M : gM} {lf : Nat → Nat} (F : cvF M V lf) {m t i : Nat} (hi : i < vA V) (hp : vcnt V m t (lf i) = true) : vat V m t (fb_ct (fun j => vcnt V m t (lf j)) i) (vA V) 0 = nI (lf i) :=
  vat_is ⟨hp, vrank_lf F hi⟩ _ _ (Nat.zero_le _) (by have := (F.1 i hi).1; omega) fun q _ hq hc hr => by
    obtain ⟨j, hj, rfl⟩ := lf_onto F (q := q) (by omega)
    rw [vrank_lf F hj] at hr
    have := fb_ct_kth_one (p := fun j => vcnt V m t (lf j)) hc hp hr
    rw [this]
theorem vat_out {V : vV} {M : gM} {lf : Nat → Nat} (F : cvF M V lf) {m t k : Nat} (hk : fb_ct (fun j => vcnt V m t (lf j)) (vA V) ≤ k) : vat V m t k (vA V) 0 = -2 :=
  vat_no _ _ fun q _ hq hc hr => by
    obtain ⟨j, hj, rfl⟩ := lf_onto F (q := q) (by omega)
    rw [vrank_lf F hj] at hr
    have h1 : fb_ct (fun j => vcnt V m t (lf j)) (j + 1) = fb_ct (fun j => vcnt V m t (lf j)) j + 1 := by rw [fb_ct_succ]; simp [hc]
    have h2 := fb_ct_mono (fun j => vcnt V m t (lf j)) (show j + 1 ≤ vA V by omega)
    omega
theorem X13_rank {M : gM} (h : WF (mV M)) {m t q : Nat} (hm : m < 2 ^ 31) (ht : t < vT (mV M)) (hq : q < vA (mV M)) {x3 : Int32} {k3 : Int32 → Int32} {q3 : Int32 → Prop} (hq3 : nI (vrank (mV M) m t q) ≠ x3 → q3 (nI (q + 1))) :
    s_X13_countingAt_44 M (nI m) (nI t) x3 (nI q) q3 FU 0 0 ∧ f_X13_countingAt_44 M (nI m) (nI t) x3 (nI q) k3 FU 0 0 = if nI (vrank (mV M) m t q) = x3 then nI q else k3 (nI (q + 1)) := by
  have hN := mA h
  have h12 := h.A.2
  have i0 : vp_in (2 : Int32) 502 := vpi (k := 2) (by omega)
  refine lp (fun n k (s : Int32) => f_X13_countingAt_44 M (nI m) (nI t) x3 (nI q) k3 n s (nI k)) (fun n k s => s_X13_countingAt_44 M (nI m) (nI t) x3 (nI q) q3 n s (nI k)) (fun k s => s = nI (fb_ct (fun r => vcnt (mV M) m t r && vlater (mV M) r q) k)) (fun z => z = if nI (vrank (mV M) m t q) = x3 then nI q else k3 (nI (q + 1))) (vA (mV M)) ?_ ?_ FU 0 0 (Nat.zero_le _) (by rw [FU_eq]; omega) rfl
  · intro n k s hk hI ih
    obtain ⟨a1, a2⟩ := X13_why h hk ht
    simp only [s_X13_countingAt_44, f_X13_countingAt_44, s_X13_countingAt_93, f_X13_countingAt_93, hN, if_neg (nI_ge hk (by omega)), fof0 (show k < 12 by omega), sof0 (show k < 12 by omega), sLate (show k < 12 by omega) (show q < 12 by omega), fLate (show k < 12 by omega) (show q < 12 by omega), a1, a2, i0, true_and, bz_0, p1]
    have st := fb_ct_succ (fun r => vcnt (mV M) m t r && vlater (mV M) r q) k
    have s0 : s + 0 = s := by rw [hI, p0]
    rw [s0]
    have nx := fun (z : (vcnt (mV M) m t k && vlater (mV M) k q) = false) => ih s (by rw [hI, st]; simp [z])
    have tk := fun (z : (vcnt (mV M) m t k && vlater (mV M) k q) = true) => ih (s + 1) (by rw [hI, st]; simp [z, p1])
    by_cases z1 : (mV M).1 (58 + 7 * k) = nI m
    · cases z2 : vlater (mV M) k q
      · simp only [z1, if_true]
        exact nx (by simp [z2])
      · by_cases z3 : vwhy (mV M) k t = 0
        · simp only [z1, z3, if_true, Bool.true_eq_false, if_false]
          exact tk (by unfold vcnt; simp [z1, z2, z3])
        · simp only [z1, z3, if_true, Bool.true_eq_false, if_false]
          exact nx (by unfold vcnt; simp [z3])
    · simp only [z1, if_false]
      exact nx (by unfold vcnt; simp [z1])
  · intro n s hI
    have e : s = nI (vrank (mV M) m t q) := hI
    simp only [s_X13_countingAt_44, f_X13_countingAt_44, hN, if_pos (nI_le (Nat.le_refl (vA (mV M))) (by omega)), i0, true_and, e, p1]
    refine ⟨?_, trivial⟩
    split
    · trivial
    · next z => exact hq3 z
theorem X13_at {M : gM} (h : WF (mV M)) {m t k : Nat} (hm : m < 2 ^ 31) (ht : t < vT (mV M)) (hk : k < 2 ^ 31) : s_X13_countingAt M (nI m) (nI t) (nI k) ∧ f_X13_countingAt M (nI m) (nI t) (nI k) = vat (mV M) m t k (vA (mV M)) 0 := by
  have hN := mA h
  have h12 := h.A.2
  have i0 : vp_in (2 : Int32) 502 := vpi (k := 2) (by omega)
  unfold s_X13_countingAt f_X13_countingAt
  refine lp (fun n i (s : Unit) => f_X13_countingAt_3 M (nI m) (nI t) (nI k) n (nI i)) (fun n i s => s_X13_countingAt_3 M (nI m) (nI t) (nI k) n (nI i)) (fun i s => vat (mV M) m t k (vA (mV M) - i) i = vat (mV M) m t k (vA (mV M)) 0) (fun z => z = vat (mV M) m t k (vA (mV M)) 0) (vA (mV M)) ?_ ?_ FU 0 () (Nat.zero_le _) (by rw [FU_eq]; omega) rfl
  · intro n i s hi hI ih
    obtain ⟨a1, a2⟩ := X13_why h hi ht
    rw [show vA (mV M) - i = (vA (mV M) - (i + 1)) + 1 by omega, vat] at hI
    have rl := vrank_le h m t i
    have re : (nI (vrank (mV M) m t i) = nI k) = (vrank (mV M) m t i = k) := propext (nI_eq (by omega) hk)
    have nx := fun (z : ¬ (vcnt (mV M) m t i = true ∧ vrank (mV M) m t i = k)) => ih () (by rw [if_neg z] at hI; exact hI)
    simp only [s_X13_countingAt_3, f_X13_countingAt_3, hN, if_neg (nI_ge hi (by omega)), fof0 (show i < 12 by omega), sof0 (show i < 12 by omega), a1, a2, i0, true_and, p1]
    by_cases z1 : (mV M).1 (58 + 7 * i) = nI m
    · by_cases z3 : vwhy (mV M) i t = 0
      · have hc : vcnt (mV M) m t i = true := by unfold vcnt; simp [z1, z3]
        obtain ⟨r1, r2⟩ := X13_rank (x3 := nI k) (k3 := f_X13_countingAt_3 M (nI m) (nI t) (nI k) n) (q3 := s_X13_countingAt_3 M (nI m) (nI t) (nI k) n) h hm ht hi (fun z => by
          exact (nx (fun y => z (by rw [re]; exact y.2))).1)
        simp only [z1, z3, if_true, r1, r2, true_and, re]
        by_cases z4 : vrank (mV M) m t i = k
        · rw [if_pos ⟨hc, z4⟩] at hI
          rw [if_pos z4]; exact hI
        · rw [if_neg z4]
          exact (nx (fun y => z4 y.2)).2
      · simp only [z1, z3, if_true, if_false]
        exact nx (fun y => by unfold vcnt at y; simp [z3] at y)
    · simp only [z1, if_false]
      exact nx (fun y => by unfold vcnt at y; simp [z1] at y)
  · intro n s hI
    simp only [s_X13_countingAt_3, f_X13_countingAt_3, hN, if_pos (nI_le (Nat.le_refl (vA (mV M))) (by omega))]
    rw [Nat.sub_self, vat] at hI
    exact ⟨⟨i0, trivial⟩, hI⟩
-- ===== the first that is so and gives something =====
def vfs (pi : Nat → Bool) (lf : Nat → Nat) (f : Nat → Int32) : Nat → Nat → Int32 × Int32
  | 0, _ => (-2, -2)
  | j + 1, i => if pi i = true ∧ f (lf i) ≠ -2 then (f (lf i), nI (lf i)) else vfs pi lf f j (i + 1)
theorem vfs_no {pi : Nat → Bool} {lf : Nat → Nat} {f : Nat → Int32} : ∀ j i0, (∀ i, i0 ≤ i → i < i0 + j → pi i = true → f (lf i) = -2) → vfs pi lf f j i0 = (-2, -2) := by
  intro j
  induction j with
  | zero => intro i0 _; rfl
  | succ j ih =>
    intro i0 h
    rw [vfs, if_neg (fun z => z.2 (h i0 (Nat.le_refl _) (by omega) z.1))]
    exact ih _ (fun i a b => h i (by omega) (by omega))
theorem vfs_is {pi : Nat → Bool} {lf : Nat → Nat} {f : Nat → Int32} {b : Nat} (h1 : pi b = true) (h2 : f (lf b) ≠ -2) : ∀ j i0, i0 ≤ b → b < i0 + j → (∀ i, i0 ≤ i → i < b → pi i = true → f (lf i) = -2) → vfs pi lf f j i0 = (f (lf b), nI (lf b)) := by
  intro j
  induction j with
  | zero => intro i0 a a2; omega
  | succ j ih =>
    intro i0 a a2 h
    rw [vfs]
    by_cases e : i0 = b
    · rw [e, if_pos ⟨h1, h2⟩]
    · rw [if_neg (fun z => z.2 (h i0 (Nat.le_refl _) (by omega) z.1))]
      exact ih _ (by omega) (by omega) (fun i x y => h i (by omega) (by omega))
def vgv (V : vV) (m t q : Nat) : Int32 := vtake V q t (V.2.1 m)
def vrs (V : vV) (m t q : Nat) : Int32 := if vmay V q t (V.1 (58 + 7 * q + 6)) (V.2.1 m) = true then V.1 (58 + 7 * q + 6) else -2
def vtk (V : vV) (lf : Nat → Nat) (m t : Nat) : Int32 × Int32 :=
  if (vfs (fun i => vcnt V m t (lf i)) lf (vgv V m t) (vA V) 0).1 = -2 then vfs (fun i => vcnt V m t (lf i)) lf (vrs V m t) (vA V) 0 else vfs (fun i => vcnt V m t (lf i)) lf (vgv V m t) (vA V) 0
theorem vrs_ok {V : vV} (h : WF V) {m t q : Nat} (hq : q < vA V) : whoOK V (vrs V m t q) := by
  unfold vrs
  split
  · exact (h.2.2.2.1 q hq).1.2.2.2.2.2.2.1
  · exact Or.inl rfl
theorem vfs_ok {V : vV} {pi : Nat → Bool} {lf : Nat → Nat} {f : Nat → Int32} (hf : ∀ q, q < vA V → whoOK V (f q)) (hl : ∀ i, i < vA V → lf i < vA V) : ∀ j i0, i0 + j ≤ vA V → whoOK V (vfs pi lf f j i0).1 ∧ ((vfs pi lf f j i0).2 = -2 ∨ vp_in (vfs pi lf f j i0).2 (vA V)) ∧ ((vfs pi lf f j i0).1 = -2 → (vfs pi lf f j i0).2 = -2) := by
  intro j
  induction j with
  | zero => intro i0 _; exact ⟨Or.inl rfl, Or.inl rfl, fun _ => rfl⟩
  | succ j ih =>
    intro i0 hi
    rw [vfs]
    split
    · next z =>
      have hq := hl i0 (by omega)
      refine ⟨hf _ hq, Or.inr ?_, fun y => absurd y z.2⟩
      rcases Nat.lt_or_ge (vA V) (2 ^ 31) with q | q
      · exact vpi hq q
      · unfold vA at q
        have : nn (V.1 2) < 2 ^ 31 := by
          have := (V.1 2).toInt_lt
          show (V.1 2).toInt.toNat < 2 ^ 31
          omega
        omega
    · exact ih _ (by omega)
theorem vtk_ok {V : vV} (h : WF V) {lf : Nat → Nat} (hl : ∀ i, i < vA V → lf i < vA V) (m t : Nat) : whoOK V (vtk V lf m t).1 ∧ ((vtk V lf m t).2 = -2 ∨ vp_in (vtk V lf m t).2 (vA V)) ∧ ((vtk V lf m t).1 = -2 → (vtk V lf m t).2 = -2) := by
  unfold vtk
  split
  · exact vfs_ok (fun q hq => vrs_ok h hq) hl _ _ (by omega)
  · exact vfs_ok (fun q hq => vtake_ok h hq t _) hl _ _ (by omega)
end
