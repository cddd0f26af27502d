set_option linter.all false
noncomputable section
-- ===== kin =====
def vkn (V : vV) (x : Int32) : Int32 := x ||| bo (fun c => vex (fun p => bt x p && (bt (V.1 (24 + p)) c || bt (V.1 (24 + c)) p)) (vP V)) (vP V)
def bP (V : vV) (x : Int32) : Prop := ∀ i, bt x i = true → i < vP V
theorem vex_or (P Q : Nat → Bool) : ∀ n, vex (fun k => P k || Q k) n = (vex P n || vex Q n) := by
  intro n
  induction n with
  | zero => rfl
  | succ n ih =>
    rw [vex, vex, vex, ih]
    cases vex P n <;> cases vex Q n <;> cases P n <;> cases Q n <;> rfl
theorem and_nz {V : vV} (h10 : vP V ≤ 10) {x : Int32} (hx : bP V x) (y : Int32) : decide (y &&& x = 0) = !vex (fun p => bt x p && bt y p) (vP V) := by
  cases hv : vex (fun p => bt x p && bt y p) (vP V)
  · refine decide_eq_true (b_ext fun i hi => ?_)
    rw [b_and, b_0]
    cases hb : bt x i
    · simp
    · have hi2 := hx i hb
      cases hc : bt y i
      · rfl
      · rw [vex_t (P := fun p => bt x p && bt y p) hi2 (by simp [hb, hc])] at hv; cases hv
  · refine decide_eq_false fun z => ?_
    have : vex (fun p => bt x p && bt y p) (vP V) = false := vex_f fun k hk => by
      have := congrArg (fun u => bt u k) z
      simp only [b_and, b_0] at this
      rw [Bool.and_comm]; exact this
    rw [this] at hv; cases hv
theorem bP_kn {V : vV} (h10 : vP V ≤ 10) {x : Int32} (hx : bP V x) : bP V (vkn V x) := fun i hi => by
  unfold vkn at hi
  rw [b_or] at hi
  cases hb : bt x i
  · rw [hb, Bool.false_or] at hi
    rcases Nat.lt_or_ge i 32 with q | q
    · rw [bt_bo (by omega) q, Bool.and_eq_true, decide_eq_true_iff] at hi
      exact hi.1
    · rw [b_big q] at hi; cases hi
  · exact hx i hb
theorem X7_kin {M : gM} {V : vV} {lf : Nat → Nat} (c : CV M V lf) (w : WF V) {x : Int32} (hx : bP V x) : s_X7_nextOfKin M 0 x ∧ x ||| f_X7_nextOfKin M 0 x = vkn V x := by
  have hN := c.P w
  have h10 := w.P.2
  have main : s_X7_nextOfKin M 0 x ∧ ∀ i, i < 32 → bt (f_X7_nextOfKin M 0 x) i = (vex (fun p => bt x p && bt (V.1 (24 + p)) i) (vP V) || (decide (i < vP V) && vex (fun p => bt x p && bt (V.1 (24 + i)) p) (vP V))) := by
    unfold s_X7_nextOfKin f_X7_nextOfKin
    refine lp (fun n k (s : Int32) => f_X7_nextOfKin_4 M 0 x n s (nI k)) (fun n k s => s_X7_nextOfKin_4 M 0 x n s (nI k)) (fun k s => ∀ i, i < 32 → bt s i = (vex (fun p => bt x p && bt (V.1 (24 + p)) i) k || (decide (i < k) && vex (fun p => bt x p && bt (V.1 (24 + i)) p) (vP V)))) (fun z => ∀ i, i < 32 → bt z i = (vex (fun p => bt x p && bt (V.1 (24 + p)) i) (vP V) || (decide (i < vP V) && vex (fun p => bt x p && bt (V.1 (24 + i)) p) (vP V)))) (vP V) ?_ ?_ FU 0 0 (Nat.zero_le _) (by rw [FU_eq]; omega) (fun i hi => by rw [b_0]; simp [vex])
    · intro n k s hk hI ih
      have i1 : vp_in (nI k) 10 := vpi (by omega)
      have e21 := (c.2.1 k hk).2.2
      have nz := and_nz h10 hx (V.1 (24 + k))
      have nzp : (V.1 (24 + k) &&& x = 0) = (vex (fun p => bt x p && bt (V.1 (24 + k)) p) (vP V) = false) := propext (by
        cases hv : vex (fun p => bt x p && bt (V.1 (24 + k)) p) (vP V)
        · rw [hv] at nz; exact ⟨fun _ => rfl, fun _ => of_decide_eq_true nz⟩
        · rw [hv] at nz; exact ⟨fun z => absurd z (of_decide_eq_false nz), fun z => by cases z⟩)
      simp only [s_X7_nextOfKin_4, f_X7_nextOfKin_4, s_X7_nextOfKin_32, f_X7_nextOfKin_32, bnd, bndP, hN, if_neg (nI_ge hk (by omega)), nn_nI (show k < 2 ^ 31 by omega), i1, e21, nzp, p1, true_and, b_read _ (show k < 32 by omega), bz_0]
      have fin : ∀ s2 : Int32, (∀ i, i < 32 → bt s2 i = (vex (fun p => bt x p && bt (V.1 (24 + p)) i) (k + 1) || (decide (i < k) && vex (fun p => bt x p && bt (V.1 (24 + i)) p) (vP V)))) → (if vex (fun p => bt x p && bt (V.1 (24 + k)) p) (vP V) = false then s_X7_nextOfKin_4 M 0 x n s2 (nI (k + 1)) else s_X7_nextOfKin_4 M 0 x n (s2 ||| 1 <<< (nI k &&& 31)) (nI (k + 1))) ∧ ∀ i, i < 32 → bt (if vex (fun p => bt x p && bt (V.1 (24 + k)) p) (vP V) = false then f_X7_nextOfKin_4 M 0 x n s2 (nI (k + 1)) else f_X7_nextOfKin_4 M 0 x n (s2 ||| 1 <<< (nI k &&& 31)) (nI (k + 1))) i = (vex (fun p => bt x p && bt (V.1 (24 + p)) i) (vP V) || (decide (i < vP V) && vex (fun p => bt x p && bt (V.1 (24 + i)) p) (vP V))) := by
        intro s2 h2
        cases hv : vex (fun p => bt x p && bt (V.1 (24 + k)) p) (vP V)
        · simp only [if_true]
          refine ih s2 (fun i hi => ?_)
          rw [h2 i hi]
          by_cases e : i = k
          · subst e; rw [hv]; simp
          · by_cases e2 : i < k
            · simp [e2, Nat.lt_succ_of_lt e2]
            · simp [e2, show ¬ i < k + 1 by omega]
        · simp only [Bool.true_eq_false, if_false]
          refine ih _ (fun i hi => ?_)
          rw [b_or, h2 i hi, bt_bit (by omega) hi]
          by_cases e : i = k
          · subst e; rw [hv]; simp
          · by_cases e2 : i < k
            · simp [e, e2, Nat.lt_succ_of_lt e2]
            · simp [e, e2, show ¬ i < k + 1 by omega]
      cases hb : bt x k
      · simp only [if_true]
        exact fin s (fun i hi => by rw [hI i hi, vex]; simp [hb])
      · simp only [Bool.true_eq_false, if_false]
        exact fin _ (fun i hi => by
          rw [b_or, hI i hi, vex, hb, Bool.true_and]
          cases vex (fun p => bt x p && bt (V.1 (24 + p)) i) k <;> cases bt (V.1 (24 + k)) i <;> simp)
    · intro n s hI
      simp only [s_X7_nextOfKin_4, f_X7_nextOfKin_4, hN, if_pos (nI_le (Nat.le_refl (vP V)) (by omega))]
      exact ⟨trivial, hI⟩
  refine ⟨main.1, b_ext fun i hi => ?_⟩
  unfold vkn
  rw [b_or, b_or, main.2 i hi, bt_bo (by omega) hi]
  by_cases q : i < vP V
  · have : (fun p => bt x p && (bt (V.1 (24 + p)) i || bt (V.1 (24 + i)) p)) = (fun p => (bt x p && bt (V.1 (24 + p)) i) || (bt x p && bt (V.1 (24 + i)) p)) := by
      funext p; cases bt x p <;> rfl
    rw [this, vex_or]
    simp [q]
  · have : vex (fun p => bt x p && bt (V.1 (24 + p)) i) (vP V) = false := vex_f fun k hk => by
      cases hb : bt (V.1 (24 + k)) i
      · simp
      · have := (w.2.1 k hk).2.2 i hb; omega
    rw [this]
    simp [q]
theorem X13_kin {M : gM} (w : WF (mV M)) {x : Int32} (hx : bP (mV M) x) : s_X13_nextKin M x ∧ f_X13_nextKin M x = vkn (mV M) x := by
  have hN := mP w
  have h10 := w.P.2
  have i0 : vp_in (0 : Int32) 502 := vpi (k := 0) (by omega)
  unfold s_X13_nextKin f_X13_nextKin
  refine lp (fun n k (s : Int32) => f_X13_nextKin_4 M x n s (nI k)) (fun n k s => s_X13_nextKin_4 M x n s (nI k)) (fun k s => ∀ i, i < 32 → bt s i = (decide (i < vP (mV M)) && vex (fun p => bt x p && (bt ((mV M).1 (24 + p)) i || bt ((mV M).1 (24 + i)) p)) k)) (fun z => z = vkn (mV M) x) (vP (mV M)) ?_ ?_ FU 0 0 (Nat.zero_le _) (by rw [FU_eq]; omega) (fun i hi => by rw [b_0]; simp [vex])
  · intro n k s hk hI ih
    have i1 : vp_in ((24 : Int32) + nI k) 502 := inN 24 rfl (by omega) (by decide)
    obtain ⟨a1, a2⟩ := X13_children w (show k < 32 by omega)
    simp only [s_X13_nextKin_4, f_X13_nextKin_4, bnd, bndP, hN, if_neg (nI_ge hk (by omega)), i0, i1, ix24 (show k < 1000 by omega), x88, a1, a2, p1, true_and, b_read _ (show k < 32 by omega), bz_1]
    cases hb : bt x k
    · simp only [Bool.false_eq_true, if_false]
      exact ih s (fun i hi => by rw [hI i hi, vex]; simp [hb])
    · simp only [if_true]
      refine ih _ (fun i hi => ?_)
      have kb : bt (vkids (mV M) k) i = (decide (i < vP (mV M)) && bt ((mV M).1 (24 + i)) k) := by
        unfold vkids
        rw [bt_bo (by omega) hi]
      rw [b_or, b_or, hI i hi, kb, vex, hb, Bool.true_and]
      by_cases q : i < vP (mV M)
      · cases vex (fun p => bt x p && (bt ((mV M).1 (24 + p)) i || bt ((mV M).1 (24 + i)) p)) k <;> cases bt ((mV M).1 (24 + k)) i <;> cases bt ((mV M).1 (24 + i)) k <;> simp [q]
      · have : bt ((mV M).1 (24 + k)) i = false := by
          cases hq : bt ((mV M).1 (24 + k)) i
          · rfl
          · have := (w.2.1 k hk).2.2 i hq; omega
        simp [q, this]
  · intro n s hI
    simp only [s_X13_nextKin_4, f_X13_nextKin_4, hN, if_pos (nI_le (Nat.le_refl (vP (mV M))) (by omega))]
    refine ⟨⟨i0, trivial⟩, b_ext fun i hi => ?_⟩
    unfold vkn
    rw [b_or, b_or, hI i hi, bt_bo (by omega) hi, Bool.or_comm]
def vks (V : vV) (a : Nat) : Nat → Int32
  | 0 => 1 <<< (nI a &&& 31)
  | n + 1 => vkn V (vks V a n)
theorem vks_b {V : vV} (h10 : vP V ≤ 10) {a : Nat} (ha : a < vP V) : ∀ n, bP V (vks V a n) := by
  intro n
  induction n with
  | zero =>
    intro i hi
    rcases Nat.lt_or_ge i 32 with q | q
    · rw [vks, bt_bit (by omega) q, decide_eq_true_iff] at hi; omega
    · rw [b_big q] at hi; cases hi
  | succ n ih => exact bP_kn h10 ih
theorem vks_up {V : vV} {a n i : Nat} (h : bt (vks V a n) i = true) : bt (vks V a (n + 1)) i = true := by
  rw [vks, vkn, b_or, h, Bool.true_or]
theorem vks_grow {V : vV} (h10 : vP V ≤ 10) {a : Nat} (ha : a < vP V) : ∀ n, vks V a (n + 1) = vks V a n ∨ n + 1 ≤ fb_ct (bt (vks V a n)) (vP V) := by
  intro n
  induction n with
  | zero =>
    right
    have : 0 < fb_ct (bt (vks V a 0)) (vP V) := fb_ct_pos.mpr ⟨a, ha, by rw [vks, bt_bit (by omega) (by omega)]; exact decide_eq_true rfl⟩
    omega
  | succ n ih =>
    by_cases e : vks V a (n + 1) = vks V a n
    · left
      rw [vks, e]
      exact e
    · right
      have h1 := ih.resolve_left e
      have hd : ∃ i, i < vP V ∧ bt (vks V a (n + 1)) i = true ∧ bt (vks V a n) i = false := by
        by_cases q : ∃ i, i < vP V ∧ bt (vks V a (n + 1)) i = true ∧ bt (vks V a n) i = false
        · exact q
        · exfalso
          refine e (b_ext fun i hi => ?_)
          cases h2 : bt (vks V a n) i
          · cases h3 : bt (vks V a (n + 1)) i
            · rfl
            · exact absurd ⟨i, vks_b h10 ha (n + 1) i h3, h3, h2⟩ q
          · exact vks_up h2
      obtain ⟨i, hi, h3, h2⟩ := hd
      have := ct_st (P := bt (vks V a (n + 1))) (Q := bt (vks V a n)) (fun k _ hk => vks_up hk) hi h3 h2
      omega
/-- who isn't reached in nine steps isn't in ten -/
theorem vks_10 {V : vV} (h10 : vP V ≤ 10) {a b : Nat} (ha : a < vP V) (hb : b < vP V) (h : bt (vks V a 9) b = false) : bt (vks V a 10) b = false := by
  rcases vks_grow h10 ha 9 with e | e
  · have e : vks V a 10 = vks V a 9 := e
    rw [e]; exact h
  · have := ct_lt hb h
    omega
def vkr (V : vV) (a b : Nat) : Nat → Nat → Int32
  | 0, _ => -2
  | j + 1, i => if bt (vks V a i) b = true then nI i else vkr V a b j (i + 1)
theorem vkr_app {V : vV} {a b : Nat} : ∀ j i, i + j < 2 ^ 31 → vkr V a b (j + 1) i = if vkr V a b j i = -2 then (if bt (vks V a (i + j)) b = true then nI (i + j) else -2) else vkr V a b j i := by
  intro j
  induction j with
  | zero => intro i hi; show (if bt (vks V a i) b = true then nI i else (-2 : Int32)) = (if (-2 : Int32) = -2 then (if bt (vks V a (i + 0)) b = true then nI (i + 0) else -2) else -2); rw [if_pos rfl, Nat.add_zero]
  | succ j ih =>
    intro i hi
    rw [vkr]
    by_cases z : bt (vks V a i) b = true
    · rw [if_pos z, vkr, if_pos z, if_neg (nI_ne (show i < 2 ^ 31 by omega)).1]
    · rw [if_neg z, ih (i + 1) (by omega), vkr, if_neg z, show i + 1 + j = i + (j + 1) by omega]
theorem vkr_all {V : vV} {a b : Nat} : ∀ j i, i + j < 2 ^ 31 → vkr V a b j i = -2 → ∀ k, i ≤ k → k < i + j → bt (vks V a k) b = false := by
  intro j
  induction j with
  | zero => intro i _ _ k h1 h2; omega
  | succ j ih =>
    intro i hi h k h1 h2
    rw [vkr] at h
    by_cases z : bt (vks V a i) b = true
    · rw [if_pos z] at h; exact absurd h (nI_ne (show i < 2 ^ 31 by omega)).1
    · rw [if_neg z] at h
      by_cases e : k = i
      · subst e
        cases hq : bt (vks V a k) b
        · rfl
        · exact absurd hq z
      · exact ih (i + 1) (by omega) h k (by omega) (by omega)
theorem vkr_11 {V : vV} (h10 : vP V ≤ 10) {a b : Nat} (ha : a < vP V) (hb : b < vP V) : vkr V a b 11 0 = vkr V a b 10 0 := by
  rw [vkr_app 10 0 (by omega)]
  by_cases z : vkr V a b 10 0 = -2
  · have := vks_10 h10 ha hb (vkr_all 10 0 (by omega) z 9 (by omega) (by omega))
    rw [if_pos z, z, show 0 + 10 = 10 from rfl, this]; rfl
  · rw [if_neg z]
def a_kin (V : vV) (x1 x2 : Int32) : Int32 := if isB x1 (vP V) = true then (if isB x2 (vP V) = true then vkr V (nn x1) (nn x2) 10 0 else -1) else -1
theorem qC_kin {M : gM} {V : vV} {lf : Nat → Nat} (h : At M V lf) (x1 x2 : Int32) : s_X12_kin M x1 x2 ∧ f_X12_kin M x1 x2 = a_kin V x1 x2 := by
  have h10 := h.2.2.P.2
  simp only [s_X12_kin, f_X12_kin, sX7_isP, fX7_isP h.c h.2.2, true_and, bz_0, a_kin]
  rcases isP_cases (x := x1) (n := vP V) (by omega) with e | ⟨a, ha, rfl, e⟩
  · simp [e]
  · rcases isP_cases (x := x2) (n := vP V) (by omega) with e2 | ⟨b, hb, rfl, e2⟩
    · simp [e, e2]
    · simp only [e, e2, Bool.true_eq_false, if_false, if_true, nn_nI (show a < 2 ^ 31 by omega), nn_nI (show b < 2 ^ 31 by omega)]
      refine lp (fun n k (s : Int32) => f_X12_kin_31 M (nI b) n s (nI k)) (fun n k s => s_X12_kin_31 M (nI b) n s (nI k)) (fun k s => s = vks V a k ∧ vkr V a b (10 - k) k = vkr V a b 10 0) (fun z => z = vkr V a b 10 0) 10 ?_ ?_ FU 0 _ (Nat.zero_le _) (by rw [FU_eq]; omega) ⟨rfl, rfl⟩
      · rintro n k s hk ⟨hs, hI⟩ ih
        have n10 : ¬ (10 : Int32) ≤ nI k := nI_ge (b := 10) hk (by decide)
        obtain ⟨a1, a2⟩ := X7_kin h.c h.2.2 (vks_b h10 ha k)
        rw [show 10 - k = (10 - (k + 1)) + 1 by omega, vkr] at hI
        simp only [s_X12_kin_31, f_X12_kin_31, bnd, bndP, if_neg n10, hs, b_read _ (show b < 32 by omega), a1, a2, p1, true_and, bz_0]
        cases z : bt (vks V a k) b
        · rw [if_neg (by rw [z]; simp)] at hI
          simp only [if_true]
          exact ih _ ⟨rfl, hI⟩
        · rw [if_pos z] at hI
          simp only [Bool.true_eq_false, if_false]
          exact ⟨trivial, hI⟩
      · rintro n s ⟨hs, hI⟩
        simp only [s_X12_kin_31, f_X12_kin_31, if_pos (show (10 : Int32) ≤ nI 10 by decide)]
        rw [Nat.sub_self, vkr] at hI
        exact ⟨trivial, hI⟩
theorem qM_kin {M : gM} {V : vV} {lf : Nat → Nat} (h : At M V lf) (x1 x2 : Int32) : s_X13_kin M x1 x2 ∧ (f_X13_kin M x1 x2).1 = a_kin V x1 x2 := by
  have h1 := h.thr 0
  clear h
  simp only [s_X13_kin, f_X13_kin, bnd, bndP]
  generalize wrI M 67 0 0 0 0 = M1 at *
  obtain ⟨c, rfl, w⟩ := h1
  have h10 := w.P.2
  simp only [s_isP, f_isP w, true_and, bz_0, a_kin]
  rcases isP_cases (x := x1) (n := vP (mV M1)) (by omega) with e | ⟨a, ha, rfl, e⟩
  · simp [e]
  · rcases isP_cases (x := x2) (n := vP (mV M1)) (by omega) with e2 | ⟨b, hb, rfl, e2⟩
    · simp [e, e2]
    · simp only [e, e2, Bool.true_eq_false, if_false, if_true, nn_nI (show a < 2 ^ 31 by omega), nn_nI (show b < 2 ^ 31 by omega)]
      rw [← vkr_11 h10 ha hb]
      refine lp (fun n k (s : Int32) => f_X13_kin_30 M1 (nI b) n s (nI k)) (fun n k s => s_X13_kin_30 M1 (nI b) n s (nI k)) (fun k s => s = vks (mV M1) a k ∧ vkr (mV M1) a b (11 - k) k = vkr (mV M1) a b 11 0) (fun z => z.1 = vkr (mV M1) a b 11 0) 11 ?_ ?_ FU 0 _ (Nat.zero_le _) (by rw [FU_eq]; omega) ⟨rfl, rfl⟩
      · rintro n k s hk ⟨hs, hI⟩ ih
        have n10 : ¬ (10 : Int32) < nI k := nI_nlt (a := 10) (by omega) (by decide)
        obtain ⟨a1, a2⟩ := X13_kin w (vks_b h10 ha k)
        rw [show 11 - k = (11 - (k + 1)) + 1 by omega, vkr] at hI
        simp only [s_X13_kin_30, f_X13_kin_30, if_neg n10, hs, b_read _ (show b < 32 by omega), a1, a2, p1, true_and, bz_1]
        cases z : bt (vks (mV M1) a k) b
        · rw [if_neg (by rw [z]; simp)] at hI
          simp only [Bool.false_eq_true, if_false]
          exact ih _ ⟨rfl, hI⟩
        · rw [if_pos z] at hI
          simp only [if_true]
          exact ⟨trivial, hI⟩
      · rintro n s ⟨hs, hI⟩
        simp only [s_X13_kin_30, f_X13_kin_30, if_pos (show (10 : Int32) < nI 11 by decide)]
        rw [Nat.sub_self, vkr] at hI
        exact ⟨trivial, hI⟩
end
