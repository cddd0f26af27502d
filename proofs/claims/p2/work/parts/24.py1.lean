set_option linter.all false
noncomputable section
-- ===== the order of papers =====
def vD (V : vV) (q : Nat) : Int := (V.1 (58 + 7 * q + 1)).toInt
theorem vlater_iff {V : vV} {q p : Nat} : vlater V q p = true ↔ (vD V p < vD V q ∨ vD V p = vD V q ∧ p < q) := by
  unfold vlater vD
  rw [decide_eq_true_iff, Int32.lt_iff_toInt_lt, ← Int32.toInt_inj]
theorem vlater_not {V : vV} {q p : Nat} : vlater V q p = false ↔ ¬ (vD V p < vD V q ∨ vD V p = vD V q ∧ p < q) := by
  rw [← vlater_iff]
  simp
theorem lf_ne {V : vV} {M : gM} {lf : Nat → Nat} (f : cvF M V lf) {i j : Nat} (h : i < j) (hj : j < vA V) : lf i ≠ lf j := fun q => by
  have := vlater_iff.mp (f.2 i j h hj)
  rw [q] at this
  omega
theorem lf_onto {V : vV} {M : gM} {lf : Nat → Nat} (f : cvF M V lf) {q : Nat} (h : q < vA V) : ∃ i, i < vA V ∧ lf i = q := fb_onto (fun i hi => (f.1 i hi).1) (fun i j h hj => lf_ne f h hj) h
theorem lf_lt {V : vV} {M : gM} {lf : Nat → Nat} (f : cvF M V lf) {i j : Nat} (hi : i < vA V) (hj : j < vA V) : vlater V (lf i) (lf j) = decide (i < j) := by
  rcases Nat.lt_trichotomy i j with h | h | h
  · rw [f.2 i j h hj, decide_eq_true h]
  · subst h
    rw [decide_eq_false (Nat.lt_irrefl i)]
    exact vlater_not.mpr (by omega)
  · rw [decide_eq_false (by omega)]
    have := vlater_iff.mp (f.2 j i h hi)
    exact vlater_not.mpr (by omega)
/-- the latest of those below n that are so -/
def vmx (V : vV) (P : Nat → Bool) : Nat → Option Nat
  | 0 => none
  | n + 1 => if P n = true then (match vmx V P n with
    | none => some n
    | some b => if vlater V n b = true then some n else some b) else vmx V P n
theorem vmx_spec {V : vV} {P : Nat → Bool} : ∀ n, (vmx V P n = none → ∀ q, q < n → P q = false) ∧ ∀ b, vmx V P n = some b → b < n ∧ P b = true ∧ ∀ q, q < n → P q = true → q = b ∨ vlater V b q = true := by
  intro n
  induction n with
  | zero => exact ⟨fun _ q hq => absurd hq (Nat.not_lt_zero _), fun b hb => by cases hb⟩
  | succ n ih =>
    rw [vmx]
    cases hP : P n
    · simp only [Bool.false_eq_true, if_false]
      refine ⟨fun h q hq => ?_, fun b hb => ?_⟩
      · by_cases e : q = n
        · rw [e]; exact hP
        · exact ih.1 h q (by omega)
      · obtain ⟨h1, h2, h3⟩ := ih.2 b hb
        refine ⟨by omega, h2, fun q hq hq2 => ?_⟩
        by_cases e : q = n
        · rw [e, hP] at hq2; cases hq2
        · exact h3 q (by omega) hq2
    · simp only [if_true]
      cases hv : vmx V P n with
      | none =>
        refine ⟨fun h => by (cases h), fun b hb => ?_⟩
        cases hb
        refine ⟨by omega, hP, fun q hq hq2 => ?_⟩
        by_cases e : q = n
        · exact Or.inl e
        · rw [ih.1 hv q (by omega)] at hq2; cases hq2
      | some b0 =>
        obtain ⟨h1, h2, h3⟩ := ih.2 b0 hv
        cases hl : vlater V n b0
        · refine ⟨fun h => by simp [hl] at h, fun b hb => ?_⟩
          have hb : some b0 = some b := by simpa [hl] using hb
          cases hb
          refine ⟨by omega, h2, fun q hq hq2 => ?_⟩
          by_cases e : q = n
          · subst e
            have := vlater_not.mp hl
            right
            exact vlater_iff.mpr (by omega)
          · exact h3 q (by omega) hq2
        · refine ⟨fun h => by simp [hl] at h, fun b hb => ?_⟩
          have hb : some n = some b := by simpa [hl] using hb
          cases hb
          refine ⟨by omega, hP, fun q hq hq2 => ?_⟩
          by_cases e : q = n
          · exact Or.inl e
          · right
            have t1 := vlater_iff.mp hl
            rcases h3 q (by omega) hq2 with e2 | e2
            · rw [e2]; exact hl
            · have t2 := vlater_iff.mp e2
              exact vlater_iff.mpr (by omega)
theorem vmx_is {V : vV} {P : Nat → Bool} {n b : Nat} (h1 : b < n) (h2 : P b = true) (h3 : ∀ q, q < n → P q = true → q = b ∨ vlater V b q = true) : vmx V P n = some b := by
  cases hv : vmx V P n with
  | none => rw [(vmx_spec n).1 hv b h1] at h2; cases h2
  | some c =>
    obtain ⟨k1, k2, k3⟩ := (vmx_spec n).2 c hv
    rcases h3 c k1 k2 with e | e
    · rw [e]
    · rcases k3 b h1 h2 with e2 | e2
      · rw [e2]
      · have := vlater_iff.mp e
        have := vlater_iff.mp e2
        omega
theorem vmx_no {V : vV} {P : Nat → Bool} {n : Nat} (h : ∀ q, q < n → P q = false) : vmx V P n = none := by
  cases hv : vmx V P n with
  | none => rfl
  | some c =>
    obtain ⟨k1, k2, k3⟩ := (vmx_spec n).2 c hv
    rw [h c k1] at k2; cases k2
def oI : Option Nat → Int32
  | none => -2
  | some q => nI q
theorem oI_n {o : Option Nat} (h : ∀ b, o = some b → b < 1000) : oI o = -2 ↔ o = none := by
  cases o with
  | none => exact ⟨fun _ => rfl, fun _ => rfl⟩
  | some b => exact ⟨fun q => absurd q (nI_ne (by have := h b rfl; omega)).1, fun q => by cases q⟩
-- ===== struck =====
def vsk (V : vV) (p t q : Nat) : Bool := decide (V.1 (58 + 7 * q) = V.1 (58 + 7 * p)) && vlater V q p && (decide (V.1 (58 + 7 * q + 3) = 0) || bt (V.2.2 q) p) && decide (vlack V q t = 0)
def vstruck (V : vV) (p t : Nat) : Option Nat := vmx V (vsk V p t) (vA V)
theorem vstruck_lt {V : vV} {p t b : Nat} (h : vstruck V p t = some b) : b < vA V := ((vmx_spec (vA V)).2 b h).1
theorem sX5_strk {M : gM} {r q : Nat} {x : Int32} : s_X5_strikes M r q x := by
  unfold s_X5_strikes
  split <;> trivial
theorem fX5_strk {M : gM} {r q p : Nat} (hp : p < 32) : f_X5_strikes M r q (nI p) = bz (bt (rdI M 31 r q 0) p) := by
  unfold f_X5_strikes
  rw [b_read _ hp]
  cases bt (rdI M 31 r q 0) p <;> rfl
theorem sX5_wit {M : gM} {r q : Nat} {x : Int32} : s_X5_isWitness M r q x := by
  unfold s_X5_isWitness
  split <;> trivial
theorem fX5_wit {M : gM} {r q p : Nat} (hp : p < 32) : f_X5_isWitness M r q (nI p) = bz (bt (rdI M 30 r q 0) p) := by
  unfold f_X5_isWitness
  rw [b_read _ hp]
  cases bt (rdI M 30 r q 0) p <;> rfl
theorem X4_strk {M : gM} {V : vV} {lf : Nat → Nat} (c : CV M V lf) (h : WF V) {t p : Nat} (hp : p < vA V) (hg : ∀ q, q < vA V → rdI M 53 0 0 q = bz (decide (vlack V q t = 0))) : s_X4_latestStriker M (nI p) ∧ f_X4_latestStriker M (nI p) = mo (oI (vstruck V p t)) := by
  have hN := c.A h
  have h12 := h.A.2
  have F := c.2.2.2.2.2.2
  have ep := (c.2.2.2.1 p hp).1.1
  obtain ⟨ip, hip, eip⟩ := lf_onto F hp
  unfold s_X4_latestStriker f_X4_latestStriker
  refine lp (fun n k (s : Unit) => f_X4_latestStriker_2 M (nI p) n (nI k)) (fun n k s => s_X4_latestStriker_2 M (nI p) n (nI k)) (fun k s => ∀ j, j < k → lf j ≠ p ∧ vsk V p t (lf j) = false) (fun z => z = mo (oI (vstruck V p t))) (vA V) ?_ ?_ FU 0 () (Nat.zero_le _) (by rw [FU_eq]; omega) (fun j hj => absurd hj (Nat.not_lt_zero _))
  · intro n k s hk hI ih
    obtain ⟨q12, eq⟩ := F.1 k hk
    have i6 : vp_in (nI k) 12 := vpi (by omega)
    have i7 : vp_in (nI (lf k)) 12 := vpi (by omega)
    have i8 : vp_in (nI p) 12 := vpi (by omega)
    obtain ⟨e25, e26, e27, e28, e29, e35, e32, e30, e31, e33, e34'⟩ := (c.2.2.2.1 _ q12).1
    have hgq := hg _ q12
    simp only [s_X4_latestStriker_2, f_X4_latestStriker_2, s_X4_latestStriker_64, f_X4_latestStriker_64, s_X4_latestStriker_69, f_X4_latestStriker_69, hN, if_neg (nI_ge hk (by omega)), nn_nI (show k < 2 ^ 31 by omega), eq, nn_nI (show lf k < 2 ^ 31 by omega), nn_nI (show p < 2 ^ 31 by omega), e25, e28, ep, hgq, sX5_strk, fX5_strk (show p < 32 by omega), e31, p1, o1, i6, i7, i8, bz_0, true_and, if_true, if_false, decide_eq_false_iff_not]
    have nxt := fun (q1 : lf k ≠ p) (q2 : vsk V p t (lf k) = false) => ih () (fun j hj => by
      by_cases e : j = k
      · subst e; exact ⟨q1, q2⟩
      · exact hI j (by omega))
    by_cases a : lf k = p
    · simp only [a, if_true]
      refine ⟨trivial, ?_⟩
      have : vstruck V p t = none := vmx_no fun q hq => by
        obtain ⟨i, hi, rfl⟩ := lf_onto F hq
        by_cases e : i < k
        · exact (hI i e).2
        · unfold vsk
          rw [show vlater V (lf i) p = false from by rw [← a, lf_lt F hi hk]; exact decide_eq_false e]
          simp
      rw [this]
      rfl
    · have a2 : ¬ nI (lf k) = nI p := fun q => a ((nI_eq (by omega) (by omega)).mp q)
      simp only [a2, if_false]
      have hlt : k < ip := by
        rcases Nat.lt_trichotomy k ip with z | z | z
        · exact z
        · subst z; exact absurd eip a
        · exact absurd eip (hI ip z).1
      have hl : vlater V (lf k) p = true := by rw [← eip, lf_lt F hk hip]; exact decide_eq_true hlt
      by_cases g : vlack V (lf k) t = 0
      · by_cases m : V.1 (58 + 7 * lf k) = V.1 (58 + 7 * p)
        · by_cases kd : (decide (V.1 (58 + 7 * lf k + 3) = 0) || bt (V.2.2 (lf k)) p) = true
          · have ok : vsk V p t (lf k) = true := by unfold vsk; simp only [m, hl, kd, g, decide_true, Bool.and_self]
            have res : vstruck V p t = some (lf k) := vmx_is q12 ok fun q hq hq2 => by
              obtain ⟨i, hi, rfl⟩ := lf_onto F hq
              rcases Nat.lt_trichotomy k i with z | z | z
              · exact Or.inr (by rw [lf_lt F hk hi]; exact decide_eq_true z)
              · subst z; exact Or.inl rfl
              · rw [(hI i z).2] at hq2; cases hq2
            have fin : nI (lf k) = mo (oI (vstruck V p t)) := by rw [res]; exact (mo_ne (nI_ne (by omega)).1).symm
            by_cases k0 : V.1 (58 + 7 * lf k + 3) = 0
            · simp only [k0, g, m, if_true, not_true, if_false]
              exact ⟨trivial, fin⟩
            · have hb : bt (V.2.2 (lf k)) p = true := by simpa [k0] using kd
              simp only [k0, g, m, hb, if_true, not_true, if_false, Bool.true_eq_false]
              exact ⟨trivial, fin⟩
          · have k0 : ¬ V.1 (58 + 7 * lf k + 3) = 0 := fun z => kd (by simp [z])
            have hb : bt (V.2.2 (lf k)) p = false := by
              cases hb : bt (V.2.2 (lf k)) p
              · rfl
              · exact absurd (by simp [hb]) kd
            simp only [k0, g, hb, if_true, not_true, if_false]
            exact nxt a (by unfold vsk; simp [k0, hb])
        · have nx2 := nxt a (by unfold vsk; simp [m])
          by_cases k0 : V.1 (58 + 7 * lf k + 3) = 0
          · simp only [k0, g, m, if_true, not_true, if_false]
            exact nx2
          · cases hb : bt (V.2.2 (lf k)) p
            · simp only [k0, g, m, if_true, not_true, if_false]
              exact nx2
            · simp only [k0, g, m, if_true, not_true, if_false, Bool.true_eq_false]
              exact nx2
      · have nx2 := nxt a (by unfold vsk; simp [g])
        by_cases k0 : V.1 (58 + 7 * lf k + 3) = 0
        · simp only [k0, g, if_true, not_false_eq_true]
          exact nx2
        · cases hb : bt (V.2.2 (lf k)) p
          · simp only [k0, g, if_true, if_false, not_false_eq_true]
            exact nx2
          · simp only [k0, g, if_true, if_false, not_false_eq_true, Bool.true_eq_false]
            exact nx2
  · intro n s hI
    exact absurd eip (hI ip hip).1
theorem sLate {M : gM} {q p : Nat} (hq : q < 12) (hp : p < 12) : s_X13_isLater M (nI q) (nI p) := by
  unfold s_X13_isLater s_X13_isLater_35 s_X13_isLater_39
  refine ⟨sof1 hq, sof1 hp, ?_⟩
  split
  · trivial
  · refine ⟨sof1 hq, sof1 hp, ?_⟩
    split
    · split <;> trivial
    · trivial
theorem fLate {M : gM} {q p : Nat} (hq : q < 12) (hp : p < 12) : f_X13_isLater M (nI q) (nI p) = bz (vlater (mV M) q p) := by
  unfold f_X13_isLater f_X13_isLater_35 f_X13_isLater_39 vlater
  rw [fof1 hq, fof1 hp, bz_d]
  by_cases a : (mV M).1 (58 + 7 * p + 1) < (mV M).1 (58 + 7 * q + 1)
  · rw [if_pos a, if_pos (Or.inl a)]
  · rw [if_neg a]
    by_cases b : (mV M).1 (58 + 7 * q + 1) = (mV M).1 (58 + 7 * p + 1)
    · rw [if_pos b]
      by_cases e : q ≤ p
      · rw [if_pos (nI_le e (by omega)), if_neg (fun z => z.elim a (fun z => by omega))]
      · rw [if_neg (nI_ge (by omega) (by omega)), if_pos (Or.inr ⟨b.symm, by omega⟩)]
    · rw [if_neg b, if_neg (fun z => z.elim a (fun z => b z.1.symm))]
theorem X13_struck {M : gM} (h : WF (mV M)) {p t : Nat} (hp : p < vA (mV M)) (ht : t < vT (mV M)) : s_X13_struck M (nI p) (nI t) ∧ f_X13_struck M (nI p) (nI t) = oI (vstruck (mV M) p t) := by
  have hN := mA h
  have h12 := h.A.2
  unfold s_X13_struck f_X13_struck
  refine lp (fun n k (s : Int32) => f_X13_struck_6 M (nI p) (nI t) n s (nI k)) (fun n k s => s_X13_struck_6 M (nI p) (nI t) n s (nI k)) (fun k s => s = oI (vmx (mV M) (vsk (mV M) p t) k)) (fun z => z = oI (vstruck (mV M) p t)) (vA (mV M)) ?_ ?_ FU 0 (-2) (Nat.zero_le _) (by rw [FU_eq]; omega) rfl
  · intro n k s hk hI ih
    have i0 : vp_in (2 : Int32) 502 := vpi (k := 2) (by omega)
    have i6 : vp_in (nI k) 12 := vpi (by omega)
    obtain ⟨a1, a2⟩ := X13_lack h hk ht
    simp only [s_X13_struck_6, f_X13_struck_6, s_X13_struck_68, f_X13_struck_68, s_X13_struck_82, f_X13_struck_82, s_X13_struck_83, f_X13_struck_83, s_X13_struck_106, f_X13_struck_106, hN, if_neg (nI_ge hk (by omega)), nn_nI (show k < 2 ^ 31 by omega), x90, fof0 (show k < 12 by omega), sof0 (show k < 12 by omega), fof0 (show p < 12 by omega), sof0 (show p < 12 by omega), fof3 (show k < 12 by omega), sof3 (show k < 12 by omega), sLate (show k < 12 by omega) (show p < 12 by omega), fLate (show k < 12 by omega) (show p < 12 by omega), a1, a2, b_read _ (show p < 32 by omega), p1, i0, i6, bz_0, bz_1, true_and, o1, if_true, if_false]
    have nxt := fun (q2 : vsk (mV M) p t k = false) => ih s (by rw [hI, vmx, q2]; simp)
    by_cases m : (mV M).1 (58 + 7 * k) = (mV M).1 (58 + 7 * p)
    · cases hl : vlater (mV M) k p
      · simp only [m, if_true]
        exact nxt (by unfold vsk; simp [hl])
      · simp only [m, if_true, Bool.true_eq_false, if_false]
        by_cases g : vlack (mV M) k t = 0
        · have main : (decide ((mV M).1 (58 + 7 * k + 3) = 0) || bt ((mV M).2.2 k) p) = true → (if s = -2 then s_X13_struck_6 M (nI p) (nI t) n (nI k) (nI (k + 1)) else s_X13_isLater M (nI k) s ∧ if f_X13_isLater M (nI k) s = 0 then s_X13_struck_6 M (nI p) (nI t) n s (nI (k + 1)) else s_X13_struck_6 M (nI p) (nI t) n (nI k) (nI (k + 1))) ∧ (if s = -2 then f_X13_struck_6 M (nI p) (nI t) n (nI k) (nI (k + 1)) else if f_X13_isLater M (nI k) s = 0 then f_X13_struck_6 M (nI p) (nI t) n s (nI (k + 1)) else f_X13_struck_6 M (nI p) (nI t) n (nI k) (nI (k + 1))) = oI (vstruck (mV M) p t) := by
            intro kd
            have ok : vsk (mV M) p t k = true := by unfold vsk; simp only [m, hl, kd, g, decide_true, Bool.and_self]
            cases hv : vmx (mV M) (vsk (mV M) p t) k with
            | none =>
              have e : s = -2 := by rw [hI, hv]; rfl
              simp only [e, if_true]
              exact ih (nI k) (by rw [vmx, ok, hv]; rfl)
            | some b =>
              have hb := ((vmx_spec k).2 b hv).1
              have e : s = nI b := by rw [hI, hv]; rfl
              have e2 : ¬ nI b = -2 := (nI_ne (by omega)).1
              simp only [e, e2, if_false, sLate (show k < 12 by omega) (show b < 12 by omega), fLate (show k < 12 by omega) (show b < 12 by omega), true_and, bz_0]
              cases hk2 : vlater (mV M) k b
              · simp only [if_true]
                exact ih (nI b) (by rw [vmx, ok, hv]; simp [hk2, oI])
              · simp only [Bool.true_eq_false, if_false]
                exact ih (nI k) (by rw [vmx, ok, hv]; simp [hk2, oI])
          by_cases k0 : (mV M).1 (58 + 7 * k + 3) = 0
          · simp only [k0, g, if_true]
            exact main (by simp [k0])
          · cases hb : bt ((mV M).2.2 k) p
            · simp only [k0, if_false, Bool.false_eq_true]
              exact nxt (by unfold vsk; simp [k0, hb])
            · simp only [k0, g, if_true, if_false]
              exact main (by simp [hb])
        · have nx2 := nxt (by unfold vsk; simp [g])
          by_cases k0 : (mV M).1 (58 + 7 * k + 3) = 0
          · simp only [k0, g, if_true, if_false]
            exact nx2
          · cases hb : bt ((mV M).2.2 k) p
            · simp only [k0, if_false, Bool.false_eq_true]
              exact nx2
            · simp only [k0, g, if_true, if_false]
              exact nx2
    · simp only [m, if_false]
      exact nxt (by unfold vsk; simp [m])
  · intro n s hI
    have i0 : vp_in (2 : Int32) 502 := vpi (k := 2) (by omega)
    simp only [s_X13_struck_6, f_X13_struck_6, hN, if_pos (nI_le (Nat.le_refl (vA (mV M))) (by omega))]
    exact ⟨⟨i0, trivial⟩, hI⟩
end
