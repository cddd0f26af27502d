set_option linter.all false
noncomputable section
-- ===== who dies ahead of whom =====
def vE (V : vV) (p : Nat) : Int := (V.2.1 p).toInt
def vah (V : vV) (p q : Nat) : Bool := decide (V.2.1 p < V.2.1 q ∨ V.2.1 p = V.2.1 q ∧ p < q)
theorem vah_iff {V : vV} {p q : Nat} : vah V p q = true ↔ (vE V p < vE V q ∨ vE V p = vE V q ∧ p < q) := by
  unfold vah vE
  rw [decide_eq_true_iff, Int32.lt_iff_toInt_lt, ← Int32.toInt_inj]
theorem vah_not {V : vV} {p q : Nat} : vah V p q = false ↔ ¬ (vE V p < vE V q ∨ vE V p = vE V q ∧ p < q) := by
  rw [← vah_iff]
  simp
def vcm (V : vV) (last : Option Nat) (p : Nat) : Bool := decide (V.2.1 p ≠ -2) && (match last with
  | none => true
  | some l => vah V l p)
def vnq (V : vV) (P : Nat → Bool) : Nat → Option Nat
  | 0 => none
  | n + 1 => if P n = true then (match vnq V P n with
    | none => some n
    | some b => if vah V n b = true then some n else some b) else vnq V P n
theorem vnq_spec {V : vV} {P : Nat → Bool} : ∀ n, (vnq V P n = none → ∀ q, q < n → P q = false) ∧ ∀ b, vnq V P n = some b → b < n ∧ P b = true ∧ ∀ q, q < n → P q = true → q = b ∨ vah V b q = true := by
  intro n
  induction n with
  | zero => exact ⟨fun _ q hq => absurd hq (Nat.not_lt_zero _), fun b hb => by cases hb⟩
  | succ n ih =>
    rw [vnq]
    cases hP : P n
    · simp only [Bool.false_eq_true, if_false]
      refine ⟨fun h q hq => ?_, fun b hb => ?_⟩
      · by_cases e : q = n
        · rw [e]; exact hP
        · exact ih.1 h q (by omega)
      · obtain ⟨h1, h2, h3⟩ := ih.2 b hb
        refine ⟨by omega, h2, fun q hq hq2 => ?_⟩
        by_cases e : q = n
        · rw [e, hP] at hq2; cases hq2
        · exact h3 q (by omega) hq2
    · simp only [if_true]
      cases hv : vnq V P n with
      | none =>
        refine ⟨fun h => by (cases h), fun b hb => ?_⟩
        cases hb
        refine ⟨by omega, hP, fun q hq hq2 => ?_⟩
        by_cases e : q = n
        · exact Or.inl e
        · rw [ih.1 hv q (by omega)] at hq2; cases hq2
      | some b0 =>
        obtain ⟨h1, h2, h3⟩ := ih.2 b0 hv
        cases hl : vah V n b0
        · refine ⟨fun h => by simp [hl] at h, fun b hb => ?_⟩
          have hb : some b0 = some b := by simpa [hl] using hb
          cases hb
          refine ⟨by omega, h2, fun q hq hq2 => ?_⟩
          by_cases e : q = n
          · subst e
            have := vah_not.mp hl
            right
            exact vah_iff.mpr (by omega)
          · exact h3 q (by omega) hq2
        · refine ⟨fun h => by simp [hl] at h, fun b hb => ?_⟩
          have hb : some n = some b := by simpa [hl] using hb
          cases hb
          refine ⟨by omega, hP, fun q hq hq2 => ?_⟩
          by_cases e : q = n
          · exact Or.inl e
          · right
            have t1 := vah_iff.mp hl
            rcases h3 q (by omega) hq2 with e2 | e2
            · rw [e2]; exact hl
            · have t2 := vah_iff.mp e2
              exact vah_iff.mpr (by omega)
theorem vnq_is {V : vV} {P : Nat → Bool} {n b : Nat} (h1 : b < n) (h2 : P b = true) (h3 : ∀ q, q < n → P q = true → q = b ∨ vah V b q = true) : vnq V P n = some b := by
  cases hv : vnq V P n with
  | none => rw [(vnq_spec n).1 hv b h1] at h2; cases h2
  | some c =>
    obtain ⟨k1, k2, k3⟩ := (vnq_spec n).2 c hv
    rcases h3 c k1 k2 with e | e
    · rw [e]
    · rcases k3 b h1 h2 with e2 | e2
      · rw [e2]
      · have := vah_iff.mp e
        have := vah_iff.mp e2
        omega
theorem vnq_no {V : vV} {P : Nat → Bool} {n : Nat} (h : ∀ q, q < n → P q = false) : vnq V P n = none := by
  cases hv : vnq V P n with
  | none => rfl
  | some c =>
    obtain ⟨k1, k2, k3⟩ := (vnq_spec n).2 c hv
    rw [h c k1] at k2; cases k2
def vnd (V : vV) (last : Option Nat) : Option Nat := vnq V (vcm V last) (vP V)
def oJ : Option Nat → Int32
  | none => -1
  | some q => nI q
def mortal (V : vV) (o : Option Nat) : Prop := ∀ l, o = some l → l < vP V ∧ V.2.1 l ≠ -2
theorem vnd_mortal {V : vV} (last : Option Nat) : mortal V (vnd V last) := fun l hl => by
  obtain ⟨k1, k2, -⟩ := (vnq_spec (vP V)).2 l hl
  refine ⟨k1, ?_⟩
  unfold vcm at k2
  rw [Bool.and_eq_true, decide_eq_true_iff] at k2
  exact k2.1
theorem X7_ahead {M : gM} {V : vV} {lf : Nat → Nat} (c : CV M V lf) (h : WF V) {p q : Nat} (hp : p < vP V) (hq : q < vP V) (mp : V.2.1 p ≠ -2) (mq : V.2.1 q ≠ -2) : s_X7_diesAheadOf M 0 (nI p) (nI q) ∧ f_X7_diesAheadOf M 0 (nI p) (nI q) = bz (vah V p q) := by
  have h10 := h.P.2
  have e1 : rdI M 20 0 p 0 = V.2.1 p := by rw [(c.2.1 p hp).2.1, mo_ne mp]
  have e2 : rdI M 20 0 q 0 = V.2.1 q := by rw [(c.2.1 q hq).2.1, mo_ne mq]
  have i1 : vp_in (nI p) 10 := vpi (by omega)
  have i2 : vp_in (nI q) 10 := vpi (by omega)
  simp only [s_X7_diesAheadOf, f_X7_diesAheadOf, s_X7_diesAheadOf_38, f_X7_diesAheadOf_38, s_X7_diesAheadOf_42, f_X7_diesAheadOf_42, nn_nI (show p < 2 ^ 31 by omega), nn_nI (show q < 2 ^ 31 by omega), e1, e2, i1, i2, true_and, ite_self, nI_leI (show q < 2 ^ 31 by omega) (show p < 2 ^ 31 by omega), vah]
  rw [bz_d]
  by_cases a : V.2.1 p < V.2.1 q
  · simp [a]
  · by_cases b : V.2.1 p = V.2.1 q
    · by_cases e : q ≤ p
      · have : ¬ p < q := by omega
        simp [a, b, e, this]
      · have : p < q := by omega
        simp [a, b, e, this]
    · simp [a, b]
theorem X7_db {M : gM} {V : vV} {lf : Nat → Nat} (c : CV M V lf) (h : WF V) {last : Option Nat} (hl : mortal V last) : s_X7_deathBehind M 0 (oJ last) ∧ f_X7_deathBehind M 0 (oJ last) = oJ (vnd V last) := by
  have hN := c.P h
  have h10 := h.P.2
  unfold s_X7_deathBehind f_X7_deathBehind
  refine lp (fun n k (s : Int32) => f_X7_deathBehind_4 M 0 (oJ last) n s (nI k)) (fun n k s => s_X7_deathBehind_4 M 0 (oJ last) n s (nI k)) (fun k s => s = oJ (vnq V (vcm V last) k)) (fun z => z = oJ (vnd V last)) (vP V) ?_ ?_ FU 0 (-1) (Nat.zero_le _) (by rw [FU_eq]; omega) rfl
  · intro n k s hk hI ih
    have i6 : vp_in (nI k) 10 := vpi (by omega)
    simp only [s_X7_deathBehind_4, f_X7_deathBehind_4, s_X7_deathBehind_38, f_X7_deathBehind_38, s_X7_deathBehind_42, f_X7_deathBehind_42, s_X7_deathBehind_43, f_X7_deathBehind_43, s_X7_deathBehind_64, f_X7_deathBehind_64, hN, if_neg (nI_ge hk (by omega)), nn_nI (show k < 2 ^ 31 by omega), sX6_mortal, fX6_mortal c h hk, i6, p1, bz_0, decide_eq_false_iff_not, true_and, o1, if_true, if_false]
    have nx := fun (z : vcm V last k = false) => ih s (by rw [hI, vnq, z]; simp)
    by_cases m : V.2.1 k = -2
    · simp only [m, ne_eq, not_true, not_false_eq_true, if_true]
      exact nx (by unfold vcm; simp [m])
    · simp only [m, ne_eq, not_false_eq_true, not_true, if_false]
      have main : vcm V last k = true → (if s = -1 then s_X7_deathBehind_4 M 0 (oJ last) n (nI k) (nI (k + 1)) else s_X7_diesAheadOf M 0 (nI k) s ∧ if f_X7_diesAheadOf M 0 (nI k) s = 0 then s_X7_deathBehind_4 M 0 (oJ last) n s (nI (k + 1)) else s_X7_deathBehind_4 M 0 (oJ last) n (nI k) (nI (k + 1))) ∧ (if s = -1 then f_X7_deathBehind_4 M 0 (oJ last) n (nI k) (nI (k + 1)) else if f_X7_diesAheadOf M 0 (nI k) s = 0 then f_X7_deathBehind_4 M 0 (oJ last) n s (nI (k + 1)) else f_X7_deathBehind_4 M 0 (oJ last) n (nI k) (nI (k + 1))) = oJ (vnd V last) := by
        intro ok
        cases hv : vnq V (vcm V last) k with
        | none =>
          have e : s = -1 := by rw [hI, hv]; rfl
          simp only [e, if_true]
          exact ih (nI k) (by rw [vnq, ok, hv]; rfl)
        | some b =>
          obtain ⟨k1, k2, -⟩ := (vnq_spec k).2 b hv
          have mb : V.2.1 b ≠ -2 := by
            unfold vcm at k2
            rw [Bool.and_eq_true, decide_eq_true_iff] at k2
            exact k2.1
          have e : s = nI b := by rw [hI, hv]; rfl
          have e2 : ¬ nI b = -1 := (nI_ne (by omega)).2
          obtain ⟨a1, a2⟩ := X7_ahead c h hk (show b < vP V by omega) m mb
          simp only [e, e2, if_false, a1, a2, true_and, bz_0]
          cases hk2 : vah V k b
          · simp only [if_true]
            exact ih (nI b) (by rw [vnq, ok, hv]; simp [hk2, oJ])
          · simp only [Bool.true_eq_false, if_false]
            exact ih (nI k) (by rw [vnq, ok, hv]; simp [hk2, oJ])
      cases last with
      | none =>
        simp only [show (oJ none = -1) = True from eq_true rfl, if_true] at main ⊢
        exact main (by unfold vcm; simp [m])
      | some l =>
        obtain ⟨l1, l2⟩ := hl l rfl
        have nl : (oJ (some l) = -1) = False := eq_false (nI_ne (show l < 2 ^ 31 by omega)).2
        obtain ⟨a1, a2⟩ := X7_ahead c h l1 hk l2 m
        have a1 : s_X7_diesAheadOf M 0 (oJ (some l)) (nI k) := a1
        have a2 : f_X7_diesAheadOf M 0 (oJ (some l)) (nI k) = bz (vah V l k) := a2
        simp only [nl, if_false, a1, a2, true_and, bz_0]
        cases hv : vah V l k
        · simp only [if_true]
          exact nx (by unfold vcm; simp [hv])
        · simp only [Bool.true_eq_false, if_false]
          exact main (by unfold vcm; simp [hv, m])
  · intro n s hI
    simp only [s_X7_deathBehind_4, f_X7_deathBehind_4, hN, if_pos (nI_le (Nat.le_refl (vP V)) (by omega))]
    exact ⟨trivial, hI⟩
-- the reference's
def dn (V : vV) (last : Option Nat) (done : Int32) : Prop := ∀ p, p < vP V → V.2.1 p ≠ -2 → bt done p = !vcm V last p
def vcur (V : vV) (day : Int32) (o : Option Nat) : Int32 := match o with
  | none => -1
  | some b => if V.2.1 b ≤ day then nI b else -1
theorem X13_next {M : gM} (h : WF (mV M)) {last : Option Nat} {done day : Int32} (hd : dn (mV M) last done) : s_X13_nextDeath M done day ∧ f_X13_nextDeath M done day = vcur (mV M) day (vnd (mV M) last) := by
  have hN := mP h
  have h10 := h.P.2
  have i0 : vp_in (0 : Int32) 502 := vpi (k := 0) (by omega)
  have fin : oJ (vnq (mV M) (fun p => vcm (mV M) last p && decide ((mV M).2.1 p ≤ day)) (vP (mV M))) = vcur (mV M) day (vnd (mV M) last) := by
    cases hv : vnd (mV M) last with
    | none =>
      rw [vnq_no fun q hq => by rw [(vnq_spec _).1 hv q hq]; rfl]
      rfl
    | some b =>
      obtain ⟨k1, k2, k3⟩ := (vnq_spec _).2 b hv
      by_cases y : (mV M).2.1 b ≤ day
      · rw [vnq_is k1 (by simp only [k2, decide_eq_true y, Bool.and_self]) (fun q hq hq2 => k3 q hq (by
          rw [Bool.and_eq_true] at hq2; exact hq2.1))]
        simp only [vcur, if_pos y]; rfl
      · rw [vnq_no fun q hq => by
          cases hc : vcm (mV M) last q
          · rfl
          · rw [Bool.true_and]
            refine decide_eq_false fun z => y ?_
            rcases k3 q hq hc with e | e
            · rw [← e]; exact z
            · have := vah_iff.mp e
              unfold vE at this
              rw [Int32.le_iff_toInt_le] at z ⊢
              omega]
        simp only [vcur, if_neg y]; rfl
  rw [← fin]
  unfold s_X13_nextDeath f_X13_nextDeath
  refine lp (fun n k (s : Int32) => f_X13_nextDeath_5 M done day n s (nI k)) (fun n k s => s_X13_nextDeath_5 M done day n s (nI k)) (fun k s => s = oJ (vnq (mV M) (fun p => vcm (mV M) last p && decide ((mV M).2.1 p ≤ day)) k)) (fun z => z = oJ (vnq (mV M) (fun p => vcm (mV M) last p && decide ((mV M).2.1 p ≤ day)) (vP (mV M)))) (vP (mV M)) ?_ ?_ FU 0 (-1) (Nat.zero_le _) (by rw [FU_eq]; omega) rfl
  · intro n k s hk hI ih
    have nx := fun (z : (vcm (mV M) last k && decide ((mV M).2.1 k ≤ day)) = false) => ih s (by rw [hI, vnq, z]; simp)
    simp only [s_X13_nextDeath_5, f_X13_nextDeath_5, s_X13_nextDeath_69, f_X13_nextDeath_69, hN, if_neg (nI_ge hk (by omega)), b_read _ (show k < 32 by omega), f_dies (show k < 65 by omega), s_dies (show k < 65 by omega), i0, p1, bz_1, true_and]
    by_cases m : (mV M).2.1 k = -2
    · have : vcm (mV M) last k = false := by unfold vcm; simp [m]
      have nx := nx (by rw [this]; rfl)
      cases bt done k
      · simp only [Bool.false_eq_true, if_false, m, if_true]
        exact nx
      · simp only [if_true]
        exact nx
    · have hd2 := hd k hk m
      cases hc : vcm (mV M) last k
      · rw [hc] at hd2
        simp only [hd2, Bool.not_false, if_true]
        exact nx (by rw [hc]; rfl)
      · rw [hc] at hd2
        simp only [hd2, Bool.not_true, Bool.false_eq_true, if_false, m]
        by_cases y : (mV M).2.1 k ≤ day
        · have ok : (vcm (mV M) last k && decide ((mV M).2.1 k ≤ day)) = true := by simp [hc, y]
          simp only [y, if_true]
          cases hv : vnq (mV M) (fun p => vcm (mV M) last p && decide ((mV M).2.1 p ≤ day)) k with
          | none =>
            have e : s = -1 := by rw [hI, hv]; rfl
            simp only [e, if_true]
            exact ih (nI k) (by rw [vnq, hv]; simp only [ok, if_true]; rfl)
          | some b =>
            obtain ⟨k1, k2, -⟩ := (vnq_spec k).2 b hv
            have e : s = nI b := by rw [hI, hv]; rfl
            have e2 : ¬ nI b = -1 := (nI_ne (by omega)).2
            simp only [e, e2, if_false, f_dies (show b < 65 by omega), s_dies (show b < 65 by omega), true_and]
            by_cases z : (mV M).2.1 b ≤ (mV M).2.1 k
            · have : vah (mV M) k b = false := vah_not.mpr (by
                unfold vE
                rw [Int32.le_iff_toInt_le] at z
                omega)
              simp only [z, if_true]
              exact ih (nI b) (by rw [vnq, hv]; simp only [ok, if_true, this, Bool.false_eq_true, if_false]; rfl)
            · have : vah (mV M) k b = true := vah_iff.mpr (by
                unfold vE
                rw [Int32.le_iff_toInt_le] at z
                omega)
              simp only [z, if_false]
              exact ih (nI k) (by rw [vnq, hv]; simp only [ok, if_true, this]; rfl)
        · simp only [y, if_false]
          exact nx (by simp [y])
  · intro n s hI
    simp only [s_X13_nextDeath_5, f_X13_nextDeath_5, hN, if_pos (nI_le (Nat.le_refl (vP (mV M))) (by omega))]
    exact ⟨⟨i0, trivial⟩, hI⟩
theorem dn_0 {V : vV} : dn V none 0 := fun p _ m => by
  rw [b_0]; unfold vcm; simp [m]
theorem dn_s {V : vV} (h : WF V) {last : Option Nat} {done : Int32} (hl : mortal V last) (hd : dn V last done) {b : Nat} (hb : vnd V last = some b) : dn V (some b) (done ||| (1 <<< (nI b &&& 31))) := fun p hp m => by
  have h10 := h.P.2
  obtain ⟨k1, k2, k3⟩ := (vnq_spec (vP V)).2 b hb
  rw [b_or, bt_bit (by omega) (by omega), hd p hp m]
  have e : vcm V (some b) p = vah V b p := by unfold vcm; simp [m]
  rw [e]
  cases hc : vcm V last p
  · have : vah V b p = false := by
      cases hv : vah V b p
      · rfl
      · exfalso
        have e1 := vah_iff.mp hv
        cases last with
        | none => unfold vcm at hc; simp [m] at hc
        | some l =>
          have k2' : vah V l b = true := by unfold vcm at k2; rw [Bool.and_eq_true] at k2; exact k2.2
          have hc' : vah V l p = false := by unfold vcm at hc; simpa [m] using hc
          have := vah_iff.mp k2'
          have := vah_not.mp hc'
          omega
    rw [this]; rfl
  · rcases k3 p hp hc with z | z
    · subst z
      have : vah V p p = false := vah_not.mpr (by omega)
      rw [this]; simp
    · have : p ≠ b := fun y => by
        subst y
        have := vah_iff.mp z
        omega
      rw [z]; simp [this]
theorem ct_dn {V : vV} {last : Option Nat} {b : Nat} (hb : vnd V last = some b) : fb_ct (vcm V (some b)) (vP V) + 1 ≤ fb_ct (vcm V last) (vP V) := by
  obtain ⟨k1, k2, k3⟩ := (vnq_spec (vP V)).2 b hb
  have u := fb_ct_upd (vcm V last) false k1
  have z : (if false = true then 1 else 0) = 0 := rfl
  rw [z, if_pos k2] at u
  have s : fb_ct (vcm V (some b)) (vP V) ≤ fb_ct (fun k => if k = b then false else vcm V last k) (vP V) := fb_ct_sub fun k hk hk2 => by
    have mk : V.2.1 k ≠ -2 ∧ vah V b k = true := by unfold vcm at hk2; rw [Bool.and_eq_true, decide_eq_true_iff] at hk2; exact hk2
    have e1 := vah_iff.mp mk.2
    rw [if_neg (fun y => by subst y; omega)]
    cases last with
    | none => unfold vcm; simp [mk.1]
    | some l =>
      have k2' : vah V l b = true := by unfold vcm at k2; rw [Bool.and_eq_true] at k2; exact k2.2
      have := vah_iff.mp k2'
      have : vah V l k = true := vah_iff.mpr (by omega)
      unfold vcm; simp [mk.1, this]
  omega
-- ===== a thing's way =====
abbrev vS : Type := (Nat → Nat) × Nat × Int32 × Int32 × Int32 × Int32
def vhold (P : Nat → Nat) : Int32 := bo (fun h => decide (P h ≠ 0)) 11
def vstep (V : vV) (lf : Nat → Nat) (t d : Nat) (S : vS) : vS := ((vps V lf t d S.1 S.2.1).1, (vps V lf t d S.1 S.2.1).2, S.2.2.1 ||| vhold (vps V lf t d S.1 S.2.1).1, S.2.2.2.1 ||| (1 <<< (nI d &&& 31)), S.2.2.2.2.1 + 1, V.2.1 d)
def vgo (V : vV) (lf : Nat → Nat) (t : Nat) (day : Int32) : Nat → Option Nat → vS → vS
  | 0, _, S => S
  | _ + 1, none, S => S
  | n + 1, some d, S => vgo V lf t day n (vnd V (some d)) (if V.2.1 d ≤ day ∧ S.1 d ≠ 0 then vstep V lf t d S else S)
def vS0 (V : vV) (t : Nat) : vS := (fun h => if h = nn (V.1 (34 + 3 * t)) then 1 else 0, 1, vhold (fun h => if h = nn (V.1 (34 + 3 * t)) then 1 else 0), 0, 0, -2)
def vrun (V : vV) (lf : Nat → Nat) (t : Nat) (day : Int32) : vS := vgo V lf t day 10 (vnd V none) (vS0 V t)
def clS (M : gM) (S : vS) : Prop := cl M S.1 S.2.1 ∧ rdI M 57 0 0 0 = S.2.2.1 ∧ rdI M 58 0 0 0 = S.2.2.2.1 ∧ rdI M 59 0 0 0 = S.2.2.2.2.1 ∧ rdI M 60 0 0 0 = mo S.2.2.2.2.2
def mdS (M : gM) (S : vS) : Prop := fr M S.1 S.2.1 ∧ rdI M 82 0 0 0 = S.2.2.1 ∧ rdI M 85 0 0 0 = S.2.2.2.1 ∧ rdI M 83 0 0 0 = S.2.2.2.2.1 ∧ rdI M 84 0 0 0 = S.2.2.2.2.2
def okS (k : Nat) (S : vS) : Prop := fb_sm S.1 11 = S.2.1 ∧ 0 < S.2.1 ∧ S.2.1 ≤ 18 ^ k ∧ S.2.2.1 ||| vhold S.1 = S.2.2.1
theorem or_idem2 (x y : Int32) : x ||| y ||| y = x ||| y := b_ext fun i _ => by rw [b_or, b_or]; cases bt x i <;> cases bt y i <;> rfl
theorem pow18 {k : Nat} (hk : k ≤ 10) : (18 : Nat) ^ k * 18 < 2 ^ 63 := by
  have h1 : (18 : Nat) ^ k ≤ 18 ^ 10 := Nat.pow_le_pow_right (by omega) hk
  have h2 : (18 : Nat) ^ 10 * 18 < 2 ^ 63 := by decide
  omega
theorem okS.step {V : vV} (h : WF V) {lf : Nat → Nat} (hl : ∀ i, i < vA V → lf i < vA V) {t d k : Nat} {S : vS} (hd : d < vP V) (hm : V.2.1 d ≠ -2) (o : okS k S) : okS (k + 1) (vstep V lf t d S) := by
  obtain ⟨o1, o2, o3, o4⟩ := o
  obtain ⟨a1, a2, a3⟩ := vps_ok (t := t) h hl hd hm o1 o2
  refine ⟨a1, a2, ?_, ?_⟩
  · show (vps V lf t d S.1 S.2.1).2 ≤ 18 ^ (k + 1)
    rw [Nat.pow_succ]
    omega
  · exact or_idem2 _ _
theorem okS.mono {k k' : Nat} {S : vS} (o : okS k S) (h : k ≤ k') : okS k' S := ⟨o.1, o.2.1, Nat.le_trans o.2.2.1 (Nat.pow_le_pow_right (by omega) h), o.2.2.2⟩
theorem ff11 {P : Nat → Nat} {k W : Nat} (hP : fb_sm P 11 = W) (hk : k ≤ 10) (hW : W ≤ 18 ^ k) {h : Nat} (hh : h < 11) : P h < 2 ^ 63 := by
  have := sm_le hP hh
  have := pow18 hk
  omega
theorem X1_hold {M : gM} {P : Nat → Nat} {W : Nat} (c : cl M P W) (hb : ∀ h, h < 11 → P h < 2 ^ 63) : s_X1_holdersNow M ∧ f_X1_holdersNow M = vhold P := by
  unfold s_X1_holdersNow f_X1_holdersNow
  refine lp (fun n k (s : Int32) => f_X1_holdersNow_4 M n s (nI k)) (fun n k s => s_X1_holdersNow_4 M n s (nI k)) (fun k s => s = bo (fun h => decide (P h ≠ 0)) k) (fun z => z = vhold P) 11 ?_ ?_ FU 0 0 (Nat.zero_le _) (by rw [FU_eq]; omega) rfl
  · intro n k s hk hI ih
    have n10 : ¬ (10 : Int32) < nI k := nI_nlt (a := 10) (by omega) (by decide)
    have ik : vp_in (nI k) 11 := vpi (by omega)
    have e : (lg_cmp (lN (P k)) 0 = 0) = (P k = 0) := propext ((lg_cmp_eq _ _).trans (lz (hb k hk)))
    simp only [s_X1_holdersNow_4, f_X1_holdersNow_4, s_X1_holdersNow_27, f_X1_holdersNow_27, bnd, bndP, if_neg n10, ik, nn_nI (show k < 2 ^ 31 by omega), c.1 k hk, e, p1, true_and]
    by_cases z : P k = 0
    · simp only [z, if_true]
      exact ih _ (by rw [hI, bo]; simp [z, bz])
    · simp only [z, if_false]
      exact ih _ (by rw [hI, bo]; simp [z, bz])
  · intro n s hI
    simp only [s_X1_holdersNow_4, f_X1_holdersNow_4, if_pos (show (10 : Int32) < nI 11 by decide)]
    exact ⟨trivial, hI⟩
theorem X13_hold {M : gM} {P : Nat → Nat} {W : Nat} (c : fr M P W) (hW : 0 < W) (hb : ∀ h, h < 11 → P h < 2 ^ 63) : s_X13_holding M ∧ f_X13_holding M = vhold P := by
  unfold s_X13_holding f_X13_holding
  refine lp (fun n k (s : Int32) => f_X13_holding_4 M n s (nI k)) (fun n k s => s_X13_holding_4 M n s (nI k)) (fun k s => s = bo (fun h => decide (P h ≠ 0)) k) (fun z => z = vhold P) 11 ?_ ?_ FU 0 0 (Nat.zero_le _) (by rw [FU_eq]; omega) rfl
  · intro n k s hk hI ih
    have n10 : ¬ (10 : Int32) < nI k := nI_nlt (a := 10) (by omega) (by decide)
    have ik : vp_in (nI k) 11 := vpi (by omega)
    have nl := red_nle (n := P k) (d := W)
    have hb2 := hb k hk
    have e : (lg_cmp (lN (fN (P k) W)) 0 ≤ 0) = (P k = 0) := propext (by
      rw [lg_cmp_le, show (0 : Int64) = lN 0 from rfl, pk_lLE (by omega) (by decide), Nat.le_zero]
      exact red_nz hW)
    simp only [s_X13_holding_4, f_X13_holding_4, bnd, bndP, if_neg n10, ik, nn_nI (show k < 2 ^ 31 by omega), (c k hk).1, e, p1, or_0, true_and]
    by_cases z : P k = 0
    · simp only [z, if_true]
      exact ih _ (by rw [hI, bo]; simp [z, bz, z_shl (show k < 32 by omega), or_0])
    · simp only [z, if_false]
      exact ih _ (by rw [hI, bo]; simp [z, bz])
  · intro n s hI
    simp only [s_X13_holding_4, f_X13_holding_4, if_pos (show (10 : Int32) < nI 11 by decide)]
    exact ⟨trivial, hI⟩
end
