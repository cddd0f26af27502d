set_option linter.all false
noncomputable section
-- ===== names: one number for each =====
def vb (B : Nat) (T : Nat → Nat) (p : Nat) : Nat → Nat
  | 0 => 0
  | k + 1 => vb B T p k * B + (T (p + k) - 96)
def allL (T : Nat → Nat) (p n : Nat) : Prop := ∀ k, k < n → lt (T (p + k)) = true
theorem vb_inj {B : Nat} (hB : 27 ≤ B) {T : Nat → Nat} {p q : Nat} : ∀ n k, allL T p n → allL T q k → (vb B T p n = vb B T q k ↔ n = k ∧ ∀ i, i < n → T (p + i) = T (q + i)) := by
  intro n
  induction n with
  | zero =>
    intro k _ hk
    cases k with
    | zero => exact ⟨fun _ => ⟨rfl, fun i hi => absurd hi (Nat.not_lt_zero i)⟩, fun _ => rfl⟩
    | succ k =>
      have := of_decide_eq_true (hk k (Nat.lt_succ_self k))
      constructor
      · intro h; rw [vb, vb] at h; omega
      · intro h; omega
  | succ n ih =>
    intro k hn hk
    have a := of_decide_eq_true (hn n (Nat.lt_succ_self n))
    cases k with
    | zero =>
      constructor
      · intro h; rw [vb, vb] at h; omega
      · intro h; omega
    | succ k =>
      have b := of_decide_eq_true (hk k (Nat.lt_succ_self k))
      have h1 := ih k (fun i hi => hn i (by omega)) (fun i hi => hk i (by omega))
      rw [vb, vb]
      constructor
      · intro h
        have m1 : (vb B T p n * B + (T (p + n) - 96)) % B = (vb B T q k * B + (T (q + k) - 96)) % B := by rw [h]
        have d1 : (vb B T p n * B + (T (p + n) - 96)) / B = (vb B T q k * B + (T (q + k) - 96)) / B := by rw [h]
        rw [Nat.mul_comm, Nat.mul_add_mod, Nat.mul_comm (vb B T q k), Nat.mul_add_mod, Nat.mod_eq_of_lt (by omega), Nat.mod_eq_of_lt (by omega)] at m1
        rw [Nat.mul_comm, Nat.mul_add_div (by omega), Nat.mul_comm (vb B T q k), Nat.mul_add_div (by omega), Nat.div_eq_of_lt (by omega), Nat.div_eq_of_lt (by omega), Nat.add_zero, Nat.add_zero] at d1
        obtain ⟨e1, e2⟩ := h1.mp d1
        refine ⟨by omega, fun i hi => ?_⟩
        by_cases z : i = n
        · subst z
          have : T (p + i) = T (q + k) := by omega
          rw [this, e1]
        · exact e2 i (by omega)
      · rintro ⟨e1, e2⟩
        have e1 : n = k := by omega
        subst e1
        rw [h1.mpr ⟨rfl, fun i hi => e2 i (by omega)⟩, e2 n (Nat.lt_succ_self n)]
theorem vb_lt {B : Nat} (hB : 27 ≤ B) {T : Nat → Nat} {p : Nat} : ∀ n, allL T p n → vb B T p n < B ^ n := by
  intro n
  induction n with
  | zero => intro _; exact Nat.one_pos
  | succ n ih =>
    intro h
    have a := of_decide_eq_true (h n (Nat.lt_succ_self n))
    have b := ih (fun i hi => h i (by omega))
    rw [vb, Nat.pow_succ]
    have : (vb B T p n + 1) * B ≤ B ^ n * B := Nat.mul_le_mul_right B b
    rw [Nat.add_mul] at this
    omega
theorem pow_le5 {B n : Nat} (hB : 0 < B) (hn : n ≤ 5) : B ^ n ≤ B ^ 5 := Nat.pow_le_pow_right hB hn
theorem nI_sub {a b : Nat} (h : b ≤ a) : nI a - nI b = nI (a - b) := by
  have := nI_add (a - b) b
  rw [show a - b + b = a by omega] at this
  rw [← this]
  exact Int32.add_sub_cancel _ _
theorem c27_v {T : Nat → Nat} {p : Nat} : ∀ n, n ≤ 5 → allL T p n → c27 T p n = nI (vb 27 T p n) := by
  intro n
  induction n with
  | zero => intro _ _; rfl
  | succ n ih =>
    intro h5 h
    have a := of_decide_eq_true (h n (Nat.lt_succ_self n))
    have b := ih (by omega) (fun i hi => h i (by omega))
    rw [c27, b, vb, show (nI (vb 27 T p n)) * 27 = nI (vb 27 T p n * 27) from by rw [Nat.mul_comm, ← pk_mul 27]; exact Int32.mul_comm _ _, nI_add, show (97 : Int32) = nI 97 from rfl, nI_sub (by omega), p1]
    congr 1
    omega
theorem bt_nI {n i : Nat} (hi : i < 32) (hn : n < 2 ^ 32) : bt (nI n) i = n.testBit i := by
  unfold bt
  show (BitVec.ofNat 32 n).getLsbD i = _
  rw [BitVec.getLsbD_ofNat, decide_eq_true hi, Bool.true_and]
theorem shl5 {a y : Nat} (ha : a < 2 ^ 26) (hy : y < 32) : (nI a <<< (5 &&& 31)) ||| nI y = nI (a * 32 + y) := by
  apply b_ext
  intro i hi
  have h1 := b_shl 5 (by omega) (nI a) hi
  rw [b_or, show ((nI a) <<< ((5 : Int32) &&& 31)) = ((nI a) <<< (nI 5 &&& 31)) from rfl, h1, bt_nI hi (by omega), bt_nI hi (by omega)]
  rw [show a * 32 + y = 2 ^ 5 * a + y by omega, Nat.testBit_two_pow_mul_add _ (show y < 2 ^ 5 by omega)]
  by_cases z : i < 5
  · rw [if_pos z, decide_eq_false (by omega), Bool.false_and, Bool.false_or]
  · rw [if_neg z, decide_eq_true (by omega), Bool.true_and, bt_nI (by omega) (by omega)]
    have : y.testBit i = false := Nat.testBit_lt_two_pow (Nat.lt_of_lt_of_le hy (by
      calc 32 = 2 ^ 5 := by decide
        _ ≤ 2 ^ i := Nat.pow_le_pow_right (by decide) (by omega)))
    rw [this, Bool.or_false]
theorem c32_v {T : Nat → Nat} {p : Nat} : ∀ n, n ≤ 5 → allL T p n → c32 T p n = nI (vb 32 T p n) := by
  intro n
  induction n with
  | zero => intro _ _; rfl
  | succ n ih =>
    intro h5 h
    have a := of_decide_eq_true (h n (Nat.lt_succ_self n))
    have hs : allL T p n := fun i hi => h i (by omega)
    have b := ih (by omega) hs
    have lt32 : vb 32 T p n < 2 ^ 26 := by
      have := vb_lt (B := 32) (by omega) n hs
      have := pow_le5 (B := 32) (by omega) (show n ≤ 5 by omega)
      have : (32 : Nat) ^ 5 = 33554432 := by decide
      omega
    rw [c32, b, vb, show (97 : Int32) = nI 97 from rfl, nI_sub (by omega), p1, show T (p + n) - 97 + 1 = T (p + n) - 96 by omega]
    exact shl5 lt32 (by omega)
/-- two numbers of one name -/
def nmR (T : Nat → Nat) (a b : Int32) : Prop := ∃ p n, n ≤ 5 ∧ allL T p n ∧ a = c27 T p n ∧ b = c32 T p n
theorem nmR_eq {T : Nat → Nat} {a b a' b' : Int32} (h : nmR T a b) (k : nmR T a' b') : a = a' ↔ b = b' := by
  obtain ⟨p, n, n5, al, rfl, rfl⟩ := h
  obtain ⟨q, k, k5, bl', rfl, rfl⟩ := k
  have e27 : (27 : Nat) ^ 5 = 14348907 := by decide
  have e32 : (32 : Nat) ^ 5 = 33554432 := by decide
  have x1 := vb_lt (B := 27) (by omega) n al
  have x2 := vb_lt (B := 27) (by omega) k bl'
  have x3 := vb_lt (B := 32) (by omega) n al
  have x4 := vb_lt (B := 32) (by omega) k bl'
  have y1 := pow_le5 (B := 27) (by omega) n5
  have y2 := pow_le5 (B := 27) (by omega) k5
  have y3 := pow_le5 (B := 32) (by omega) n5
  have y4 := pow_le5 (B := 32) (by omega) k5
  rw [c27_v n n5 al, c27_v k k5 bl', c32_v n n5 al, c32_v k k5 bl']
  have inj : ∀ u v : Nat, u < 2 ^ 31 → v < 2 ^ 31 → (nI u = nI v ↔ u = v) := fun u v hu hv => ⟨fun e => by
    have := congrArg nn e
    rwa [nn_nI hu, nn_nI hv] at this, fun e => by rw [e]⟩
  rw [inj _ _ (by omega) (by omega), inj _ _ (by omega) (by omega), vb_inj (by omega) n k al bl', vb_inj (by omega) n k al bl']
-- ===== one token, both sides =====
theorem tK_lt {T : Nat → Nat} {l p : Nat} : tK T l p < 26 := by
  unfold tK
  split
  · split
    · omega
    · split
      · exact wkd_lt
      · split <;> omega
  · omega
/-- the reference's kind by the class's kind -/
theorem kd_m {M : gM} {T : Nat → Nat} {l q : Nat} (h : mKd M T l q) : (tK T l q < 21 → rdI M 73 0 0 0 = 0 ∧ rdI M 74 0 0 0 = nI (tK T l q)) ∧ (tK T l q = 21 → rdI M 73 0 0 0 = 0 ∧ rdI M 74 0 0 0 = -1 ∧ nmR T (tV T l q) (rdI M 75 0 0 0)) ∧ (tK T l q = 22 → rdI M 73 0 0 0 = 1 ∧ dg (T q) = true ∧ q < l ∧ tV T l q = nvC T q (ru dg T l q - q) ∧ rdI M 74 0 0 0 = nvM T q (ru dg T l q - q)) ∧ (tK T l q = 23 → rdI M 73 0 0 0 = 2) ∧ (tK T l q = 24 → rdI M 73 0 0 0 = 4) ∧ (tK T l q = 25 → rdI M 73 0 0 0 = 3) := by
  unfold mKd at h
  unfold tK tV
  by_cases a : q < l
  · simp only [if_pos a] at h ⊢
    by_cases b : dg (T q) = true
    · simp only [if_pos b] at h ⊢
      exact ⟨fun z => by omega, fun z => by omega, fun _ => ⟨h.1, b, a, trivial, h.2⟩, fun z => by omega, fun z => by omega, fun z => by omega⟩
    · simp only [if_neg b] at h ⊢
      by_cases c : lt (T q) = true
      · simp only [if_pos c, wkd] at h ⊢
        by_cases d : wix T q (ru lt T l q - q) < 21
        · simp only [if_pos d] at h ⊢
          exact ⟨fun _ => h, fun z => by omega, fun z => by omega, fun z => by omega, fun z => by omega, fun z => by omega⟩
        · simp only [if_neg d] at h ⊢
          by_cases e : 5 < ru lt T l q - q
          · rw [if_neg (by omega)] at h
            simp only [if_pos e]
            exact ⟨fun z => by omega, fun z => by omega, fun z => by omega, fun z => by omega, fun _ => h, fun z => by omega⟩
          · rw [if_pos (by omega)] at h
            simp only [if_neg e, if_true]
            refine ⟨fun z => by omega, fun _ => ⟨h.1, h.2.1, q, ru lt T l q - q, by omega, ?_, rfl, h.2.2⟩, fun z => by omega, fun z => by omega, fun z => by omega, fun z => by omega⟩
            intro k hk
            exact (ru_in (P := lt) (T := T) (show q ≤ l by omega)).2.2.1 (q + k) (by omega) (by omega)
      · simp only [if_neg c] at h ⊢
        by_cases d : T q = 59
        · simp only [if_pos d] at h ⊢
          exact ⟨fun z => by omega, fun z => by omega, fun z => by omega, fun _ => h, fun z => by omega, fun z => by omega⟩
        · simp only [if_neg d] at h ⊢
          exact ⟨fun z => by omega, fun z => by omega, fun z => by omega, fun z => by omega, fun _ => h, fun z => by omega⟩
  · simp only [if_neg a] at h ⊢
    exact ⟨fun z => by omega, fun z => by omega, fun z => by omega, fun z => by omega, fun z => by omega, fun _ => h⟩
-- numbers agree below a hundred thousand
theorem nv_R {T : Nat → Nat} {l q : Nat} (al : ∀ k, q ≤ k → k < ru dg T l q → dg (T k) = true) : ∀ n, q + n ≤ ru dg T l q → ∃ a b : Nat, nvC T q n = nI a ∧ nvM T q n = nI b ∧ (a = b ∧ a ≤ 99999 ∨ a = 100000 ∧ 100000 ≤ b ∧ b < 1000000) := by
  intro n
  induction n with
  | zero => intro _; exact ⟨0, 0, rfl, rfl, Or.inl ⟨rfl, by omega⟩⟩
  | succ n ih =>
    intro hn
    obtain ⟨a, b, h1, h2, h3⟩ := ih (by omega)
    have d := of_decide_eq_true (al (q + n) (by omega) (by omega))
    have e1 : (nI a * 10 + nI (T (q + n))) - 48 = nI (a * 10 + T (q + n) - 48) := by
      rw [show nI a * 10 = nI (a * 10) from by rw [Nat.mul_comm, ← pk_mul 10]; exact Int32.mul_comm _ _, nI_add, show (48 : Int32) = nI 48 from rfl, nI_sub (by omega)]
    have e2 : (10 * nI b + nI (T (q + n))) - 48 = nI (10 * b + T (q + n) - 48) := by
      rw [show (10 : Int32) * nI b = nI (10 * b) from pk_mul 10 b, nI_add, show (48 : Int32) = nI 48 from rfl, nI_sub (by omega)]
    have mnv : ∀ x, x < 2 ^ 31 → mn (nI x) 100000 = nI (if 100000 < x then 100000 else x) := by
      intro x hx
      show (if (100000 : Int32) < nI x then (100000 : Int32) else nI x) = _
      by_cases z : 100000 < x
      · have g : (100000 : Int32) < nI x := nI_lt (a := 100000) z hx
        rw [if_pos g, if_pos z]; rfl
      · have g : ¬ (100000 : Int32) < nI x := i_nlt.mpr (nI_le (b := 100000) (by omega) (by omega))
        rw [if_neg g, if_neg z]
    rw [nvC, nvM, h1, h2, e1, e2]
    rcases h3 with ⟨rfl, h3⟩ | ⟨rfl, h3, h4⟩
    · have g : nI a ≤ 99999 := nI_le (b := 99999) h3 (by omega)
      rw [mnv _ (by omega), if_pos g]
      refine ⟨_, _, rfl, rfl, ?_⟩
      by_cases z : 100000 < a * 10 + T (q + n) - 48
      · rw [if_pos z]; exact Or.inr ⟨rfl, by omega, by omega⟩
      · rw [if_neg z]
        by_cases y : a * 10 + T (q + n) - 48 ≤ 99999
        · exact Or.inl ⟨by omega, y⟩
        · exact Or.inr ⟨by omega, by omega, by omega⟩
    · have g : ¬ nI b ≤ 99999 := nI_ge (a := 99999) (by omega) (by omega)
      rw [mnv _ (by omega), if_neg g]
      exact ⟨_, _, rfl, rfl, Or.inr ⟨by rw [if_pos (by omega)], h3, h4⟩⟩
theorem kd_num {M : gM} {T : Nat → Nat} {l q : Nat} (h : mKd M T l q) (k : tK T l q = 22) : ∃ a b : Nat, tV T l q = nI a ∧ rdI M 74 0 0 0 = nI b ∧ (a = b ∧ a ≤ 99999 ∨ a = 100000 ∧ 100000 ≤ b ∧ b < 1000000) := by
  obtain ⟨-, -, h3, -, -, -⟩ := kd_m h
  obtain ⟨a1, a2, a3, a4, a5⟩ := h3 k
  obtain ⟨e1, e2, e3, e4⟩ := ru_in (P := dg) (T := T) (show q ≤ l by omega)
  rw [a4, a5]
  exact nv_R e3 _ (by omega)
end
