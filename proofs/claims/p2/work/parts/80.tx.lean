-- feed; the new rows that a text begins with, and what it becomes
set_option linter.all false
noncomputable section
-- ===== the class's feed =====
theorem C_pu1 {M : gM} {l : Nat} (h : rdI M 0 0 0 0 = nI l) (hl : l < 1200) (x k : Int32) (hk : ¬ k < 0) (n : Nat) :
    ∃ M1, rdI M1 0 0 0 0 = nI (l + 1) ∧ f_X12_putNumber_3 x (n + 1) M k = f_X12_putNumber_3 x n M1 (k + (-8)) ∧ (s_X12_putNumber_3 x n M1 (k + (-8)) → s_X12_putNumber_3 x (n + 1) M k) := by
  have e : ¬ (1200 : Int32) ≤ nI l := fun q => nI_ge hl (by omega) q
  refine ⟨wrI (wrI M 3 0 0 (nn (rdI M 0 0 0 0)) (nB (nB (iush x k)))) 0 0 0 0 (rdI (wrI M 3 0 0 (nn (rdI M 0 0 0 0)) (nB (nB (iush x k)))) 0 0 0 0 + 1), ?_, ?_, ?_⟩
  · simp only [rwI]
    simp [h, nI_1]
  · simp only [f_X12_putNumber_3, bnd]
    rw [if_neg hk, if_neg (by rw [h]; exact e)]
  · intro q
    simp only [s_X12_putNumber_3, bndP]
    rw [if_neg hk, if_neg (by rw [h]; exact e)]
    exact ⟨by rw [h]; exact vp_in_nI hl (by omega), q⟩
theorem C_put {M : gM} {l : Nat} (h : rdI M 0 0 0 0 = nI l) (hl : l + 4 ≤ 1200) (x : Int32) : s_X12_putNumber M x ∧ rdI (f_X12_putNumber M x) 0 0 0 0 = nI (l + 4) := by
  obtain ⟨n, hn⟩ : ∃ n, FU = n + 5 := ⟨4091, FU_eq⟩
  simp only [s_X12_putNumber, f_X12_putNumber, hn]
  obtain ⟨M1, a1, a2, a3⟩ := C_pu1 h (by omega) x 24 (by decide) (n + 4)
  obtain ⟨M2, b1, b2, b3⟩ := C_pu1 a1 (by omega) x (24 + (-8)) (by decide) (n + 3)
  obtain ⟨M3, c1, c2, c3⟩ := C_pu1 b1 (by omega) x (24 + (-8) + (-8)) (by decide) (n + 2)
  obtain ⟨M4, d1, d2, d3⟩ := C_pu1 c1 (by omega) x (24 + (-8) + (-8) + (-8)) (by decide) (n + 1)
  have e1 : f_X12_putNumber_3 x (n + 1) M4 (24 + (-8) + (-8) + (-8) + (-8)) = M4 := by
    simp only [f_X12_putNumber_3]
    rw [if_pos (by decide)]
  have e2 : s_X12_putNumber_3 x (n + 1) M4 (24 + (-8) + (-8) + (-8) + (-8)) := by
    simp only [s_X12_putNumber_3]
    rw [if_pos (by decide)]
    trivial
  exact ⟨a3 (b3 (c3 (d3 e2))), by rw [a2, b2, c2, d2, e1, d1]⟩
theorem C_feed {M : gM} {l : Nat} (h : rdI M 0 0 0 0 = nI l) (hl : l ≤ 1200) (a b c d e : Int32) : s_X12_feed M a b c d e ∧
    (if l ≤ 1180 then (f_X12_feed M a b c d e).1 = nI (l + 20) ∧ rdI (f_X12_feed M a b c d e).2 0 0 0 0 = nI (l + 20) else f_X12_feed M a b c d e = (-1, M)) := by
  simp only [s_X12_feed, f_X12_feed, bnd, bndP, h]
  by_cases q : l ≤ 1180
  · have q1 : nI l ≤ (1180 : Int32) := nI_le (b := 1180) q (by decide)
    obtain ⟨a1, a2⟩ := C_put h (by omega) a
    obtain ⟨b1, b2⟩ := C_put a2 (by omega) b
    obtain ⟨c1, c2⟩ := C_put b2 (by omega) c
    obtain ⟨d1, d2⟩ := C_put c2 (by omega) d
    obtain ⟨e1, e2⟩ := C_put d2 (by omega) e
    rw [if_pos q1, if_pos q1, if_pos q]
    exact ⟨⟨a1, b1, c1, d1, e1, trivial⟩, e2, e2⟩
  · have q1 : ¬ nI l ≤ (1180 : Int32) := fun z => nI_ge (show 1180 < l by omega) (by omega) z
    rw [if_neg q1, if_neg q1, if_neg q]
    exact ⟨trivial, rfl⟩
-- ===== the reference's =====
theorem M_fd1 {M : gM} {l : Nat} (h : rdI M 68 0 0 0 = nI l) (hl : l + 20 ≤ 1200) (a b c d e : Int32) : ∀ m n i : Nat, i + m = 20 → m < n → ∀ M1 : gM, rdI M1 68 0 0 0 = nI l →
    s_X13_feed_20 a b c d e n M1 (nI i) ∧ ((f_X13_feed_20 a b c d e n M1 (nI i)).1 = nI (l + 20) ∧ rdI (f_X13_feed_20 a b c d e n M1 (nI i)).2 68 0 0 0 = nI (l + 20)) := by
  intro m
  induction m with
  | zero =>
    intro n i hi hn M1 h1
    obtain rfl : i = 20 := by omega
    obtain ⟨n, rfl⟩ : ∃ k, n = k + 1 := ⟨n - 1, by omega⟩
    have q : (20 : Int32) ≤ nI 20 := by decide
    simp only [s_X13_feed_20, f_X13_feed_20, bnd, bndP, if_pos q]
    refine ⟨trivial, ?_⟩
    simp only [rwI]
    simp only [and_self, if_true]
    rw [h1]
    first | exact nI_add l 20 | exact ⟨nI_add l 20, nI_add l 20⟩
  | succ m ih =>
    intro n i hi hn M1 h1
    obtain ⟨n, rfl⟩ : ∃ k, n = k + 1 := ⟨n - 1, by omega⟩
    have q : ¬ (20 : Int32) ≤ nI i := fun z => nI_ge (show i < 20 by omega) (by omega) z
    have key : ∀ y : Int32, s_X13_feed_73 M1 a b c d e (nI i) y (s_X13_feed_20 a b c d e n) ∧ ((f_X13_feed_73 M1 a b c d e (nI i) y (f_X13_feed_20 a b c d e n)).1 = nI (l + 20) ∧ rdI (f_X13_feed_73 M1 a b c d e (nI i) y (f_X13_feed_20 a b c d e n)).2 68 0 0 0 = nI (l + 20)) := by
      intro y
      simp only [s_X13_feed_73, f_X13_feed_73, bnd, bndP, nI_1]
      obtain ⟨x1, x2⟩ := ih n (i + 1) (by omega) (by omega) (wrI M1 87 0 0 (nn (rdI M1 68 0 0 0 + nI i)) ((y >>> ((24 - (8 * (nI i - nI i / 4 * 4))) &&& 31)) &&& 255)) (by simp only [rwI]; simp [h1])
      exact ⟨⟨by rw [h1, nI_add]; exact vp_in_nI (by omega) (by omega), x1⟩, x2⟩
    simp only [s_X13_feed_20, f_X13_feed_20, if_neg q]
    by_cases q4 : (4 : Int32) ≤ nI i
    · simp only [if_pos q4]
      by_cases q8 : (8 : Int32) ≤ nI i
      · simp only [if_pos q8]
        by_cases q12 : (12 : Int32) ≤ nI i
        · simp only [if_pos q12]
          by_cases q16 : (16 : Int32) ≤ nI i
          · simp only [if_pos q16]; exact key e
          · simp only [if_neg q16]; exact key d
        · simp only [if_neg q12]; exact key c
      · simp only [if_neg q8]; exact key b
    · simp only [if_neg q4]; exact key a
theorem M_feed {M : gM} {l : Nat} (h : rdI M 68 0 0 0 = nI l) (hl : l ≤ 1200) (a b c d e : Int32) : s_X13_feed M a b c d e ∧
    (if l ≤ 1180 then (f_X13_feed M a b c d e).1 = nI (l + 20) ∧ rdI (f_X13_feed M a b c d e).2 68 0 0 0 = nI (l + 20) else f_X13_feed M a b c d e = (-1, wrI M 67 0 0 0 0)) := by
  simp only [s_X13_feed, f_X13_feed, bnd, bndP]
  have h1 : rdI (wrI M 67 0 0 0 0) 68 0 0 0 = nI l := by simp only [rwI]; simp [h]
  rw [h1]
  by_cases q : l ≤ 1180
  · have q1 : nI l ≤ (1180 : Int32) := nI_le (b := 1180) q (by decide)
    rw [if_pos q1, if_pos q1, if_pos q]
    exact M_fd1 h1 (by omega) a b c d e 20 FU 0 rfl (by rw [FU_eq]; omega) _ h1
  · have q1 : ¬ nI l ≤ (1180 : Int32) := fun z => nI_ge (show 1180 < l by omega) (by omega) z
    rw [if_neg q1, if_neg q1, if_neg q]
    exact ⟨trivial, rfl⟩
-- ===== begins =====
theorem M_b24 : ∀ m n k : Nat, k + m = 65 → m < n → ∀ M : gM, s_X13_begins_24 n M (nI k) ∧
    (∀ y, rdI (f_X13_begins_24 n M (nI k)) 93 0 0 y = if k ≤ y ∧ y < 65 then (if y < 10 then (-2) else 0) else rdI M 93 0 0 y) ∧
    (∀ y, rdI (f_X13_begins_24 n M (nI k)) 89 0 0 y = if y = 9 then 2 else if y = 4 then 2 else rdI M 89 0 0 y) := by
  intro m
  induction m with
  | zero =>
    intro n k hk hn M
    obtain rfl : k = 65 := by omega
    obtain ⟨n, rfl⟩ : ∃ z, n = z + 1 := ⟨n - 1, by omega⟩
    have q : (65 : Int32) ≤ nI 65 := by decide
    have n4 : nn 4 = 4 := by decide
    have n9 : nn 9 = 9 := by decide
    simp only [s_X13_begins_24, f_X13_begins_24, bnd, bndP, if_pos q, n4, n9]
    refine ⟨⟨vpD (by decide), vpD (by decide), vpD (by decide), vpD (by decide), trivial⟩, fun y => ?_, fun y => ?_⟩
    · simp only [rwI]
      rw [if_neg (show ¬ (65 ≤ y ∧ y < 65) by omega)]
      simp
    · simp only [rwI]
      by_cases z : y = 9
      · simp [z]
      · by_cases z4 : y = 4
        · simp [z4]
        · simp [z, z4]
  | succ m ih =>
    intro n k hk hn M
    obtain ⟨n, rfl⟩ : ∃ z, n = z + 1 := ⟨n - 1, by omega⟩
    have q : ¬ (65 : Int32) ≤ nI k := fun z => nI_ge (show k < 65 by omega) (by omega) z
    have key : ∀ v : Int32, v = (if k < 10 then (-2) else 0) → (vp_in (nI k) 65 ∧ s_X13_begins_24 n (wrI M 93 0 0 (nn (nI k)) v) (nI (k + 1))) ∧
        (∀ y, rdI (f_X13_begins_24 n (wrI M 93 0 0 (nn (nI k)) v) (nI (k + 1))) 93 0 0 y = if k ≤ y ∧ y < 65 then (if y < 10 then (-2) else 0) else rdI M 93 0 0 y) ∧
        (∀ y, rdI (f_X13_begins_24 n (wrI M 93 0 0 (nn (nI k)) v) (nI (k + 1))) 89 0 0 y = if y = 9 then 2 else if y = 4 then 2 else rdI M 89 0 0 y) := by
      intro v hv
      obtain ⟨x1, x2, x3⟩ := ih n (k + 1) (by omega) (by omega) (wrI M 93 0 0 (nn (nI k)) v)
      refine ⟨⟨vp_in_nI (by omega) (by omega), x1⟩, fun y => ?_, fun y => ?_⟩
      · rw [x2 y, nn_nI (by omega)]
        simp only [rwI]
        by_cases z : y = k
        · subst z
          rw [if_neg (show ¬ (y + 1 ≤ y ∧ y < 65) by omega), if_pos (show y ≤ y ∧ y < 65 by omega)]
          simp [hv]
        · by_cases z2 : k + 1 ≤ y ∧ y < 65
          · rw [if_pos z2, if_pos (show k ≤ y ∧ y < 65 by omega)]
          · rw [if_neg z2, if_neg (show ¬ (k ≤ y ∧ y < 65) by omega)]
            simp [z]
      · rw [x3 y]
        simp only [rwI]
        simp
    simp only [s_X13_begins_24, f_X13_begins_24, bnd, bndP, if_neg q, nI_1]
    by_cases q10 : (10 : Int32) ≤ nI k
    · simp only [if_pos q10]
      exact key 0 (by rw [if_neg]; exact fun z => nI_ge z (by omega) q10)
    · simp only [if_neg q10]
      exact key (-2) (by rw [if_pos]; rcases Nat.lt_or_ge k 10 with z | z; exact z; exact absurd (nI_le z (by omega)) q10)
theorem M_b2 : ∀ m n k : Nat, k + m = 502 → m < n → ∀ M : gM, s_X13_begins_2 n M (nI k) ∧
    (∀ y, rdI (f_X13_begins_2 n M (nI k)) 93 0 0 y = if y < 65 then (if y < 10 then (-2) else 0) else rdI M 93 0 0 y) ∧
    (∀ y, rdI (f_X13_begins_2 n M (nI k)) 89 0 0 y = if y = 9 then 2 else if y = 4 then 2 else if k ≤ y ∧ y < 502 then 0 else rdI M 89 0 0 y) := by
  intro m
  induction m with
  | zero =>
    intro n k hk hn M
    obtain rfl : k = 502 := by omega
    obtain ⟨n, rfl⟩ : ∃ z, n = z + 1 := ⟨n - 1, by omega⟩
    have q : (502 : Int32) ≤ nI 502 := by decide
    simp only [s_X13_begins_2, f_X13_begins_2, if_pos q]
    obtain ⟨x1, x2, x3⟩ := M_b24 65 FU 0 rfl (by rw [FU_eq]; omega) M
    refine ⟨x1, fun y => ?_, fun y => ?_⟩
    · rw [show (0 : Int32) = nI 0 from rfl, x2 y]
      simp only [Nat.zero_le, true_and]
      rfl
    · rw [show (0 : Int32) = nI 0 from rfl, x3 y]
      rw [if_neg (show ¬ (502 ≤ y ∧ y < 502) by omega)]
  | succ m ih =>
    intro n k hk hn M
    obtain ⟨n, rfl⟩ : ∃ z, n = z + 1 := ⟨n - 1, by omega⟩
    have q : ¬ (502 : Int32) ≤ nI k := fun z => nI_ge (show k < 502 by omega) (by omega) z
    simp only [s_X13_begins_2, f_X13_begins_2, bnd, bndP, if_neg q, nI_1]
    obtain ⟨x1, x2, x3⟩ := ih n (k + 1) (by omega) (by omega) (wrI M 89 0 0 (nn (nI k)) 0)
    refine ⟨⟨vp_in_nI (by omega) (by omega), x1⟩, fun y => ?_, fun y => ?_⟩
    · rw [x2 y]
      simp only [rwI]
      simp
    · rw [x3 y, nn_nI (by omega)]
      simp only [rwI]
      by_cases z : y = k
      · subst z
        rw [if_neg (show ¬ (y + 1 ≤ y ∧ y < 502) by omega), if_pos (show y ≤ y ∧ y < 502 by omega)]
        simp
      · by_cases z2 : k + 1 ≤ y ∧ y < 502
        · rw [if_pos z2, if_pos (show k ≤ y ∧ y < 502 by omega)]
        · rw [if_neg z2, if_neg (show ¬ (k ≤ y ∧ y < 502) by omega)]
          simp [z]
theorem M_begins (M : gM) : s_X13_begins M ∧ (∀ y, y < 65 → rdI (f_X13_begins M) 93 0 0 y = if y < 10 then (-2) else 0) ∧ (∀ y, y < 502 → rdI (f_X13_begins M) 89 0 0 y = if y = 9 then 2 else if y = 4 then 2 else 0) := by
  obtain ⟨x1, x2, x3⟩ := M_b2 502 FU 0 rfl (by rw [FU_eq]; omega) M
  refine ⟨x1, fun y hy => ?_, fun y hy => ?_⟩
  · show rdI (f_X13_begins_2 FU M (nI 0)) 93 0 0 y = _
    rw [x2 y, if_pos hy]
  · show rdI (f_X13_begins_2 FU M (nI 0)) 89 0 0 y = _
    rw [x3 y, if_pos (show 0 ≤ y ∧ y < 502 by omega)]
-- ===== becomes =====
theorem M_c55 : ∀ m n k : Nat, k + m = 12 → m < n → ∀ M : gM, s_X13_becomes_55 n M (nI k) ∧ rdI (f_X13_becomes_55 n M (nI k)) 69 0 0 0 = 0 ∧
    (∀ y, rdI (f_X13_becomes_55 n M (nI k)) 90 0 0 y = if k ≤ y ∧ y < 12 then rdI M 91 0 0 y else rdI M 90 0 0 y) ∧
    (∀ g y, g ≠ 90 → g ≠ 69 → rdI (f_X13_becomes_55 n M (nI k)) g 0 0 y = rdI M g 0 0 y) := by
  intro m
  induction m with
  | zero =>
    intro n k hk hn M
    obtain rfl : k = 12 := by omega
    obtain ⟨n, rfl⟩ : ∃ z, n = z + 1 := ⟨n - 1, by omega⟩
    have q : (12 : Int32) ≤ nI 12 := by decide
    simp only [s_X13_becomes_55, f_X13_becomes_55, bnd, bndP, if_pos q]
    refine ⟨trivial, by simp [rwI], fun y => ?_, fun g y h1 h2 => ?_⟩
    · rw [if_neg (show ¬ (12 ≤ y ∧ y < 12) by omega)]
      simp [rwI]
    · simp [rwI, h2]
  | succ m ih =>
    intro n k hk hn M
    obtain ⟨n, rfl⟩ : ∃ z, n = z + 1 := ⟨n - 1, by omega⟩
    have q : ¬ (12 : Int32) ≤ nI k := fun z => nI_ge (show k < 12 by omega) (by omega) z
    simp only [s_X13_becomes_55, f_X13_becomes_55, bnd, bndP, if_neg q, nI_1]
    obtain ⟨x1, x0, x2, x3⟩ := ih n (k + 1) (by omega) (by omega) (wrI M 90 0 0 (nn (nI k)) (rdI M 91 0 0 (nn (nI k))))
    have hv : vp_in (nI k) 12 := vp_in_nI (by omega) (by omega)
    refine ⟨⟨hv, hv, x1⟩, x0, fun y => ?_, fun g y h1 h2 => ?_⟩
    · rw [x2 y, nn_nI (by omega)]
      simp only [rwI]
      by_cases z : y = k
      · subst z
        rw [if_neg (show ¬ (y + 1 ≤ y ∧ y < 12) by omega), if_pos (show y ≤ y ∧ y < 12 by omega)]
        simp
      · by_cases z2 : k + 1 ≤ y ∧ y < 12
        · rw [if_pos z2, if_pos (show k ≤ y ∧ y < 12 by omega)]
          simp
        · rw [if_neg z2, if_neg (show ¬ (k ≤ y ∧ y < 12) by omega)]
          simp [z]
    · rw [x3 g y h1 h2]
      simp [rwI, h1]
theorem M_c29 : ∀ m n k : Nat, k + m = 65 → m < n → ∀ M : gM, s_X13_becomes_29 n M (nI k) ∧ rdI (f_X13_becomes_29 n M (nI k)) 69 0 0 0 = 0 ∧
    (∀ y, rdI (f_X13_becomes_29 n M (nI k)) 90 0 0 y = if y < 12 then rdI M 91 0 0 y else rdI M 90 0 0 y) ∧
    (∀ y, rdI (f_X13_becomes_29 n M (nI k)) 92 0 0 y = if k ≤ y ∧ y < 65 then rdI M 93 0 0 y else rdI M 92 0 0 y) ∧
    (∀ g y, g ≠ 90 → g ≠ 69 → g ≠ 92 → rdI (f_X13_becomes_29 n M (nI k)) g 0 0 y = rdI M g 0 0 y) := by
  intro m
  induction m with
  | zero =>
    intro n k hk hn M
    obtain rfl : k = 65 := by omega
    obtain ⟨n, rfl⟩ : ∃ z, n = z + 1 := ⟨n - 1, by omega⟩
    have q : (65 : Int32) ≤ nI 65 := by decide
    simp only [s_X13_becomes_29, f_X13_becomes_29, if_pos q]
    obtain ⟨x1, x0, x2, x3⟩ := M_c55 12 FU 0 rfl (by rw [FU_eq]; omega) M
    refine ⟨x1, x0, fun y => ?_, fun y => ?_, fun g y h1 h2 h3 => x3 g y h1 h2⟩
    · rw [show (0 : Int32) = nI 0 from rfl, x2 y]
      simp only [Nat.zero_le, true_and]
    · rw [show (0 : Int32) = nI 0 from rfl, x3 92 y (by decide) (by decide), if_neg (show ¬ (65 ≤ y ∧ y < 65) by omega)]
  | succ m ih =>
    intro n k hk hn M
    obtain ⟨n, rfl⟩ : ∃ z, n = z + 1 := ⟨n - 1, by omega⟩
    have q : ¬ (65 : Int32) ≤ nI k := fun z => nI_ge (show k < 65 by omega) (by omega) z
    simp only [s_X13_becomes_29, f_X13_becomes_29, bnd, bndP, if_neg q, nI_1]
    obtain ⟨x1, x0, x2, x3, x4⟩ := ih n (k + 1) (by omega) (by omega) (wrI M 92 0 0 (nn (nI k)) (rdI M 93 0 0 (nn (nI k))))
    have hv : vp_in (nI k) 65 := vp_in_nI (by omega) (by omega)
    refine ⟨⟨hv, hv, x1⟩, x0, fun y => ?_, fun y => ?_, fun g y h1 h2 h3 => ?_⟩
    · rw [x2 y]
      simp [rwI]
    · rw [x3 y, nn_nI (by omega)]
      simp only [rwI]
      by_cases z : y = k
      · subst z
        rw [if_neg (show ¬ (y + 1 ≤ y ∧ y < 65) by omega), if_pos (show y ≤ y ∧ y < 65 by omega)]
        simp
      · by_cases z2 : k + 1 ≤ y ∧ y < 65
        · rw [if_pos z2, if_pos (show k ≤ y ∧ y < 65 by omega)]
          simp
        · rw [if_neg z2, if_neg (show ¬ (k ≤ y ∧ y < 65) by omega)]
          simp [z]
    · rw [x4 g y h1 h2 h3]
      simp [rwI, h3]
theorem M_c2 : ∀ m n k : Nat, k + m = 502 → m < n → ∀ M : gM, s_X13_becomes_2 n M (nI k) ∧ rdI (f_X13_becomes_2 n M (nI k)) 69 0 0 0 = 0 ∧
    (∀ y, rdI (f_X13_becomes_2 n M (nI k)) 90 0 0 y = if y < 12 then rdI M 91 0 0 y else rdI M 90 0 0 y) ∧
    (∀ y, rdI (f_X13_becomes_2 n M (nI k)) 92 0 0 y = if y < 65 then rdI M 93 0 0 y else rdI M 92 0 0 y) ∧
    (∀ y, rdI (f_X13_becomes_2 n M (nI k)) 88 0 0 y = if k ≤ y ∧ y < 502 then rdI M 89 0 0 y else rdI M 88 0 0 y) := by
  intro m
  induction m with
  | zero =>
    intro n k hk hn M
    obtain rfl : k = 502 := by omega
    obtain ⟨n, rfl⟩ : ∃ z, n = z + 1 := ⟨n - 1, by omega⟩
    have q : (502 : Int32) ≤ nI 502 := by decide
    simp only [s_X13_becomes_2, f_X13_becomes_2, if_pos q]
    obtain ⟨x1, x0, x2, x3, x4⟩ := M_c29 65 FU 0 rfl (by rw [FU_eq]; omega) M
    refine ⟨x1, x0, fun y => ?_, fun y => ?_, fun y => ?_⟩
    · rw [show (0 : Int32) = nI 0 from rfl, x2 y]
    · rw [show (0 : Int32) = nI 0 from rfl, x3 y]
      simp only [Nat.zero_le, true_and]
    · rw [show (0 : Int32) = nI 0 from rfl, x4 88 y (by decide) (by decide) (by decide), if_neg (show ¬ (502 ≤ y ∧ y < 502) by omega)]
  | succ m ih =>
    intro n k hk hn M
    obtain ⟨n, rfl⟩ : ∃ z, n = z + 1 := ⟨n - 1, by omega⟩
    have q : ¬ (502 : Int32) ≤ nI k := fun z => nI_ge (show k < 502 by omega) (by omega) z
    simp only [s_X13_becomes_2, f_X13_becomes_2, bnd, bndP, if_neg q, nI_1]
    obtain ⟨x1, x0, x2, x3, x4⟩ := ih n (k + 1) (by omega) (by omega) (wrI M 88 0 0 (nn (nI k)) (rdI M 89 0 0 (nn (nI k))))
    have hv : vp_in (nI k) 502 := vp_in_nI (by omega) (by omega)
    refine ⟨⟨hv, hv, x1⟩, x0, fun y => ?_, fun y => ?_, fun y => ?_⟩
    · rw [x2 y]
      simp [rwI]
    · rw [x3 y]
      simp [rwI]
    · rw [x4 y, nn_nI (by omega)]
      simp only [rwI]
      by_cases z : y = k
      · subst z
        rw [if_neg (show ¬ (y + 1 ≤ y ∧ y < 502) by omega), if_pos (show y ≤ y ∧ y < 502 by omega)]
        simp
      · by_cases z2 : k + 1 ≤ y ∧ y < 502
        · rw [if_pos z2, if_pos (show k ≤ y ∧ y < 502 by omega)]
          simp
        · rw [if_neg z2, if_neg (show ¬ (k ≤ y ∧ y < 502) by omega)]
          simp [z]
theorem M_becomes (M : gM) : s_X13_becomes M ∧ rdI (f_X13_becomes M) 69 0 0 0 = 0 ∧ (∀ y, y < 12 → rdI (f_X13_becomes M) 90 0 0 y = rdI M 91 0 0 y) ∧ (∀ y, y < 65 → rdI (f_X13_becomes M) 92 0 0 y = rdI M 93 0 0 y) ∧ (∀ y, y < 502 → rdI (f_X13_becomes M) 88 0 0 y = rdI M 89 0 0 y) := by
  obtain ⟨x1, x0, x2, x3, x4⟩ := M_c2 502 FU 0 rfl (by rw [FU_eq]; omega) M
  refine ⟨x1, x0, fun y hy => ?_, fun y hy => ?_, fun y hy => ?_⟩
  · exact (x2 y).trans (if_pos hy)
  · exact (x3 y).trans (if_pos hy)
  · exact (x4 y).trans (if_pos ⟨Nat.zero_le _, hy⟩)
end
