-- FEED: the tapes of both hold bytes
set_option linter.all false
noncomputable section
theorem pick {P : Nat → Nat → Prop} {L : Nat} (h : ∀ i, i < L → ∃ t, P i t) : ∃ T : Nat → Nat, ∀ i, i < L → P i (T i) :=
  ⟨fun i => if h' : i < L then Classical.choose (h i h') else 0, fun i hi => by simp only [dif_pos hi]; exact Classical.choose_spec (h i hi)⟩
theorem nB_t (y : Int32) : ∃ t, t < 256 ∧ nB y = nB (nI t) := by
  refine ⟨(y.toBitVec.setWidth 8).toNat, (y.toBitVec.setWidth 8).isLt, ?_⟩
  have e : y.toInt8 = (nI (y.toBitVec.setWidth 8).toNat).toInt8 := by
    apply Int8.toBitVec_inj.mp
    rw [Int32.toBitVec_toInt8, Int32.toBitVec_toInt8]
    rw [BitVec.signExtend_eq_setWidth_of_le _ (by decide), BitVec.signExtend_eq_setWidth_of_le _ (by decide)]
    apply BitVec.eq_of_toNat_eq
    show _ = ((BitVec.ofNat 32 (y.toBitVec.setWidth 8).toNat).setWidth 8).toNat
    rw [BitVec.toNat_setWidth, BitVec.toNat_setWidth, BitVec.toNat_ofNat]
    omega
  show y.toInt8.toInt32 = (nI (y.toBitVec.setWidth 8).toNat).toInt8.toInt32
  rw [← e]
theorem a255_t (y : Int32) : ∃ t, t < 256 ∧ y &&& 255 = nI t := by
  refine ⟨(y &&& 255).toBitVec.toNat, ?_, ?_⟩
  · rw [Int32.toBitVec_and, BitVec.toNat_and]
    exact Nat.lt_of_le_of_lt Nat.and_le_right (by decide)
  · apply Int32.toBitVec_inj.mp
    show (y &&& 255).toBitVec = BitVec.ofNat 32 (y &&& 255).toBitVec.toNat
    rw [BitVec.ofNat_toNat, BitVec.setWidth_eq]
/-- the class's tape -/
def TBc (M : gM) (l : Nat) : Prop := rdI M 0 0 0 0 = nI l ∧ ∀ i, i < l → ∃ t, t < 256 ∧ rdI M 3 0 0 i = nB (nI t)
theorem D_pu1 {M : gM} {l : Nat} (h : TBc M l) (hl : l < 1200) (x k : Int32) (hk : ¬ k < 0) (n : Nat) :
    ∃ M1, TBc M1 (l + 1) ∧ f_X12_putNumber_3 x (n + 1) M k = f_X12_putNumber_3 x n M1 (k + (-8)) ∧ (s_X12_putNumber_3 x n M1 (k + (-8)) → s_X12_putNumber_3 x (n + 1) M k) := by
  have e : ¬ (1200 : Int32) ≤ nI l := fun q => nI_ge hl (by omega) q
  obtain ⟨h, hb⟩ := h
  refine ⟨wrI (wrI M 3 0 0 (nn (rdI M 0 0 0 0)) (nB (nB (iush x k)))) 0 0 0 0 (rdI (wrI M 3 0 0 (nn (rdI M 0 0 0 0)) (nB (nB (iush x k)))) 0 0 0 0 + 1), ⟨?_, ?_⟩, ?_, ?_⟩
  · simp only [rwI]
    simp [h, nI_1]
  · intro i hi
    rw [rwN (by decide), h, nn_nI (by omega), rwI]
    by_cases z : i = l
    · rw [if_pos ⟨rfl, rfl, rfl, z⟩]
      exact nB_t _
    · rw [if_neg (fun q => z q.2.2.2)]
      exact hb i (by omega)
  · simp only [f_X12_putNumber_3, bnd]
    rw [if_neg hk, if_neg (by rw [h]; exact e)]
  · intro q
    simp only [s_X12_putNumber_3, bndP]
    rw [if_neg hk, if_neg (by rw [h]; exact e)]
    exact ⟨by rw [h]; exact vp_in_nI hl (by omega), q⟩
theorem D_put {M : gM} {l : Nat} (h : TBc M l) (hl : l + 4 ≤ 1200) (x : Int32) : s_X12_putNumber M x ∧ TBc (f_X12_putNumber M x) (l + 4) := by
  obtain ⟨n, hn⟩ : ∃ n, FU = n + 5 := ⟨4091, FU_eq⟩
  simp only [s_X12_putNumber, f_X12_putNumber, hn]
  obtain ⟨M1, a1, a2, a3⟩ := D_pu1 h (by omega) x 24 (by decide) (n + 4)
  obtain ⟨M2, b1, b2, b3⟩ := D_pu1 a1 (by omega) x (24 + (-8)) (by decide) (n + 3)
  obtain ⟨M3, c1, c2, c3⟩ := D_pu1 b1 (by omega) x (24 + (-8) + (-8)) (by decide) (n + 2)
  obtain ⟨M4, d1, d2, d3⟩ := D_pu1 c1 (by omega) x (24 + (-8) + (-8) + (-8)) (by decide) (n + 1)
  have e1 : f_X12_putNumber_3 x (n + 1) M4 (24 + (-8) + (-8) + (-8) + (-8)) = M4 := by
    simp only [f_X12_putNumber_3]
    rw [if_pos (by decide)]
  have e2 : s_X12_putNumber_3 x (n + 1) M4 (24 + (-8) + (-8) + (-8) + (-8)) := by
    simp only [s_X12_putNumber_3]
    rw [if_pos (by decide)]
    trivial
  exact ⟨a3 (b3 (c3 (d3 e2))), by rw [a2, b2, c2, d2, e1]; exact d1⟩
theorem D_feed {M : gM} {l : Nat} (h : TBc M l) (hl : l ≤ 1200) (a b c d e : Int32) : s_X12_feed M a b c d e ∧ ∃ l', l' ≤ 1200 ∧ TBc (f_X12_feed M a b c d e).2 l' ∧ (f_X12_feed M a b c d e).1 = (if l ≤ 1180 then nI (l + 20) else -1) ∧ l' = if l ≤ 1180 then l + 20 else l := by
  simp only [s_X12_feed, f_X12_feed, bnd, bndP, h.1]
  by_cases q : l ≤ 1180
  · have q1 : nI l ≤ (1180 : Int32) := nI_le (b := 1180) q (by decide)
    obtain ⟨a1, a2⟩ := D_put h (by omega) a
    obtain ⟨b1, b2⟩ := D_put a2 (by omega) b
    obtain ⟨c1, c2⟩ := D_put b2 (by omega) c
    obtain ⟨d1, d2⟩ := D_put c2 (by omega) d
    obtain ⟨e1, e2⟩ := D_put d2 (by omega) e
    simp only [if_pos q1, if_pos q]
    exact ⟨⟨a1, b1, c1, d1, e1, trivial⟩, l + 20, by omega, e2, e2.1, rfl⟩
  · have q1 : ¬ nI l ≤ (1180 : Int32) := fun z => nI_ge (show 1180 < l by omega) (by omega) z
    simp only [if_neg q1, if_neg q]
    exact ⟨trivial, l, hl, h, trivial, rfl⟩
/-- the reference's tape -/
def TBm (M : gM) (l k : Nat) : Prop := rdI M 68 0 0 0 = nI l ∧ ∀ i, i < l + k → ∃ t, t < 256 ∧ rdI M 87 0 0 i = nI t
theorem D_fd1 {l : Nat} (hl : l + 20 ≤ 1200) (a b c d e : Int32) : ∀ m n i : Nat, i + m = 20 → m < n → ∀ M1 : gM, TBm M1 l i →
    s_X13_feed_20 a b c d e n M1 (nI i) ∧ (f_X13_feed_20 a b c d e n M1 (nI i)).1 = nI (l + 20) ∧ TBm (f_X13_feed_20 a b c d e n M1 (nI i)).2 (l + 20) 0 := by
  intro m
  induction m with
  | zero =>
    intro n i hi hn M1 h1
    obtain rfl : i = 20 := by omega
    obtain ⟨n, rfl⟩ : ∃ k, n = k + 1 := ⟨n - 1, by omega⟩
    have q : (20 : Int32) ≤ nI 20 := by decide
    simp only [s_X13_feed_20, f_X13_feed_20, bnd, bndP, if_pos q]
    have e68 : rdI (wrI M1 68 0 0 0 (rdI M1 68 0 0 0 + 20)) 68 0 0 0 = nI (l + 20) := by rw [rwS, h1.1]; exact nI_add l 20
    exact ⟨trivial, e68, e68, fun i hi => by rw [rwN (by decide)]; exact h1.2 i (by omega)⟩
  | succ m ih =>
    intro n i hi hn M1 h1
    obtain ⟨n, rfl⟩ : ∃ k, n = k + 1 := ⟨n - 1, by omega⟩
    have q : ¬ (20 : Int32) ≤ nI i := fun z => nI_ge (show i < 20 by omega) (by omega) z
    have key : ∀ y : Int32, s_X13_feed_73 M1 a b c d e (nI i) y (s_X13_feed_20 a b c d e n) ∧ (f_X13_feed_73 M1 a b c d e (nI i) y (f_X13_feed_20 a b c d e n)).1 = nI (l + 20) ∧ TBm (f_X13_feed_73 M1 a b c d e (nI i) y (f_X13_feed_20 a b c d e n)).2 (l + 20) 0 := by
      intro y
      simp only [s_X13_feed_73, f_X13_feed_73, bnd, bndP, nI_1, h1.1, nI_add, nn_nI (show l + i < 2 ^ 31 by omega)]
      obtain ⟨x1, x2⟩ := ih n (i + 1) (by omega) (by omega) (wrI M1 87 0 0 (l + i) ((y >>> ((24 - (8 * (nI i - nI i / 4 * 4))) &&& 31)) &&& 255)) ⟨by rw [rwN (by decide)]; exact h1.1, fun j hj => by
        rw [rwI]
        by_cases z : j = l + i
        · rw [if_pos ⟨rfl, rfl, rfl, z⟩]
          exact a255_t _
        · rw [if_neg (fun w => z w.2.2.2)]
          exact h1.2 j (by omega)⟩
      exact ⟨⟨vp_in_nI (by omega) (by omega), x1⟩, x2⟩
    simp only [s_X13_feed_20, f_X13_feed_20, if_neg q]
    by_cases q4 : (4 : Int32) ≤ nI i
    · simp only [if_pos q4]
      by_cases q8 : (8 : Int32) ≤ nI i
      · simp only [if_pos q8]
        by_cases q12 : (12 : Int32) ≤ nI i
        · simp only [if_pos q12]
          by_cases q16 : (16 : Int32) ≤ nI i
          · simp only [if_pos q16]; exact key e
          · simp only [if_neg q16]; exact key d
        · simp only [if_neg q12]; exact key c
      · simp only [if_neg q8]; exact key b
    · simp only [if_neg q4]; exact key a
theorem E_feed {M : gM} {l : Nat} (h : TBm M l 0) (hl : l ≤ 1200) (a b c d e : Int32) : s_X13_feed M a b c d e ∧ ∃ l', l' ≤ 1200 ∧ TBm (f_X13_feed M a b c d e).2 l' 0 ∧ (f_X13_feed M a b c d e).1 = (if l ≤ 1180 then nI (l + 20) else -1) ∧ l' = if l ≤ 1180 then l + 20 else l := by
  simp only [s_X13_feed, f_X13_feed, bnd, bndP]
  have h1 : TBm (wrI M 67 0 0 0 0) l 0 := ⟨by rw [rwN (by decide)]; exact h.1, fun i hi => by rw [rwN (by decide)]; exact h.2 i hi⟩
  rw [h1.1]
  by_cases q : l ≤ 1180
  · have q1 : nI l ≤ (1180 : Int32) := nI_le (b := 1180) q (by decide)
    simp only [if_pos q1, if_pos q]
    obtain ⟨x1, x2, x3⟩ := D_fd1 (l := l) (by omega) a b c d e 20 FU 0 rfl (by rw [FU_eq]; omega) _ h1
    exact ⟨x1, l + 20, by omega, x3, x2, rfl⟩
  · have q1 : ¬ nI l ≤ (1180 : Int32) := fun z => nI_ge (show 1180 < l by omega) (by omega) z
    simp only [if_neg q1, if_neg q]
    exact ⟨trivial, l, hl, h1, trivial, rfl⟩
end
