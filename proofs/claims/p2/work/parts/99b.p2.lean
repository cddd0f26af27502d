-- THE SCRIPT OF p2
set_option linter.all false
noncomputable section
def V00 : vV := mV M00
theorem V00_P : vP V00 = 0 := by decide +kernel
theorem V00_T : vT V00 = 0 := by decide +kernel
theorem V00_A : vA V00 = 0 := by decide +kernel
theorem V00_N : vN V00 = 0 := by decide +kernel
theorem V00_L : ∀ l, l < 2 → V00.1 (4 + 5 * l) = 2 ∧ V00.1 (4 + 5 * l + 1) = 0 ∧ V00.1 (4 + 5 * l + 2) = 0 ∧ V00.1 (4 + 5 * l + 3) = 0 ∧ V00.1 (4 + 5 * l + 4) = 0 := by decide +kernel
theorem M00_L : ∀ l, l < 2 → rdI M00 14 0 l 0 = 2 ∧ rdI M00 15 0 l 0 = 0 ∧ rdI M00 16 0 l 0 = 0 ∧ rdI M00 17 0 l 0 = 0 ∧ rdI M00 18 0 l 0 = 0 := by decide +kernel
theorem V00_h : (V00.1 0 = 0 ∧ V00.1 1 = 0 ∧ V00.1 2 = 0 ∧ V00.2.1 64 = 0) ∧ (rdI M00 5 0 0 0 = V00.1 0 ∧ rdI M00 6 0 0 0 = V00.1 1 ∧ rdI M00 7 0 0 0 = V00.1 2 ∧ rdI M00 4 0 0 0 = V00.1 3 ∧ rdI M00 8 0 0 0 = V00.2.1 64) ∧ rdI M00 63 0 0 0 = 0 ∧ rdI M00 62 0 0 0 = 0 ∧ rdI M00 69 0 0 0 = 0 ∧ rdI M00 0 0 0 0 = 0 ∧ rdI M00 68 0 0 0 = 0 := by decide +kernel
theorem V00_WF : WF V00 := by
  obtain ⟨⟨h0, h1, h2, h3⟩, -⟩ := V00_h
  refine ⟨⟨by rw [h0]; exact vpD (by decide), by rw [h1]; exact vpD (by decide), by rw [h2]; exact vpD (by decide), by rw [h3]; exact vpD (by decide)⟩, fun p hp => ?_, fun t ht => ?_, fun q hq => ?_, fun k hk => ?_, fun l hl => ?_⟩
  · rw [V00_P] at hp; exact absurd hp (Nat.not_lt_zero _)
  · rw [V00_T] at ht; exact absurd ht (Nat.not_lt_zero _)
  · rw [V00_A] at hq; exact absurd hq (Nat.not_lt_zero _)
  · rw [V00_N] at hk; exact absurd hk (Nat.not_lt_zero _)
  · obtain ⟨a1, a2, a3, a4, a5⟩ := V00_L l hl
    refine ⟨?_, ?_, ?_, ?_, ?_⟩
    · rw [a1]; exact vpD (by decide)
    · rw [a2]; exact vpD (by decide)
    · rw [a3]; exact vpD (by decide)
    · rw [a4]; exact vpD (by decide)
    · rw [a5]; exact vpD (by decide)
theorem V00_CV : CV M00 V00 (fun _ => 0) := by
  refine ⟨V00_h.2.1, fun p hp => ?_, fun t ht => ?_, fun q hq => ?_, fun k hk => ?_, fun l hl => ?_, fun i hi => ?_, fun i j _ hj => ?_⟩
  · rw [V00_P] at hp; exact absurd hp (Nat.not_lt_zero _)
  · rw [V00_T] at ht; exact absurd ht (Nat.not_lt_zero _)
  · rw [V00_A] at hq; exact absurd hq (Nat.not_lt_zero _)
  · rw [V00_N] at hk; exact absurd hk (Nat.not_lt_zero _)
  · obtain ⟨a1, a2, a3, a4, a5⟩ := V00_L l hl
    obtain ⟨b1, b2, b3, b4, b5⟩ := M00_L l hl
    exact ⟨b1.trans a1.symm, b2.trans a2.symm, b3.trans a3.symm, b4.trans a4.symm, b5.trans a5.symm⟩
  · rw [V00_A] at hi; exact absurd hi (Nat.not_lt_zero _)
  · rw [V00_A] at hj; exact absurd hj (Nat.not_lt_zero _)
theorem I2_00 : I2 M00 := by
  obtain ⟨-, -, h1, h2, h3, h4, h5⟩ := V00_h
  refine ⟨⟨V00, fun _ => 0, 0, 0, fun _ => (0, 0, 0), fun _ _ => 0, V00_CV, V00_WF, ⟨h1, h2, by omega, by omega, fun j hj => by omega⟩, fun j hj => by omega⟩, ⟨V00_WF, 0, fun _ _ => 0, ⟨h3, by omega, fun j hj => by omega⟩, fun j hj => by omega⟩, 0, by omega, ⟨h4, fun i hi => by omega⟩, ⟨h5, fun i hi => by omega⟩⟩
end
