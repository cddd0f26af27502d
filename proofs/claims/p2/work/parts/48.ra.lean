set_option linter.all false
noncomputable section
-- ===== the letters of the known words =====
theorem nch {x : Int32} (h : (x.toUInt32 % 65536).toInt32 = x) : narrow .char (.int x) = .int x := by
  show Value.int _ = Value.int _
  exact congrArg Value.int h
theorem f_len {M : gM} {w : Nat} (hw : w < 23) : f_J0_length_8abf5 M w = nI (strL w) := by
  simp only [f_J0_length_8abf5, f_J0_coder_7d493, if_neg (show ¬ (1 : Int32) = 0 by decide)]
  exact (by decide : ∀ w, w < 23 → nI (strL w) >>> ((0 : Int32) &&& 31) = nI (strL w)) w hw
theorem s_len {M : gM} {w : Nat} : s_J0_length_8abf5 M w := by
  unfold s_J0_length_8abf5 s_J0_coder_7d493
  exact ⟨by split <;> trivial, trivial⟩
theorem strb_ok : ∀ w, w < 23 → ∀ k, k < strL w → nC ((strB w k) &&& 255) = strB w k ∧ ((strB w k).toUInt32 % 65536).toInt32 = strB w k ∧ strB w k = nI (nn (strB w k)) ∧ nn (strB w k) < 128 := by decide +kernel
theorem f_char {M : gM} {w k : Nat} (hw : w < 23) (hk : k < strL w) : f_J0_charAt_5068e M w (nI k) = strB w k ∧ s_J0_charAt_5068e M w (nI k) := by
  have hs : strL w < 128 := (by decide : ∀ w, w < 23 → strL w < 128) w hw
  obtain ⟨a1, a2, -, -⟩ := strb_ok w hw k hk
  have e : f_J1_charAt_3b067 M w (nI k) = strB w k := by
    unfold f_J1_charAt_3b067
    rw [nn_nI (by omega)]
    exact a1
  have n1 : ¬ (1 : Int32) = 0 := by decide
  have l : f_J0_isLatin1_aae02 M w = 1 := by
    unfold f_J0_isLatin1_aae02
    rw [if_neg n1, if_pos rfl]
  have sl : s_J0_isLatin1_aae02 M w := by
    unfold s_J0_isLatin1_aae02
    rw [if_neg n1, if_pos rfl]
    trivial
  unfold f_J0_charAt_5068e s_J0_charAt_5068e s_J1_charAt_3b067
  rw [l, if_neg n1, if_neg n1, e, nn_nI (show k < 2 ^ 31 by omega)]
  refine ⟨rfl, sl, ⟨⟨fun z => absurd z (i_nlt.mpr (nI_le (a := 0) (b := k) (Nat.zero_le _) (by omega))), nI_lt hk (by omega)⟩, vpi hk, ?_, trivial⟩, nch a2, trivial⟩
  rw [a1]
  exact nch a2
end
