-- THE CLASS'S READER ALONE: what each taking step keeps, whatever stands on the TAPE (draft, to be compiled)
set_option linter.all false
noncomputable section
/-- tokens cut; the row r's reader stands at one of them, not ahead of lo -/
def TS (c : gM) (r lo : Nat) : Prop := ∃ cn i, rdI c 41 0 0 0 = nI cn ∧ cn ≤ 1200 ∧ (∀ k, k ≤ cn → nn (rdI c 44 0 0 k) < 26) ∧ nn (rdI c 44 0 0 cn) = 25 ∧ rdI c 47 r 0 0 = nI i ∧ i ≤ cn ∧ lo ≤ i
theorem TS.off {c d : gM} {r lo : Nat} (h : TS c r lo) {W : List Nat} (o : offW W c d) (k : W.all (fun g => g != 41 && g != 44 && g != 47) = true) : TS d r lo := by
  obtain ⟨cn, i, h1, h2, h3, h4, h5, h6, h7⟩ := h
  have n41 : 41 ∉ W := fun q => by have := List.all_eq_true.mp k 41 q; simp at this
  have n44 : 44 ∉ W := fun q => by have := List.all_eq_true.mp k 44 q; simp at this
  have n47 : 47 ∉ W := fun q => by have := List.all_eq_true.mp k 47 q; simp at this
  exact ⟨cn, i, by rw [(o 41 0 0 0 n41).1]; exact h1, h2, fun k hk => by rw [(o 44 0 0 k n44).1]; exact h3 k hk, by rw [(o 44 0 0 cn n44).1]; exact h4, by rw [(o 47 r 0 0 n47).1]; exact h5, h6, h7⟩
theorem TS.wr {c : gM} {r lo : Nat} (h : TS c r lo) {g a b k : Nat} {v : Int32} (hg : g ≠ 41 ∧ g ≠ 44 ∧ g ≠ 47) : TS (wrI c g a b k v) r lo := by
  obtain ⟨cn, i, h1, h2, h3, h4, h5, h6, h7⟩ := h
  have e : ∀ g' a' b' k', g' ≠ g → rdI (wrI c g a b k v) g' a' b' k' = rdI c g' a' b' k' := fun g' a' b' k' q => by rw [rwI, if_neg (fun z => q z.1)]
  exact ⟨cn, i, by rw [e _ _ _ _ (Ne.symm hg.1)]; exact h1, h2, fun k hk => by rw [e _ _ _ _ (Ne.symm hg.2.1)]; exact h3 k hk, by rw [e _ _ _ _ (Ne.symm hg.2.1)]; exact h4, by rw [e _ _ _ _ (Ne.symm hg.2.2)]; exact h5, h6, h7⟩
theorem TS.at {c : gM} {r lo : Nat} (h : TS c r lo) : vp_in (rdI c 47 r 0 0) 1201 := by
  obtain ⟨cn, i, h1, h2, h3, h4, h5, h6, h7⟩ := h
  rw [h5]
  exact vp_in_nI (by omega) (by omega)
theorem TS.kind {c : gM} {r lo : Nat} (h : TS c r lo) : nn (rdI c 44 0 0 (nn (rdI c 47 r 0 0))) < 26 := by
  obtain ⟨cn, i, h1, h2, h3, h4, h5, h6, h7⟩ := h
  rw [h5, nn_nI (by omega)]
  exact h3 i h6
theorem TS.comes {c : gM} {r lo : Nat} (h : TS c r lo) : s_X8_comes c r ∧ f_X8_comes c r < 26 := ⟨⟨h.at, trivial⟩, h.kind⟩
theorem TS.ord {c : gM} {r lo : Nat} (h : TS c r lo) : s_Jx29ce0_ordinal_8abf5 c (f_X8_comes c r) ∧ vp_in (f_Jx29ce0_ordinal_8abf5 c (f_X8_comes c r)) 26 := by
  have q := h.comes.2
  refine ⟨?_, ?_⟩
  · unfold s_Jx29ce0_ordinal_8abf5
    first | trivial | exact q | exact ⟨q, trivial⟩
  · unfold f_Jx29ce0_ordinal_8abf5
    exact vp_in_nI q (by decide)
theorem T_take {c : gM} {r lo : Nat} (h : TS c r lo) : s_X8_takeToken c r ∧ TS (f_X8_takeToken c r) r lo ∧ rdI (f_X8_takeToken c r) 48 r 0 0 = rdI c 48 r 0 0 := by
  obtain ⟨cn, i, h1, h2, h3, h4, h5, h6, h7⟩ := h
  simp only [s_X8_takeToken, f_X8_takeToken, bnd, bndP, h1, h5]
  by_cases a : rdI c 48 r 0 0 = 0
  · simp only [if_pos a]
    by_cases b : nI cn ≤ nI i
    · simp only [if_pos b]
      exact ⟨trivial, ⟨cn, i, h1, h2, h3, h4, h5, h6, h7⟩, trivial⟩
    · simp only [if_neg b]
      have hi : i < cn := by
        rcases Nat.lt_or_ge i cn with q | q
        · exact q
        · exact absurd (nI_le q (by omega)) b
      refine ⟨trivial, ⟨cn, i + 1, ?_, h2, fun k hk => ?_, ?_, ?_, by omega, by omega⟩, ?_⟩
      · simp [rwI, h1]
      · simp [rwI]; exact h3 k hk
      · simp [rwI]; exact h4
      · simp [rwI]; rw [nI_1]
      · simp [rwI]
  · simp only [if_neg a]
    exact ⟨trivial, ⟨cn, i, h1, h2, h3, h4, h5, h6, h7⟩, trivial⟩
/-- a token that isn't the last one is left behind -/
theorem T_take1 {c : gM} {r lo : Nat} (h : TS c r lo) (h0 : rdI c 48 r 0 0 = 0) (hk : f_X8_comes c r ≠ 25) : TS (f_X8_takeToken c r) r 1 := by
  obtain ⟨cn, i, h1, h2, h3, h4, h5, h6, h7⟩ := h
  have hi : i < cn := by
    rcases Nat.lt_or_ge i cn with q | q
    · exact q
    · exfalso
      apply hk
      unfold f_X8_comes
      rw [h5, nn_nI (by omega), show i = cn by omega]
      exact h4
  have b : ¬ nI cn ≤ nI i := fun q => nI_ge hi (by omega) q
  simp only [f_X8_takeToken, bnd, h1, h5, if_pos h0, if_neg b]
  refine ⟨cn, i + 1, ?_, h2, fun k hk => ?_, ?_, ?_, by omega, by omega⟩
  · simp [rwI, h1]
  · simp [rwI]; exact h3 k hk
  · simp [rwI]; exact h4
  · simp [rwI]; rw [nI_1]
theorem T_fail {c : gM} {r lo : Nat} (h : TS c r lo) {v : Int32} (hv : v ≠ 0) : s_X8_fail c r v ∧ TS (f_X8_fail c r v) r lo ∧ rdI (f_X8_fail c r v) 48 r 0 0 ≠ 0 := by
  have hat := h.at
  simp only [s_X8_fail, f_X8_fail, bnd, bndP]
  by_cases a : rdI c 48 r 0 0 = 0
  · simp only [if_pos a]
    refine ⟨⟨?_, trivial⟩, (h.wr (by decide)).wr (by decide), ?_⟩
    · simp [rwI]; exact hat
    · simp [rwI]; exact hv
  · simp only [if_neg a]
    exact ⟨trivial, h, a⟩
theorem T_faT {c : gM} {r lo : Nat} (h : TS c r lo) : s_X8_failAtTaken c r ∧ TS (f_X8_failAtTaken c r) r lo ∧ (rdI c 48 r 0 0 ≠ 0 ∨ 0 < lo → rdI (f_X8_failAtTaken c r) 48 r 0 0 ≠ 0) := by
  have h9 := h
  obtain ⟨cn, i, h1, h2, h3, h4, h5, h6, h7⟩ := h
  simp only [s_X8_failAtTaken, f_X8_failAtTaken, bnd, bndP, h5]
  by_cases a : rdI c 48 r 0 0 = 0
  · simp only [if_pos a]
    by_cases b : nI i ≤ 0
    · simp only [if_pos b]
      refine ⟨trivial, h9, fun q => ?_⟩
      rcases q with q | q
      · exact absurd a q
      · exact absurd b (nI_nle (by omega) (by omega))
    · simp only [if_neg b]
      have hi : 0 < i := by
        rcases Nat.eq_zero_or_pos i with q | q
        · subst q; exact absurd (show nI 0 ≤ 0 from by decide) b
        · exact q
      obtain ⟨j, rfl⟩ : ∃ j, i = j + 1 := ⟨i - 1, by omega⟩
      refine ⟨⟨?_, trivial⟩, (h9.wr (by decide)).wr (by decide), fun _ => ?_⟩
      · simp [rwI, h5]; rw [nI_pred]; exact vp_in_nI (by omega) (by omega)
      · simp [rwI]
  · simp only [if_neg a]
    exact ⟨trivial, h9, fun _ => a⟩
/-- a name's number: none, or one below n -/
def nmX (n : Nat) (x : Int32) : Prop := x = -1 ∨ ∃ j, j < n ∧ x = nI j
theorem T_ix {c : gM} {r lo kd n : Nat} (h : TS c r lo) (hkd : kd < 3) (hn : n ≤ nmL kd) : s_X8_indexOfName c r kd (nI n) ∧ nmX n (f_X8_indexOfName c r kd (nI n)) := by
  have hat := h.at
  have hki := h.kind
  have hL : nmL kd ≤ 12 := by unfold nmL; split; omega; split <;> omega
  have key : ∀ m z k : Nat, k + m = n → m < z → s_X8_indexOfName_2 c r kd (nI n) z (nI k) ∧ nmX n (f_X8_indexOfName_2 c r kd (nI n) z (nI k)) := by
    intro m
    induction m with
    | zero =>
      intro z k hk hz
      obtain rfl : k = n := by omega
      obtain ⟨z, rfl⟩ : ∃ y, z = y + 1 := ⟨z - 1, by omega⟩
      simp only [s_X8_indexOfName_2, f_X8_indexOfName_2, if_pos (Int32.le_refl (nI k))]
      exact ⟨trivial, Or.inl rfl⟩
    | succ m ih =>
      intro z k hk hz
      obtain ⟨z, rfl⟩ : ∃ y, z = y + 1 := ⟨z - 1, by omega⟩
      have e1 : ¬ nI n ≤ nI k := fun q => nI_ge (show k < n by omega) (by omega) q
      have e2 : ¬ (Int32.ofNat (nmL kd)) ≤ nI k := fun q => nI_ge (show k < nmL kd by omega) (by omega) q
      obtain ⟨i1, i2⟩ := ih z (k + 1) (by omega) (by omega)
      simp only [s_X8_indexOfName_2, f_X8_indexOfName_2, if_neg e1, if_neg e2, nI_1]
      refine ⟨⟨hat, hki, ?_⟩, ?_⟩
      · split
        · refine ⟨vp_in_nI (by omega) (by omega), hat, ?_⟩
          split
          · trivial
          · exact i1
        · exact i1
      · split
        · split
          · exact Or.inr ⟨k, by omega, rfl⟩
          · exact i2
        · exact i2
  exact key n FU 0 (by omega) (by rw [FU_eq]; omega)
/-- what comes out where one of n is named: 0 behind a FAULT -/
def kwX (n : Nat) (x : Int32) : Prop := x = 0 ∨ ∃ j, j < n ∧ x = nI j
theorem kwX.in {n N : Nat} {x : Int32} (h : kwX n x) (h0 : 0 < N) (hn : n ≤ N) (hN : N < 2 ^ 31) : vp_in x N := by
  rcases h with rfl | ⟨j, hj, rfl⟩
  · exact vp_in_nI (n := 0) h0 hN
  · exact vp_in_nI (by omega) hN
theorem T_kn17 {c : gM} {r lo kd : Nat} (h : TS c r lo) (x : Int32) : s_X8_takeKnownName_17 c r kd x ∧ TS (f_X8_takeKnownName_17 c r kd x).2 r lo ∧ rdI (f_X8_takeKnownName_17 c r kd x).2 48 r 0 0 = rdI c 48 r 0 0 ∧ (f_X8_takeKnownName_17 c r kd x).1 = if rdI c 48 r 0 0 = 0 then x else 0 := by
  obtain ⟨a1, a2, a3⟩ := T_take h
  simp only [s_X8_takeKnownName_17, f_X8_takeKnownName_17, bnd, bndP, a3]
  by_cases a : rdI c 48 r 0 0 = 0
  · simp only [if_pos a]; exact ⟨⟨a1, trivial⟩, a2, a3, trivial⟩
  · simp only [if_neg a]; exact ⟨⟨a1, trivial⟩, a2, a3, trivial⟩
theorem T_kn {c : gM} {r lo kd n : Nat} (h : TS c r lo) (hkd : kd < 3) (hn : n ≤ nmL kd) : s_X8_takeKnownName c r kd (nI n) ∧ TS (f_X8_takeKnownName c r kd (nI n)).2 r lo ∧ kwX n (f_X8_takeKnownName c r kd (nI n)).1 ∧
    (rdI (f_X8_takeKnownName c r kd (nI n)).2 48 r 0 0 = 0 → rdI c 48 r 0 0 = 0 ∧ ∃ j, j < n ∧ (f_X8_takeKnownName c r kd (nI n)).1 = nI j) := by
  obtain ⟨a1, a2⟩ := T_ix h hkd hn
  simp only [s_X8_takeKnownName, f_X8_takeKnownName, bnd, bndP]
  generalize f_X8_indexOfName c r kd (nI n) = v at a2 ⊢
  by_cases z : v = -1
  · obtain ⟨b1, b2, b3⟩ := T_fail h (v := 1) (by decide)
    obtain ⟨d1, d2, d3, d4⟩ := T_kn17 (kd := kd) b2 v
    simp only [if_pos z]
    rw [if_neg b3] at d4
    exact ⟨⟨a1, b1, d1⟩, d2, Or.inl d4, fun q => absurd (d3.symm.trans q) b3⟩
  · obtain ⟨j, hj, rfl⟩ := a2.resolve_left z
    obtain ⟨d1, d2, d3, d4⟩ := T_kn17 (kd := kd) h (nI j)
    simp only [if_neg z]
    refine ⟨⟨a1, d1⟩, d2, ?_, fun q => ?_⟩
    · rw [d4]
      split
      · exact Or.inr ⟨j, hj, rfl⟩
      · exact Or.inl rfl
    · have q0 : rdI c 48 r 0 0 = 0 := d3.symm.trans q
      rw [if_pos q0] at d4
      exact ⟨q0, j, hj, d4⟩
theorem T_num46 {c : gM} {r lo : Nat} (h : TS c r lo) (x : Int32) : s_X8_takeNumber_46 c r x ∧ TS (f_X8_takeNumber_46 c r x).2 r lo ∧ rdI (f_X8_takeNumber_46 c r x).2 48 r 0 0 = rdI c 48 r 0 0 ∧ (f_X8_takeNumber_46 c r x).1 = if rdI c 48 r 0 0 = 0 then x else 0 := by
  obtain ⟨a1, a2, a3⟩ := T_take h
  simp only [s_X8_takeNumber_46, f_X8_takeNumber_46, bnd, bndP, a3]
  by_cases a : rdI c 48 r 0 0 = 0
  · simp only [if_pos a]; exact ⟨⟨a1, trivial⟩, a2, a3, trivial⟩
  · simp only [if_neg a]; exact ⟨⟨a1, trivial⟩, a2, a3, trivial⟩
theorem T_num {c : gM} {r lo : Nat} (h : TS c r lo) (x1 x2 : Int32) : s_X8_takeNumber c r x1 x2 ∧ TS (f_X8_takeNumber c r x1 x2).2 r lo ∧ ((f_X8_takeNumber c r x1 x2).1 = 0 ∨ (x1 ≤ (f_X8_takeNumber c r x1 x2).1 ∧ (f_X8_takeNumber c r x1 x2).1 ≤ x2)) ∧
    (rdI (f_X8_takeNumber c r x1 x2).2 48 r 0 0 = 0 → rdI c 48 r 0 0 = 0 ∧ x1 ≤ (f_X8_takeNumber c r x1 x2).1 ∧ (f_X8_takeNumber c r x1 x2).1 ≤ x2) := by
  have hc := h.comes
  simp only [s_X8_takeNumber, f_X8_takeNumber, bnd, bndP]
  generalize rdI c 46 0 0 (nn (rdI c 47 r 0 0)) = v
  have bad : ∀ w : Int32, w ≠ 0 → ∀ d : gM, d = f_X8_fail c r w → s_X8_takeNumber_46 d r v ∧ TS (f_X8_takeNumber_46 d r v).2 r lo ∧ (f_X8_takeNumber_46 d r v).1 = 0 ∧ rdI (f_X8_takeNumber_46 d r v).2 48 r 0 0 ≠ 0 := fun w hw d hd => by
    obtain ⟨b1, b2, b3⟩ := T_fail h hw
    rw [← hd] at b2 b3
    obtain ⟨d1, d2, d3, d4⟩ := T_num46 b2 v
    rw [if_neg b3] at d4
    exact ⟨d1, d2, d4, by rw [d3]; exact b3⟩
  by_cases k : f_X8_comes c r = 22
  · simp only [if_pos k]
    have two := bad 2 (by decide) _ rfl
    have s2 := (T_fail h (v := 2) (by decide)).1
    by_cases p : v < x1
    · simp only [if_pos p, s_X8_takeNumber_41, f_X8_takeNumber_41, bnd, bndP]
      exact ⟨⟨h.at, hc.1, hc.2, s2, two.1⟩, two.2.1, Or.inl two.2.2.1, fun q => absurd q two.2.2.2⟩
    · simp only [if_neg p]
      by_cases p2 : v ≤ x2
      · simp only [if_pos p2]
        obtain ⟨d1, d2, d3, d4⟩ := T_num46 h v
        refine ⟨⟨h.at, hc.1, hc.2, d1⟩, d2, ?_, fun q => ?_⟩
        · rw [d4]
          split
          · exact Or.inr ⟨Int32.not_lt.mp p, p2⟩
          · exact Or.inl rfl
        · have q0 := d3.symm.trans q
          rw [if_pos q0] at d4
          rw [d4]
          exact ⟨q0, Int32.not_lt.mp p, p2⟩
      · simp only [if_neg p2, s_X8_takeNumber_41, f_X8_takeNumber_41, bnd, bndP]
        exact ⟨⟨h.at, hc.1, hc.2, s2, two.1⟩, two.2.1, Or.inl two.2.2.1, fun q => absurd q two.2.2.2⟩
  · simp only [if_neg k]
    have one := bad 1 (by decide) _ rfl
    have s1 := (T_fail h (v := 1) (by decide)).1
    exact ⟨⟨h.at, hc.1, hc.2, s1, one.1⟩, one.2.1, Or.inl one.2.2.1, fun q => absurd q one.2.2.2⟩
theorem T_more {c : gM} {r lo : Nat} (h : TS c r lo) (a b : Int32) : s_X8_takeOneMore c r a b ∧ TS (f_X8_takeOneMore c r a b) r lo ∧ (rdI (f_X8_takeOneMore c r a b) 48 r 0 0 = 0 → rdI c 48 r 0 0 = 0 ∧ a < b) := by
  simp only [s_X8_takeOneMore, f_X8_takeOneMore, bnd, bndP]
  by_cases z : a < b
  · simp only [if_pos z]
    obtain ⟨a1, a2, a3⟩ := T_take h
    exact ⟨⟨a1, trivial⟩, a2, fun q => ⟨a3.symm.trans q, z⟩⟩
  · simp only [if_neg z]
    obtain ⟨b1, b2, b3⟩ := T_fail h (v := 2) (by decide)
    obtain ⟨a1, a2, a3⟩ := T_take b2
    exact ⟨⟨b1, a1, trivial⟩, a2, fun q => absurd (a3.symm.trans q) b3⟩
theorem T_once {c : gM} {r lo : Nat} (h : TS c r lo) (x : Int32) : s_X8_takeOnce c r x ∧ TS (f_X8_takeOnce c r x) r lo ∧ (rdI (f_X8_takeOnce c r x) 48 r 0 0 = 0 → rdI c 48 r 0 0 = 0 ∧ x = 0) := by
  simp only [s_X8_takeOnce, f_X8_takeOnce, bnd, bndP]
  by_cases z : x = 0
  · simp only [if_pos z]
    obtain ⟨a1, a2, a3⟩ := T_take h
    exact ⟨⟨a1, trivial⟩, a2, fun q => ⟨a3.symm.trans q, z⟩⟩
  · simp only [if_neg z]
    obtain ⟨b1, b2, b3⟩ := T_fail h (v := 3) (by decide)
    obtain ⟨a1, a2, a3⟩ := T_take b2
    exact ⟨⟨b1, a1, trivial⟩, a2, fun q => absurd (a3.symm.trans q) b3⟩
theorem T_semi15 {c : gM} {r lo : Nat} (h : TS c r lo) : s_X8_takeSemicolon_15 c r ∧ TS (f_X8_takeSemicolon_15 c r) r lo := by
  obtain ⟨a1, a2, a3⟩ := T_take h
  simp only [s_X8_takeSemicolon_15, f_X8_takeSemicolon_15, bnd, bndP]
  by_cases z : rdI (f_X8_takeToken c r) 48 r 0 0 = 0
  · simp only [if_pos z]; exact ⟨⟨a1, trivial⟩, a2.wr (by decide)⟩
  · simp only [if_neg z]; exact ⟨⟨a1, trivial⟩, a2⟩
theorem T_semi {c : gM} {r lo : Nat} (h : TS c r lo) : s_X8_takeSemicolon c r ∧ TS (f_X8_takeSemicolon c r) r lo := by
  have hc := h.comes
  simp only [s_X8_takeSemicolon, f_X8_takeSemicolon, bnd, bndP]
  by_cases z : f_X8_comes c r = 23
  · simp only [if_pos z]
    obtain ⟨a1, a2⟩ := T_semi15 h
    exact ⟨⟨hc.1, hc.2, a1⟩, a2⟩
  · simp only [if_neg z]
    obtain ⟨b1, b2, b3⟩ := T_fail h (v := 1) (by decide)
    obtain ⟨a1, a2⟩ := T_semi15 b2
    exact ⟨⟨hc.1, hc.2, b1, a1⟩, a2⟩
theorem T_nw33 {c : gM} {r lo kd n : Nat} (h : TS c r lo) (hkd : kd < 3) (hn : n ≤ nmL kd) : s_X8_takeNewName_33 c r kd (nI n) ∧ TS (f_X8_takeNewName_33 c r kd (nI n)) r lo ∧ rdI (f_X8_takeNewName_33 c r kd (nI n)) 48 r 0 0 = rdI c 48 r 0 0 := by
  have hL : nmL kd ≤ 12 := by unfold nmL; split; omega; split <;> omega
  simp only [s_X8_takeNewName_33, f_X8_takeNewName_33, bnd, bndP]
  by_cases z : rdI c 48 r 0 0 = 0
  · simp only [if_pos z]
    by_cases y : (Int32.ofNat (nmL kd)) ≤ nI n
    · simp only [if_pos y]
      obtain ⟨a1, a2, a3⟩ := T_take h
      exact ⟨⟨a1, trivial⟩, a2, a3⟩
    · simp only [if_neg y]
      have hlt : n < nmL kd := by
        rcases Nat.lt_or_ge n (nmL kd) with q | q
        · exact q
        · exact absurd (show (Int32.ofNat (nmL kd)) ≤ nI n from nI_le q (by omega)) y
      obtain ⟨a1, a2, a3⟩ := T_take (h.wr (g := 50) (a := r) (b := kd) (k := nn (nI n)) (v := rdI c 46 0 0 (nn (rdI c 47 r 0 0))) (by decide))
      refine ⟨⟨h.at, vp_in_nI hlt (by omega), a1, trivial⟩, a2, ?_⟩
      rw [a3]
      simp [rwI]
  · simp only [if_neg z]
    obtain ⟨a1, a2, a3⟩ := T_take h
    exact ⟨⟨a1, trivial⟩, a2, a3⟩
theorem T_nw {c : gM} {r lo kd n : Nat} (h : TS c r lo) (hkd : kd < 3) (hn : n ≤ nmL kd) : s_X8_takeNewName c r kd (nI n) ∧ TS (f_X8_takeNewName c r kd (nI n)) r lo ∧ (rdI (f_X8_takeNewName c r kd (nI n)) 48 r 0 0 = 0 → rdI c 48 r 0 0 = 0) := by
  have hc := h.comes
  obtain ⟨i1, -⟩ := T_ix h hkd hn
  have bad : ∀ w : Int32, w ≠ 0 → s_X8_fail c r w ∧ s_X8_takeNewName_33 (f_X8_fail c r w) r kd (nI n) ∧ TS (f_X8_takeNewName_33 (f_X8_fail c r w) r kd (nI n)) r lo ∧ rdI (f_X8_takeNewName_33 (f_X8_fail c r w) r kd (nI n)) 48 r 0 0 ≠ 0 := fun w hw => by
    obtain ⟨b1, b2, b3⟩ := T_fail h hw
    obtain ⟨d1, d2, d3⟩ := T_nw33 b2 hkd hn
    exact ⟨b1, d1, d2, by rw [d3]; exact b3⟩
  simp only [s_X8_takeNewName, f_X8_takeNewName, bnd, bndP]
  by_cases z : f_X8_comes c r = 21
  · simp only [if_pos z]
    by_cases y : f_X8_indexOfName c r kd (nI n) = -1
    · simp only [if_pos y]
      obtain ⟨d1, d2, d3⟩ := T_nw33 h hkd hn
      exact ⟨⟨hc.1, hc.2, i1, d1⟩, d2, fun q => d3.symm.trans q⟩
    · simp only [if_neg y]
      obtain ⟨b1, b2, b3, b4⟩ := bad 3 (by decide)
      exact ⟨⟨hc.1, hc.2, i1, b1, b2⟩, b3, fun q => absurd q b4⟩
  · simp only [if_neg z]
    obtain ⟨b1, b2, b3, b4⟩ := bad 1 (by decide)
    exact ⟨⟨hc.1, hc.2, b1, b2⟩, b3, fun q => absurd q b4⟩
theorem T_pk {c : gM} {r lo : Nat} (h : TS c r lo) : s_X8_takePaperKind c r ∧ TS (f_X8_takePaperKind c r).2 r lo ∧ vp_in (f_X8_takePaperKind c r).1 3 ∧ (rdI (f_X8_takePaperKind c r).2 48 r 0 0 = 0 → rdI c 48 r 0 0 = 0) := by
  have hc := h.comes
  have ho := h.ord
  obtain ⟨a1, a2, a3⟩ := T_take h
  simp only [s_X8_takePaperKind, f_X8_takePaperKind, bnd, bndP]
  by_cases z : swm (nn (f_Jx29ce0_ordinal_8abf5 c (f_X8_comes c r))) = 12
  · simp only [if_pos z]
    exact ⟨⟨hc.1, hc.2, ho.1, ho.2, a1, trivial⟩, a2, vpD (by decide), fun q => a3.symm.trans q⟩
  · simp only [if_neg z]
    by_cases y : swm (nn (f_Jx29ce0_ordinal_8abf5 c (f_X8_comes c r))) = 13
    · simp only [if_pos y]
      exact ⟨⟨hc.1, hc.2, ho.1, ho.2, a1, trivial⟩, a2, vpD (by decide), fun q => a3.symm.trans q⟩
    · simp only [if_neg y]
      by_cases x : swm (nn (f_Jx29ce0_ordinal_8abf5 c (f_X8_comes c r))) = 14
      · simp only [if_pos x]
        exact ⟨⟨hc.1, hc.2, ho.1, ho.2, a1, trivial⟩, a2, vpD (by decide), fun q => a3.symm.trans q⟩
      · simp only [if_neg x]
        obtain ⟨b1, b2, b3⟩ := T_fail h (v := 1) (by decide)
        obtain ⟨d1, d2, d3⟩ := T_take b2
        exact ⟨⟨hc.1, hc.2, ho.1, ho.2, b1, d1, trivial⟩, d2, vpD (by decide), fun q => absurd (d3.symm.trans q) b3⟩
end
