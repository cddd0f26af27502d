-- the first call on two fresh objects
set_option linter.all false
noncomputable section
def V00 : vV := mV M00
theorem V00_P : vP V00 = 0 := by decide +kernel
theorem V00_T : vT V00 = 0 := by decide +kernel
theorem V00_A : vA V00 = 0 := by decide +kernel
theorem V00_N : vN V00 = 0 := by decide +kernel
theorem V00_L : ∀ l, l < 2 → V00.1 (4 + 5 * l) = 2 ∧ V00.1 (4 + 5 * l + 1) = 0 ∧ V00.1 (4 + 5 * l + 2) = 0 ∧ V00.1 (4 + 5 * l + 3) = 0 ∧ V00.1 (4 + 5 * l + 4) = 0 := by decide +kernel
theorem M00_L : ∀ l, l < 2 → rdI M00 14 0 l 0 = 2 ∧ rdI M00 15 0 l 0 = 0 ∧ rdI M00 16 0 l 0 = 0 ∧ rdI M00 17 0 l 0 = 0 ∧ rdI M00 18 0 l 0 = 0 := by decide +kernel
theorem V00_h : (V00.1 0 = 0 ∧ V00.1 1 = 0 ∧ V00.1 2 = 0 ∧ V00.2.1 64 = 0) ∧ (rdI M00 5 0 0 0 = V00.1 0 ∧ rdI M00 6 0 0 0 = V00.1 1 ∧ rdI M00 7 0 0 0 = V00.1 2 ∧ rdI M00 4 0 0 0 = V00.1 3 ∧ rdI M00 8 0 0 0 = V00.2.1 64) ∧ rdI M00 63 0 0 0 = 0 ∧ rdI M00 62 0 0 0 = 0 ∧ rdI M00 69 0 0 0 = 0 ∧ rdI M00 0 0 0 0 = 0 ∧ rdI M00 68 0 0 0 = 0 ∧ rdI M00 1 0 0 0 = rdI M00 78 0 0 0 ∧ rdI M00 2 0 0 0 = rdI M00 79 0 0 0 := by decide +kernel
theorem V00_WF : WF V00 := by
  obtain ⟨⟨h0, h1, h2, h3⟩, -⟩ := V00_h
  refine ⟨⟨by rw [h0]; exact vpD (by decide), by rw [h1]; exact vpD (by decide), by rw [h2]; exact vpD (by decide), by rw [h3]; exact vpD (by decide)⟩, fun p hp => ?_, fun t ht => ?_, fun q hq => ?_, fun k hk => ?_, fun l hl => ?_⟩
  · rw [V00_P] at hp; exact absurd hp (Nat.not_lt_zero _)
  · rw [V00_T] at ht; exact absurd ht (Nat.not_lt_zero _)
  · rw [V00_A] at hq; exact absurd hq (Nat.not_lt_zero _)
  · rw [V00_N] at hk; exact absurd hk (Nat.not_lt_zero _)
  · obtain ⟨a1, a2, a3, a4, a5⟩ := V00_L l hl
    refine ⟨?_, ?_, ?_, ?_, ?_⟩
    · rw [a1]; exact vpD (by decide)
    · rw [a2]; exact vpD (by decide)
    · rw [a3]; exact vpD (by decide)
    · rw [a4]; exact vpD (by decide)
    · rw [a5]; exact vpD (by decide)
theorem V00_CV : CV M00 V00 (fun _ => 0) := by
  refine ⟨V00_h.2.1, fun p hp => ?_, fun t ht => ?_, fun q hq => ?_, fun k hk => ?_, fun l hl => ?_, fun i hi => ?_, fun i j _ hj => ?_⟩
  · rw [V00_P] at hp; exact absurd hp (Nat.not_lt_zero _)
  · rw [V00_T] at ht; exact absurd ht (Nat.not_lt_zero _)
  · rw [V00_A] at hq; exact absurd hq (Nat.not_lt_zero _)
  · rw [V00_N] at hk; exact absurd hk (Nat.not_lt_zero _)
  · obtain ⟨a1, a2, a3, a4, a5⟩ := V00_L l hl
    obtain ⟨b1, b2, b3, b4, b5⟩ := M00_L l hl
    exact ⟨b1.trans a1.symm, b2.trans a2.symm, b3.trans a3.symm, b4.trans a4.symm, b5.trans a5.symm⟩
  · rw [V00_A] at hi; exact absurd hi (Nat.not_lt_zero _)
  · rw [V00_A] at hj; exact absurd hj (Nat.not_lt_zero _)
theorem M00_At : At M00 V00 (fun _ => 0) := ⟨V00_CV, rfl, V00_WF⟩
def E00 : Nat → hE := fun _ => (0, 0, 0)
def R00 : Nat → Nat → Int32 := fun _ _ => 0
theorem M00_CH : CH M00 0 0 E00 := ⟨V00_h.2.2.1, V00_h.2.2.2.1, by decide, by decide, fun j hj => absurd hj (Nat.not_lt_zero _)⟩
theorem M00_MH : MH M00 0 R00 := ⟨V00_h.2.2.2.2.1, by decide, fun j hj => absurd hj (Nat.not_lt_zero _)⟩
theorem p1_0 (a b c d e : Int32) : sL_0 M00 a b c d e pTr := by
  unfold sL_0
  obtain ⟨c1, c2⟩ := C_feed (M := M00) (l := 0) V00_h.2.2.2.2.2.1 (by decide) a b c d e
  have oo := o_X12_feed M00 a b c d e
  obtain ⟨m1, m2⟩ := M_feed (M := (f_X12_feed M00 a b c d e).2) (l := 0) (((oo 68 0 0 0 (by decide)).1).trans V00_h.2.2.2.2.2.2.1) (by decide) a b c d e
  rw [if_pos (by decide)] at c2 m2
  exact ⟨c1, m1, c2.1.trans m2.1.symm, trivial⟩
-- a TEXT of no bytes
theorem clr_2 (r : Nat) (hr : r < 2) (M : gM) : s_X7_clear M r ∧ rdI (f_X7_clear M r) 4 r 0 0 = 0 ∧ ∀ g, 41 ≤ g → ∀ a b c, rdI (f_X7_clear M r) g a b c = rdI M g a b c := by
  obtain ⟨n, hn⟩ : ∃ n, FU = n + 3 := ⟨4093, FU_eq⟩
  have o := o_X7_clear M r
  refine ⟨?_, ?_, fun g hg a b c => (o g a b c ?_).1⟩
  · simp only [s_X7_clear, hn, s_X7_clear_2, bndP]
    rw [if_neg (by decide), if_neg (by decide), if_pos (by decide)]
    refine ⟨vpD (by decide), ?_, vpD (by decide), ?_, trivial⟩ <;> (unfold s_X3_clear; simp only [bndP]; try trivial)
  · simp only [f_X7_clear, hn, f_X7_clear_2, bnd]
    rw [if_neg (by decide), if_neg (by decide), if_pos (by decide)]
    simp [rwI]
  · intro h
    have : ∀ z ∈ [4, 5, 6, 7, 8, 13, 14, 15, 16, 17, 18], z < 41 := by decide
    first | exact absurd (this g h) (by omega) | (simp at h; omega)
theorem cut0 (M : gM) : s_X11_cutTape M 0 ∧ rdI (f_X11_cutTape M 0) 44 0 0 0 = nI 25 := by
  obtain ⟨n, hn⟩ : ∃ n, FU = n + 1 := ⟨4095, FU_eq⟩
  simp only [s_X11_cutTape, f_X11_cutTape, bnd, bndP]
  obtain ⟨M3, hM3⟩ : ∃ N, N = wrI (wrI (wrI M 42 0 0 0 (mn 0 1200)) 43 0 0 0 0) 41 0 0 0 0 := ⟨_, rfl⟩
  rw [← hM3]
  have h42 : rdI M3 42 0 0 0 = 0 := by rw [hM3]; simp [rwI, mn]
  have h43 : rdI M3 43 0 0 0 = 0 := by rw [hM3]; simp [rwI]
  have h41 : rdI M3 41 0 0 0 = 0 := by rw [hM3]; simp [rwI]
  have e : f_X11_skipBlanks M3 = M3 := by
    simp only [f_X11_skipBlanks, hn, f_X11_skipBlanks_0, h42, h43]
    rw [if_pos (by decide)]
  have e2 : s_X11_skipBlanks M3 := by
    simp only [s_X11_skipBlanks, hn, s_X11_skipBlanks_0, h42, h43]
    rw [if_pos (by decide)]
    trivial
  rw [e]
  simp only [hn, s_X11_cutTape_25, f_X11_cutTape_25, h42, h43]
  rw [if_pos (by decide), if_pos (by decide)]
  simp only [s_X11_cutTape_172, f_X11_cutTape_172, bnd, bndP, h41, h42]
  have n0 : nn 0 = 0 := by decide
  refine ⟨⟨e2, vpD (by decide), ?_, ?_, trivial⟩, ?_⟩
  · simp only [rwI]; simp [h41]; exact vpD (by decide)
  · simp only [rwI]; simp [h41]; exact vpD (by decide)
  · simp only [rwI, n0]
    simp
theorem rd0 (r : Nat) (hr : r < 2) (M : gM) (h : rdI M 44 0 0 0 = nI 25) : s_X8_readAll M r ∧ rdI (f_X8_readAll M r) 48 r 0 0 = 0 ∧ rdI (f_X8_readAll M r) 4 r 0 0 = 0 ∧ rdI (f_X8_readAll M r) 44 0 0 0 = nI 25 := by
  obtain ⟨n, hn⟩ : ∃ n, FU = n + 1 := ⟨4095, FU_eq⟩
  obtain ⟨c1, c2, c3⟩ := clr_2 r hr M
  simp only [s_X8_readAll, f_X8_readAll, bnd, bndP]
  obtain ⟨N, hN⟩ : ∃ N, N = wrI (wrI (wrI (f_X7_clear M r) 47 r 0 0 0) 48 r 0 0 0) 49 r 0 0 (-1) := ⟨_, rfl⟩
  rw [← hN]
  have h47 : rdI N 47 r 0 0 = 0 := by rw [hN]; simp [rwI]
  have h48 : rdI N 48 r 0 0 = 0 := by rw [hN]; simp [rwI]
  have h44 : rdI N 44 0 0 0 = nI 25 := by rw [hN]; simp [rwI]; rw [c3 44 (by omega)]; exact h
  have h4 : rdI N 4 r 0 0 = 0 := by rw [hN]; simp [rwI]; exact c2
  have n0 : nn 0 = 0 := by decide
  have n25 : nn (nI 25) = 25 := by decide
  have ec : f_X8_comes N r = 25 := by simp only [f_X8_comes, h47, n0, h44, n25]
  have sc : s_X8_comes N r := by simp only [s_X8_comes, h47]; exact ⟨vpD (by decide), trivial⟩
  have n12 : ¬ (1200 : Int32) < 0 := by decide
  simp only [hn, s_X8_readAll_24, f_X8_readAll_24, ec, h48, if_neg n12, if_true]
  exact ⟨⟨c1, sc, by decide, trivial⟩, trivial, h4, h44⟩
theorem p1_t0C : s_X12_text M00 0 ∧ (f_X12_text M00 0).1 = 0 := by
  have n0 : ¬ (0 : Int32) < 0 := by decide
  have p0 : (0 : Int32) ≤ 0 := by decide
  simp only [s_X12_text, f_X12_text, bnd, bndP, V00_h.2.2.2.2.2.1, if_neg n0, if_pos p0]
  obtain ⟨a1, a2⟩ := cut0 (wrI M00 0 0 0 0 0)
  obtain ⟨b1, b2, b3, b4⟩ := rd0 1 (by decide) _ a2
  generalize f_X8_readAll (f_X11_cutTape (wrI M00 0 0 0 0 0) 0) 1 = N at b2 b3 b4 ⊢
  have e : rdI (wrI (wrI N 1 0 0 0 (rdI N 48 1 0 0)) 2 0 0 0 (rdI (wrI N 1 0 0 0 (rdI N 48 1 0 0)) 49 1 0 0)) 1 0 0 0 = 0 := by simp [rwI, b2]
  rw [if_pos e, if_pos e]
  obtain ⟨d1, d2, d3, d4⟩ := rd0 0 (by decide) (wrI (wrI N 1 0 0 0 (rdI N 48 1 0 0)) 2 0 0 0 (rdI (wrI N 1 0 0 0 (rdI N 48 1 0 0)) 49 1 0 0)) (by simp [rwI, b4])
  refine ⟨⟨a1, b1, d1, ?_, trivial⟩, ?_⟩
  · first | trivial | (unfold s_X2_forgetAll; trivial)
  · generalize f_X8_readAll (wrI (wrI N 1 0 0 0 (rdI N 48 1 0 0)) 2 0 0 0 (rdI (wrI N 1 0 0 0 (rdI N 48 1 0 0)) 49 1 0 0)) 0 = N9 at d3 ⊢
    simp only [f_X2_forgetAll, bnd, rwI]
    simp [d3]
theorem p1_t0M (M : gM) (h : rdI M 68 0 0 0 = 0) : s_X13_text M 0 ∧ (f_X13_text M 0).1 = 0 := by
  obtain ⟨n, hn⟩ : ∃ n, FU = n + 1 := ⟨4095, FU_eq⟩
  have n0 : ¬ (0 : Int32) < 0 := by decide
  have p0 : (0 : Int32) ≤ 0 := by decide
  have h1 : rdI (wrI M 67 0 0 0 0) 68 0 0 0 = 0 := by simp [rwI, h]
  simp only [s_X13_text, f_X13_text, bnd, bndP, h1, if_neg n0, if_pos p0]
  obtain ⟨b1, b2, b3⟩ := M_begins (wrI M 67 0 0 0 0)
  generalize f_X13_begins (wrI M 67 0 0 0 0) = B at b2 b3 ⊢
  obtain ⟨N, hN⟩ : ∃ N, N = wrI (wrI (wrI B 70 0 0 0 0) 71 0 0 0 0) 76 0 0 0 0 := ⟨_, rfl⟩
  rw [← hN]
  have h70 : rdI N 70 0 0 0 = 0 := by rw [hN]; simp [rwI]
  have h71 : rdI N 71 0 0 0 = 0 := by rw [hN]; simp [rwI]
  have h76 : rdI N 76 0 0 0 = 0 := by rw [hN]; simp [rwI]
  have h89 : rdI N 89 0 0 3 = 0 := by rw [hN]; simp [rwI]; rw [b3 3 (by decide)]; decide
  have hh : f_X13_here N = -1 := by simp only [f_X13_here, h70, h71]; rw [if_pos (by decide)]
  have sh : s_X13_here N := by simp only [s_X13_here, h70, h71]; rw [if_pos (by decide)]; trivial
  have hh2 : f_X13_here (wrI N 72 0 0 0 (rdI N 71 0 0 0)) = -1 := by simp only [f_X13_here, rwI]; simp [h70, h71]
  have sh2 : s_X13_here (wrI N 72 0 0 0 (rdI N 71 0 0 0)) := by simp only [s_X13_here, rwI]; simp [h70, h71]
  have ft : f_X13_token N = wrI (wrI N 72 0 0 0 (rdI N 71 0 0 0)) 73 0 0 0 3 := by
    simp only [f_X13_token, hn, f_X13_token_0, bnd, hh, hh2]
    rw [if_neg (by decide), if_neg (by decide), if_pos trivial]
  have sft : s_X13_token N := by
    simp only [s_X13_token, hn, s_X13_token_0, bndP, hh, hh2]
    rw [if_neg (by decide), if_neg (by decide), if_pos trivial]
    exact ⟨sh, sh, sh2, trivial⟩
  rw [ft]
  obtain ⟨T, hT⟩ : ∃ T, T = wrI (wrI N 72 0 0 0 (rdI N 71 0 0 0)) 73 0 0 0 3 := ⟨_, rfl⟩
  rw [← hT]
  have t76 : rdI T 76 0 0 0 = 0 := by rw [hT]; simp [rwI, h76]
  have t73 : rdI T 73 0 0 0 = 3 := by rw [hT]; simp [rwI]
  have t89 : rdI T 89 0 0 3 = 0 := by rw [hT]; simp [rwI, h89]
  simp only [hn, s_X13_text_43, f_X13_text_43, t76, t73]
  rw [if_pos trivial, if_pos trivial, if_pos trivial, if_pos trivial]
  simp only [s_X13_text_65, f_X13_text_65, s_X13_text_94, f_X13_text_94, bnd, bndP]
  obtain ⟨U, hU⟩ : ∃ U, U = wrI (wrI (wrI T 68 0 0 0 0) 78 0 0 0 (rdI (wrI T 68 0 0 0 0) 76 0 0 0)) 79 0 0 0 (-1) := ⟨_, rfl⟩
  have u76 : rdI U 76 0 0 0 = 0 := by rw [hU]; simp [rwI, t76]
  have v76 : rdI (wrI (wrI T 68 0 0 0 0) 78 0 0 0 (rdI (wrI T 68 0 0 0 0) 76 0 0 0)) 76 0 0 0 = 0 := by simp [rwI, t76]
  have u89 : rdI U 89 0 0 3 = 0 := by rw [hU]; simp [rwI, t89]
  rw [if_pos v76, if_pos v76, ← hU, if_pos u76, if_pos u76]
  obtain ⟨x1, -, -, -, x4⟩ := M_becomes U
  have n3 : nn 3 = 3 := by decide
  exact ⟨⟨b1, sft, x1, vpD (by decide), trivial⟩, by rw [n3]; exact (x4 3 (by decide)).trans u89⟩
theorem p1_1 (a b c d e : Int32) : sL_1 M00 a b c d e pTr := by
  unfold sL_1
  have oo := o_X12_text M00 a
  have h0 : rdI M00 0 0 0 0 = 0 := V00_h.2.2.2.2.2.1
  have h68 : rdI (f_X12_text M00 a).2 68 0 0 0 = 0 := ((oo 68 0 0 0 (by decide)).1).trans V00_h.2.2.2.2.2.2.1
  by_cases z : a = 0
  · subst z
    obtain ⟨m1, m2⟩ := p1_t0M _ h68
    exact ⟨p1_t0C.1, m1, p1_t0C.2.trans m2.symm, trivial⟩
  · have bad : a < 0 ∨ ¬ a ≤ 0 := by
      by_cases q : a < 0
      · exact Or.inl q
      · refine Or.inr fun h => z ?_
        exact Int32.le_antisymm h (Int32.not_lt.mp q)
    have e1 : s_X12_text M00 a ∧ f_X12_text M00 a = (-2, M00) := by
      simp only [s_X12_text, f_X12_text, bnd, bndP, h0]
      rcases bad with q | q
      · rw [if_pos q, if_pos q]; exact ⟨trivial, rfl⟩
      · by_cases q2 : a < 0
        · rw [if_pos q2, if_pos q2]; exact ⟨trivial, rfl⟩
        · rw [if_neg q2, if_neg q2, if_neg q, if_neg q]; exact ⟨trivial, rfl⟩
    have e2 : ∀ N : gM, rdI N 68 0 0 0 = 0 → s_X13_text N a ∧ (f_X13_text N a).1 = -2 := by
      intro N hN
      have h1 : rdI (wrI N 67 0 0 0 0) 68 0 0 0 = 0 := by simp [rwI, hN]
      simp only [s_X13_text, f_X13_text, bnd, bndP, h1]
      rcases bad with q | q
      · rw [if_pos q, if_pos q]; exact ⟨trivial, rfl⟩
      · by_cases q2 : a < 0
        · rw [if_pos q2, if_pos q2]; exact ⟨trivial, rfl⟩
        · rw [if_neg q2, if_neg q2, if_neg q, if_neg q]; exact ⟨trivial, rfl⟩
    obtain ⟨m1, m2⟩ := e2 _ h68
    exact ⟨e1.1, m1, by rw [m2, e1.2], trivial⟩
theorem p1_step (x a b c d e : Int32) : stepL M00 x a b c d e pTr := by
  unfold stepL
  exact ⟨fun _ => p1_0 a b c d e, fun _ => p1_1 a b c d e, fun _ => p1_2 (V := V00) (lf := fun _ => 0) V00_h.2.2.2.2.2.2.2.1 V00_h.2.2.2.2.2.2.2.2 a b c d e, fun _ => p1_3 M00_At a b c d e, fun _ => p1_4 M00_At a b c d e, fun _ => p1_5 M00_At a b c d e, fun _ => p1_6 M00_At a b c d e, fun _ => p1_7 M00_At M00_CH M00_MH a b c d e, fun _ => p1_8 M00_At M00_CH M00_MH a b c d e, fun _ => p1_9 M00_At M00_CH M00_MH a b c d e, fun _ => p1_10 M00_At M00_CH M00_MH a b c d e, fun _ => p1_11 M00_At M00_CH M00_MH a b c d e, fun _ => p1_12 M00_At M00_CH M00_MH a b c d e, fun _ => p1_13 M00_At M00_CH M00_MH a b c d e, fun _ => p1_14 (V := V00) (lf := fun _ => 0) M00_CH M00_MH a b c d e, fun _ => p1_15 M00_At a b c d e, fun _ => p1_16 M00_At a b c d e, fun _ => p1_17 M00_At a b c d e, fun _ => p1_18 M00_At a b c d e, fun _ => p1_19 M00_At a b c d e, fun _ => p1_20 M00_At a b c d e, fun _ => p1_21 M00_At a b c d e, fun _ => p1_22 M00_At a b c d e, fun _ => p1_23 M00_At a b c d e, fun _ => p1_24 M00_At a b c d e, fun _ => p1_25 M00_At a b c d e, fun _ => p1_26 M00_At a b c d e, fun _ => p1_27 M00_At a b c d e, fun _ => p1_28 M00_At a b c d e, fun _ => p1_29 M00_At a b c d e, fun _ => p1_30 M00_At a b c d e, fun _ => p1_31 M00_At a b c d e, fun _ => p1_32 M00_At a b c d e, fun _ => p1_33 M00_At a b c d e, fun _ => p1_34 M00_At a b c d e, fun _ => p1_35 M00_At a b c d e, fun _ => p1_36 M00_At a b c d e, fun _ => p1_37 M00_At a b c d e, fun _ => p1_38 M00_At a b c d e, fun _ => p1_39 M00_At (V00_h.2.2.1.trans V00_h.2.2.2.2.1.symm) (V00_h.2.2.2.2.2.1.trans V00_h.2.2.2.2.2.2.1.symm) a b c d e, fun _ _ _ _ _ _ _ _ _ _ _ _ _ _ _ _ _ _ _ _ _ _ _ _ _ _ _ _ _ _ _ _ _ _ _ _ _ _ _ _ => trivial⟩
def I1 : Nat → gM → Prop
  | 0, M => M = M00
  | _ + 1, _ => True
theorem I1_step {L : Nat} {xs : Nat → Int32} (hL : L ≤ 6) : ∀ k M, 6 * k + 6 ≤ L → I1 k M → stepL M (xs (6 * k) &&& 63) (xs (6 * k + 1)) (xs (6 * k + 2)) (xs (6 * k + 3)) (xs (6 * k + 4)) (xs (6 * k + 5)) (I1 (k + 1)) := by
  intro k M hk hI
  obtain rfl : k = 0 := by omega
  obtain rfl : M = M00 := hI
  exact p1_step _ _ _ _ _ _
end
