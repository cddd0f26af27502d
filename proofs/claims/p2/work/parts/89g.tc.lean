-- THE CLASS'S TEXT
set_option linter.all false
noncomputable section
theorem prj0 {c : gM} {V : vV} {lf : Nat → Nat} (h : CV (prj 0 c) V lf) : CV c V lf := h.same fun g b d _ _ => rfl
-- ===== cleared =====
theorem K_clr (r : Nat) (M : gM) : s_X7_clear M r ∧ CI r (f_X7_clear M r) := by
  obtain ⟨n, hn⟩ : ∃ n, FU = n + 3 := ⟨4093, FU_eq⟩
  constructor
  · simp only [s_X7_clear, hn, s_X7_clear_2, bndP]
    rw [if_neg (by decide), if_neg (by decide), if_pos (by decide)]
    refine ⟨vpD (by decide), ?_, vpD (by decide), ?_, trivial⟩ <;> (unfold s_X3_clear; simp only [bndP]; try trivial)
  · have ev : f_X7_clear M r = wrI (wrI (wrI (wrI (wrI (f_X3_clear (f_X3_clear M r 0) r 1) 4 r 0 0 0) 5 r 0 0 0) 6 r 0 0 0) 7 r 0 0 0) 8 r 0 0 0 := by
      simp only [f_X7_clear, hn, f_X7_clear_2, bnd]
      rw [if_neg (by decide), if_neg (by decide), if_pos (by decide)]
      rfl
    have k5 : rdI (f_X7_clear M r) 5 r 0 0 = 0 := by rw [ev, rwN (by decide), rwN (by decide), rwN (by decide), rwS]
    have k6 : rdI (f_X7_clear M r) 6 r 0 0 = 0 := by rw [ev, rwN (by decide), rwN (by decide), rwS]
    have k7 : rdI (f_X7_clear M r) 7 r 0 0 = 0 := by rw [ev, rwN (by decide), rwS]
    have k8 : rdI (f_X7_clear M r) 8 r 0 0 = 0 := by rw [ev, rwS]
    have kl : ∀ l, l < 2 → rdI (f_X7_clear M r) 14 r l 0 = 2 ∧ rdI (f_X7_clear M r) 15 r l 0 = 0 ∧ rdI (f_X7_clear M r) 16 r l 0 = 0 ∧ rdI (f_X7_clear M r) 17 r l 0 = 0 ∧ rdI (f_X7_clear M r) 18 r l 0 = 0 := fun l hl => by
      rw [ev]
      rcases (show l = 0 ∨ l = 1 by omega) with rfl | rfl <;> (simp only [f_X3_clear, bnd]; simp [rwI])
    generalize f_X7_clear M r = c at *
    have cP : vP (cV r c) = 0 := by unfold vP; rw [v_5, k5]; rfl
    have cT : vT (cV r c) = 0 := by unfold vT; rw [v_6, k6]; rfl
    have cA : vA (cV r c) = 0 := by unfold vA; rw [v_7, k7]; rfl
    have cN : vN (cV r c) = 0 := by unfold vN; rw [v_8, k8]; rfl
    refine ⟨⟨⟨?_, ?_, ?_, ?_⟩, fun p hp => by omega, fun p hp => by omega, fun p hp => by omega, fun p hp => by omega, fun l hl => ?_⟩, fun _ => 0, fun i hi => by omega, fun i j _ hj => by omega⟩
    · rw [v_5, k5]; exact vpD (by decide)
    · rw [v_6, k6]; exact vpD (by decide)
    · rw [v_7, k7]; exact vpD (by decide)
    · rw [v_8, k8]; exact vpD (by decide)
    · obtain ⟨b1, b2, b3, b4, b5⟩ := kl l hl
      unfold wfL
      rw [v_14' hl, v_14 hl (by omega), v_14 hl (by omega), v_14 hl (by omega), v_14 hl (by omega)]
      exact ⟨by rw [b1]; exact vpD (by decide), by rw [b2]; exact vpD (by decide), by rw [b3]; exact vpD (by decide), by rw [b4]; exact vpD (by decide), by rw [b5]; exact vpD (by decide)⟩
-- ===== all lines of one row =====
def TK0 (c : gM) : Prop := ∃ cn, rdI c 41 0 0 0 = nI cn ∧ cn ≤ 1200 ∧ (∀ k, k ≤ cn → nn (rdI c 44 0 0 k) < 26) ∧ nn (rdI c 44 0 0 cn) = 25
theorem TK0.same {c d : gM} (h : TK0 c) (e : ∀ g x, (g = 41 ∨ g = 44) → rdI d g 0 0 x = rdI c g 0 0 x) : TK0 d := by
  obtain ⟨cn, h1, h2, h3, h4⟩ := h
  exact ⟨cn, by rw [e 41 _ (by omega)]; exact h1, h2, fun k hk => by rw [e 44 _ (by omega)]; exact h3 k hk, by rw [e 44 _ (by omega)]; exact h4⟩
theorem TKc.k0 {M : gM} {T : Nat → Nat} {l c : Nat} (h : TKc M T l c) : TK0 M := by
  obtain ⟨h1, h2, h3, h4, h5⟩ := h
  refine ⟨c, h1, h2, fun k hk => ?_, ?_⟩
  · have := tK_lt (T := T) (l := l) (p := st T l k)
    rw [(h5 k hk).1, nn_nI (by omega)]
    exact this
  · rw [(h5 c (Nat.le_refl c)).1, h3]
    unfold tK
    rw [if_neg (Nat.lt_irrefl l)]
    rfl
theorem K_all {r : Nat} {M : gM} (t : TK0 M) : s_X8_readAll M r ∧ CT r 0 (f_X8_readAll M r) := by
  obtain ⟨c1, c2⟩ := K_clr r M
  have o := o_X7_clear M r
  have t1 : TK0 (f_X7_clear M r) := t.same fun g x hg => (o g 0 0 x (by rcases hg with rfl | rfl <;> decide)).1
  simp only [s_X8_readAll, f_X8_readAll, bnd, bndP, c1, true_and]
  generalize f_X7_clear M r = c at *
  have o5 : offW [47, 48, 49] c (wrI (wrI (wrI c 47 r 0 0 0) 48 r 0 0 0) 49 r 0 0 (-1)) := ((offR.wI (by decide)).wI (by decide)).wI (by decide)
  have ht : TS (wrI (wrI (wrI c 47 r 0 0 0) 48 r 0 0 0) 49 r 0 0 (-1)) r 0 := by
    obtain ⟨cn, h1, h2, h3, h4⟩ := t1.same fun g x hg => (o5 g 0 0 x (by rcases hg with rfl | rfl <;> decide)).1
    exact ⟨cn, 0, h1, h2, h3, h4, by rw [rwN (by decide), rwN (by decide), rwS]; rfl, by omega, by omega⟩
  have hc : CT r 0 (wrI (wrI (wrI c 47 r 0 0 0) 48 r 0 0 0) 49 r 0 0 (-1)) := ⟨ht, c2.off o5 (by decide)⟩
  exact C_24 (r := r) 1201 FU 0 (by omega) (by rw [FU_eq]; omega) _ hc
-- ===== what the class holds =====
def Ci (M : gM) : Prop := ∃ V lf n x E R, CV M V lf ∧ WF V ∧ CH M n x E ∧ Hs V n E R
theorem CH.same {M N : gM} {n x : Nat} {E : Nat → hE} (h : CH M n x E) (e : ∀ g, 62 ≤ g → g ≤ 66 → ∀ c, rdI N g 0 0 c = rdI M g 0 0 c) : CH N n x E := by
  obtain ⟨h1, h2, h3, h4, h5⟩ := h
  exact ⟨by rw [e 63 (by omega) (by omega)]; exact h1, by rw [e 62 (by omega) (by omega)]; exact h2, h3, h4, fun j hj => by rw [e 64 (by omega) (by omega), e 65 (by omega) (by omega), e 66 (by omega) (by omega)]; exact h5 j hj⟩
theorem K_text {M : gM} {L : Nat} (h : Ci M) (hL : L ≤ 1200) (t : TBc M L) (x : Int32) : s_X12_text M x ∧ Ci (f_X12_text M x).2 ∧ TBc (f_X12_text M x).2 (if x < 0 then L else if x ≤ nI L then 0 else L) := by
  simp only [s_X12_text, f_X12_text, bnd, bndP, t.1]
  by_cases z : x < 0
  · simp only [if_pos z]
    exact ⟨trivial, h, t⟩
  · simp only [if_neg z]
    by_cases y : x ≤ nI L
    · simp only [if_pos y]
      obtain ⟨l, hl, rfl⟩ := vp_in_of (n_vp' (i_nlt.mp z) y (by omega)) (by omega)
      obtain ⟨T, hT⟩ := pick t.2
      have e0 : rdI (wrI M 0 0 0 0 0) 0 0 0 0 = 0 := rwS
      have o3 : offW [0] M (wrI M 0 0 0 0 0) := offR.wI (by decide)
      obtain ⟨c1, cn, -, c3⟩ := C_cut (M := wrI M 0 0 0 0 0) (T := T) (l := l) (by omega) (fun i hi => ⟨(hT i (by omega)).1, by rw [rwN (by decide)]; exact (hT i (by omega)).2⟩)
      have o5 : offW [0, 41, 42, 43, 44, 45, 46] M (f_X11_cutTape (wrI M 0 0 0 0 0) (nI l)) := (o3.mono (by decide)).tr ((o_X11_cutTape _ _).mono (by decide))
      have e05 : rdI (f_X11_cutTape (wrI M 0 0 0 0 0) (nI l)) 0 0 0 0 = 0 := by rw [(o_X11_cutTape _ _ 0 0 0 0 (by decide)).1]; exact e0
      have k5 := c3.k0
      generalize f_X11_cutTape (wrI M 0 0 0 0 0) (nI l) = M5 at *
      obtain ⟨a1, -⟩ := K_all (r := 1) k5
      have w7 := w_X8_readAll M5 1
      generalize f_X8_readAll M5 1 = M7 at *
      have o9 : offW [1, 2] M7 (wrI (wrI M7 1 0 0 0 (rdI M7 48 1 0 0)) 2 0 0 0 (rdI (wrI M7 1 0 0 0 (rdI M7 48 1 0 0)) 49 1 0 0)) := (offR.wI (by decide)).wI (by decide)
      generalize wrI (wrI M7 1 0 0 0 (rdI M7 48 1 0 0)) 2 0 0 0 (rdI (wrI M7 1 0 0 0 (rdI M7 48 1 0 0)) 49 1 0 0) = M9 at *
      have e9 : ∀ g b c, g ≠ 0 → g ≠ 1 → g ≠ 2 → ¬ (41 ≤ g ∧ g ≤ 46) → rdI M9 g 0 b c = rdI M g 0 b c := fun g b c h0 h1 h2 h3 => by
        rw [(o9 g 0 b c (by simp; omega)).1, w7 g 0 b c (by decide), (o5 g 0 b c (by simp; omega)).1]
      have e95 : ∀ g b c, g ≠ 1 → g ≠ 2 → rdI M9 g 0 b c = rdI M5 g 0 b c := fun g b c h1 h2 => by
        rw [(o9 g 0 b c (by simp; omega)).1, w7 g 0 b c (by decide)]
      have e09 : rdI M9 0 0 0 0 = 0 := by rw [e95 0 0 0 (by omega) (by omega)]; exact e05
      obtain ⟨V, lf, n, u, E, R, hc, hw, hh, hs⟩ := h
      by_cases f : rdI M9 1 0 0 0 = 0
      · simp only [if_pos f]
        have k9 : TK0 M9 := k5.same fun g x hg => e95 g 0 x (by omega) (by omega)
        obtain ⟨b1, -, b3⟩ := K_all (r := 0) k9
        have o12 := o_X8_readAll M9 0
        generalize f_X8_readAll M9 0 = M12 at *
        have e0c : rdI (f_X2_forgetAll M12) 0 0 0 0 = 0 := by rw [(o_X2_forgetAll M12 0 0 0 0 (by decide)).1, (o12 0 0 0 0 (by decide)).1]; exact e09
        have e62 : rdI (f_X2_forgetAll M12) 62 0 0 0 = nI u := by rw [(o_X2_forgetAll M12 62 0 0 0 (by decide)).1, (o12 62 0 0 0 (by decide)).1, e9 62 0 0 (by omega) (by omega) (by omega) (by omega)]; exact hh.2.1
        have e63 : rdI (f_X2_forgetAll M12) 63 0 0 0 = nI 0 := by simp only [f_X2_forgetAll, bnd]; rw [rwS]; rfl
        have ok : Ci (f_X2_forgetAll M12) := by
          obtain ⟨lf', q1, q2⟩ := (b3.off (o_X2_forgetAll M12) (by decide)).cv
          exact ⟨_, lf', 0, u, E, R, prj0 q1, q2, ⟨e63, e62, by omega, hh.2.2.2.1, fun j hj => by omega⟩, fun j hj => by omega⟩
        refine ⟨⟨c1, a1, b1, ?_, trivial⟩, ok, e0c, fun i hi => by omega⟩
        simp only [s_X2_forgetAll, bndP]
      · simp only [if_neg f]
        refine ⟨⟨c1, a1, trivial⟩, ⟨V, lf, n, u, E, R, hc.same fun g b c h1 h2 => e9 g b c (by omega) (by omega) (by omega) (by omega), hw, hh.same fun g h1 h2 c => e9 g 0 c (by omega) (by omega) (by omega) (by omega), hs⟩, e09, fun i hi => by omega⟩
    · simp only [if_neg y]
      exact ⟨trivial, h, t⟩
end
