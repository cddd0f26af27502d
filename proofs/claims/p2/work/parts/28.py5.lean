set_option linter.all false
noncomputable section
theorem mo_2 {V : vV} (h : WF V) {x : Int32} (hx : whoOK V x) : mo x = -1 ↔ x = -2 := by
  rcases hx with rfl | hx
  · exact ⟨fun _ => rfl, fun _ => rfl⟩
  · have := vp_ne hx (by have := h.P.2; omega)
    rw [mo_ne this.1]
    exact ⟨fun q => absurd q this.2, fun q => absurd q this.1⟩
theorem X4_counts {M : gM} {V : vV} {lf : Nat → Nat} (c : CV M V lf) (h : WF V) {m t q : Nat} (hq : q < vA V) (hw : ∀ q, q < vA V → rdI M 54 0 0 q = vwhy V q t) : s_X4_countsOf M (nI m) (nI q) ∧ f_X4_countsOf M (nI m) (nI q) = bz (vcnt V m t q) := by
  have h12 := h.A.2
  have e25 := (c.2.2.2.1 q hq).1.1
  have i1 : vp_in (nI q) 12 := vpi (by omega)
  simp only [s_X4_countsOf, f_X4_countsOf, s_X4_countsOf_29, f_X4_countsOf_29, nn_nI (show q < 2 ^ 31 by omega), e25, hw q hq, i1, true_and, vcnt]
  by_cases a : V.1 (58 + 7 * q) = nI m <;> by_cases b : vwhy V q t = 0 <;> simp [a, b, bz]
theorem cnt_m {V : vV} {m t q : Nat} (hm : m < 2 ^ 31) (hc : vcnt V m t q = true) : vmk V q = m ∧ V.2.1 (vmk V q) ≠ -2 := by
  unfold vcnt at hc
  rw [Bool.and_eq_true, decide_eq_true_iff, decide_eq_true_iff] at hc
  refine ⟨?_, vlack_d (t := t) ?_⟩
  · unfold vmk; rw [hc.1]; exact nn_nI hm
  · have := hc.2
    unfold vwhy at this
    by_cases z : vlack V q t = 0
    · exact z
    · rw [if_neg z] at this; exact this
def chI (V : vV) (lf : Nat → Nat) (m t : Nat) (f : Nat → Int32) (s : gM) (k : Nat) : Prop :=
  (rdI s 51 0 0 0 = -1 ∧ ∀ j, j < k → vcnt V m t (lf j) = true → f (lf j) = -2) ∨ (rdI s 51 0 0 0 = mo (vfs (fun i => vcnt V m t (lf i)) lf f (vA V) 0).1 ∧ (vfs (fun i => vcnt V m t (lf i)) lf f (vA V) 0).1 ≠ -2 ∧ rdI s 52 0 0 0 = mo (vfs (fun i => vcnt V m t (lf i)) lf f (vA V) 0).2)
theorem choose2 {V : vV} {lf : Nat → Nat} (h : WF V) {m t : Nat} (hm : m < 2 ^ 31) (ht : t < vT V) {N : gM} (c : CV N V lf) (hw : ∀ q, q < vA V → rdI N 54 0 0 q = vwhy V q t) (hN : chI V lf m t (vgv V m t) N (vA V)) :
    s_X4_chooseTaker_80 (nI m) (nI t) FU N 0 ∧ (rdI (f_X4_chooseTaker_80 (nI m) (nI t) FU N 0) 51 0 0 0 = mo (vtk V lf m t).1 ∧ rdI (f_X4_chooseTaker_80 (nI m) (nI t) FU N 0) 52 0 0 0 = mo (vtk V lf m t).2) := by
  have h12 := h.A.2
  have hl := fun i hi => (c.2.2.2.2.2.2.1 i hi).1
  have okA := vfs_ok (V := V) (pi := fun i => vcnt V m t (lf i)) (f := vgv V m t) (lf := lf) (fun q hq => vtake_ok h hq t _) hl (vA V) 0 (by omega)
  have okB := vfs_ok (V := V) (pi := fun i => vcnt V m t (lf i)) (f := vrs V m t) (lf := lf) (fun q hq => vrs_ok h hq) hl (vA V) 0 (by omega)
  rcases hN with ⟨hN, hN2⟩ | ⟨hN, hA, hN2⟩
  · have eA : (vfs (fun i => vcnt V m t (lf i)) lf (vgv V m t) (vA V) 0).1 = -2 := by rw [vfs_no _ _ (fun i _ hi hc => hN2 i (by omega) hc)]
    have eT : vtk V lf m t = vfs (fun i => vcnt V m t (lf i)) lf (vrs V m t) (vA V) 0 := by unfold vtk; rw [if_pos eA]
    rw [eT]
    have fin : ∀ s : gM, rdI s 51 0 0 0 = mo (vfs (fun i => vcnt V m t (lf i)) lf (vrs V m t) (vA V) 0).1 → (vfs (fun i => vcnt V m t (lf i)) lf (vrs V m t) (vA V) 0).1 ≠ -2 → rdI s 52 0 0 0 = mo (vfs (fun i => vcnt V m t (lf i)) lf (vrs V m t) (vA V) 0).2 → s_X4_chooseTaker_168 s ∧ (rdI (f_X4_chooseTaker_168 s) 51 0 0 0 = mo (vfs (fun i => vcnt V m t (lf i)) lf (vrs V m t) (vA V) 0).1 ∧ rdI (f_X4_chooseTaker_168 s) 52 0 0 0 = mo (vfs (fun i => vcnt V m t (lf i)) lf (vrs V m t) (vA V) 0).2) := fun s a1 a2 a3 => by
      have n1 : ¬ rdI s 51 0 0 0 = -1 := by rw [a1]; exact fun z => a2 ((mo_2 h okB.1).mp z)
      unfold s_X4_chooseTaker_168 f_X4_chooseTaker_168
      rw [if_neg n1, if_neg n1]
      exact ⟨trivial, a1, a3⟩
    refine lp (fun n k (s : gM) => f_X4_chooseTaker_80 (nI m) (nI t) n s (nI k)) (fun n k s => s_X4_chooseTaker_80 (nI m) (nI t) n s (nI k)) (fun k s => CV s V lf ∧ (∀ q, q < vA V → rdI s 54 0 0 q = vwhy V q t) ∧ chI V lf m t (vrs V m t) s k) (fun z => rdI z 51 0 0 0 = mo (vfs (fun i => vcnt V m t (lf i)) lf (vrs V m t) (vA V) 0).1 ∧ rdI z 52 0 0 0 = mo (vfs (fun i => vcnt V m t (lf i)) lf (vrs V m t) (vA V) 0).2) (vA V) ?_ ?_ FU 0 N (Nat.zero_le _) (by rw [FU_eq]; omega) ⟨c, hw, Or.inl ⟨hN, fun j hj => absurd hj (Nat.not_lt_zero _)⟩⟩
    · intro n k s hk hI ih
      obtain ⟨cs, w1, w2⟩ := hI
      have hN := cs.A h
      have i6 : vp_in (nI k) 12 := vpi (by omega)
      obtain ⟨q12, eq⟩ := cs.2.2.2.2.2.2.1 k hk
      have i7 : vp_in (nI (lf k)) 12 := vpi (by omega)
      have e32 := (cs.2.2.2.1 _ q12).1.2.2.2.2.2.2.1
      have wr := (h.2.2.2.1 _ q12).1.2.2.2.2.2.2.1
      rcases w2 with ⟨w2, w3⟩ | ⟨w2, w3, w4⟩
      · have cs2 : CV (wrI s 52 0 0 0 (nI (lf k))) V lf := cs.wr (Or.inl (by omega))
        have t54 : ∀ q, q < vA V → rdI (wrI s 52 0 0 0 (nI (lf k))) 54 0 0 q = vwhy V q t := fun q hq => by rw [← w1 q hq]; simp [rwI]
        have t52 : rdI (wrI s 52 0 0 0 (nI (lf k))) 52 0 0 0 = nI (lf k) := by simp [rwI]
        have t51 : rdI (wrI s 52 0 0 0 (nI (lf k))) 51 0 0 0 = rdI s 51 0 0 0 := by simp [rwI]
        have t32 : rdI (wrI s 52 0 0 0 (nI (lf k))) 32 0 (lf k) 0 = mo (V.1 (58 + 7 * lf k + 6)) := by rw [← e32]; simp [rwI]
        obtain ⟨a1, a2⟩ := X4_counts (m := m) cs2 h q12 t54
        simp only [s_X4_chooseTaker_80, f_X4_chooseTaker_80, bnd, bndP, hN, if_neg (nI_ge hk (by omega)), nn_nI (show k < 2 ^ 31 by omega), nn_nI (show lf k < 2 ^ 31 by omega), eq, w2, t52, t32, a1, a2, i6, i7, p1, if_true, true_and, bz_0]
        cases hc : vcnt V m t (lf k)
        · simp only [if_true]
          exact ih _ ⟨cs2, t54, Or.inl ⟨t51.trans w2, fun j hj hj2 => by
            by_cases e : j = k
            · subst e; rw [hc] at hj2; cases hj2
            · exact w3 j (by omega) hj2⟩⟩
        · obtain ⟨m1, m2⟩ := cnt_m hm hc
          obtain ⟨b1, b2⟩ := X4_may cs2 h q12 ht wr m2
          rw [m1] at b2
          simp only [b1, b2, true_and, bz_0, Bool.true_eq_false, if_false]
          cases hv : vmay V (lf k) t (V.1 (58 + 7 * lf k + 6)) (V.2.1 m)
          · simp only [if_true]
            exact ih _ ⟨cs2, t54, Or.inl ⟨t51.trans w2, fun j hj hj2 => by
              by_cases e : j = k
              · subst e; unfold vrs; rw [hv]; rfl
              · exact w3 j (by omega) hj2⟩⟩
          · simp only [Bool.true_eq_false, if_false]
            have ne : V.1 (58 + 7 * lf k + 6) ≠ -2 := by
              unfold vmay at hv
              rw [Bool.and_eq_true, Bool.and_eq_true, decide_eq_true_iff] at hv
              exact hv.1.1
            have er : vrs V m t (lf k) = V.1 (58 + 7 * lf k + 6) := by unfold vrs; rw [if_pos hv]
            have res := vfs_is (pi := fun i => vcnt V m t (lf i)) (lf := lf) (f := vrs V m t) (b := k) hc (by rw [er]; exact ne) (vA V) 0 (Nat.zero_le _) (by omega) (fun i _ hi hc2 => w3 i hi hc2)
            refine ih _ ⟨cs2.wr (Or.inl (by omega)), fun q hq => by rw [← t54 q hq]; simp [rwI], Or.inr ?_⟩
            rw [res]
            refine ⟨?_, ?_, ?_⟩
            · rw [er]; simp [rwI]
            · rw [er]; exact ne
            · show _ = mo (nI (lf k))
              rw [mo_ne (nI_ne (by omega)).1, ← t52]; simp [rwI]
      · have n1 : ¬ rdI s 51 0 0 0 = -1 := by rw [w2]; exact fun z => w3 ((mo_2 h okB.1).mp z)
        simp only [s_X4_chooseTaker_80, f_X4_chooseTaker_80, hN, if_neg (nI_ge hk (by omega)), if_neg n1]
        exact fin s w2 w3 w4
    · intro n s hI
      obtain ⟨cs, w1, w2⟩ := hI
      have hN := cs.A h
      simp only [s_X4_chooseTaker_80, f_X4_chooseTaker_80, hN, if_pos (nI_le (Nat.le_refl (vA V)) (by omega))]
      rcases w2 with ⟨w2, w3⟩ | ⟨w2, w3, w4⟩
      · have eB := vfs_no (pi := fun i => vcnt V m t (lf i)) (lf := lf) (f := vrs V m t) (vA V) 0 (fun i _ hi hc => w3 i (by omega) hc)
        rw [eB]
        simp only [s_X4_chooseTaker_168, f_X4_chooseTaker_168, bnd, bndP, if_pos w2]
        refine ⟨trivial, ?_, ?_⟩
        · show rdI (wrI s 52 0 0 0 (-1)) 51 0 0 0 = _
          rw [show mo ((-2, -2) : Int32 × Int32).1 = -1 from rfl, ← w2]; simp [rwI]
        · show rdI (wrI s 52 0 0 0 (-1)) 52 0 0 0 = _
          rw [show mo ((-2, -2) : Int32 × Int32).2 = -1 from rfl]; simp [rwI]
      · exact fin s w2 w3 w4
  · have eT : vtk V lf m t = vfs (fun i => vcnt V m t (lf i)) lf (vgv V m t) (vA V) 0 := by unfold vtk; rw [if_neg hA]
    rw [eT]
    obtain ⟨n, hn⟩ : ∃ n, FU = n + 1 := ⟨4095, FU_eq⟩
    have n1 : ¬ rdI N 51 0 0 0 = -1 := by rw [hN]; exact fun z => hA ((mo_2 h okA.1).mp z)
    rw [hn]
    simp only [s_X4_chooseTaker_80, f_X4_chooseTaker_80, s_X4_chooseTaker_168, f_X4_chooseTaker_168, if_neg n1, ite_self]
    exact ⟨trivial, hN, hN2⟩
theorem X4_choose {M : gM} {V : vV} {lf : Nat → Nat} (c : CV M V lf) (h : WF V) {m t : Nat} (hm : m < 2 ^ 31) (ht : t < vT V) (hw : ∀ q, q < vA V → rdI M 54 0 0 q = vwhy V q t) :
    s_X4_chooseTaker M (nI m) (nI t) ∧ (rdI (f_X4_chooseTaker M (nI m) (nI t)) 51 0 0 0 = mo (vtk V lf m t).1 ∧ rdI (f_X4_chooseTaker M (nI m) (nI t)) 52 0 0 0 = mo (vtk V lf m t).2) := by
  have h12 := h.A.2
  have hl := fun i hi => (c.2.2.2.2.2.2.1 i hi).1
  have okA := vfs_ok (V := V) (pi := fun i => vcnt V m t (lf i)) (f := vgv V m t) (lf := lf) (fun q hq => vtake_ok h hq t _) hl (vA V) 0 (by omega)
  unfold s_X4_chooseTaker f_X4_chooseTaker bnd bndP
  refine lp (fun n k (s : gM) => f_X4_chooseTaker_7 (nI m) (nI t) n s (nI k)) (fun n k s => s_X4_chooseTaker_7 (nI m) (nI t) n s (nI k)) (fun k s => CV s V lf ∧ (∀ q, q < vA V → rdI s 54 0 0 q = vwhy V q t) ∧ chI V lf m t (vgv V m t) s k) (fun z => rdI z 51 0 0 0 = mo (vtk V lf m t).1 ∧ rdI z 52 0 0 0 = mo (vtk V lf m t).2) (vA V) ?_ ?_ FU 0 (wrI M 51 0 0 0 (-1)) (Nat.zero_le _) (by rw [FU_eq]; omega) ⟨c.wr (Or.inl (by omega)), fun q hq => by rw [← hw q hq]; simp [rwI], Or.inl ⟨by simp [rwI], fun j hj => absurd hj (Nat.not_lt_zero _)⟩⟩
  · intro n k s hk hI ih
    obtain ⟨cs, w1, w2⟩ := hI
    have hN := cs.A h
    have i6 : vp_in (nI k) 12 := vpi (by omega)
    obtain ⟨q12, eq⟩ := cs.2.2.2.2.2.2.1 k hk
    have i7 : vp_in (nI (lf k)) 12 := vpi (by omega)
    rcases w2 with ⟨w2, w3⟩ | ⟨w2, w3, w4⟩
    · have cs2 : CV (wrI s 52 0 0 0 (nI (lf k))) V lf := cs.wr (Or.inl (by omega))
      have t54 : ∀ q, q < vA V → rdI (wrI s 52 0 0 0 (nI (lf k))) 54 0 0 q = vwhy V q t := fun q hq => by rw [← w1 q hq]; simp [rwI]
      have t52 : rdI (wrI s 52 0 0 0 (nI (lf k))) 52 0 0 0 = nI (lf k) := by simp [rwI]
      have t51 : rdI (wrI s 52 0 0 0 (nI (lf k))) 51 0 0 0 = rdI s 51 0 0 0 := by simp [rwI]
      obtain ⟨a1, a2⟩ := X4_counts (m := m) cs2 h q12 t54
      simp only [s_X4_chooseTaker_7, f_X4_chooseTaker_7, bnd, bndP, hN, if_neg (nI_ge hk (by omega)), nn_nI (show k < 2 ^ 31 by omega), nn_nI (show lf k < 2 ^ 31 by omega), eq, w2, t52, a1, a2, i6, i7, p1, if_true, true_and, bz_0]
      cases hc : vcnt V m t (lf k)
      · simp only [if_true]
        exact ih _ ⟨cs2, t54, Or.inl ⟨t51.trans w2, fun j hj hj2 => by
          by_cases e : j = k
          · subst e; rw [hc] at hj2; cases hj2
          · exact w3 j (by omega) hj2⟩⟩
      · obtain ⟨m1, m2⟩ := cnt_m hm hc
        obtain ⟨b1, b2⟩ := X4_gives cs2 h q12 ht m2
        rw [m1] at b2
        simp only [b1, b2, true_and, Bool.true_eq_false, if_false]
        have hg : vtake V (lf k) t (V.2.1 m) = vgv V m t (lf k) := rfl
        rw [hg]
        have ok := vtake_ok h q12 t (V.2.1 m)
        refine ih _ ⟨cs2.wr (Or.inl (by omega)), fun q hq => by rw [← t54 q hq]; simp [rwI], ?_⟩
        by_cases z : vgv V m t (lf k) = -2
        · refine Or.inl ⟨?_, fun j hj hj2 => ?_⟩
          · rw [z, show mo (-2) = -1 from rfl]; simp [rwI]
          · by_cases e : j = k
            · subst e; exact z
            · exact w3 j (by omega) hj2
        · have res := vfs_is (pi := fun i => vcnt V m t (lf i)) (lf := lf) (f := vgv V m t) (b := k) hc z (vA V) 0 (Nat.zero_le _) (by omega) (fun i _ hi hc2 => w3 i hi hc2)
          refine Or.inr ?_
          rw [res]
          refine ⟨by simp [rwI], z, ?_⟩
          show _ = mo (nI (lf k))
          rw [mo_ne (nI_ne (by omega)).1, ← t52]; simp [rwI]
    · have n1 : ¬ rdI s 51 0 0 0 = -1 := by rw [w2]; exact fun z => w3 ((mo_2 h okA.1).mp z)
      simp only [s_X4_chooseTaker_7, f_X4_chooseTaker_7, hN, if_neg (nI_ge hk (by omega)), if_neg n1]
      exact choose2 h hm ht cs w1 (Or.inr ⟨w2, w3, w4⟩)
  · intro n s hI
    obtain ⟨cs, w1, w2⟩ := hI
    have hN := cs.A h
    simp only [s_X4_chooseTaker_7, f_X4_chooseTaker_7, hN, if_pos (nI_le (Nat.le_refl (vA V)) (by omega))]
    exact choose2 h hm ht cs w1 w2
-- ===== the reference =====
def lyI (V : vV) (lf : Nat → Nat) (m t : Nat) (f : Nat → Int32) (s : gM) (k : Nat) : Prop :=
  (rdI s 80 0 0 0 = -2 ∧ ∀ j, j < vA V → vcnt V m t (lf j) = true → fb_ct (fun j => vcnt V m t (lf j)) j < k → f (lf j) = -2) ∨ (rdI s 80 0 0 0 = (vfs (fun i => vcnt V m t (lf i)) lf f (vA V) 0).1 ∧ (vfs (fun i => vcnt V m t (lf i)) lf f (vA V) 0).1 ≠ -2 ∧ rdI s 81 0 0 0 = (vfs (fun i => vcnt V m t (lf i)) lf f (vA V) 0).2)
theorem ct_in {P : Nat → Bool} {i n : Nat} (hi : i < n) (hp : P i = true) : fb_ct P i < fb_ct P n := by
  have h1 : fb_ct P (i + 1) = fb_ct P i + 1 := by rw [fb_ct_succ]; simp [hp]
  have h2 := fb_ct_mono P (show i + 1 ≤ n by omega)
  omega
theorem lays2 {V : vV} {lf : Nat → Nat} (h : WF V) {m t : Nat} (hm : m < vP V) (ht : t < vT V) {M : gM} (F : cvF M V lf) {N : gM} (c : mV N = V) (hN : lyI V lf m t (vgv V m t) N (fb_ct (fun j => vcnt V m t (lf j)) (vA V))) :
    s_X13_laysTaker_80 (nI m) (nI t) (V.2.1 m) FU N 0 ∧ (rdI (f_X13_laysTaker_80 (nI m) (nI t) (V.2.1 m) FU N 0) 80 0 0 0 = (vtk V lf m t).1 ∧ rdI (f_X13_laysTaker_80 (nI m) (nI t) (V.2.1 m) FU N 0) 81 0 0 0 = (vtk V lf m t).2) := by
  have h12 := h.A.2
  have h10 := h.P.2
  have hT : fb_ct (fun j => vcnt V m t (lf j)) (vA V) ≤ 12 := Nat.le_trans (fb_ct_le _ _) h12
  have fin : ∀ (f : Nat → Int32) (s : gM), rdI s 80 0 0 0 = (vfs (fun i => vcnt V m t (lf i)) lf f (vA V) 0).1 → (vfs (fun i => vcnt V m t (lf i)) lf f (vA V) 0).1 ≠ -2 → rdI s 81 0 0 0 = (vfs (fun i => vcnt V m t (lf i)) lf f (vA V) 0).2 → s_X13_laysTaker_157 s ∧ (rdI (f_X13_laysTaker_157 s) 80 0 0 0 = (vfs (fun i => vcnt V m t (lf i)) lf f (vA V) 0).1 ∧ rdI (f_X13_laysTaker_157 s) 81 0 0 0 = (vfs (fun i => vcnt V m t (lf i)) lf f (vA V) 0).2) := fun f s a1 a2 a3 => by
    have n1 : ¬ rdI s 80 0 0 0 = -2 := by rw [a1]; exact a2
    simp only [s_X13_laysTaker_157, f_X13_laysTaker_157, bnd, bndP, if_neg n1]
    refine ⟨trivial, ?_, ?_⟩
    · rw [← a1]; simp [rwI]
    · rw [← a3]; simp [rwI]
  rcases hN with ⟨hN, hN2⟩ | ⟨hN, hA, hN2⟩
  · have eA : (vfs (fun i => vcnt V m t (lf i)) lf (vgv V m t) (vA V) 0).1 = -2 := by rw [vfs_no _ _ (fun i _ hi hc => hN2 i (by omega) hc (ct_in (P := fun j => vcnt V m t (lf j)) (by omega) hc))]
    have eT : vtk V lf m t = vfs (fun i => vcnt V m t (lf i)) lf (vrs V m t) (vA V) 0 := by unfold vtk; rw [if_pos eA]
    rw [eT]
    refine lp (fun n k (s : gM) => f_X13_laysTaker_80 (nI m) (nI t) (V.2.1 m) n s (nI k)) (fun n k s => s_X13_laysTaker_80 (nI m) (nI t) (V.2.1 m) n s (nI k)) (fun k s => mV s = V ∧ lyI V lf m t (vrs V m t) s k) (fun z => rdI z 80 0 0 0 = (vfs (fun i => vcnt V m t (lf i)) lf (vrs V m t) (vA V) 0).1 ∧ rdI z 81 0 0 0 = (vfs (fun i => vcnt V m t (lf i)) lf (vrs V m t) (vA V) 0).2) (fb_ct (fun j => vcnt V m t (lf j)) (vA V)) ?_ ?_ FU 0 N (Nat.zero_le _) (by rw [FU_eq]; omega) ⟨c, Or.inl ⟨hN, fun j _ _ hj => absurd hj (Nat.not_lt_zero _)⟩⟩
    · intro n k s hk hI ih
      obtain ⟨cs, w2⟩ := hI
      have hs : WF (mV s) := by rw [cs]; exact h
      rcases w2 with ⟨w2, w3⟩ | ⟨w2, w3, w4⟩
      · obtain ⟨i, hi, hp, hr⟩ := fb_ct_kth (p := fun j => vcnt V m t (lf j)) hk
        obtain ⟨a1, a2⟩ := X13_at hs (m := m) (t := t) (k := k) (by omega) (by rw [cs]; exact ht) (by omega)
        rw [cs] at a2
        have ea : vat V m t k (vA V) 0 = nI (lf i) := by rw [← hr]; exact vat_lf F hi hp
        rw [ea] at a2
        have q12 := (F.1 i hi).1
        have n2 : ¬ nI (lf i) = -2 := (nI_ne (by omega)).1
        have cs2 : mV (wrI s 81 0 0 0 (nI (lf i))) = V := by rw [mV_wr (by omega), cs]
        have t81 : rdI (wrI s 81 0 0 0 (nI (lf i))) 81 0 0 0 = nI (lf i) := by simp [rwI]
        have t80 : rdI (wrI s 81 0 0 0 (nI (lf i))) 80 0 0 0 = rdI s 80 0 0 0 := by simp [rwI]
        have o6 := fof6 (M := wrI s 81 0 0 0 (nI (lf i))) (q := lf i) (by omega)
        rw [cs2] at o6
        have wr := (h.2.2.2.1 _ q12).1.2.2.2.2.2.2.1
        obtain ⟨b1, b2⟩ := X13_may (M := wrI s 81 0 0 0 (nI (lf i))) (q := lf i) (t := t) (who := V.1 (58 + 7 * lf i + 6)) (by rw [cs2]; exact h) (by rw [cs2]; exact q12) (by rw [cs2]; exact ht) (by rw [cs2]; exact wr) (V.2.1 m)
        rw [cs2] at b2
        simp only [s_X13_laysTaker_80, f_X13_laysTaker_80, bnd, bndP, w2, a1, a2, if_neg n2, t81, o6, sof6 (show lf i < 12 by omega), b1, b2, p1, if_true, true_and, bz_0]
        cases hv : vmay V (lf i) t (V.1 (58 + 7 * lf i + 6)) (V.2.1 m)
        · simp only [if_true]
          exact ih _ ⟨cs2, Or.inl ⟨t80.trans w2, fun j hj hc hr2 => by
            by_cases e : fb_ct (fun j => vcnt V m t (lf j)) j = k
            · have := fb_ct_kth_one (p := fun j => vcnt V m t (lf j)) hc hp (e.trans hr.symm)
              subst this; unfold vrs; rw [hv]; rfl
            · exact w3 j hj hc (by omega)⟩⟩
        · simp only [Bool.true_eq_false, if_false]
          have ne : V.1 (58 + 7 * lf i + 6) ≠ -2 := by
            unfold vmay at hv
            rw [Bool.and_eq_true, Bool.and_eq_true, decide_eq_true_iff] at hv
            exact hv.1.1
          have er : vrs V m t (lf i) = V.1 (58 + 7 * lf i + 6) := by unfold vrs; rw [if_pos hv]
          have res := vfs_is (pi := fun i => vcnt V m t (lf i)) (lf := lf) (f := vrs V m t) (b := i) hp (by rw [er]; exact ne) (vA V) 0 (Nat.zero_le _) (by omega) (fun j _ hj hc2 => w3 j (by omega) hc2 (by rw [← hr]; exact ct_in (P := fun j => vcnt V m t (lf j)) hj hc2))
          refine ih _ ⟨by rw [mV_wr (by omega), cs2], Or.inr ?_⟩
          rw [res]
          refine ⟨?_, ?_, ?_⟩
          · rw [er]; simp [rwI]
          · rw [er]; exact ne
          · show _ = nI (lf i)
            rw [← t81]; simp [rwI]
      · have n1 : ¬ rdI s 80 0 0 0 = -2 := by rw [w2]; exact w3
        simp only [s_X13_laysTaker_80, f_X13_laysTaker_80, if_neg n1]
        exact fin _ s w2 w3 w4
    · intro n s hI
      obtain ⟨cs, w2⟩ := hI
      have hs : WF (mV s) := by rw [cs]; exact h
      rcases w2 with ⟨w2, w3⟩ | ⟨w2, w3, w4⟩
      · obtain ⟨a1, a2⟩ := X13_at hs (m := m) (t := t) (k := fb_ct (fun j => vcnt V m t (lf j)) (vA V)) (by omega) (by rw [cs]; exact ht) (by omega)
        rw [cs, vat_out F (Nat.le_refl _)] at a2
        have eB := vfs_no (pi := fun i => vcnt V m t (lf i)) (lf := lf) (f := vrs V m t) (vA V) 0 (fun i _ hi hc => w3 i (by omega) hc (ct_in (P := fun j => vcnt V m t (lf j)) (by omega) hc))
        rw [eB]
        simp only [s_X13_laysTaker_80, f_X13_laysTaker_80, s_X13_laysTaker_157, f_X13_laysTaker_157, bnd, bndP, w2, a1, a2, if_true, true_and]
        refine ⟨?_, ?_⟩
        · rw [← w2]; simp [rwI]
        · simp [rwI]
      · have n1 : ¬ rdI s 80 0 0 0 = -2 := by rw [w2]; exact w3
        simp only [s_X13_laysTaker_80, f_X13_laysTaker_80, if_neg n1]
        exact fin _ s w2 w3 w4
  · have eT : vtk V lf m t = vfs (fun i => vcnt V m t (lf i)) lf (vgv V m t) (vA V) 0 := by unfold vtk; rw [if_neg hA]
    rw [eT]
    obtain ⟨n, hn⟩ : ∃ n, FU = n + 1 := ⟨4095, FU_eq⟩
    have n1 : ¬ rdI N 80 0 0 0 = -2 := by rw [hN]; exact hA
    rw [hn]
    simp only [s_X13_laysTaker_80, f_X13_laysTaker_80, if_neg n1]
    exact fin _ N hN hA hN2
theorem X13_lays {M : gM} {V : vV} {lf : Nat → Nat} (h : WF V) {m t : Nat} (hm : m < vP V) (ht : t < vT V) {M0 : gM} (F : cvF M0 V lf) (c : mV M = V) :
    s_X13_laysTaker M (nI m) (nI t) ∧ (rdI (f_X13_laysTaker M (nI m) (nI t)) 80 0 0 0 = (vtk V lf m t).1 ∧ rdI (f_X13_laysTaker M (nI m) (nI t)) 81 0 0 0 = (vtk V lf m t).2) := by
  have h12 := h.A.2
  have h10 := h.P.2
  have hT : fb_ct (fun j => vcnt V m t (lf j)) (vA V) ≤ 12 := Nat.le_trans (fb_ct_le _ _) h12
  have c2 : mV (wrI (wrI M 80 0 0 0 (-2)) 81 0 0 0 (-2)) = V := by rw [mV_wr (by omega), mV_wr (by omega), c]
  have fd : f_X13_diesOn (wrI (wrI M 80 0 0 0 (-2)) 81 0 0 0 (-2)) (nI m) = V.2.1 m := by rw [f_dies (by omega), c2]
  unfold s_X13_laysTaker f_X13_laysTaker bnd bndP
  simp only [fd, s_dies (show m < 65 by omega), true_and]
  refine lp (fun n k (s : gM) => f_X13_laysTaker_21 (nI m) (nI t) (V.2.1 m) n s (nI k)) (fun n k s => s_X13_laysTaker_21 (nI m) (nI t) (V.2.1 m) n s (nI k)) (fun k s => mV s = V ∧ lyI V lf m t (vgv V m t) s k) (fun z => rdI z 80 0 0 0 = (vtk V lf m t).1 ∧ rdI z 81 0 0 0 = (vtk V lf m t).2) (fb_ct (fun j => vcnt V m t (lf j)) (vA V)) ?_ ?_ FU 0 (wrI (wrI M 80 0 0 0 (-2)) 81 0 0 0 (-2)) (Nat.zero_le _) (by rw [FU_eq]; omega) ⟨c2, Or.inl ⟨by simp [rwI], fun j _ _ hj => absurd hj (Nat.not_lt_zero _)⟩⟩
  · intro n k s hk hI ih
    obtain ⟨cs, w2⟩ := hI
    have hs : WF (mV s) := by rw [cs]; exact h
    rcases w2 with ⟨w2, w3⟩ | ⟨w2, w3, w4⟩
    · obtain ⟨i, hi, hp, hr⟩ := fb_ct_kth (p := fun j => vcnt V m t (lf j)) hk
      obtain ⟨a1, a2⟩ := X13_at hs (m := m) (t := t) (k := k) (by omega) (by rw [cs]; exact ht) (by omega)
      rw [cs] at a2
      have ea : vat V m t k (vA V) 0 = nI (lf i) := by rw [← hr]; exact vat_lf F hi hp
      rw [ea] at a2
      have q12 := (F.1 i hi).1
      have n2 : ¬ nI (lf i) = -2 := (nI_ne (by omega)).1
      have cs2 : mV (wrI s 81 0 0 0 (nI (lf i))) = V := by rw [mV_wr (by omega), cs]
      have t81 : rdI (wrI s 81 0 0 0 (nI (lf i))) 81 0 0 0 = nI (lf i) := by simp [rwI]
      obtain ⟨b1, b2⟩ := X13_gives (M := wrI s 81 0 0 0 (nI (lf i))) (q := lf i) (t := t) (by rw [cs2]; exact h) (by rw [cs2]; exact q12) (by rw [cs2]; exact ht) (V.2.1 m)
      rw [cs2, show vtake V (lf i) t (V.2.1 m) = vgv V m t (lf i) from rfl] at b2
      simp only [s_X13_laysTaker_21, f_X13_laysTaker_21, bnd, bndP, w2, a1, a2, if_neg n2, t81, b1, b2, p1, if_true, true_and]
      refine ih _ ⟨by rw [mV_wr (by omega), cs2], ?_⟩
      by_cases z : vgv V m t (lf i) = -2
      · refine Or.inl ⟨by rw [z]; simp [rwI], fun j hj hc hr2 => ?_⟩
        by_cases e : fb_ct (fun j => vcnt V m t (lf j)) j = k
        · have := fb_ct_kth_one (p := fun j => vcnt V m t (lf j)) hc hp (e.trans hr.symm)
          subst this; exact z
        · exact w3 j hj hc (by omega)
      · have res := vfs_is (pi := fun i => vcnt V m t (lf i)) (lf := lf) (f := vgv V m t) (b := i) hp z (vA V) 0 (Nat.zero_le _) (by omega) (fun j _ hj hc2 => w3 j (by omega) hc2 (by rw [← hr]; exact ct_in (P := fun j => vcnt V m t (lf j)) hj hc2))
        refine Or.inr ?_
        rw [res]
        refine ⟨by simp [rwI], z, ?_⟩
        show _ = nI (lf i)
        rw [← t81]; simp [rwI]
    · have n1 : ¬ rdI s 80 0 0 0 = -2 := by rw [w2]; exact w3
      simp only [s_X13_laysTaker_21, f_X13_laysTaker_21, if_neg n1]
      exact lays2 h hm ht F cs (Or.inr ⟨w2, w3, w4⟩)
  · intro n s hI
    obtain ⟨cs, w2⟩ := hI
    have hs : WF (mV s) := by rw [cs]; exact h
    rcases w2 with ⟨w2, w3⟩ | ⟨w2, w3, w4⟩
    · obtain ⟨a1, a2⟩ := X13_at hs (m := m) (t := t) (k := fb_ct (fun j => vcnt V m t (lf j)) (vA V)) (by omega) (by rw [cs]; exact ht) (by omega)
      rw [cs, vat_out F (Nat.le_refl _)] at a2
      simp only [s_X13_laysTaker_21, f_X13_laysTaker_21, w2, a1, a2, if_true, true_and]
      exact lays2 h hm ht F cs (Or.inl ⟨w2, w3⟩)
    · have n1 : ¬ rdI s 80 0 0 0 = -2 := by rw [w2]; exact w3
      simp only [s_X13_laysTaker_21, f_X13_laysTaker_21, if_neg n1]
      exact lays2 h hm ht F cs (Or.inr ⟨w2, w3, w4⟩)
end
