set_option linter.all false
noncomputable section
theorem o1 : ((1 : Int32) = 0) = False := by decide
theorem o2 : ((0 : Int32) = 1) = False := by decide
theorem vp_ne {x : Int32} {n : Nat} (h : vp_in x n) (hn : n < 2 ^ 31) : x ≠ -2 ∧ x ≠ -1 := by
  obtain ⟨j, hj, rfl⟩ := vp_in_of h hn
  constructor
  · intro q
    have := nI_toInt (show j < 2 ^ 31 by omega)
    rw [q] at this
    rw [show ((-2 : Int32)).toInt = -2 from by decide] at this
    omega
  · intro q
    have := nI_toInt (show j < 2 ^ 31 by omega)
    rw [q] at this
    rw [show ((-1 : Int32)).toInt = -1 from by decide] at this
    omega
theorem nI_ne {j : Nat} (h : j < 2 ^ 31) : nI j ≠ -2 ∧ nI j ≠ -1 := by
  constructor
  · intro q
    have := nI_toInt h
    rw [q, show ((-2 : Int32)).toInt = -2 from by decide] at this
    omega
  · intro q
    have := nI_toInt h
    rw [q, show ((-1 : Int32)).toInt = -1 from by decide] at this
    omega
theorem vp01 {x : Int32} (h : vp_in x 2) : x = 0 ∨ x = 1 := by
  obtain ⟨j, hj, rfl⟩ := vp_in_of h (by decide)
  rcases j with _ | _ | j
  · exact Or.inl rfl
  · exact Or.inr rfl
  · omega
-- ===== weddings =====
def vwc (V : vV) (p : Nat) (k : Nat) : Prop := V.2.1 (46 + 3 * k) = nI p ∨ V.2.1 (46 + 3 * k + 1) = nI p
def vwq (V : vV) (p : Nat) (d l : Int32) (k : Nat) : Prop := vwc V p k ∧ V.2.1 (46 + 3 * k + 2) ≤ d ∧ l ≤ V.2.1 (46 + 3 * k + 2)
def vwd (V : vV) (p : Nat) (d : Int32) : Nat → Int32 × Int32
  | 0 => (-2, -1)
  | k + 1 => if (V.2.1 (46 + 3 * k) = nI p ∨ V.2.1 (46 + 3 * k + 1) = nI p) ∧ V.2.1 (46 + 3 * k + 2) ≤ d ∧ (vwd V p d k).2 ≤ V.2.1 (46 + 3 * k + 2) then ((if V.2.1 (46 + 3 * k) = nI p then V.2.1 (46 + 3 * k + 1) else V.2.1 (46 + 3 * k)), V.2.1 (46 + 3 * k + 2)) else vwd V p d k
def vwed (V : vV) (p : Nat) (d : Int32) : Int32 := (vwd V p d (vN V)).1
theorem vwd_t {V : vV} {p : Nat} {d : Int32} {k : Nat} (h : (V.2.1 (46 + 3 * k) = nI p ∨ V.2.1 (46 + 3 * k + 1) = nI p) ∧ V.2.1 (46 + 3 * k + 2) ≤ d ∧ (vwd V p d k).2 ≤ V.2.1 (46 + 3 * k + 2)) : vwd V p d (k + 1) = ((if V.2.1 (46 + 3 * k) = nI p then V.2.1 (46 + 3 * k + 1) else V.2.1 (46 + 3 * k)), V.2.1 (46 + 3 * k + 2)) := by rw [vwd, if_pos h]
theorem vwd_f {V : vV} {p : Nat} {d : Int32} {k : Nat} (h : ¬ ((V.2.1 (46 + 3 * k) = nI p ∨ V.2.1 (46 + 3 * k + 1) = nI p) ∧ V.2.1 (46 + 3 * k + 2) ≤ d ∧ (vwd V p d k).2 ≤ V.2.1 (46 + 3 * k + 2))) : vwd V p d (k + 1) = vwd V p d k := by rw [vwd, if_neg h]
theorem vwd_ok {V : vV} (h : WF V) (p : Nat) (d : Int32) : ∀ k, k ≤ vN V → (vwd V p d k).1 = -2 ∨ vp_in (vwd V p d k).1 (vP V) := by
  intro k
  induction k with
  | zero => intro _; exact Or.inl rfl
  | succ k ih =>
    intro hk
    have w := h.2.2.2.2.1 k hk
    rw [vwd]
    split
    · refine Or.inr ?_
      show vp_in (if V.2.1 (46 + 3 * k) = nI p then V.2.1 (46 + 3 * k + 1) else V.2.1 (46 + 3 * k)) (vP V)
      split
      · exact w.2.1
      · exact w.1
    · exact ih (by omega)
theorem vwed_ok {V : vV} (h : WF V) (p : Nat) (d : Int32) : vwed V p d = -2 ∨ vp_in (vwed V p d) (vP V) := vwd_ok h p d (vN V) (Nat.le_refl _)
theorem X7_wed {M : gM} {V : vV} {lf : Nat → Nat} (c : CV M V lf) (h : WF V) (p : Nat) (d : Int32) : s_X7_lastWedUpTo M 0 (nI p) d ∧ f_X7_lastWedUpTo M 0 (nI p) d = mo (vwed V p d) := by
  have hN := c.N h
  have h6 := h.N.2
  have h10 := h.P.2
  unfold s_X7_lastWedUpTo f_X7_lastWedUpTo
  refine lp (fun n k (s : Int32 × Int32) => f_X7_lastWedUpTo_8 M 0 (nI p) d n s.1 s.2 (nI k)) (fun n k s => s_X7_lastWedUpTo_8 M 0 (nI p) d n s.1 s.2 (nI k)) (fun k s => s = (mo (vwd V p d k).1, (vwd V p d k).2)) (fun z => z = mo (vwed V p d)) (vN V) ?_ ?_ FU 0 (-1, -1) (Nat.zero_le _) (by rw [FU_eq]; omega) rfl
  · intro n k s hk hI ih
    obtain ⟨e1, e2, e3⟩ := c.2.2.2.2.1 k hk
    have w := h.2.2.2.2.1 k hk
    have i6 : vp_in (nI k) 6 := vpi (by omega)
    have wo1 := mo_ne (vp_ne w.1 (by omega)).1
    have wo2 := mo_ne (vp_ne w.2.1 (by omega)).1
    have s1 : s.1 = mo (vwd V p d k).1 := by rw [hI]
    have s2 : s.2 = (vwd V p d k).2 := by rw [hI]
    simp only [s_X7_lastWedUpTo_8, f_X7_lastWedUpTo_8, s_X7_lastWedUpTo_39, f_X7_lastWedUpTo_39, s_X7_lastWedUpTo_44, f_X7_lastWedUpTo_44, s_X7_lastWedUpTo_111, f_X7_lastWedUpTo_111, hN, if_neg (nI_ge hk (by omega)), nn_nI (show k < 2 ^ 31 by omega), e1, e2, e3, p1, o1, i6, true_and, if_true, if_false]
    have skip := fun (q : ¬ ((V.2.1 (46 + 3 * k) = nI p ∨ V.2.1 (46 + 3 * k + 1) = nI p) ∧ V.2.1 (46 + 3 * k + 2) ≤ d ∧ (vwd V p d k).2 ≤ V.2.1 (46 + 3 * k + 2))) => ih (s.1, s.2) (by rw [vwd_f q, s1, s2])
    have take := fun (q : ((V.2.1 (46 + 3 * k) = nI p ∨ V.2.1 (46 + 3 * k + 1) = nI p) ∧ V.2.1 (46 + 3 * k + 2) ≤ d ∧ (vwd V p d k).2 ≤ V.2.1 (46 + 3 * k + 2))) => ih ((if V.2.1 (46 + 3 * k) = nI p then V.2.1 (46 + 3 * k + 1) else V.2.1 (46 + 3 * k)), V.2.1 (46 + 3 * k + 2)) (by
      rw [vwd_t q]
      show _ = (mo (if V.2.1 (46 + 3 * k) = nI p then V.2.1 (46 + 3 * k + 1) else V.2.1 (46 + 3 * k)), _)
      split
      · rw [wo2]
      · rw [wo1])
    rw [← s2] at skip take
    by_cases a : V.2.1 (46 + 3 * k) = nI p
    · by_cases b : d < V.2.1 (46 + 3 * k + 2)
      · simp only [a, b, if_true]
        exact skip (fun q => (i_nlt.mpr q.2.1) b)
      · by_cases e : V.2.1 (46 + 3 * k + 2) < s.2
        · simp only [a, b, e, if_true, if_false]
          exact skip (fun q => (i_nlt.mpr q.2.2) e)
        · have := take ⟨Or.inl a, i_nlt.mp b, i_nlt.mp e⟩
          simp only [a, if_true] at this
          simp only [a, b, e, if_true, if_false]
          exact this
    · by_cases a2 : V.2.1 (46 + 3 * k + 1) = nI p
      · by_cases b : d < V.2.1 (46 + 3 * k + 2)
        · simp only [a, a2, b, if_true, if_false]
          exact skip (fun q => (i_nlt.mpr q.2.1) b)
        · by_cases e : V.2.1 (46 + 3 * k + 2) < s.2
          · simp only [a, a2, b, e, if_true, if_false]
            exact skip (fun q => (i_nlt.mpr q.2.2) e)
          · have := take ⟨Or.inr a2, i_nlt.mp b, i_nlt.mp e⟩
            simp only [a, if_false] at this
            simp only [a, a2, b, e, if_true, if_false]
            exact this
      · simp only [a, a2, if_true, if_false]
        exact skip (fun q => q.1.elim a a2)
  · intro n s hI
    simp only [s_X7_lastWedUpTo_8, f_X7_lastWedUpTo_8, hN, if_pos (nI_le (Nat.le_refl (vN V)) (by omega))]
    exact ⟨trivial, by rw [hI]; rfl⟩
theorem X13_wed {M : gM} (h : WF (mV M)) (p : Nat) (d : Int32) : s_X13_wedTo M (nI p) d ∧ f_X13_wedTo M (nI p) d = vwed (mV M) p d := by
  have hN := mN h
  have h6 := h.N.2
  have h10 := h.P.2
  unfold s_X13_wedTo f_X13_wedTo
  refine lp (fun n k (s : Int32 × Int32) => f_X13_wedTo_9 M (nI p) d n s.1 s.2 (nI k)) (fun n k s => s_X13_wedTo_9 M (nI p) d n s.1 s.2 (nI k)) (fun k s => s = vwd (mV M) p d k) (fun z => z = vwed (mV M) p d) (vN (mV M)) ?_ ?_ FU 0 (-2, -1) (Nat.zero_le _) (by rw [FU_eq]; omega) rfl
  · intro n k s hk hI ih
    have i0 : vp_in (64 : Int32) 65 := vpi (k := 64) (by omega)
    have i1 : vp_in (nI (46 + 3 * k)) 65 := vpi (by omega)
    have i2 : vp_in (nI (46 + 3 * k + 1)) 65 := vpi (by omega)
    have i3 : vp_in (nI (46 + 3 * k + 2)) 65 := vpi (by omega)
    have s2 : s.2 = (vwd (mV M) p d k).2 := by rw [hI]
    have x1 : ∀ i, rdI M 92 0 0 i = (mV M).2.1 i := fun _ => rfl
    simp only [s_X13_wedTo_9, f_X13_wedTo_9, s_X13_wedTo_54, f_X13_wedTo_54, s_X13_wedTo_85, f_X13_wedTo_85, s_X13_wedTo_86, f_X13_wedTo_86, s_X13_wedTo_126, f_X13_wedTo_126, bnd, bndP, hN, if_neg (nI_ge hk (by omega)), e46, p1, p2, nn_nI (show 46 + 3 * k < 2 ^ 31 by omega), nn_nI (show 46 + 3 * k + 1 < 2 ^ 31 by omega), nn_nI (show 46 + 3 * k + 2 < 2 ^ 31 by omega), x1, o1, i0, i1, i2, i3, true_and, if_true, if_false]
    have skip := fun (q : ¬ (((mV M).2.1 (46 + 3 * k) = nI p ∨ (mV M).2.1 (46 + 3 * k + 1) = nI p) ∧ (mV M).2.1 (46 + 3 * k + 2) ≤ d ∧ (vwd (mV M) p d k).2 ≤ (mV M).2.1 (46 + 3 * k + 2))) => ih (s.1, s.2) (by rw [vwd_f q, hI])
    have take := fun (q : (((mV M).2.1 (46 + 3 * k) = nI p ∨ (mV M).2.1 (46 + 3 * k + 1) = nI p) ∧ (mV M).2.1 (46 + 3 * k + 2) ≤ d ∧ (vwd (mV M) p d k).2 ≤ (mV M).2.1 (46 + 3 * k + 2))) => ih ((if (mV M).2.1 (46 + 3 * k) = nI p then (mV M).2.1 (46 + 3 * k + 1) else (mV M).2.1 (46 + 3 * k)), (mV M).2.1 (46 + 3 * k + 2)) (by rw [vwd_t q])
    rw [← s2] at skip take
    by_cases a : (mV M).2.1 (46 + 3 * k) = nI p
    · by_cases b : d < (mV M).2.1 (46 + 3 * k + 2)
      · simp only [a, b, if_true]
        exact skip (fun q => (i_nlt.mpr q.2.1) b)
      · by_cases e : (mV M).2.1 (46 + 3 * k + 2) < s.2
        · simp only [a, b, e, if_true, if_false]
          exact skip (fun q => (i_nlt.mpr q.2.2) e)
        · have := take ⟨Or.inl a, i_nlt.mp b, i_nlt.mp e⟩
          simp only [a, if_true] at this
          simp only [a, b, e, if_true, if_false]
          exact this
    · by_cases a2 : (mV M).2.1 (46 + 3 * k + 1) = nI p
      · by_cases b : d < (mV M).2.1 (46 + 3 * k + 2)
        · simp only [a, a2, b, if_true, if_false]
          exact skip (fun q => (i_nlt.mpr q.2.1) b)
        · by_cases e : (mV M).2.1 (46 + 3 * k + 2) < s.2
          · simp only [a, a2, b, e, if_true, if_false]
            exact skip (fun q => (i_nlt.mpr q.2.2) e)
          · have := take ⟨Or.inr a2, i_nlt.mp b, i_nlt.mp e⟩
            simp only [a, if_false] at this
            simp only [a, a2, b, e, if_true, if_false]
            exact this
      · simp only [a, a2, if_true, if_false]
        exact skip (fun q => q.1.elim a a2)
  · intro n s hI
    have i0 : vp_in (64 : Int32) 65 := vpi (k := 64) (by omega)
    simp only [s_X13_wedTo_9, f_X13_wedTo_9, hN, if_pos (nI_le (Nat.le_refl (vN (mV M))) (by omega))]
    exact ⟨⟨i0, trivial⟩, by rw [hI]; rfl⟩
-- ===== heirs =====
def vheirs (V : vV) (p : Nat) : Int32 :=
  if vlvs V (vkids V p) (V.2.1 p) = 0 then
    if vwed V p (V.2.1 p) = -2 then vlvs V (V.1 (24 + p)) (V.2.1 p)
    else if vliv V (nn (vwed V p (V.2.1 p))) (V.2.1 p) = true then 1 <<< (vwed V p (V.2.1 p) &&& 31) else vlvs V (V.1 (24 + p)) (V.2.1 p)
  else vlvs V (vkids V p) (V.2.1 p)
theorem X7_heirs {M : gM} {V : vV} {lf : Nat → Nat} (c : CV M V lf) (h : WF V) {p : Nat} (hp : p < vP V) (hd : V.2.1 p ≠ -2) : s_X7_heirsOf M 0 (nI p) ∧ f_X7_heirsOf M 0 (nI p) = vheirs V p := by
  have h10 := h.P.2
  have i1 : vp_in (nI p) 10 := vpi (by omega)
  have e : rdI M 20 0 p 0 = V.2.1 p := by rw [(c.2.1 p hp).2.1, mo_ne hd]
  have e2 := (c.2.1 p hp).2.2
  obtain ⟨a1, a2⟩ := X7_living c h (V.2.1 p)
  obtain ⟨b1, b2⟩ := X7_children c h (show p < 32 by omega)
  obtain ⟨d1, d2⟩ := X7_wed c h p (V.2.1 p)
  have hv := vwed_ok h p (V.2.1 p)
  have vk : vkids V p &&& bo (fun q => vliv V q (V.2.1 p)) (vP V) = vlvs V (vkids V p) (V.2.1 p) := vkids_lv h p _
  have vq : V.1 (24 + p) &&& bo (fun q => vliv V q (V.2.1 p)) (vP V) = vlvs V (V.1 (24 + p)) (V.2.1 p) := par_lv h _ _
  simp only [s_X7_heirsOf, f_X7_heirsOf, s_X7_heirsOf_61, f_X7_heirsOf_61, bnd, bndP, nn_nI (show p < 2 ^ 31 by omega), e, e2, i1, a1, a2, b1, b2, d1, d2, true_and, vk, vq]
  unfold vheirs
  by_cases z : vlvs V (vkids V p) (V.2.1 p) = 0
  · simp only [z, if_true]
    by_cases y : vwed V p (V.2.1 p) = -2
    · simp only [y, (show mo (-2) = -1 from rfl), if_true]
      trivial
    · have hj := vpe (hv.resolve_left y) (by omega)
      have hm := (vp_ne (hv.resolve_left y) (by omega)).2
      have ej : vwed V p (V.2.1 p) = nI (nn (vwed V p (V.2.1 p))) := hj.1
      have hr : (bo (fun q => vliv V q (V.2.1 p)) (vP V) >>> (vwed V p (V.2.1 p) &&& 31)) &&& 1 = bz (vliv V (nn (vwed V p (V.2.1 p))) (V.2.1 p)) := by
        have h2 := hj.2
        rw [ej, b_read _ (by omega), bt_bo (by omega) (by omega), nn_nI (by omega), decide_eq_true h2, Bool.true_and]
      have hm2 : ¬ vwed V p (V.2.1 p) = -1 := hm
      simp only [y, mo_ne y, hm2, if_false, hr, bz_0]
      cases hl : vliv V (nn (vwed V p (V.2.1 p))) (V.2.1 p)
      · simp
      · simp
  · simp only [z, if_false]
    trivial
theorem X13_heirs {M : gM} (h : WF (mV M)) {p : Nat} (hp : p < vP (mV M)) : s_X13_heirsOf M (nI p) ∧ f_X13_heirsOf M (nI p) = vheirs (mV M) p := by
  have h10 := h.P.2
  have i1 : vp_in ((24 : Int32) + nI p) 502 := inN 24 rfl (by omega) (by decide)
  have f1 : f_X13_diesOn M (nI p) = (mV M).2.1 p := f_dies (by omega)
  have s1 : s_X13_diesOn M (nI p) := s_dies (by omega)
  obtain ⟨b1, b2⟩ := X13_children h (show p < 32 by omega)
  obtain ⟨a1, a2⟩ := X13_living h (vkids (mV M) p) ((mV M).2.1 p)
  obtain ⟨g1, g2⟩ := X13_living h ((mV M).1 (24 + p)) ((mV M).2.1 p)
  obtain ⟨d1, d2⟩ := X13_wed h p ((mV M).2.1 p)
  have hv := vwed_ok h p ((mV M).2.1 p)
  have x1 : ∀ i, rdI M 88 0 0 i = (mV M).1 i := fun _ => rfl
  simp only [s_X13_heirsOf, f_X13_heirsOf, s_X13_heirsOf_54, f_X13_heirsOf_54, bnd, bndP, ix24 (show p < 1000 by omega), x1, f1, s1, b1, b2, a1, a2, g1, g2, d1, d2, i1, true_and, and_true]
  unfold vheirs
  by_cases z : vlvs (mV M) (vkids (mV M) p) ((mV M).2.1 p) = 0
  · simp only [z, if_true]
    by_cases y : vwed (mV M) p ((mV M).2.1 p) = -2
    · simp only [y, if_true]
      trivial
    · have hj := vpe (hv.resolve_left y) (by omega)
      have ej : vwed (mV M) p ((mV M).2.1 p) = nI (nn (vwed (mV M) p ((mV M).2.1 p))) := hj.1
      have hl2 : f_X13_lives M (vwed (mV M) p ((mV M).2.1 p)) ((mV M).2.1 p) = bz (vliv (mV M) (nn (vwed (mV M) p ((mV M).2.1 p))) ((mV M).2.1 p)) := by
        have := f_lives (M := M) (p := nn (vwed (mV M) p ((mV M).2.1 p))) (by have := hj.2; omega) ((mV M).2.1 p)
        rwa [← ej] at this
      have hl1 : s_X13_lives M (vwed (mV M) p ((mV M).2.1 p)) ((mV M).2.1 p) := by
        have := s_lives (M := M) (p := nn (vwed (mV M) p ((mV M).2.1 p))) (by have := hj.2; omega) (d := (mV M).2.1 p)
        rwa [← ej] at this
      simp only [y, if_false, hl1, hl2, true_and, bz_0]
      cases hl : vliv (mV M) (nn (vwed (mV M) p ((mV M).2.1 p))) ((mV M).2.1 p)
      · simp
      · simp
  · simp only [z, if_false]
    trivial
end
