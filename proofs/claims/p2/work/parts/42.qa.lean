set_option linter.all false
noncomputable section
-- ===== the reference's days =====
def Lm (M : gM) (n : Nat) (C : Nat → Prop) : Prop := rdI M 86 0 0 0 = nI n ∧ (∀ k, k < n → ∃ e, e ≤ 9999 ∧ rdI M 99 0 0 k = nI e) ∧ ∀ e, e ≤ 9999 → C e → ∃ k, k < n ∧ rdI M 99 0 0 k = nI e
theorem Lm.sub {M : gM} {n : Nat} {C C' : Nat → Prop} (h : Lm M n C) (hC : ∀ e, e ≤ 9999 → C' e → C e) : Lm M n C' := ⟨h.1, h.2.1, fun e he hc => h.2.2 e he (hC e he hc)⟩
theorem X13_lday {M : gM} {n : Nat} {C : Nat → Prop} {v : Int32} (h : Lm M n C) (hn : n < 60) :
    s_X13_laysDay M v ∧ ∃ m, m ≤ n + 1 ∧ Lm (f_X13_laysDay M v) m (fun e => C e ∨ v = nI e) := by
  have i1 : vp_in (nI n) 60 := vpi hn
  simp only [s_X13_laysDay, f_X13_laysDay, bnd, bndP, h.1, i1, nn_nI (show n < 2 ^ 31 by omega), true_and]
  by_cases a : v < 0
  · rw [if_pos a, if_pos a]
    refine ⟨trivial, n, by omega, h.sub fun e he hc => hc.resolve_right fun z => ?_⟩
    rw [z] at a; exact nI_pos (by omega) a
  · rw [if_neg a, if_neg a]
    obtain ⟨d, hd, rfl⟩ := nI_of a
    by_cases b : d ≤ 9999
    · have b2 : nI d ≤ 9999 := (nI_leI (b := 9999) hd (by decide)).mpr b
      rw [if_pos b2, if_pos b2]
      have r86 : rdI (wrI M 99 0 0 n (nI d)) 86 0 0 0 = nI n := by rw [rwI, if_neg (by omega)]; exact h.1
      rw [r86, p1]
      refine ⟨trivial, n + 1, Nat.le_refl _, by rw [rwI, if_pos (by simp)], fun k hk => ?_, fun e he hc => ?_⟩
      · rw [rwI, if_neg (by omega), rwI]
        by_cases z : k = n
        · rw [if_pos (by simp [z])]; exact ⟨d, b, rfl⟩
        · rw [if_neg (by simp [z])]; exact h.2.1 k (by omega)
      · rcases hc with hc | hc
        · obtain ⟨k, hk, e1⟩ := h.2.2 e he hc
          refine ⟨k, by omega, ?_⟩
          rw [rwI, if_neg (by omega), rwI, if_neg (by omega)]; exact e1
        · refine ⟨n, by omega, ?_⟩
          rw [rwI, if_neg (by omega), rwI, if_pos (by simp)]; exact hc
    · have b2 : ¬ nI d ≤ 9999 := fun z => b ((nI_leI (b := 9999) hd (by decide)).mp z)
      rw [if_neg b2, if_neg b2]
      refine ⟨trivial, n, by omega, h.sub fun e he hc => hc.resolve_right fun z => ?_⟩
      have := (nI_eq hd (by omega)).mp z
      omega
theorem lday_V {M : gM} {v : Int32} : mV (f_X13_laysDay M v) = mV M := mV_off (o_X13_laysDay M v) (by decide)
def cA (V : vV) (n e : Nat) : Prop := ∃ q, q < n ∧ (dq V q = e ∨ dq V q + 1 = e)
def cW (V : vV) (n e : Nat) : Prop := ∃ q, q < n ∧ (dw V q = e ∨ dw V q + 1 = e)
def cP (V : vV) (n e : Nat) : Prop := ∃ q, q < n ∧ V.2.1 q ≠ -2 ∧ (dp V q = e ∨ dp V q + 1 = e)
theorem lays3 {V : vV} (w : WF V) {M : gM} {n : Nat} (hV : mV M = V) (hn : n ≤ 37) (h : Lm M n (fun e => e = 0 ∨ cA V (vA V) e ∨ cW V (vN V) e)) :
    s_X13_laysDays_107 FU M 0 ∧ ∃ m, m ≤ 57 ∧ Lm (f_X13_laysDays_107 FU M 0) m (fun e => e = 0 ∨ cA V (vA V) e ∨ cW V (vN V) e ∨ cP V (vP V) e) := by
  have h10 := w.P.2
  have i0 : vp_in (0 : Int32) 502 := vpi (k := 0) (by omega)
  refine lp (fun n k (s : gM) => f_X13_laysDays_107 n s (nI k)) (fun n k s => s_X13_laysDays_107 n s (nI k)) (fun k s => mV s = V ∧ ∃ m, m ≤ 37 + 2 * k ∧ Lm s m (fun e => e = 0 ∨ cA V (vA V) e ∨ cW V (vN V) e ∨ cP V k e)) (fun z => ∃ m, m ≤ 57 ∧ Lm z m (fun e => e = 0 ∨ cA V (vA V) e ∨ cW V (vN V) e ∨ cP V (vP V) e)) (vP V) ?_ ?_ FU 0 M (Nat.zero_le _) (by rw [FU_eq]; omega) ⟨hV, n, hn, h.sub fun e he hc => ?_⟩
  · rintro n k s hk ⟨cs, m, hm, hL⟩ ih
    have hN := mP (M := s) (by rw [cs]; exact w)
    rw [cs] at hN
    obtain ⟨a1, m1, a2, a3⟩ := X13_lday (v := V.2.1 k) hL (by omega)
    have c1 : mV (f_X13_laysDay s (V.2.1 k)) = V := by rw [lday_V, cs]
    have fd : f_X13_diesOn s (nI k) = V.2.1 k := by rw [f_dies (by omega), cs]
    have fd1 : f_X13_diesOn (f_X13_laysDay s (V.2.1 k)) (nI k) = V.2.1 k := by rw [f_dies (by omega), c1]
    simp only [s_X13_laysDays_107, f_X13_laysDays_107, bnd, bndP, hN, if_neg (nI_ge hk (by omega)), i0, fd, s_dies (show k < 65 by omega), a1, fd1, p1, true_and]
    by_cases z : V.2.1 k = -2
    · rw [if_pos z, if_pos z]
      obtain ⟨b1, m2, b2, b3⟩ := X13_lday (v := -2) a3 (by omega)
      refine ⟨⟨b1, (ih _ ?_).1⟩, (ih _ ?_).2⟩ <;>
      · refine ⟨by rw [lday_V, c1], m2, by omega, b3.sub fun e he hc => Or.inl (Or.inl ?_)⟩
        rcases hc with a | a | a | ⟨q, a, b, d⟩
        · exact Or.inl a
        · exact Or.inr (Or.inl a)
        · exact Or.inr (Or.inr (Or.inl a))
        · have : q ≠ k := fun u => by subst u; exact b z
          exact Or.inr (Or.inr (Or.inr ⟨q, by omega, b, d⟩))
    · rw [if_neg z, if_neg z]
      obtain ⟨ee, he0⟩ := wdp w hk z
      obtain ⟨b1, m2, b2, b3⟩ := X13_lday (v := V.2.1 k + 1) a3 (by omega)
      refine ⟨⟨b1, (ih _ ?_).1⟩, (ih _ ?_).2⟩ <;>
      · refine ⟨by rw [lday_V, c1], m2, by omega, b3.sub fun e he hc => ?_⟩
        rcases hc with a | a | a | ⟨q, a, b, d⟩
        · exact Or.inl (Or.inl (Or.inl a))
        · exact Or.inl (Or.inl (Or.inr (Or.inl a)))
        · exact Or.inl (Or.inl (Or.inr (Or.inr (Or.inl a))))
        · by_cases u : q = k
          · subst u
            rcases d with d | d
            · exact Or.inl (Or.inr (by rw [← d]; exact ee))
            · refine Or.inr ?_
              rw [← d, ee, p1]
          · exact Or.inl (Or.inl (Or.inr (Or.inr (Or.inr ⟨q, by omega, b, d⟩))))
  · rintro n s ⟨cs, m, hm, hL⟩
    have hN := mP (M := s) (by rw [cs]; exact w)
    rw [cs] at hN
    simp only [s_X13_laysDays_107, f_X13_laysDays_107, hN, if_pos (nI_le (Nat.le_refl (vP V)) (by omega))]
    exact ⟨⟨i0, trivial⟩, m, by omega, hL⟩
  · rcases hc with a | a | a | ⟨q, a, -⟩
    · exact Or.inl a
    · exact Or.inr (Or.inl a)
    · exact Or.inr (Or.inr a)
    · omega
theorem lays2' {V : vV} (w : WF V) {M : gM} {n : Nat} (hV : mV M = V) (hn : n ≤ 25) (h : Lm M n (fun e => e = 0 ∨ cA V (vA V) e)) :
    s_X13_laysDays_52 FU M 0 ∧ ∃ m, m ≤ 57 ∧ Lm (f_X13_laysDays_52 FU M 0) m (fun e => e = 0 ∨ cA V (vA V) e ∨ cW V (vN V) e ∨ cP V (vP V) e) := by
  have h6 := w.N.2
  have i0 : vp_in (64 : Int32) 65 := vpi (k := 64) (by omega)
  refine lp (fun n k (s : gM) => f_X13_laysDays_52 n s (nI k)) (fun n k s => s_X13_laysDays_52 n s (nI k)) (fun k s => mV s = V ∧ ∃ m, m ≤ 25 + 2 * k ∧ Lm s m (fun e => e = 0 ∨ cA V (vA V) e ∨ cW V k e)) (fun z => ∃ m, m ≤ 57 ∧ Lm z m (fun e => e = 0 ∨ cA V (vA V) e ∨ cW V (vN V) e ∨ cP V (vP V) e)) (vN V) ?_ ?_ FU 0 M (Nat.zero_le _) (by rw [FU_eq]; omega) ⟨hV, n, hn, h.sub fun e he hc => ?_⟩
  · rintro n k s hk ⟨cs, m, hm, hL⟩ ih
    have hN := mN (M := s) (by rw [cs]; exact w)
    rw [cs] at hN
    have i3 : vp_in (nI (46 + 3 * k + 2)) 65 := vpi (by omega)
    obtain ⟨ee, he0⟩ := wdw w hk
    have r1 : rdI s 92 0 0 (46 + 3 * k + 2) = nI (dw V k) := by rw [x92, cs, ee]
    obtain ⟨a1, m1, a2, a3⟩ := X13_lday (v := nI (dw V k)) hL (by omega)
    have c1 : mV (f_X13_laysDay s (nI (dw V k))) = V := by rw [lday_V, cs]
    have r2 : rdI (f_X13_laysDay s (nI (dw V k))) 92 0 0 (46 + 3 * k + 2) = nI (dw V k) := by rw [x92, c1, ee]
    obtain ⟨b1, m2, b2, b3⟩ := X13_lday (v := nI (dw V k + 1)) a3 (by omega)
    simp only [s_X13_laysDays_52, f_X13_laysDays_52, bnd, bndP, hN, if_neg (nI_ge hk (by omega)), e46, p1, p2, nn_nI (show 46 + 3 * k + 2 < 2 ^ 31 by omega), i0, i3, r1, a1, r2, b1, true_and]
    refine ih _ ⟨by rw [lday_V, c1], m2, by omega, b3.sub fun e he hc => ?_⟩
    rcases hc with a | a | ⟨q, a, d⟩
    · exact Or.inl (Or.inl (Or.inl a))
    · exact Or.inl (Or.inl (Or.inr (Or.inl a)))
    · by_cases u : q = k
      · subst u
        rcases d with d | d
        · exact Or.inl (Or.inr (by rw [d]))
        · exact Or.inr (by rw [d])
      · exact Or.inl (Or.inl (Or.inr (Or.inr ⟨q, by omega, d⟩)))
  · rintro n s ⟨cs, m, hm, hL⟩
    have hN := mN (M := s) (by rw [cs]; exact w)
    rw [cs] at hN
    simp only [s_X13_laysDays_52, f_X13_laysDays_52, hN, if_pos (nI_le (Nat.le_refl (vN V)) (by omega)), i0, true_and]
    exact lays3 w cs (by omega) hL
  · rcases hc with a | a | ⟨q, a, -⟩
    · exact Or.inl a
    · exact Or.inr a
    · omega
theorem X13_days {V : vV} (w : WF V) {M : gM} (hV : mV M = V) :
    s_X13_laysDays M ∧ ∃ m, m ≤ 57 ∧ Lm (f_X13_laysDays M) m (fun e => e = 0 ∨ cA V (vA V) e ∨ cW V (vN V) e ∨ cP V (vP V) e) := by
  have h12 := w.A.2
  have i0 : vp_in (2 : Int32) 502 := vpi (k := 2) (by omega)
  have L0 : Lm (wrI M 86 0 0 0 0) 0 (fun _ => False) := ⟨by rw [rwI, if_pos (by simp)]; rfl, fun k hk => absurd hk (Nat.not_lt_zero _), fun e _ h => h.elim⟩
  obtain ⟨z1, n0, z2, z3⟩ := X13_lday (v := 0) L0 (by omega)
  have c0 : mV (f_X13_laysDay (wrI M 86 0 0 0 0) 0) = V := by rw [lday_V, mV_wr (by omega), hV]
  unfold s_X13_laysDays f_X13_laysDays
  simp only [bnd, bndP, z1, true_and]
  refine lp (fun n k (s : gM) => f_X13_laysDays_12 n s (nI k)) (fun n k s => s_X13_laysDays_12 n s (nI k)) (fun k s => mV s = V ∧ ∃ m, m ≤ 1 + 2 * k ∧ Lm s m (fun e => e = 0 ∨ cA V k e)) (fun z => ∃ m, m ≤ 57 ∧ Lm z m (fun e => e = 0 ∨ cA V (vA V) e ∨ cW V (vN V) e ∨ cP V (vP V) e)) (vA V) ?_ ?_ FU 0 _ (Nat.zero_le _) (by rw [FU_eq]; omega) ⟨c0, n0, by omega, z3.sub fun e he hc => ?_⟩
  · rintro n k s hk ⟨cs, m, hm, hL⟩ ih
    have hN := mA (M := s) (by rw [cs]; exact w)
    rw [cs] at hN
    obtain ⟨ee, he0⟩ := wdq w hk
    have r1 : f_X13_of s (nI k) 1 = nI (dq V k) := by rw [fof1 (by omega), cs, ee]
    obtain ⟨a1, m1, a2, a3⟩ := X13_lday (v := nI (dq V k)) hL (by omega)
    have c1 : mV (f_X13_laysDay s (nI (dq V k))) = V := by rw [lday_V, cs]
    have r2 : f_X13_of (f_X13_laysDay s (nI (dq V k))) (nI k) 1 = nI (dq V k) := by rw [fof1 (by omega), c1, ee]
    obtain ⟨b1, m2, b2, b3⟩ := X13_lday (v := nI (dq V k + 1)) a3 (by omega)
    simp only [s_X13_laysDays_12, f_X13_laysDays_12, bnd, bndP, hN, if_neg (nI_ge hk (by omega)), i0, sof1 (show k < 12 by omega), r1, a1, r2, p1, b1, true_and]
    refine ih _ ⟨by rw [lday_V, c1], m2, by omega, b3.sub fun e he hc => ?_⟩
    rcases hc with a | ⟨q, a, d⟩
    · exact Or.inl (Or.inl (Or.inl a))
    · by_cases u : q = k
      · subst u
        rcases d with d | d
        · exact Or.inl (Or.inr (by rw [d]))
        · exact Or.inr (by rw [d])
      · exact Or.inl (Or.inl (Or.inr ⟨q, by omega, d⟩))
  · rintro n s ⟨cs, m, hm, hL⟩
    have hN := mA (M := s) (by rw [cs]; exact w)
    rw [cs] at hN
    simp only [s_X13_laysDays_12, f_X13_laysDays_12, hN, if_pos (nI_le (Nat.le_refl (vA V)) (by omega)), i0, true_and]
    exact lays2' w cs (by omega) hL
  · rcases hc with a | ⟨q, a, -⟩
    · exact Or.inr (by rw [a]; rfl)
    · omega
/-- the first day with the property lies in the row -/
theorem least_in {V : vV} (w : WF V) {lf : Nat → Nat} (hl : ∀ i, i < vA V → lf i < vA V) {p o t d : Nat} (hp : p < vP V) (hd : d ≤ 9999) (h1 : dH V lf p o t d = true) (h2 : ∀ d', d' < d → dH V lf p o t d' = false) : d = 0 ∨ cA V (vA V) d ∨ cW V (vN V) d ∨ cP V (vP V) d := by
  rcases Nat.eq_zero_or_pos d with z | z
  · exact Or.inl z
  · right
    by_cases h : cA V (vA V) d ∨ cW V (vN V) d ∨ cP V (vP V) d
    · exact h
    · exfalso
      have e := dH_c w hl (o := o) (t := t) hp (show d - 1 ≤ d by omega) hd (fun e he hx => by
        refine h ?_
        rcases he with ⟨q, a, b⟩ | ⟨q, a, b⟩ | ⟨q, a, -, c, b⟩
        · exact Or.inl ⟨q, a, by omega⟩
        · exact Or.inr (Or.inl ⟨q, a, by omega⟩)
        · exact Or.inr (Or.inr ⟨q, a, c, by omega⟩))
      rw [h2 (d - 1) (by omega), h1] at e
      cases e
theorem M_dayFor {V : vV} (w : WF V) {lf : Nat → Nat} {M0 M : gM} (F : cvF M0 V lf) (hV : mV M = V) {m p o t : Nat} (hp : p < vP V) (ho : o < vP V) (ht : t < vT V) (hm : m ≤ 57) (hL : Lm M m (fun e => e = 0 ∨ cA V (vA V) e ∨ cW V (vN V) e ∨ cP V (vP V) e)) :
    s_X13_dayFor_47 (nI p) (nI o) (nI t) FU M (-2) 0 ∧ (aLeast V lf p o t (f_X13_dayFor_47 (nI p) (nI o) (nI t) FU M (-2) 0).1 ∧ mV (f_X13_dayFor_47 (nI p) (nI o) (nI t) FU M (-2) 0).2 = V) := by
  have h10 := w.P.2
  have hl := wf_lf F
  refine lp (fun n k (s : gM × Int32) => f_X13_dayFor_47 (nI p) (nI o) (nI t) n s.1 s.2 (nI k)) (fun n k s => s_X13_dayFor_47 (nI p) (nI o) (nI t) n s.1 s.2 (nI k)) (fun k s => mV s.1 = V ∧ Lm s.1 m (fun e => e = 0 ∨ cA V (vA V) e ∨ cW V (vN V) e ∨ cP V (vP V) e) ∧ ((s.2 = -2 ∧ ∀ j e, j < k → e ≤ 9999 → rdI s.1 99 0 0 j = nI e → dH V lf p o t e = false) ∨ ∃ b, b ≤ 9999 ∧ s.2 = nI b ∧ dH V lf p o t b = true ∧ ∀ j e, j < k → e ≤ 9999 → rdI s.1 99 0 0 j = nI e → dH V lf p o t e = true → b ≤ e)) (fun z => aLeast V lf p o t z.1 ∧ mV z.2 = V) m ?_ ?_ FU 0 (M, -2) (Nat.zero_le _) (by rw [FU_eq]; omega) ⟨hV, hL, Or.inl ⟨rfl, fun j e hj => absurd hj (Nat.not_lt_zero _)⟩⟩
  · rintro n k ⟨N, s⟩ hk ⟨cN, hL, hs⟩ ih
    have cN : mV N = V := cN
    have hL : Lm N m (fun e => e = 0 ∨ cA V (vA V) e ∨ cW V (vN V) e ∨ cP V (vP V) e) := hL
    obtain ⟨e, he, re⟩ := hL.2.1 k hk
    have i60 : vp_in (nI k) 60 := vpi (by omega)
    obtain ⟨a1, a2, a3⟩ := X13_would (M := N) w F cN (x1 := 0 + nI p) (v := nI e) (e0n p) (by omega) ht (wf_die w hp (Or.inr (dOK_n he)))
    have oo := o_X13_wouldBe N (0 + nI p) (nI e) (nI t)
    have k99 : ∀ j, rdI (f_X13_wouldBe N (0 + nI p) (nI e) (nI t)).2 99 0 0 j = rdI N 99 0 0 j := fun j => (oo 99 0 0 j (by decide)).1
    have k86 : rdI (f_X13_wouldBe N (0 + nI p) (nI e) (nI t)).2 86 0 0 0 = rdI N 86 0 0 0 := (oo 86 0 0 0 (by decide)).1
    have hL2 : Lm (f_X13_wouldBe N (0 + nI p) (nI e) (nI t)).2 m (fun e => e = 0 ∨ cA V (vA V) e ∨ cW V (vN V) e ∨ cP V (vP V) e) := ⟨by rw [k86]; exact hL.1, fun j hj => by rw [k99]; exact hL.2.1 j hj, fun x hx hc => by
      obtain ⟨j, hj, ej⟩ := hL.2.2 x hx hc
      exact ⟨j, hj, by rw [k99]; exact ej⟩⟩
    simp only [s_X13_dayFor_47, f_X13_dayFor_47, s_X13_dayFor_75, f_X13_dayFor_75, s_X13_dayFor_102, f_X13_dayFor_102, s_X13_dayFor_103, f_X13_dayFor_103, bnd, bndP, hL.1, if_neg (nI_ge hk (by omega)), i60, nn_nI (show k < 2 ^ 31 by omega), re, a1, a2, b_read _ (show o < 32 by omega), bz_1, o1, k99, if_true, if_false, p1, true_and]
    have inj : ∀ x, x ≤ 9999 → rdI N 99 0 0 k = nI x → x = e := fun x hx h => by
      rw [re] at h
      exact ((nI_eq (by omega) (by omega)).mp h).symm
    -- the day is asked
    have ask : (s = -2 ∨ ∃ b, b ≤ 9999 ∧ s = nI b ∧ e < b) → (if bt (vhold (vrun (vset V p (nI e)) lf t 9999).1) o = true then s_X13_dayFor_47 (nI p) (nI o) (nI t) n (f_X13_wouldBe N (0 + nI p) (nI e) (nI t)).2 (nI e) (nI (k + 1)) else s_X13_dayFor_47 (nI p) (nI o) (nI t) n (f_X13_wouldBe N (0 + nI p) (nI e) (nI t)).2 s (nI (k + 1))) ∧ (aLeast V lf p o t (if bt (vhold (vrun (vset V p (nI e)) lf t 9999).1) o = true then f_X13_dayFor_47 (nI p) (nI o) (nI t) n (f_X13_wouldBe N (0 + nI p) (nI e) (nI t)).2 (nI e) (nI (k + 1)) else f_X13_dayFor_47 (nI p) (nI o) (nI t) n (f_X13_wouldBe N (0 + nI p) (nI e) (nI t)).2 s (nI (k + 1))).1 ∧ mV (if bt (vhold (vrun (vset V p (nI e)) lf t 9999).1) o = true then f_X13_dayFor_47 (nI p) (nI o) (nI t) n (f_X13_wouldBe N (0 + nI p) (nI e) (nI t)).2 (nI e) (nI (k + 1)) else f_X13_dayFor_47 (nI p) (nI o) (nI t) n (f_X13_wouldBe N (0 + nI p) (nI e) (nI t)).2 s (nI (k + 1))).2 = V) := by
      intro hb
      by_cases y : bt (vhold (vrun (vset V p (nI e)) lf t 9999).1) o = true
      · rw [if_pos y, if_pos y]
        refine ih (_, nI e) ⟨a3, hL2, Or.inr ⟨e, he, rfl, y, fun j x hj hx rx hh => ?_⟩⟩
        have rx : rdI N 99 0 0 j = nI x := by rw [← k99]; exact rx
        by_cases u : j = k
        · subst u; rw [inj x hx rx]; exact Nat.le_refl _
        · rcases hs with ⟨s1, s2⟩ | ⟨b, s1, s2, s3, s4⟩
          · rw [s2 j x (by omega) hx rx] at hh; cases hh
          · have := s4 j x (by omega) hx rx hh
            rcases hb with hb | ⟨b', hb0, hb, hb2⟩
            · have s2 : s = nI b := s2
              rw [hb] at s2
              exact absurd s2.symm (nI_ne (by omega)).1
            · have s2 : s = nI b := s2
              rw [hb] at s2
              have := (nI_eq (by omega) (by omega)).mp s2
              omega
      · rw [if_neg y, if_neg y]
        have y : dH V lf p o t e = false := by
          unfold dH
          cases hq : bt (vhold (vrun (vset V p (nI e)) lf t 9999).1) o
          · rfl
          · exact absurd hq y
        refine ih (_, s) ⟨a3, hL2, ?_⟩
        rcases hs with ⟨s1, s2⟩ | ⟨b, s1, s2, s3, s4⟩
        · refine Or.inl ⟨s1, fun j x hj hx rx => ?_⟩
          have rx : rdI N 99 0 0 j = nI x := by rw [← k99]; exact rx
          by_cases u : j = k
          · subst u; rw [inj x hx rx]; exact y
          · exact s2 j x (by omega) hx rx
        · refine Or.inr ⟨b, s1, s2, s3, fun j x hj hx rx hh => ?_⟩
          have rx : rdI N 99 0 0 j = nI x := by rw [← k99]; exact rx
          by_cases u : j = k
          · subst u; rw [inj x hx rx, y] at hh; cases hh
          · exact s4 j x (by omega) hx rx hh
    by_cases z : s = -2
    · simp only [z, if_true] at ask ⊢
      exact ask (Or.inl trivial)
    · simp only [z, if_false] at ask ⊢
      rcases hs with ⟨s1, s2⟩ | ⟨b, s1, s2, s3, s4⟩
      · exact absurd s1 z
      · have s2 : s = nI b := s2
        have ex : (s ≤ nI e) = (b ≤ e) := by rw [s2]; exact propext (nI_leI (by omega) (by omega))
        simp only [ex]
        by_cases u : b ≤ e
        · rw [if_pos u, if_pos u]
          refine ih (N, s) ⟨cN, hL, Or.inr ⟨b, s1, s2, s3, fun j x hj hx rx hh => ?_⟩⟩
          by_cases v : j = k
          · subst v; rw [inj x hx rx]; exact u
          · exact s4 j x (by omega) hx rx hh
        · rw [if_neg u, if_neg u]
          exact ask (Or.inr ⟨b, s1, s2, by omega⟩)
  · rintro n ⟨N, s⟩ ⟨cN, hL, hs⟩
    have cN : mV N = V := cN
    have hL : Lm N m (fun e => e = 0 ∨ cA V (vA V) e ∨ cW V (vN V) e ∨ cP V (vP V) e) := hL
    simp only [s_X13_dayFor_47, f_X13_dayFor_47, hL.1, if_pos (nI_le (Nat.le_refl m) (show m < 2 ^ 31 by omega))]
    refine ⟨trivial, ?_, cN⟩
    have key : ∀ n, ∀ d, d ≤ n → d ≤ 9999 → dH V lf p o t d = true → ∃ d0, d0 ≤ d ∧ dH V lf p o t d0 = true ∧ ∀ d', d' < d0 → dH V lf p o t d' = false := by
      intro n
      induction n with
      | zero =>
        intro d h1 _ h2
        obtain rfl : d = 0 := by omega
        exact ⟨0, Nat.le_refl _, h2, fun d' h => absurd h (Nat.not_lt_zero _)⟩
      | succ n ihn =>
        intro d h1 h3 h2
        by_cases q : ∃ d', d' < d ∧ dH V lf p o t d' = true
        · obtain ⟨d', q1, q2⟩ := q
          obtain ⟨d0, r1, r2, r3⟩ := ihn d' (by omega) (by omega) q2
          exact ⟨d0, by omega, r2, r3⟩
        · refine ⟨d, Nat.le_refl _, h2, fun d' h => ?_⟩
          cases hh : dH V lf p o t d'
          · rfl
          · exact absurd ⟨d', h, hh⟩ q
    rcases hs with ⟨s1, s2⟩ | ⟨b, s1, s2, s3, s4⟩
    · refine Or.inr ⟨fun d hd => ?_, s1⟩
      cases hh : dH V lf p o t d
      · rfl
      · obtain ⟨d0, r1, r2, r3⟩ := key d d (Nat.le_refl _) hd hh
        obtain ⟨j, hj, ej⟩ := hL.2.2 d0 (by omega) (least_in w hl hp (by omega) r2 r3)
        rw [s2 j d0 hj (by omega) ej] at r2
        cases r2
    · have s2 : s = nI b := s2
      refine Or.inl ⟨b, s1, s3, fun d' hd' => ?_, s2⟩
      cases hh : dH V lf p o t d'
      · rfl
      · obtain ⟨d0, r1, r2, r3⟩ := key d' d' (Nat.le_refl _) (by omega) hh
        obtain ⟨j, hj, ej⟩ := hL.2.2 d0 (by omega) (least_in w hl hp (by omega) r2 r3)
        have := s4 j d0 hj (by omega) ej r2
        omega
theorem q_day {M N : gM} {V : vV} {lf : Nat → Nat} (h : At M V lf) (hN : At N V lf) (x1 x2 x3 : Int32) : (s_X12_dayFor M x1 x2 x3 ∧ CV (f_X12_dayFor M x1 x2 x3).2 V lf) ∧ (s_X13_dayFor N x1 x2 x3 ∧ mV (f_X13_dayFor N x1 x2 x3).2 = V) ∧ (f_X12_dayFor M x1 x2 x3).1 = (f_X13_dayFor N x1 x2 x3).1 := by
  have h1 := hN.thr 0
  clear hN
  have w := h.2.2
  have h10 := w.P.2
  have h8 := w.T.2
  simp only [s_X12_dayFor, f_X12_dayFor, s_X13_dayFor, f_X13_dayFor, bnd, bndP, sX7_isP, fX7_isP h.c w, sX7_isT, fX7_isT h.c w]
  generalize wrI N 67 0 0 0 0 = M1 at *
  have fP := fun x => f_isP (M := M1) (by rw [h1.2.1]; exact w) x
  have fT := fun x => f_isT (M := M1) (by rw [h1.2.1]; exact w) x
  rw [h1.2.1] at fP fT
  have c := h.c
  have cM := h1.2.1
  simp only [s_isP, fP, s_isT, fT, true_and, bz_0]
  rcases isP_cases (x := x1) (n := vP V) (by omega) with e | ⟨p, hp, rfl, e⟩
  · simp only [e, if_true, true_and, and_true]; exact ⟨c, cM⟩
  · rcases isP_cases (x := x2) (n := vP V) (by omega) with e2 | ⟨o, ho, rfl, e2⟩
    · simp only [e, e2, Bool.true_eq_false, if_false, if_true, true_and, and_true]; exact ⟨c, cM⟩
    · by_cases z : nI p = nI o
      · simp only [e, e2, z, Bool.true_eq_false, if_false, if_true, true_and, and_true]; exact ⟨c, cM⟩
      · rcases isP_cases (x := x3) (n := vT V) (by omega) with e3 | ⟨t, ht, rfl, e3⟩
        · simp only [e, e2, e3, z, Bool.true_eq_false, if_false, if_true, true_and, and_true]; exact ⟨c, cM⟩
        · obtain ⟨a1, a2, a3⟩ := C_dayFor c w hp ho ht
          obtain ⟨b1, m, b2, b3⟩ := X13_days w cM
          obtain ⟨d1, d2, d3⟩ := M_dayFor (M := f_X13_laysDays M1) w h.F (by rw [mV_off (o_X13_laysDays M1) (by decide), cM]) hp ho ht b2 b3
          simp only [e, e2, e3, z, Bool.true_eq_false, if_false, a1, b1, d1, true_and]
          exact ⟨a3, d3, aLeast_u a2 d2⟩
end
