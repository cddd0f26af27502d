set_option linter.all false
noncomputable section
-- ===== where tokens begin =====
def en (T : Nat → Nat) (l p : Nat) : Nat := if dg (T p) = true then ru dg T l p else if lt (T p) = true then ru lt T l p else p + 1
def st (T : Nat → Nat) (l : Nat) : Nat → Nat
  | 0 => ru bl T l 0
  | i + 1 => if st T l i < l then ru bl T l (en T l (st T l i)) else st T l i
theorem ru_gt {P : Nat → Bool} {T : Nat → Nat} {l p : Nat} (h : p < l) (hp : P (T p) = true) : p < ru P T l p := by
  obtain ⟨a1, a2, a3, a4⟩ := ru_in (P := P) (T := T) (show p ≤ l by omega)
  rcases Nat.lt_or_ge p (ru P T l p) with q | q
  · exact q
  · have e : ru P T l p = p := by omega
    have := a4 (by omega)
    rw [e, hp] at this
    cases this
theorem en_in {T : Nat → Nat} {l p : Nat} (h : p < l) : p < en T l p ∧ en T l p ≤ l := by
  unfold en
  by_cases a : dg (T p) = true
  · rw [if_pos a]
    exact ⟨ru_gt h a, (ru_in (by omega)).2.1⟩
  · rw [if_neg a]
    by_cases b : lt (T p) = true
    · rw [if_pos b]
      exact ⟨ru_gt h b, (ru_in (by omega)).2.1⟩
    · rw [if_neg b]; omega
theorem st_le {T : Nat → Nat} {l : Nat} : ∀ i, st T l i ≤ l := by
  intro i
  induction i with
  | zero => exact (ru_in (Nat.zero_le _)).2.1
  | succ i ih =>
    rw [st]
    by_cases h : st T l i < l
    · rw [if_pos h]; exact (ru_in (en_in h).2).2.1
    · rw [if_neg h]; exact ih
theorem st_up {T : Nat → Nat} {l i : Nat} (h : st T l i < l) : st T l i < st T l (i + 1) := by
  have a := en_in (T := T) h
  have b := (ru_in (P := bl) (T := T) a.2).1
  rw [st, if_pos h]
  omega
theorem st_num {T : Nat → Nat} {l : Nat} : ∀ k, (∃ c, c ≤ k ∧ st T l c = l ∧ ∀ i, i < c → st T l i < l) ∨ ∀ i, i ≤ k → st T l i < l ∧ i ≤ st T l i := by
  intro k
  have one : ∀ c, (∀ i, i < c → st T l i < l) → st T l c = l ∨ st T l c < l := fun c _ => by have := st_le (T := T) (l := l) c; omega
  induction k with
  | zero =>
    rcases one 0 (fun i hi => absurd hi (Nat.not_lt_zero i)) with a | a
    · exact Or.inl ⟨0, Nat.le_refl _, a, fun i hi => absurd hi (Nat.not_lt_zero i)⟩
    · refine Or.inr fun i hi => ?_
      obtain rfl : i = 0 := by omega
      exact ⟨a, Nat.zero_le _⟩
  | succ k ih =>
    rcases ih with ⟨c, h1, h2, h3⟩ | h
    · exact Or.inl ⟨c, by omega, h2, h3⟩
    · rcases one (k + 1) (fun i hi => (h i (by omega)).1) with a | a
      · exact Or.inl ⟨k + 1, Nat.le_refl _, a, fun i hi => (h i (by omega)).1⟩
      · refine Or.inr fun i hi => ?_
        by_cases e : i = k + 1
        · subst e
          have := st_up (h k (by omega)).1
          have := (h k (by omega)).2
          exact ⟨a, by omega⟩
        · exact h i (by omega)
theorem st_cnt (T : Nat → Nat) (l : Nat) : ∃ c, c ≤ l ∧ st T l c = l ∧ ∀ i, i < c → st T l i < l := by
  rcases st_num (T := T) (l := l) l with h | h
  · exact h
  · have := h l (Nat.le_refl _)
    omega
def tK (T : Nat → Nat) (l p : Nat) : Nat := if p < l then (if dg (T p) = true then 22 else if lt (T p) = true then wkd T p (ru lt T l p - p) else if T p = 59 then 23 else 24) else 25
def tV (T : Nat → Nat) (l p : Nat) : Int32 := if p < l then (if dg (T p) = true then nvC T p (ru dg T l p - p) else if lt (T p) = true then (if wkd T p (ru lt T l p - p) = 21 then c27 T p (ru lt T l p - p) else 0) else 0) else 0
def ent (M : gM) (T : Nat → Nat) (l i : Nat) : Prop := rdI M 44 0 0 i = nI (tK T l (st T l i)) ∧ rdI M 45 0 0 i = nI (st T l i) ∧ rdI M 46 0 0 i = tV T l (st T l i)
/-- the class's tokens -/
def TKc (M : gM) (T : Nat → Nat) (l c : Nat) : Prop := rdI M 41 0 0 0 = nI c ∧ c ≤ 1200 ∧ st T l c = l ∧ (∀ i, i < c → st T l i < l) ∧ ∀ i, i ≤ c → ent M T l i
theorem ent.keep {M N : gM} {T : Nat → Nat} {l i : Nat} (h : ent M T l i) (k : ∀ g, (g = 44 ∨ g = 45 ∨ g = 46) → rdI N g 0 0 i = rdI M g 0 0 i) : ent N T l i := by
  unfold ent at h ⊢
  rw [k 44 (by omega), k 45 (by omega), k 46 (by omega)]
  exact h
theorem C_nxt {X : gM} {T : Nat → Nat} {l k : Nat} (tp : TPc X T l) (hk : st T l k < l) (h43 : rdI X 43 0 0 0 = nI (en T l (st T l k))) (h41 : rdI X 41 0 0 0 = nI k) (h : ∀ i, i ≤ k → ent X T l i) (f : Nat) :
    ∃ s', (s_X11_cutTape_155 X (s_X11_cutTape_25 f) ↔ s_X11_cutTape_25 f s') ∧ f_X11_cutTape_155 X (f_X11_cutTape_25 f) = f_X11_cutTape_25 f s' ∧ TPc s' T l ∧ rdI s' 43 0 0 0 = nI (st T l (k + 1)) ∧ rdI s' 41 0 0 0 = nI (k + 1) ∧ ∀ i, i < k + 1 → ent s' T l i := by
  have en1 := en_in (T := T) hk
  obtain ⟨a1, a2⟩ := C_skip (M := wrI X 41 0 0 0 (nI (k + 1))) (p := en T l (st T l k)) (tp.wr (by omega)) (by rw [rwN (by decide)]; exact h43) en1.2
  simp only [s_X11_cutTape_155, f_X11_cutTape_155, bnd, bndP, h41, p1, a1, a2, true_and]
  refine ⟨_, Iff.rfl, rfl, (tp.wr (by omega)).wr (by omega), ?_, ?_, fun i hi => ?_⟩
  · rw [rwS, st, if_pos hk]
  · rw [rwN (by decide), rwS]
  · exact (h i (by omega)).keep (fun g hg => by rw [rwN (by omega), rwN (by omega)])
theorem C_end {s : gM} {T : Nat → Nat} {l c : Nat} (tp : TPc s T l) (hc : st T l c = l) (hl : c ≤ l) (h41 : rdI s 41 0 0 0 = nI c) (h : ∀ i, i < c → ent s T l i) (hs : ∀ i, i < c → st T l i < l) : s_X11_cutTape_172 s ∧ (TPc (f_X11_cutTape_172 s) T l ∧ TKc (f_X11_cutTape_172 s) T l c) := by
  have h2 := tp.2.1
  have i41 : vp_in (nI c) 1201 := vpi (by omega)
  simp only [s_X11_cutTape_172, f_X11_cutTape_172, bnd, bndP, h41, i41, nn_nI (show c < 2 ^ 31 by omega), rwN (show (41 : Nat) ≠ 44 by decide), rwN (show (41 : Nat) ≠ 45 by decide), rwN (show (42 : Nat) ≠ 44 by decide), tp.1, true_and]
  refine ⟨((tp.wr (by omega)).wr (by omega)).wr (by omega), ?_, by omega, hc, hs, fun i hi => ?_⟩
  · rw [rwN (by decide), rwN (by decide), rwN (by decide)]; exact h41
  · by_cases e : i = c
    · subst e
      refine ⟨?_, ?_, ?_⟩
      · rw [rwN (by decide), rwN (by decide), rwS, hc, tK, if_neg (by omega)]
      · rw [rwN (by decide), rwS, hc]
      · rw [rwS, hc, tV, if_neg (by omega)]
    · exact (h i (by omega)).keep (fun g hg => by rw [rwI, if_neg (by omega), rwI, if_neg (by omega), rwI, if_neg (by omega)])
theorem C_cut {M : gM} {T : Nat → Nat} {l : Nat} (hl : l ≤ 1200) (ht : ∀ i, i < l → T i < 256 ∧ rdI M 3 0 0 i = nB (nI (T i))) : s_X11_cutTape M (nI l) ∧ ∃ c, TPc (f_X11_cutTape M (nI l)) T l ∧ TKc (f_X11_cutTape M (nI l)) T l c := by
  obtain ⟨c, hc1, hc2, hc3⟩ := st_cnt T l
  have m : mn (nI l) 1200 = nI l := by
    show (if (1200 : Int32) < nI l then (1200 : Int32) else nI l) = nI l
    have g : ¬ (1200 : Int32) < nI l := i_nlt.mpr (nI_le (b := 1200) hl (by omega))
    rw [if_neg g]
  have tp0 : TPc (wrI (wrI (wrI M 42 0 0 0 (nI l)) 43 0 0 0 0) 41 0 0 0 0) T l := by
    refine TPc.wr (TPc.wr ⟨rwS, hl, fun i hi => ⟨(ht i hi).1, ?_⟩⟩ (by omega)) (by omega)
    rw [rwN (by decide)]; exact (ht i hi).2
  obtain ⟨a1, a2⟩ := C_skip tp0 (p := 0) (by rw [rwN (by decide), rwS]; rfl) (Nat.zero_le _)
  simp only [s_X11_cutTape, f_X11_cutTape, bnd, bndP, m, a1, a2, true_and]
  have tp1 : TPc (wrI (wrI (wrI (wrI M 42 0 0 0 (nI l)) 43 0 0 0 0) 41 0 0 0 0) 43 0 0 0 (nI (ru bl T l 0))) T l := tp0.wr (by omega)
  have i43 : rdI (wrI (wrI (wrI (wrI M 42 0 0 0 (nI l)) 43 0 0 0 0) 41 0 0 0 0) 43 0 0 0 (nI (ru bl T l 0))) 43 0 0 0 = nI (st T l 0) := rwS
  have i41 : rdI (wrI (wrI (wrI (wrI M 42 0 0 0 (nI l)) 43 0 0 0 0) 41 0 0 0 0) 43 0 0 0 (nI (ru bl T l 0))) 41 0 0 0 = nI 0 := by rw [rwN (by decide), rwS]; rfl
  generalize wrI (wrI (wrI (wrI M 42 0 0 0 (nI l)) 43 0 0 0 0) 41 0 0 0 0) 43 0 0 0 (nI (ru bl T l 0)) = M5 at *
  have key : s_X11_cutTape_25 FU M5 ∧ (TPc (f_X11_cutTape_25 FU M5) T l ∧ TKc (f_X11_cutTape_25 FU M5) T l c) := by
    refine lp (fun f _ (s : gM) => f_X11_cutTape_25 f s) (fun f _ s => s_X11_cutTape_25 f s) (fun k s => TPc s T l ∧ rdI s 43 0 0 0 = nI (st T l k) ∧ rdI s 41 0 0 0 = nI k ∧ ∀ i, i < k → ent s T l i) (fun z => TPc z T l ∧ TKc z T l c) c ?_ ?_ FU 0 M5 (Nat.zero_le _) (by rw [FU_eq]; omega) ⟨tp1, i43, i41, fun i hi => absurd hi (Nat.not_lt_zero i)⟩
    · rintro f k s hk ⟨tp, h43, h41, he⟩ ih
      have hst := hc3 k hk
      obtain ⟨t1, t2, t3⟩ := id tp
      obtain ⟨b1, b2⟩ := t3 _ hst
      have g : ¬ (1200 : Int32) ≤ nI k := nI_ge (a := k) (b := 1200) (by omega) (by omega)
      have j41 : vp_in (nI k) 1201 := vpi (by omega)
      have j12 : vp_in (nI (st T l k)) 1200 := vpi (by omega)
      have tpK : TPc (wrI (wrI s 45 0 0 k (nI (st T l k))) 46 0 0 k 0) T l := (tp.wr (by omega)).wr (by omega)
      have k41 : rdI (wrI (wrI s 45 0 0 k (nI (st T l k))) 46 0 0 k 0) 41 0 0 0 = nI k := by rw [rwN (by decide), rwN (by decide)]; exact h41
      have k43 : rdI (wrI (wrI s 45 0 0 k (nI (st T l k))) 46 0 0 k 0) 43 0 0 0 = nI (st T l k) := by rw [rwN (by decide), rwN (by decide)]; exact h43
      have k45 : rdI (wrI (wrI s 45 0 0 k (nI (st T l k))) 46 0 0 k 0) 45 0 0 k = nI (st T l k) := by rw [rwN (by decide), rwS]
      have k46 : rdI (wrI (wrI s 45 0 0 k (nI (st T l k))) 46 0 0 k 0) 46 0 0 k = 0 := rwS
      have k3 : rdI (wrI (wrI s 45 0 0 k (nI (st T l k))) 46 0 0 k 0) 3 0 0 (st T l k) = nB (nI (T (st T l k))) := (tpK.2.2 _ hst).2
      have ke : ∀ i, i < k → ent (wrI (wrI s 45 0 0 k (nI (st T l k))) 46 0 0 k 0) T l i := fun i hi => (he i hi).keep (fun g hg => by rw [rwI, if_neg (by omega), rwI, if_neg (by omega)])
      simp only [s_X11_cutTape_25, f_X11_cutTape_25, bnd, bndP, t1, h43, if_neg (nI_ge hst (by omega)), h41, if_neg g, j41, nn_nI (show k < 2 ^ 31 by omega), rwN (show (41 : Nat) ≠ 45 by decide), true_and]
      generalize wrI (wrI s 45 0 0 k (nI (st T l k))) 46 0 0 k 0 = K at *
      obtain ⟨n1, n2⟩ := dg_c (M := K) b1
      obtain ⟨n3, n4⟩ := lt_c (M := K) b1
      obtain ⟨-, -, n5⟩ := nB10 _ b1
      have go : ∀ X, TPc X T l → rdI X 43 0 0 0 = nI (en T l (st T l k)) → rdI X 41 0 0 0 = nI k → (∀ i, i ≤ k → ent X T l i) → s_X11_cutTape_155 X (s_X11_cutTape_25 f) ∧ (TPc (f_X11_cutTape_155 X (f_X11_cutTape_25 f)) T l ∧ TKc (f_X11_cutTape_155 X (f_X11_cutTape_25 f)) T l c) := by
        intro X x1 x2 x3 x4
        obtain ⟨s', y1, y2, y3, y4, y5, y6⟩ := C_nxt x1 hst x2 x3 x4 f
        have := ih s' ⟨y3, y4, y5, y6⟩
        rw [y2]
        exact ⟨y1.mpr this.1, this.2⟩
      simp only [k43, k41, nn_nI (show st T l k < 2 ^ 31 by omega), k3, n1, n2, n3, n4, n5, bz_0, j12, true_and]
      cases hd : dg (T (st T l k))
      · simp only [if_true]
        cases ha : lt (T (st T l k))
        · simp only [if_true]
          have oth : ∀ y, y < 26 → y = tK T l (st T l k) → s_X11_cutTape_144 K (nI k) y (s_X11_cutTape_25 f) ∧ (TPc (f_X11_cutTape_144 K (nI k) y (f_X11_cutTape_25 f)) T l ∧ TKc (f_X11_cutTape_144 K (nI k) y (f_X11_cutTape_25 f)) T l c) := by
            intro y hy ey
            have r43 : rdI (wrI K 44 0 0 k (nI y)) 43 0 0 0 = nI (st T l k) := by rw [rwN (by decide)]; exact k43
            simp only [s_X11_cutTape_144, f_X11_cutTape_144, bnd, bndP, j41, hy, nn_nI (show k < 2 ^ 31 by omega), r43, p1, true_and]
            refine go _ ((tpK.wr (by omega)).wr (by omega)) ?_ ?_ fun i hi => ?_
            · rw [rwS, en, hd, ha, if_neg (by decide), if_neg (by decide)]
            · rw [rwN (by decide), rwN (by decide)]; exact k41
            · by_cases e : i = k
              · subst e
                refine ⟨?_, ?_, ?_⟩
                · rw [rwN (by decide), rwS, ey]
                · rw [rwN (by decide), rwN (by decide)]; exact k45
                · rw [rwN (by decide), rwN (by decide), k46, tV, if_pos hst, hd, ha, if_neg (by decide), if_neg (by decide)]
              · exact (ke i (by omega)).keep (fun g hg => by rw [rwI, if_neg (by omega), rwI, if_neg (by omega)])
          by_cases z : T (st T l k) = 59
          · rw [if_pos z, if_pos z]
            exact oth 23 (by omega) (by rw [tK, if_pos hst, hd, ha, if_neg (by decide), if_neg (by decide), if_pos z])
          · rw [if_neg z, if_neg z]
            exact oth 24 (by omega) (by rw [tK, if_pos hst, hd, ha, if_neg (by decide), if_neg (by decide), if_neg z])
        · simp only [Bool.true_eq_false, if_false]
          obtain ⟨w1, w2⟩ := C_word tpK k43 k41 k46 (by omega) hst ha
          simp only [w1, w2, true_and]
          refine go _ (((tpK.wr (by omega)).wr (by omega)).wr (by omega)) ?_ ?_ fun i hi => ?_
          · rw [rwN (by decide), rwN (by decide), rwS, en, hd, ha, if_neg (by decide), if_pos rfl]
          · rw [rwN (by decide), rwN (by decide), rwN (by decide)]; exact k41
          · by_cases e : i = k
            · subst e
              refine ⟨?_, ?_, ?_⟩
              · rw [rwN (by decide), rwS, tK, if_pos hst, hd, ha, if_neg (by decide), if_pos rfl]
              · rw [rwN (by decide), rwN (by decide), rwN (by decide)]; exact k45
              · rw [rwS, tV, if_pos hst, hd, ha, if_neg (show ¬ false = true by decide), if_pos (show true = true from rfl)]
            · exact (ke i (by omega)).keep (fun g hg => by rw [rwI, if_neg (by omega), rwI, if_neg (by omega), rwI, if_neg (by omega)])
      · simp only [Bool.true_eq_false, if_false]
        obtain ⟨w1, w2⟩ := C_num tpK k43 k41 (by omega) (by omega)
        simp only [w1, w2, true_and]
        refine go _ (((tpK.wr (by omega)).wr (by omega)).wr (by omega)) ?_ ?_ fun i hi => ?_
        · rw [rwN (by decide), rwN (by decide), rwS, en, hd, if_pos rfl]
        · rw [rwN (by decide), rwN (by decide), rwN (by decide)]; exact k41
        · by_cases e : i = k
          · subst e
            refine ⟨?_, ?_, ?_⟩
            · rw [rwN (by decide), rwS, tK, if_pos hst, hd, if_pos rfl]
            · rw [rwN (by decide), rwN (by decide), rwN (by decide)]; exact k45
            · rw [rwS, tV, if_pos hst, hd, if_pos rfl]
          · exact (ke i (by omega)).keep (fun g hg => by rw [rwI, if_neg (by omega), rwI, if_neg (by omega), rwI, if_neg (by omega)])
    · rintro f s ⟨tp, h43, h41, he⟩
      simp only [s_X11_cutTape_25, f_X11_cutTape_25, tp.1, h43, hc2, if_pos (nI_le (Nat.le_refl l) (by omega))]
      exact C_end tp hc2 hc1 h41 he hc3
  exact ⟨key.1, c, key.2⟩
end
