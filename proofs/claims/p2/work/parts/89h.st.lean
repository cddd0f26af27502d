-- EACH CALL, EACH SIDE ALONE; ONE STEP
set_option linter.all false
noncomputable section
-- ===== a sorting of the papers =====
theorem vl_irr {V : vV} (a : Nat) : vlater V a a = false := by
  unfold vlater
  rw [decide_eq_false_iff_not]
  rintro (h | h)
  · exact absurd h (Int32.lt_irrefl)
  · omega
theorem vl_tr {V : vV} {a b c : Nat} (h : vlater V a b = true) (k : vlater V b c = true) : vlater V a c = true := by
  unfold vlater at *
  rw [decide_eq_true_iff] at *
  rcases h with h | ⟨h, h'⟩
  · rcases k with k | ⟨k, k'⟩
    · exact Or.inl (Int32.lt_trans k h)
    · exact Or.inl (by rw [k]; exact h)
  · rcases k with k | ⟨k, k'⟩
    · exact Or.inl (by rw [← h]; exact k)
    · exact Or.inr ⟨k.trans h, by omega⟩
theorem vl_tot {V : vV} {a b : Nat} (h : a ≠ b) (k : vlater V a b = false) : vlater V b a = true := by
  unfold vlater at *
  rw [decide_eq_false_iff_not] at k
  rw [decide_eq_true_iff]
  rcases Int32.lt_or_le (V.1 (58 + 7 * a + 1)) (V.1 (58 + 7 * b + 1)) with q | q
  · exact Or.inl q
  · rcases Int32.lt_or_le (V.1 (58 + 7 * b + 1)) (V.1 (58 + 7 * a + 1)) with u | u
    · exact absurd (Or.inl u) k
    · have e := Int32.le_antisymm q u
      refine Or.inr ⟨e.symm, ?_⟩
      rcases Nat.lt_or_ge a b with z | z
      · exact z
      · exact absurd (Or.inr ⟨e, by omega⟩) k
def rk (V : vV) (k : Nat) : Nat := fb_ct (fun j => vlater V j k) (vA V)
theorem rk_lt {V : vV} {a b : Nat} (ha : a < vA V) (h : vlater V a b = true) : rk V a < rk V b := by
  have e1 := fb_ct_upd (fun j => vlater V j a) true (i := a) (n := vA V) ha
  have e2 : fb_ct (fun k => if k = a then true else vlater V k a) (vA V) ≤ fb_ct (fun j => vlater V j b) (vA V) := fb_ct_sub fun k hk q => by
    by_cases z : k = a
    · rw [z]; exact h
    · rw [if_neg z] at q
      exact vl_tr q h
  rw [vl_irr] at e1
  unfold rk
  simp only [Bool.false_eq_true, if_false, if_true] at e1
  omega
theorem rk_in {V : vV} {a : Nat} (ha : a < vA V) : rk V a < vA V := by
  rcases Nat.lt_or_ge (rk V a) (vA V) with q | q
  · exact q
  · have e : fb_ct (fun j => vlater V j a) (vA V) = vA V := Nat.le_antisymm (fb_ct_le _ _) q
    have := fb_ct_all.mp e a ha
    rw [vl_irr] at this
    cases this
theorem srt (V : vV) : ∃ (M0 : gM) (lf : Nat → Nat), cvF M0 V lf := by
  have inj : ∀ i j, i < j → j < vA V → rk V i ≠ rk V j := fun i j hij hj e => by
    cases q : vlater V i j
    · have := rk_lt hj (vl_tot (by omega) q)
      omega
    · have := rk_lt (show i < vA V by omega) q
      omega
  obtain ⟨lf, hlf⟩ := pick (P := fun y i => i < vA V ∧ rk V i = y) (L := vA V) fun y hy => by
    obtain ⟨i, hi, e⟩ := fb_onto (f := rk V) (fun i hi => rk_in hi) inj hy
    exact ⟨i, hi, e⟩
  refine ⟨(fun _ _ _ c => nI (lf c), fun _ _ _ _ => 0), lf, fun i hi => ⟨(hlf i hi).1, rfl⟩, fun i j hij hj => ?_⟩
  obtain ⟨a1, a2⟩ := hlf i (by omega)
  obtain ⟨b1, b2⟩ := hlf j hj
  cases q : vlater V (lf i) (lf j)
  · have ne : lf i ≠ lf j := fun e => by rw [e] at a2; omega
    have := rk_lt b1 (vl_tot ne q)
    omega
  · rfl
-- ===== what stands between two calls =====
theorem TBc.off {M N : gM} {L : Nat} {W : List Nat} (h : TBc M L) (o : offW W M N) (k : W.all (fun g => g != 0 && g != 3) = true) : TBc N L := by
  have n : ∀ g, (g = 0 ∨ g = 3) → g ∉ W := fun g hg q => by
    have := List.all_eq_true.mp k g q
    rcases hg with rfl | rfl <;> simp at this
  exact ⟨by rw [(o 0 0 0 0 (n 0 (by omega))).1]; exact h.1, fun i hi => by rw [(o 3 0 0 i (n 3 (by omega))).1]; exact h.2 i hi⟩
theorem Ci.off {M N : gM} {W : List Nat} (h : Ci M) (o : offW W M N) (k : W.all (fun g => (Nat.blt g 4 || Nat.blt 40 g) && (Nat.blt g 62 || Nat.blt 66 g)) = true) : Ci N := by
  obtain ⟨V, lf, n, x, E, R, c, w, ch, hs⟩ := h
  refine ⟨V, lf, n, x, E, R, c.off o ?_, w, ch.off o ?_, hs⟩
  · exact List.all_eq_true.mpr fun g hg => ((Bool.and_eq_true _ _).mp (List.all_eq_true.mp k g hg)).1
  · exact List.all_eq_true.mpr fun g hg => ((Bool.and_eq_true _ _).mp (List.all_eq_true.mp k g hg)).2
theorem Mi.q2 {m m' : gM} {W : List Nat} (h : Mi m) (e : mV m' = mV m) (o : offW W m m') (k : W.all (fun g => g != 69 && g != 94) = true) : Mi m' := by
  have n : ∀ g, (g = 69 ∨ g = 94) → g ∉ W := fun g hg q => by
    have := List.all_eq_true.mp k g q
    rcases hg with rfl | rfl <;> simp at this
  obtain ⟨w, N, R, ⟨h1, h2, h3⟩, hr⟩ := h
  have e92 : ∀ i, rdI m' 92 0 0 i = rdI m 92 0 0 i := fun i => congrFun (congrArg (fun V : vV => V.2.1) e) i
  exact ⟨by rw [e]; exact w, N, R, ⟨by rw [(o 69 0 0 0 (n 69 (by omega))).1]; exact h1, h2, fun j hj i => by rw [e92, (o 94 0 0 _ (n 94 (by omega))).1]; exact h3 j hj i⟩, by rw [e]; exact hr⟩
/-- all that is held -/
def I2 (M : gM) : Prop := Ci M ∧ Mi M ∧ ∃ L, L ≤ 1200 ∧ TBc M L ∧ TBm M L 0
theorem I2.c {M N : gM} {W : List Nat} (h : I2 M) (hN : Ci N) (o : offW W M N) (k : W.all (fun g => g != 0 && g != 3 && Nat.blt g 67) = true) : I2 N := by
  obtain ⟨-, h2, L, h3, h4, h5⟩ := h
  have kk : ∀ f : Nat → Bool, (∀ g, g ≠ 0 → g ≠ 3 → g < 67 → f g = true) → W.all f = true := fun f hf => List.all_eq_true.mpr fun g hg => by
    have := List.all_eq_true.mp k g hg
    simp only [Bool.and_eq_true, bne_iff_ne] at this
    exact hf g this.1.1 this.1.2 (Nat.le_of_ble_eq_true this.2)
  exact ⟨hN, h2.off o (kk _ fun g a b c => by simp; omega) (kk _ fun g a b c => by simp; omega), L, h3, h4.off o (kk _ fun g a b c => by simp; omega), h5.off o (kk _ fun g a b c => by simp; omega)⟩
theorem I2.m {M N : gM} {W : List Nat} (h : I2 M) (hN : Mi N) (o : offW W M N) (k : W.all (fun g => g != 68 && g != 87 && Nat.blt 66 g) = true) : I2 N := by
  obtain ⟨h1, -, L, h3, h4, h5⟩ := h
  have kk : ∀ f : Nat → Bool, (∀ g, g ≠ 68 → g ≠ 87 → 66 < g → f g = true) → W.all f = true := fun f hf => List.all_eq_true.mpr fun g hg => by
    have := List.all_eq_true.mp k g hg
    simp only [Bool.and_eq_true, bne_iff_ne] at this
    exact hf g this.1.1 this.1.2 (Nat.le_of_ble_eq_true this.2)
  have k2 : ∀ g, 66 < g → ((Nat.blt g 4 || Nat.blt 40 g) && (Nat.blt g 62 || Nat.blt 66 g)) = true := fun g hg => by
    rw [Bool.and_eq_true, Bool.or_eq_true, Bool.or_eq_true]
    exact ⟨Or.inr (Nat.ble_eq_true_of_le (by omega)), Or.inr (Nat.ble_eq_true_of_le (by omega))⟩
  exact ⟨h1.off o (kk _ fun g a b c => k2 g c), hN, L, h3, h4.off o (kk _ fun g a b c => by simp; omega), h5.off o (kk _ fun g a b c => by simp; omega)⟩
theorem Mi.am {M : gM} (h : Mi M) : ∃ M0 lf, Am M0 M (mV M) lf := by
  obtain ⟨M0, lf, f⟩ := srt (mV M)
  exact ⟨M0, lf, f, rfl, h.1⟩
theorem Ci.act {M : gM} {V : vV} {lf : Nat → Nat} {n x : Nat} {E : Nat → hE} {R : Nat → Nat → Int32} (w : WF V) (ch : CH M n x E) (hs : Hs V n E R) {z : Int32 × gM} {o : oT} (g : oG V o) (hz : oC z V lf n x E o) : Ci z.2 := by
  obtain ⟨a, o⟩ := o
  cases o with
  | none => exact ⟨V, lf, n, x, E, R, hz.2.1, w, hz.2.2, hs⟩
  | some r => exact ⟨rw2 V r.1, lf, up n, (x + 1) % 16, psh n E r.2, psh n R V.2.1, hz.2.1, g.1, hz.2.2, Hs_psh hs w ch.2.2.1 g.2⟩
theorem Mi.act {V : vV} {n : Nat} {R : Nat → Nat → Int32} (w : WF V) (hn : n ≤ 16) (hr : ∀ j, j < n → WF (rw2 V (R j))) {z : Int32 × gM} {o : oT} (g : oG V o) (hz : oM z V n R o) : Mi z.2 := by
  obtain ⟨a, o⟩ := o
  cases o with
  | none =>
    have e : mV z.2 = V := hz.2.1
    exact ⟨by rw [e]; exact w, n, R, hz.2.2, by rw [e]; exact hr⟩
  | some r =>
    have e : mV z.2 = rw2 V r.1 := hz.2.1
    refine ⟨by rw [e]; exact g.1, up n, psh n R V.2.1, hz.2.2, fun j hj => ?_⟩
    rw [e]
    show WF (rw2 V (psh n R V.2.1 j))
    unfold psh
    unfold up at hj
    by_cases q : n < 16
    · rw [if_pos q] at hj
      rw [if_pos q]
      by_cases y : j = n
      · rw [if_pos y]; exact w
      · rw [if_neg y]; exact hr j (by omega)
    · rw [if_neg q] at hj
      rw [if_neg q]
      by_cases y : j = 15
      · rw [if_pos y]; exact w
      · rw [if_neg y]; exact hr (j + 1) (by omega)

theorem kc_thing {M : gM} (h : Ci M) (x1 x2 : Int32) : s_X12_thing M x1 x2 := by
  obtain ⟨V, lf, n, x, E, R, c, w, ch, hs⟩ := h
  exact (qC_thio (lf := lf) ⟨c, trivial, w⟩ x1 x2).1
theorem km_thing {M : gM} (h : Mi M) (x1 x2 : Int32) : s_X13_thing M x1 x2 ∧ Mi (f_X13_thing M x1 x2).2 := by
  obtain ⟨M0, lf, am⟩ := h.am
  exact ⟨(qM_thio am x1 x2).1, h.off (o_X13_thing M x1 x2) (by decide) (by decide)⟩
theorem kc_land {M : gM} (h : Ci M) (x1 x2 : Int32) : s_X12_land M x1 x2 := by
  obtain ⟨V, lf, n, x, E, R, c, w, ch, hs⟩ := h
  exact (qC_lano (lf := lf) ⟨c, trivial, w⟩ x1 x2).1
theorem km_land {M : gM} (h : Mi M) (x1 x2 : Int32) : s_X13_land M x1 x2 ∧ Mi (f_X13_land M x1 x2).2 := by
  obtain ⟨M0, lf, am⟩ := h.am
  exact ⟨(qM_lano am x1 x2).1, h.off (o_X13_land M x1 x2) (by decide) (by decide)⟩
theorem kc_lose {M : gM} (h : Ci M) (x1 x2 : Int32) : s_X12_lose M x1 x2 ∧ Ci (f_X12_lose M x1 x2).2 := by
  obtain ⟨V, lf, n, x, E, R, c, w, ch, hs⟩ := h
  obtain ⟨c1, c2⟩ := C_los c w ch x1 x2
  exact ⟨c1, Ci.act w ch hs (G_los w x1 x2) c2⟩
theorem km_lose {M : gM} (h : Mi M) (x1 x2 : Int32) : s_X13_lose M x1 x2 ∧ Mi (f_X13_lose M x1 x2).2 := by
  obtain ⟨w, n, R, mh, hr⟩ := h
  obtain ⟨m1, m2⟩ := M_los rfl w mh x1 x2
  exact ⟨m1, Mi.act w mh.2.1 hr (G_los w x1 x2) m2⟩
theorem kc_find {M : gM} (h : Ci M) (x1 : Int32) : s_X12_find M x1 ∧ Ci (f_X12_find M x1).2 := by
  obtain ⟨V, lf, n, x, E, R, c, w, ch, hs⟩ := h
  obtain ⟨c1, c2⟩ := C_fin c w ch x1
  exact ⟨c1, Ci.act w ch hs (G_fin w x1) c2⟩
theorem km_find {M : gM} (h : Mi M) (x1 : Int32) : s_X13_find M x1 ∧ Mi (f_X13_find M x1).2 := by
  obtain ⟨w, n, R, mh, hr⟩ := h
  obtain ⟨m1, m2⟩ := M_fin rfl w mh x1
  exact ⟨m1, Mi.act w mh.2.1 hr (G_fin w x1) m2⟩
theorem kc_copy {M : gM} (h : Ci M) (x1 : Int32) : s_X12_copy M x1 ∧ Ci (f_X12_copy M x1).2 := by
  obtain ⟨V, lf, n, x, E, R, c, w, ch, hs⟩ := h
  obtain ⟨c1, c2⟩ := C_cop c w ch x1
  exact ⟨c1, Ci.act w ch hs (G_cop w x1) c2⟩
theorem km_copy {M : gM} (h : Mi M) (x1 : Int32) : s_X13_copy M x1 ∧ Mi (f_X13_copy M x1).2 := by
  obtain ⟨w, n, R, mh, hr⟩ := h
  obtain ⟨m1, m2⟩ := M_cop rfl w mh x1
  exact ⟨m1, Mi.act w mh.2.1 hr (G_cop w x1) m2⟩
theorem kc_witness {M : gM} (h : Ci M) (x1 x2 : Int32) : s_X12_witness M x1 x2 ∧ Ci (f_X12_witness M x1 x2).2 := by
  obtain ⟨V, lf, n, x, E, R, c, w, ch, hs⟩ := h
  obtain ⟨c1, c2⟩ := C_wit c w ch x1 x2
  exact ⟨c1, Ci.act w ch hs (G_wit w x1 x2) c2⟩
theorem km_witness {M : gM} (h : Mi M) (x1 x2 : Int32) : s_X13_witness M x1 x2 ∧ Mi (f_X13_witness M x1 x2).2 := by
  obtain ⟨w, n, R, mh, hr⟩ := h
  obtain ⟨m1, m2⟩ := M_wit rfl w mh x1 x2
  exact ⟨m1, Mi.act w mh.2.1 hr (G_wit w x1 x2) m2⟩
theorem kc_wed {M : gM} (h : Ci M) (x1 x2 x3 : Int32) : s_X12_wed M x1 x2 x3 ∧ Ci (f_X12_wed M x1 x2 x3).2 := by
  obtain ⟨V, lf, n, x, E, R, c, w, ch, hs⟩ := h
  obtain ⟨c1, c2⟩ := C_wed c w ch x1 x2 x3
  exact ⟨c1, Ci.act w ch hs (G_wed w x1 x2 x3) c2⟩
theorem km_wed {M : gM} (h : Mi M) (x1 x2 x3 : Int32) : s_X13_wed M x1 x2 x3 ∧ Mi (f_X13_wed M x1 x2 x3).2 := by
  obtain ⟨w, n, R, mh, hr⟩ := h
  obtain ⟨m1, m2⟩ := M_wed rfl w mh x1 x2 x3
  exact ⟨m1, Mi.act w mh.2.1 hr (G_wed w x1 x2 x3) m2⟩
theorem kc_dies {M : gM} (h : Ci M) (x1 x2 : Int32) : s_X12_dies M x1 x2 ∧ Ci (f_X12_dies M x1 x2).2 := by
  obtain ⟨V, lf, n, x, E, R, c, w, ch, hs⟩ := h
  obtain ⟨c1, c2⟩ := C_die c w ch x1 x2
  exact ⟨c1, Ci.act w ch hs (G_die w x1 x2) c2⟩
theorem km_dies {M : gM} (h : Mi M) (x1 x2 : Int32) : s_X13_dies M x1 x2 ∧ Mi (f_X13_dies M x1 x2).2 := by
  obtain ⟨w, n, R, mh, hr⟩ := h
  obtain ⟨m1, m2⟩ := M_die rfl w mh x1 x2
  exact ⟨m1, Mi.act w mh.2.1 hr (G_die w x1 x2) m2⟩
theorem kc_takeBack {M : gM} (h : Ci M) (x1 : Int32) : s_X12_takeBack M x1 ∧ Ci (f_X12_takeBack M x1).2 := by
  obtain ⟨V, lf, n, x, E, R, c, w, ch, hs⟩ := h
  obtain ⟨c1, c2⟩ := C_tkb c w ch x1
  exact ⟨c1, Ci.act w ch hs (G_tkb w x1) c2⟩
theorem km_takeBack {M : gM} (h : Mi M) (x1 : Int32) : s_X13_takeBack M x1 ∧ Mi (f_X13_takeBack M x1).2 := by
  obtain ⟨w, n, R, mh, hr⟩ := h
  obtain ⟨m1, m2⟩ := M_tkb rfl w mh x1
  exact ⟨m1, Mi.act w mh.2.1 hr (G_tkb w x1) m2⟩
theorem kc_form {M : gM} (h : Ci M) (x1 x2 : Int32) : s_X12_form M x1 x2 := by
  obtain ⟨V, lf, n, x, E, R, c, w, ch, hs⟩ := h
  exact (qC_formo (lf := lf) ⟨c, trivial, w⟩ x1 x2).1
theorem km_form {M : gM} (h : Mi M) (x1 x2 : Int32) : s_X13_form M x1 x2 ∧ Mi (f_X13_form M x1 x2).2 := by
  obtain ⟨M0, lf, am⟩ := h.am
  exact ⟨(qM_formo am x1 x2).1, h.off (o_X13_form M x1 x2) (by decide) (by decide)⟩
theorem kc_why {M : gM} (h : Ci M) (x1 x2 : Int32) : s_X12_why M x1 x2 ∧ Ci (f_X12_why M x1 x2).2 := by
  have h' := h.off (o_X12_why M x1 x2) (by decide)
  obtain ⟨V, lf, n, x, E, R, c, w, ch, hs⟩ := h
  exact ⟨(qC_whyo (lf := lf) ⟨c, trivial, w⟩ x1 x2).1, h'⟩
theorem km_why {M : gM} (h : Mi M) (x1 x2 : Int32) : s_X13_why M x1 x2 ∧ Mi (f_X13_why M x1 x2).2 := by
  obtain ⟨M0, lf, am⟩ := h.am
  exact ⟨(qM_whyo am x1 x2).1, h.off (o_X13_why M x1 x2) (by decide) (by decide)⟩
theorem kc_struckBy {M : gM} (h : Ci M) (x1 x2 : Int32) : s_X12_struckBy M x1 x2 ∧ Ci (f_X12_struckBy M x1 x2).2 := by
  have h' := h.off (o_X12_struckBy M x1 x2) (by decide)
  obtain ⟨V, lf, n, x, E, R, c, w, ch, hs⟩ := h
  exact ⟨(qC_sbyo (lf := lf) ⟨c, trivial, w⟩ x1 x2).1, h'⟩
theorem km_struckBy {M : gM} (h : Mi M) (x1 x2 : Int32) : s_X13_struckBy M x1 x2 ∧ Mi (f_X13_struckBy M x1 x2).2 := by
  obtain ⟨M0, lf, am⟩ := h.am
  exact ⟨(qM_sbyo am x1 x2).1, h.off (o_X13_struckBy M x1 x2) (by decide) (by decide)⟩
theorem kc_counting {M : gM} (h : Ci M) (x1 x2 x3 : Int32) : s_X12_counting M x1 x2 x3 ∧ Ci (f_X12_counting M x1 x2 x3).2 := by
  have h' := h.off (o_X12_counting M x1 x2 x3) (by decide)
  obtain ⟨V, lf, n, x, E, R, c, w, ch, hs⟩ := h
  exact ⟨(qC_cnto (lf := lf) ⟨c, trivial, w⟩ x1 x2 x3).1, h'⟩
theorem km_counting {M : gM} (h : Mi M) (x1 x2 x3 : Int32) : s_X13_counting M x1 x2 x3 ∧ Mi (f_X13_counting M x1 x2 x3).2 := by
  obtain ⟨M0, lf, am⟩ := h.am
  exact ⟨(qM_cnto am x1 x2 x3).1, h.off (o_X13_counting M x1 x2 x3) (by decide) (by decide)⟩
theorem kc_taker {M : gM} (h : Ci M) (x1 x2 : Int32) : s_X12_taker M x1 x2 ∧ Ci (f_X12_taker M x1 x2).2 := by
  have h' := h.off (o_X12_taker M x1 x2) (by decide)
  obtain ⟨V, lf, n, x, E, R, c, w, ch, hs⟩ := h
  exact ⟨(qC_tako (lf := lf) ⟨c, trivial, w⟩ x1 x2).1.1, h'⟩
theorem km_taker {M : gM} (h : Mi M) (x1 x2 : Int32) : s_X13_taker M x1 x2 ∧ Mi (f_X13_taker M x1 x2).2 := by
  obtain ⟨M0, lf, am⟩ := h.am
  exact ⟨(qM_tako am x1 x2).1.1, h.off (o_X13_taker M x1 x2) (by decide) (by decide)⟩
theorem kc_takerBy {M : gM} (h : Ci M) (x1 x2 : Int32) : s_X12_takerBy M x1 x2 ∧ Ci (f_X12_takerBy M x1 x2).2 := by
  have h' := h.off (o_X12_takerBy M x1 x2) (by decide)
  obtain ⟨V, lf, n, x, E, R, c, w, ch, hs⟩ := h
  exact ⟨(qC_tako (lf := lf) ⟨c, trivial, w⟩ x1 x2).2.1, h'⟩
theorem km_takerBy_ {M : gM} (h : Mi M) (x1 x2 : Int32) : s_X13_takerBy_ M x1 x2 ∧ Mi (f_X13_takerBy_ M x1 x2).2 := by
  obtain ⟨M0, lf, am⟩ := h.am
  exact ⟨(qM_tako am x1 x2).2.1, h.off (o_X13_takerBy_ M x1 x2) (by decide) (by decide)⟩
theorem kc_heirs {M : gM} (h : Ci M) (x1 : Int32) : s_X12_heirs M x1 := by
  obtain ⟨V, lf, n, x, E, R, c, w, ch, hs⟩ := h
  exact (qC_heirso (lf := lf) ⟨c, trivial, w⟩ x1).1
theorem km_heirs {M : gM} (h : Mi M) (x1 : Int32) : s_X13_heirs M x1 ∧ Mi (f_X13_heirs M x1).2 := by
  obtain ⟨M0, lf, am⟩ := h.am
  exact ⟨(qM_heirso am x1).1, h.off (o_X13_heirs M x1) (by decide) (by decide)⟩
theorem kc_has {M : gM} (h : Ci M) (x1 x2 x3 x4 : Int32) : s_X12_has M x1 x2 x3 x4 ∧ Ci (f_X12_has M x1 x2 x3 x4).2 := by
  have h' := h.off (o_X12_has M x1 x2 x3 x4) (by decide)
  obtain ⟨V, lf, n, x, E, R, c, w, ch, hs⟩ := h
  exact ⟨(qC_haso (lf := lf) ⟨c, trivial, w⟩ x1 x2 x3 x4).1, h'⟩
theorem km_has_ {M : gM} (h : Mi M) (x1 x2 x3 x4 : Int32) : s_X13_has_ M x1 x2 x3 x4 ∧ Mi (f_X13_has_ M x1 x2 x3 x4).2 := by
  obtain ⟨M0, lf, am⟩ := h.am
  exact ⟨(qM_haso am x1 x2 x3 x4).1, h.off (o_X13_has_ M x1 x2 x3 x4) (by decide) (by decide)⟩
theorem kc_holders {M : gM} (h : Ci M) (x1 x2 : Int32) : s_X12_holders M x1 x2 ∧ Ci (f_X12_holders M x1 x2).2 := by
  have h' := h.off (o_X12_holders M x1 x2) (by decide)
  obtain ⟨V, lf, n, x, E, R, c, w, ch, hs⟩ := h
  exact ⟨(qC_holo (lf := lf) ⟨c, trivial, w⟩ x1 x2).1, h'⟩
theorem km_holders {M : gM} (h : Mi M) (x1 x2 : Int32) : s_X13_holders M x1 x2 ∧ Mi (f_X13_holders M x1 x2).2 := by
  obtain ⟨M0, lf, am⟩ := h.am
  exact ⟨(qM_holo am x1 x2).1, h.off (o_X13_holders M x1 x2) (by decide) (by decide)⟩
theorem kc_wealth {M : gM} (h : Ci M) (x1 : Int32) : s_X12_wealth M x1 ∧ Ci (f_X12_wealth M x1).2 := by
  have h' := h.off (o_X12_wealth M x1) (by decide)
  obtain ⟨V, lf, n, x, E, R, c, w, ch, hs⟩ := h
  exact ⟨(qC_weao (lf := lf) ⟨c, trivial, w⟩ x1).1, h'⟩
theorem km_wealth {M : gM} (h : Mi M) (x1 : Int32) : s_X13_wealth M x1 ∧ Mi (f_X13_wealth M x1).2 := by
  obtain ⟨M0, lf, am⟩ := h.am
  exact ⟨(qM_weao am x1).1, h.off (o_X13_wealth M x1) (by decide) (by decide)⟩
theorem kc_ever {M : gM} (h : Ci M) (x1 : Int32) : s_X12_ever M x1 ∧ Ci (f_X12_ever M x1).2 := by
  have h' := h.off (o_X12_ever M x1) (by decide)
  obtain ⟨V, lf, n, x, E, R, c, w, ch, hs⟩ := h
  exact ⟨(qC_eveo (lf := lf) ⟨c, trivial, w⟩ x1).1, h'⟩
theorem km_ever {M : gM} (h : Mi M) (x1 : Int32) : s_X13_ever M x1 ∧ Mi (f_X13_ever M x1).2 := by
  obtain ⟨M0, lf, am⟩ := h.am
  exact ⟨(qM_eveo am x1).1, h.off (o_X13_ever M x1) (by decide) (by decide)⟩
theorem kc_gain {M : gM} (h : Ci M) (x1 x2 : Int32) : s_X12_gain M x1 x2 ∧ Ci (f_X12_gain M x1 x2).2 := by
  obtain ⟨V, lf, n, x, E, R, c, w, ch, hs⟩ := h
  obtain ⟨c1, -, c3⟩ := qC_gaio (lf := lf) ⟨c, trivial, w⟩ x1 x2
  exact ⟨c1, V, lf, n, x, E, R, c3, w, ch.off (o_X12_gain M x1 x2) (by decide), hs⟩
theorem km_gain {M : gM} (h : Mi M) (x1 x2 : Int32) : s_X13_gain M x1 x2 ∧ Mi (f_X13_gain M x1 x2).2 := by
  obtain ⟨M0, lf, am⟩ := h.am
  obtain ⟨m1, -, m3⟩ := qM_gaio am x1 x2
  exact ⟨m1, h.q2 m3 (o_X13_gain M x1 x2) (by decide)⟩
theorem kc_against {M : gM} (h : Ci M) (x1 x2 : Int32) : s_X12_against M x1 x2 ∧ Ci (f_X12_against M x1 x2).2 := by
  obtain ⟨V, lf, n, x, E, R, c, w, ch, hs⟩ := h
  obtain ⟨c1, -, c3⟩ := qC_agao (lf := lf) ⟨c, trivial, w⟩ x1 x2
  exact ⟨c1, V, lf, n, x, E, R, c3, w, ch.off (o_X12_against M x1 x2) (by decide), hs⟩
theorem km_against {M : gM} (h : Mi M) (x1 x2 : Int32) : s_X13_against M x1 x2 ∧ Mi (f_X13_against M x1 x2).2 := by
  obtain ⟨M0, lf, am⟩ := h.am
  obtain ⟨m1, -, m3⟩ := qM_agao am x1 x2
  exact ⟨m1, h.q2 m3 (o_X13_against M x1 x2) (by decide)⟩
theorem kc_key {M : gM} (h : Ci M) (x1 : Int32) : s_X12_key M x1 ∧ Ci (f_X12_key M x1).2 := by
  obtain ⟨V, lf, n, x, E, R, c, w, ch, hs⟩ := h
  obtain ⟨c1, -, c3⟩ := qC_keyo (lf := lf) ⟨c, trivial, w⟩ x1
  exact ⟨c1, V, lf, n, x, E, R, c3, w, ch.off (o_X12_key M x1) (by decide), hs⟩
theorem km_key {M : gM} (h : Mi M) (x1 : Int32) : s_X13_key M x1 ∧ Mi (f_X13_key M x1).2 := by
  obtain ⟨M0, lf, am⟩ := h.am
  obtain ⟨m1, -, m3⟩ := qM_keyo am x1
  exact ⟨m1, h.q2 m3 (o_X13_key M x1) (by decide)⟩
theorem kc_wouldPaper {M : gM} (h : Ci M) (x1 x2 x3 : Int32) : s_X12_wouldPaper M x1 x2 x3 ∧ Ci (f_X12_wouldPaper M x1 x2 x3).2 := by
  obtain ⟨V, lf, n, x, E, R, c, w, ch, hs⟩ := h
  obtain ⟨c1, -, c3⟩ := qC_wpao (lf := lf) ⟨c, trivial, w⟩ x1 x2 x3
  exact ⟨c1, V, lf, n, x, E, R, c3, w, ch.off (o_X12_wouldPaper M x1 x2 x3) (by decide), hs⟩
theorem km_wouldPaper {M : gM} (h : Mi M) (x1 x2 x3 : Int32) : s_X13_wouldPaper M x1 x2 x3 ∧ Mi (f_X13_wouldPaper M x1 x2 x3).2 := by
  obtain ⟨M0, lf, am⟩ := h.am
  obtain ⟨m1, -, m3⟩ := qM_wpao am x1 x2 x3
  exact ⟨m1, h.q2 m3 (o_X13_wouldPaper M x1 x2 x3) (by decide)⟩
theorem kc_wouldDie {M : gM} (h : Ci M) (x1 x2 x3 : Int32) : s_X12_wouldDie M x1 x2 x3 ∧ Ci (f_X12_wouldDie M x1 x2 x3).2 := by
  obtain ⟨V, lf, n, x, E, R, c, w, ch, hs⟩ := h
  obtain ⟨c1, -, c3⟩ := qC_wdio (lf := lf) ⟨c, trivial, w⟩ x1 x2 x3
  exact ⟨c1, V, lf, n, x, E, R, c3, w, ch.off (o_X12_wouldDie M x1 x2 x3) (by decide), hs⟩
theorem km_wouldDie {M : gM} (h : Mi M) (x1 x2 x3 : Int32) : s_X13_wouldDie M x1 x2 x3 ∧ Mi (f_X13_wouldDie M x1 x2 x3).2 := by
  obtain ⟨M0, lf, am⟩ := h.am
  obtain ⟨m1, -, m3⟩ := qM_wdio am x1 x2 x3
  exact ⟨m1, h.q2 m3 (o_X13_wouldDie M x1 x2 x3) (by decide)⟩
theorem kc_dayFor {M : gM} (h : Ci M) (x1 x2 x3 : Int32) : s_X12_dayFor M x1 x2 x3 ∧ Ci (f_X12_dayFor M x1 x2 x3).2 := by
  obtain ⟨V, lf, n, x, E, R, c, w, ch, hs⟩ := h
  obtain ⟨c1, c3⟩ := qC_dayo (lf := lf) ⟨c, trivial, w⟩ x1 x2 x3
  exact ⟨c1, V, lf, n, x, E, R, c3, w, ch.off (o_X12_dayFor M x1 x2 x3) (by decide), hs⟩
theorem km_dayFor {M : gM} (h : Mi M) (x1 x2 x3 : Int32) : s_X13_dayFor M x1 x2 x3 ∧ Mi (f_X13_dayFor M x1 x2 x3).2 := by
  obtain ⟨M0, lf, am⟩ := h.am
  obtain ⟨m1, m3⟩ := qM_dayo am x1 x2 x3
  exact ⟨m1, h.q2 m3 (o_X13_dayFor M x1 x2 x3) (by decide)⟩
theorem kc_margin {M : gM} (h : Ci M) (x1 : Int32) : s_X12_margin M x1 := by
  obtain ⟨V, lf, n, x, E, R, c, w, ch, hs⟩ := h
  exact (qC_maro (lf := lf) ⟨c, trivial, w⟩ x1).1
theorem km_margin {M : gM} (h : Mi M) (x1 : Int32) : s_X13_margin M x1 ∧ Mi (f_X13_margin M x1).2 := by
  obtain ⟨M0, lf, am⟩ := h.am
  exact ⟨(qM_maro am x1).1, h.off (o_X13_margin M x1) (by decide) (by decide)⟩
theorem kc_death {M : gM} (h : Ci M) (x1 x2 : Int32) : s_X12_death M x1 x2 ∧ Ci (f_X12_death M x1 x2).2 := by
  have h' := h.off (o_X12_death M x1 x2) (by decide)
  obtain ⟨V, lf, n, x, E, R, c, w, ch, hs⟩ := h
  exact ⟨(qC_deao (lf := lf) ⟨c, trivial, w⟩ x1 x2).1, h'⟩
theorem km_death {M : gM} (h : Mi M) (x1 x2 : Int32) : s_X13_death M x1 x2 ∧ Mi (f_X13_death M x1 x2).2 := by
  obtain ⟨M0, lf, am⟩ := h.am
  exact ⟨(qM_deao am x1 x2).1, h.off (o_X13_death M x1 x2) (by decide) (by decide)⟩
theorem kc_moves {M : gM} (h : Ci M) (x1 x2 : Int32) : s_X12_moves M x1 x2 ∧ Ci (f_X12_moves M x1 x2).2 := by
  have h' := h.off (o_X12_moves M x1 x2) (by decide)
  obtain ⟨V, lf, n, x, E, R, c, w, ch, hs⟩ := h
  exact ⟨(qC_movo (lf := lf) ⟨c, trivial, w⟩ x1 x2).1, h'⟩
theorem km_moves {M : gM} (h : Mi M) (x1 x2 : Int32) : s_X13_moves M x1 x2 ∧ Mi (f_X13_moves M x1 x2).2 := by
  obtain ⟨M0, lf, am⟩ := h.am
  exact ⟨(qM_movo am x1 x2).1, h.off (o_X13_moves M x1 x2) (by decide) (by decide)⟩
theorem kc_kin {M : gM} (h : Ci M) (x1 x2 : Int32) : s_X12_kin M x1 x2 := by
  obtain ⟨V, lf, n, x, E, R, c, w, ch, hs⟩ := h
  exact (qC_kino (lf := lf) ⟨c, trivial, w⟩ x1 x2).1
theorem km_kin {M : gM} (h : Mi M) (x1 x2 : Int32) : s_X13_kin M x1 x2 ∧ Mi (f_X13_kin M x1 x2).2 := by
  obtain ⟨M0, lf, am⟩ := h.am
  exact ⟨(qM_kino am x1 x2).1, h.off (o_X13_kin M x1 x2) (by decide) (by decide)⟩
theorem kc_naming {M : gM} (h : Ci M) (x1 x2 : Int32) : s_X12_naming M x1 x2 := by
  obtain ⟨V, lf, n, x, E, R, c, w, ch, hs⟩ := h
  exact (qC_namo (lf := lf) ⟨c, trivial, w⟩ x1 x2).1
theorem km_naming {M : gM} (h : Mi M) (x1 x2 : Int32) : s_X13_naming M x1 x2 ∧ Mi (f_X13_naming M x1 x2).2 := by
  obtain ⟨M0, lf, am⟩ := h.am
  exact ⟨(qM_namo am x1 x2).1, h.off (o_X13_naming M x1 x2) (by decide) (by decide)⟩
theorem kc_sees {M : gM} (h : Ci M) (x1 x2 x3 : Int32) : s_X12_sees M x1 x2 x3 := by
  obtain ⟨V, lf, n, x, E, R, c, w, ch, hs⟩ := h
  exact (qC_seeo (lf := lf) ⟨c, trivial, w⟩ x1 x2 x3).1
theorem km_sees {M : gM} (h : Mi M) (x1 x2 x3 : Int32) : s_X13_sees M x1 x2 x3 ∧ Mi (f_X13_sees M x1 x2 x3).2 := by
  obtain ⟨M0, lf, am⟩ := h.am
  exact ⟨(qM_seeo am x1 x2 x3).1, h.off (o_X13_sees M x1 x2 x3) (by decide) (by decide)⟩
theorem kc_give {M : gM} (h : Ci M) (x1 x2 x3 : Int32) : s_X12_give M x1 x2 x3 := by
  obtain ⟨V, lf, n, x, E, R, c, w, ch, hs⟩ := h
  exact (qC_givo (lf := lf) ⟨c, trivial, w⟩ x1 x2 x3).1
theorem km_give {M : gM} (h : Mi M) (x1 x2 x3 : Int32) : s_X13_give M x1 x2 x3 ∧ Mi (f_X13_give M x1 x2 x3).2 := by
  obtain ⟨M0, lf, am⟩ := h.am
  exact ⟨(qM_givo am x1 x2 x3).1, h.off (o_X13_give M x1 x2 x3) (by decide) (by decide)⟩
theorem kc_count {M : gM} (h : Ci M) (x1 : Int32) : s_X12_count M x1 := by
  obtain ⟨V, lf, n, x, E, R, c, w, ch, hs⟩ := h
  exact (qC_couo (lf := lf) ⟨c, trivial, w⟩ x1).1
theorem km_count {M : gM} (h : Mi M) (x1 : Int32) : s_X13_count M x1 ∧ Mi (f_X13_count M x1).2 := by
  obtain ⟨M0, lf, am⟩ := h.am
  exact ⟨(qM_couo am x1).1, h.off (o_X13_count M x1) (by decide) (by decide)⟩
theorem kc_undo {M : gM} (h : Ci M) : s_X12_undo M ∧ Ci (f_X12_undo M).2 := by
  obtain ⟨V, lf, n, x, E, R, c, w, ch, hs⟩ := h
  cases n with
  | zero =>
    obtain ⟨a1, a2⟩ := C_und0 ch
    rw [a2]
    exact ⟨a1, V, lf, 0, x, E, R, c, w, ch, hs⟩
  | succ n =>
    obtain ⟨w0, s0⟩ := hs n (by omega)
    rw [if_pos rfl] at s0
    obtain ⟨a1, -, a3, a4⟩ := C_undo c w ch w0 s0
    refine ⟨a1, rw2 V (R n), lf, n, (x + 15) % 16, E, R, a3, w0, a4, fun j hj => ?_⟩
    obtain ⟨w1, s1⟩ := hs j (by omega)
    refine ⟨w1, ?_⟩
    rw [if_neg (by omega)] at s1
    by_cases z : j + 1 = n
    · rw [if_pos z]
      subst z
      exact s1
    · rw [if_neg z]
      exact s1
theorem km_undo {M : gM} (h : Mi M) : s_X13_undo M ∧ Mi (f_X13_undo M).2 := by
  obtain ⟨w, n, R, mh, hr⟩ := id h
  cases n with
  | zero =>
    obtain ⟨a1, a2⟩ := M_und0 mh
    rw [a2]
    exact ⟨a1, h.off (W := [67]) (offR.wI (by decide)) (by decide) (by decide)⟩
  | succ n =>
    obtain ⟨a1, -, a3, a4⟩ := M_undo rfl mh
    exact ⟨a1, by rw [a3]; exact hr n (by omega), n, R, a4, by rw [a3]; exact fun j hj => hr j (by omega)⟩
theorem kc_person {M : gM} (h : Ci M) (x1 x2 : Int32) : s_X12_person M x1 x2 := by
  obtain ⟨V, lf, n, x, E, R, c, w, ch, hs⟩ := h
  exact (qC_pero (lf := lf) ⟨c, trivial, w⟩ x1 x2).1
theorem km_person {M : gM} (h : Mi M) (x1 x2 : Int32) : s_X13_person M x1 x2 ∧ Mi (f_X13_person M x1 x2).2 := by
  obtain ⟨M0, lf, am⟩ := h.am
  exact ⟨(qM_pero am x1 x2).1, h.off (o_X13_person M x1 x2) (by decide) (by decide)⟩
theorem kc_paper {M : gM} (h : Ci M) (x1 x2 : Int32) : s_X12_paper M x1 x2 := by
  obtain ⟨V, lf, n, x, E, R, c, w, ch, hs⟩ := h
  exact (qC_papo (lf := lf) ⟨c, trivial, w⟩ x1 x2).1
theorem km_paper {M : gM} (h : Mi M) (x1 x2 : Int32) : s_X13_paper M x1 x2 ∧ Mi (f_X13_paper M x1 x2).2 := by
  obtain ⟨M0, lf, am⟩ := h.am
  exact ⟨(qM_papo am x1 x2).1, h.off (o_X13_paper M x1 x2) (by decide) (by decide)⟩
end
