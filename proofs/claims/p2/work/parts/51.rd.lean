set_option linter.all false
noncomputable section
/-- the reference's tape -/
def TPm (M : gM) (T : Nat → Nat) (l : Nat) : Prop := rdI M 70 0 0 0 = nI l ∧ l ≤ 1200 ∧ ∀ i, i < l → T i < 256 ∧ rdI M 87 0 0 i = nI (T i)
theorem TPm.wr {M : gM} {T : Nat → Nat} {l : Nat} (h : TPm M T l) {g a b c : Nat} {v : Int32} (k : g ≠ 70 ∧ g ≠ 87) : TPm (wrI M g a b c v) T l := by
  obtain ⟨h1, h2, h3⟩ := h
  exact ⟨by rw [rwN (fun z => k.1 z.symm)]; exact h1, h2, fun i hi => ⟨(h3 i hi).1, by rw [rwN (fun z => k.2 z.symm)]; exact (h3 i hi).2⟩⟩
def hr (T : Nat → Nat) (l k : Nat) : Int32 := if k < l then nI (T k) else -1
theorem M_here {M : gM} {T : Nat → Nat} {l k : Nat} (tp : TPm M T l) (h : rdI M 71 0 0 0 = nI k) (hk : k ≤ l) : s_X13_here M ∧ f_X13_here M = hr T l k := by
  obtain ⟨t1, t2, t3⟩ := tp
  simp only [s_X13_here, f_X13_here, t1, h, hr]
  by_cases z : k < l
  · have i12 : vp_in (nI k) 1200 := vpi (by omega)
    simp only [if_neg (nI_ge z (by omega)), nn_nI (show k < 2 ^ 31 by omega), (t3 k z).2, z, if_true, i12, true_and]
  · simp only [if_pos (nI_le (show l ≤ k by omega) (by omega)), z, if_false, true_and]
theorem m_dg : ∀ b, b < 256 → (if nI b < 48 then (0 : Int32) else if 57 < nI b then 0 else 1) = bz (dg b) := by decide +kernel
theorem m_lt : ∀ b, b < 256 → (if nI b < 97 then (0 : Int32) else if 122 < nI b then 0 else 1) = bz (lt b) := by decide +kernel
theorem m_ch : ∀ b, b < 256 → (nI b = 10 ↔ b = 10) ∧ (nI b = 32 ↔ b = 32) ∧ (nI b = 59 ↔ b = 59) ∧ nI b ≠ -1 := by decide +kernel
def hdg (T : Nat → Nat) (l k : Nat) : Bool := decide (k < l) && dg (T k)
def hlt (T : Nat → Nat) (l k : Nat) : Bool := decide (k < l) && lt (T k)
theorem s_dig {M : gM} {x : Int32} : s_X13_isDigit M x := by
  unfold s_X13_isDigit s_X13_isDigit_16
  repeat' split
  all_goals trivial
theorem s_sma {M : gM} {x : Int32} : s_X13_isSmall M x := by
  unfold s_X13_isSmall s_X13_isSmall_16
  repeat' split
  all_goals trivial
theorem f_dig {M : gM} {T : Nat → Nat} {l k : Nat} (h : ∀ i, i < l → T i < 256) : f_X13_isDigit M (hr T l k) = bz (hdg T l k) := by
  simp only [f_X13_isDigit, f_X13_isDigit_16, hdg]
  by_cases z : k < l
  · have e : hr T l k = nI (T k) := if_pos z
    rw [decide_eq_true z, Bool.true_and]
    generalize hr T l k = x at *
    subst e
    exact m_dg _ (h k z)
  · have e : hr T l k = -1 := if_neg z
    rw [decide_eq_false z]
    generalize hr T l k = x at *
    subst e
    rw [Bool.false_and]
    decide
theorem f_sma {M : gM} {T : Nat → Nat} {l k : Nat} (h : ∀ i, i < l → T i < 256) : f_X13_isSmall M (hr T l k) = bz (hlt T l k) := by
  simp only [f_X13_isSmall, f_X13_isSmall_16, hlt]
  by_cases z : k < l
  · have e : hr T l k = nI (T k) := if_pos z
    rw [decide_eq_true z, Bool.true_and]
    generalize hr T l k = x at *
    subst e
    exact m_lt _ (h k z)
  · have e : hr T l k = -1 := if_neg z
    rw [decide_eq_false z]
    generalize hr T l k = x at *
    subst e
    rw [Bool.false_and]
    decide
theorem hr_ch {T : Nat → Nat} {l k : Nat} (h : ∀ i, i < l → T i < 256) : (hr T l k = 10 ↔ k < l ∧ T k = 10) ∧ (hr T l k = 32 ↔ k < l ∧ T k = 32) ∧ (hr T l k = 59 ↔ k < l ∧ T k = 59) ∧ (hr T l k = -1 ↔ ¬ k < l) := by
  unfold hr
  by_cases z : k < l
  · rw [if_pos z]
    obtain ⟨a1, a2, a3, a4⟩ := m_ch _ (h k z)
    simp [z, a1, a2, a3, a4]
  · rw [if_neg z]
    simp [z]
-- ===== the known words in their row =====
def wo (j : Nat) : Nat := ([0, 5, 12, 18, 22, 28, 34, 39, 44, 48, 55, 60, 65, 70, 78, 86, 91, 94, 101, 104, 109, 116] : List Nat).getD j 0
theorem wo_ok : ∀ j, j < 21 → wo (j + 1) = wo j + strL j + 1 ∧ wo j + strL j < 116 ∧ strB 22 (wo j + strL j) = 32 ∧ ∀ k, k < strL j → strB 22 (wo j + k) = strB j k ∧ strB j k ≠ 32 := by decide +kernel
theorem sL22 : strL 22 = 116 := by decide
theorem M_97 {M : gM} {j : Nat} (hj : j < 21) {k4 : Int32 → Int32 → Int32} {q4 : Int32 → Int32 → Prop} (hq : q4 (nI (j + 1)) (nI (wo (j + 1)))) : s_X13_wordHere_97 M (nI j) q4 FU (nI (wo j)) ∧ f_X13_wordHere_97 M (nI j) k4 FU (nI (wo j)) = k4 (nI (j + 1)) (nI (wo (j + 1))) := by
  obtain ⟨w1, w2, w3, w4⟩ := wo_ok j hj
  refine lp (fun f x (s : Unit) => f_X13_wordHere_97 M (nI j) k4 f (nI x)) (fun f x s => s_X13_wordHere_97 M (nI j) q4 f (nI x)) (fun x s => wo j ≤ x) (fun z => z = k4 (nI (j + 1)) (nI (wo (j + 1)))) (wo j + strL j) ?_ ?_ FU (wo j) () (by omega) (by rw [FU_eq]; omega) (Nat.le_refl _)
  · intro f x s hx hI ih
    obtain ⟨c1, c2⟩ := f_char (M := M) (w := 22) (k := x) (by omega) (by rw [sL22]; omega)
    obtain ⟨v1, v2⟩ := w4 (x - wo j) (by omega)
    rw [show wo j + (x - wo j) = x by omega] at v1
    have ne : ¬ strB 22 x = 32 := by rw [v1]; exact v2
    simp only [s_X13_wordHere_97, f_X13_wordHere_97, c1, c2, if_neg ne, p1, true_and]
    exact ih () (by omega)
  · intro f s hI
    obtain ⟨c1, c2⟩ := f_char (M := M) (w := 22) (k := wo j + strL j) (by omega) (by rw [sL22]; omega)
    simp only [s_X13_wordHere_97, f_X13_wordHere_97, c1, c2, w3, if_true, p1, true_and]
    rw [← w1]
    exact ⟨hq, rfl⟩
theorem M_15 {M : gM} {T : Nat → Nat} {l p e j : Nat} (tp : TPm M T l) (h71 : rdI M 71 0 0 0 = nI e) (h72 : rdI M 72 0 0 0 = nI p) (hpe : p ≤ e) (he : e ≤ l) (hj : j < 21) {k4 : Int32 → Int32 → Int32} {q4 : Int32 → Int32 → Prop} (hq : mtb T j p (e - p) = false → q4 (nI (j + 1)) (nI (wo (j + 1)))) :
    s_X13_wordHere_15 M (nI j) (nI (wo j)) q4 FU 0 ∧ f_X13_wordHere_15 M (nI j) (nI (wo j)) k4 FU 0 = if mtb T j p (e - p) = true then nI j else k4 (nI (j + 1)) (nI (wo (j + 1))) := by
  obtain ⟨t1, t2, t3⟩ := tp
  obtain ⟨w1, w2, w3, w4⟩ := wo_ok j hj
  have neg : ∀ x, x < strL j → mtb T j p (e - p) = false → s_X13_wordHere_69 M (nI j) (nI (wo j)) (nI x) q4 ∧ f_X13_wordHere_69 M (nI j) (nI (wo j)) (nI x) k4 = if mtb T j p (e - p) = true then nI j else k4 (nI (j + 1)) (nI (wo (j + 1))) := by
    intro x hx hm
    obtain ⟨c1, c2⟩ := f_char (M := M) (w := 22) (k := wo j + x) (by omega) (by rw [sL22]; omega)
    obtain ⟨v1, v2⟩ := w4 x hx
    have ne : ¬ strB 22 (wo j + x) = 32 := by rw [v1]; exact v2
    obtain ⟨d1, d2⟩ := M_97 (M := M) hj (k4 := k4) (hq hm)
    simp only [s_X13_wordHere_69, f_X13_wordHere_69, nI_add, c1, c2, if_neg ne, d1, d2, hm, Bool.false_eq_true, if_false, true_and]
  refine lp (fun f x (s : Unit) => f_X13_wordHere_15 M (nI j) (nI (wo j)) k4 f (nI x)) (fun f x s => s_X13_wordHere_15 M (nI j) (nI (wo j)) q4 f (nI x)) (fun x s => x ≤ e - p ∧ ∀ i, i < x → strB j i = nI (T (p + i))) (fun z => z = if mtb T j p (e - p) = true then nI j else k4 (nI (j + 1)) (nI (wo (j + 1)))) (strL j) ?_ ?_ FU 0 () (Nat.zero_le _) (by rw [FU_eq]; omega) ⟨Nat.zero_le _, fun i hi => absurd hi (Nat.not_lt_zero i)⟩
  · rintro f x s hx ⟨hxe, hI⟩ ih
    obtain ⟨c1, c2⟩ := f_char (M := M) (w := 22) (k := wo j + x) (by omega) (by rw [sL22]; omega)
    obtain ⟨v1, v2⟩ := w4 x hx
    have ne : ¬ strB 22 (wo j + x) = 32 := by rw [v1]; exact v2
    simp only [s_X13_wordHere_15, f_X13_wordHere_15, nI_add, c1, c2, if_neg ne, h71, h72, p1, true_and]
    by_cases y : x < e - p
    · have i12 : vp_in (nI (p + x)) 1200 := vpi (by omega)
      simp only [if_neg (nI_ge (show p + x < e by omega) (by omega)), nn_nI (show p + x < 2 ^ 31 by omega), (t3 (p + x) (by omega)).2, i12, v1, true_and]
      by_cases u : nI (T (p + x)) = strB j x
      · rw [if_pos u, if_pos u]
        exact ih () ⟨by omega, fun i hi => by
          by_cases q : i = x
          · rw [q]; exact u.symm
          · exact hI i (by omega)⟩
      · rw [if_neg u, if_neg u]
        exact neg x hx (decide_eq_false fun q => u (q.2 x y).symm)
    · simp only [if_pos (nI_le (show e ≤ p + x by omega) (by omega))]
      exact neg x hx (decide_eq_false fun q => by have := q.1; omega)
  · rintro f s ⟨hxe, hI⟩
    obtain ⟨c1, c2⟩ := f_char (M := M) (w := 22) (k := wo j + strL j) (by omega) (by rw [sL22]; omega)
    simp only [s_X13_wordHere_15, f_X13_wordHere_15, s_X13_wordHere_69, f_X13_wordHere_69, nI_add, c1, c2, w3, if_true, h71, h72, true_and]
    by_cases y : strL j = e - p
    · have m : mtb T j p (e - p) = true := decide_eq_true ⟨y, fun k hk => hI k (by omega)⟩
      have y2 : nI (p + strL j) = nI e := by rw [show p + strL j = e by omega]
      simp only [if_pos y2, m, if_true, true_and]
    · have m : mtb T j p (e - p) = false := decide_eq_false fun q => y q.1
      have y2 : ¬ nI (p + strL j) = nI e := fun q => y (by
        have := congrArg nn q
        rw [nn_nI (by omega), nn_nI (by omega)] at this
        omega)
      obtain ⟨d1, d2⟩ := M_97 (M := M) hj (k4 := k4) (hq m)
      simp only [if_neg y2, m, Bool.false_eq_true, if_false]
      exact ⟨d1, d2⟩
theorem M_word {M : gM} {T : Nat → Nat} {l p e : Nat} (tp : TPm M T l) (h71 : rdI M 71 0 0 0 = nI e) (h72 : rdI M 72 0 0 0 = nI p) (hpe : p ≤ e) (he : e ≤ l) :
    s_X13_wordHere M ∧ f_X13_wordHere M = if wix T p (e - p) < 21 then nI (wix T p (e - p)) else -1 := by
  unfold s_X13_wordHere f_X13_wordHere
  refine lp (fun f x (s : Unit) => f_X13_wordHere_4 M f (nI x) (nI (wo x))) (fun f x s => s_X13_wordHere_4 M f (nI x) (nI (wo x))) (fun x s => wix T p (e - p) = wfr T p (e - p) (21 - x) x) (fun z => z = if wix T p (e - p) < 21 then nI (wix T p (e - p)) else -1) 21 ?_ ?_ FU 0 () (Nat.zero_le _) (by rw [FU_eq]; omega) rfl
  · intro f x s hx hI ih
    obtain ⟨w1, w2, w3, w4⟩ := wo_ok x hx
    have g : ¬ nI (strL 22) ≤ nI (wo x) := nI_ge (by rw [sL22]; omega) (by decide)
    rw [show 21 - x = (21 - (x + 1)) + 1 by omega, wfr] at hI
    cases y : mtb T x p (e - p)
    · rw [y, if_neg (by decide)] at hI
      have := ih () hI
      obtain ⟨a1, a2⟩ := M_15 tp h71 h72 hpe he hx (k4 := f_X13_wordHere_4 M f) (q4 := s_X13_wordHere_4 M f) (fun _ => this.1)
      simp only [s_X13_wordHere_4, f_X13_wordHere_4, f_len (M := M) (show 22 < 23 by omega), s_len, if_neg g, a1, a2, y, Bool.false_eq_true, if_false, true_and]
      exact this.2
    · rw [y, if_pos rfl] at hI
      obtain ⟨a1, a2⟩ := M_15 tp h71 h72 hpe he hx (k4 := f_X13_wordHere_4 M f) (q4 := s_X13_wordHere_4 M f) (fun z => by rw [y] at z; cases z)
      simp only [s_X13_wordHere_4, f_X13_wordHere_4, f_len (M := M) (show 22 < 23 by omega), s_len, if_neg g, a1, a2, y, if_true, true_and]
      rw [hI, if_pos hx]
  · intro f s hI
    have g : nI (strL 22) ≤ nI (wo 21) := by decide
    have e21 : wix T p (e - p) = 21 := hI
    simp only [s_X13_wordHere_4, f_X13_wordHere_4, f_len (M := M) (show 22 < 23 by omega), s_len, if_pos g, e21, true_and]
    rw [if_neg (by omega)]
def c32 (T : Nat → Nat) (p : Nat) : Nat → Int32
  | 0 => 0
  | k + 1 => (c32 T p k <<< (5 &&& 31)) ||| ((nI (T (p + k)) - 97) + 1)
def nvM (T : Nat → Nat) (p : Nat) : Nat → Int32
  | 0 => 0
  | k + 1 => if nvM T p k ≤ 99999 then ((10 * nvM T p k) + nI (T (p + k))) - 48 else nvM T p k
/-- what the reference holds of the token that begins at q -/
def mKd (M : gM) (T : Nat → Nat) (l q : Nat) : Prop :=
  if q < l then (if dg (T q) = true then rdI M 73 0 0 0 = 1 ∧ rdI M 74 0 0 0 = nvM T q (ru dg T l q - q)
    else if lt (T q) = true then (if wix T q (ru lt T l q - q) < 21 then rdI M 73 0 0 0 = 0 ∧ rdI M 74 0 0 0 = nI (wix T q (ru lt T l q - q)) else if ru lt T l q - q ≤ 5 then rdI M 73 0 0 0 = 0 ∧ rdI M 74 0 0 0 = -1 ∧ rdI M 75 0 0 0 = c32 T q (ru lt T l q - q) else rdI M 73 0 0 0 = 4)
    else if T q = 59 then rdI M 73 0 0 0 = 2 else rdI M 73 0 0 0 = 4) else rdI M 73 0 0 0 = 3
def mTok (M : gM) (T : Nat → Nat) (l q : Nat) : Prop := TPm M T l ∧ rdI M 71 0 0 0 = nI (if q < l then en T l q else q) ∧ rdI M 72 0 0 0 = nI q ∧ q ≤ l ∧ mKd M T l q
theorem mTok.w75 {M : gM} {T : Nat → Nat} {l q : Nat} (h : mTok M T l q) : q ≤ l := h.2.2.2.1
theorem M_tnum {M : gM} {T : Nat → Nat} {l q : Nat} (tp : TPm M T l) (hq : q < l) (hd : dg (T q) = true) (h71 : rdI M 71 0 0 0 = nI q) (h72 : rdI M 72 0 0 0 = nI q) (h73 : rdI M 73 0 0 0 = 1) (h74 : rdI M 74 0 0 0 = 0) : s_X13_token_183 FU M ∧ mTok (f_X13_token_183 FU M) T l q := by
  obtain ⟨e1, e2, e3, e4⟩ := ru_in (P := dg) (T := T) (show q ≤ l by omega)
  have hl := tp.2.1
  have tb : ∀ i, i < l → T i < 256 := fun i hi => (tp.2.2 i hi).1
  refine lp (fun f _ (s : gM) => f_X13_token_183 f s) (fun f _ s => s_X13_token_183 f s) (fun k s => q ≤ k ∧ TPm s T l ∧ rdI s 71 0 0 0 = nI k ∧ rdI s 72 0 0 0 = nI q ∧ rdI s 73 0 0 0 = 1 ∧ rdI s 74 0 0 0 = nvM T q (k - q)) (fun z => mTok z T l q) (ru dg T l q) ?_ ?_ FU q M e1 (by rw [FU_eq]; omega) ⟨Nat.le_refl _, tp, h71, h72, h73, by rw [Nat.sub_self]; exact h74⟩
  · rintro f k s hk ⟨hqk, ts, r1, r2, r3, r4⟩ ih
    have kl : k < l := by omega
    obtain ⟨a1, a2⟩ := M_here ts r1 (by omega)
    have pk := e3 k hqk hk
    have hh : hdg T l k = true := by unfold hdg; rw [decide_eq_true kl, pk]; rfl
    have hv : hr T l k = nI (T k) := if_pos kl
    have nx : nvM T q (k + 1 - q) = if nvM T q (k - q) ≤ 99999 then ((10 * nvM T q (k - q)) + nI (T k)) - 48 else nvM T q (k - q) := by
      rw [show k + 1 - q = (k - q) + 1 by omega, nvM, show q + (k - q) = k by omega]
    simp only [s_X13_token_183, f_X13_token_183, s_X13_token_225, f_X13_token_225, bnd, bndP, a1, a2, s_dig, f_dig tb, hh, bz_t, if_neg (show ¬ (1 : Int32) = 0 by decide), r4, rwN (show (71 : Nat) ≠ 74 by decide), r1, p1, true_and]
    rw [hv]
    by_cases y : nvM T q (k - q) ≤ 99999
    · rw [if_pos y] at nx
      simp only [if_pos y]
      refine ih _ ⟨by omega, (ts.wr (by omega)).wr (by omega), rwS, ?_, ?_, ?_⟩
      · rw [rwN (by decide), rwN (by decide)]; exact r2
      · rw [rwN (by decide), rwN (by decide)]; exact r3
      · rw [rwN (by decide), rwS, nx]
    · rw [if_neg y] at nx
      simp only [if_neg y]
      refine ih _ ⟨by omega, (ts.wr (by omega)).wr (by omega), rwS, ?_, ?_, ?_⟩
      · rw [rwN (by decide), rwN (by decide)]; exact r2
      · rw [rwN (by decide), rwN (by decide)]; exact r3
      · rw [rwN (by decide), rwS, nx]
  · rintro f s ⟨hqk, ts, r1, r2, r3, r4⟩
    obtain ⟨a1, a2⟩ := M_here ts r1 e2
    have hh : hdg T l (ru dg T l q) = false := by
      unfold hdg
      by_cases y : ru dg T l q < l
      · rw [e4 y, Bool.and_false]
      · rw [decide_eq_false y]; rfl
    simp only [s_X13_token_183, f_X13_token_183, a1, a2, s_dig, f_dig tb, hh, bz_f, if_true, true_and]
    refine ⟨ts, ?_, r2, by omega, ?_⟩
    · rw [r1, if_pos hq, en, if_pos hd]
    · unfold mKd
      rw [if_pos hq, if_pos hd]
      exact ⟨r3, r4⟩
theorem M_twrd {M : gM} {T : Nat → Nat} {l q : Nat} (tp : TPm M T l) (hq : q < l) (ha : lt (T q) = true) (h71 : rdI M 71 0 0 0 = nI q) (h72 : rdI M 72 0 0 0 = nI q) (h75 : rdI M 75 0 0 0 = 0) : s_X13_token_69 FU M ∧ mTok (f_X13_token_69 FU M) T l q := by
  obtain ⟨e1, e2, e3, e4⟩ := ru_in (P := lt) (T := T) (show q ≤ l by omega)
  have hl := tp.2.1
  have tb : ∀ i, i < l → T i < 256 := fun i hi => (tp.2.2 i hi).1
  have hd : dg (T q) = false := by
    have := of_decide_eq_true ha
    exact decide_eq_false (by omega)
  have sb : ∀ k, q ≤ k → nI k - nI q = nI (k - q) := fun k hk => by
    have := nI_add (k - q) q
    rw [show k - q + q = k by omega] at this
    rw [← this]
    exact Int32.add_sub_cancel _ _
  refine lp (fun f _ (s : gM) => f_X13_token_69 f s) (fun f _ s => s_X13_token_69 f s) (fun k s => q ≤ k ∧ TPm s T l ∧ rdI s 71 0 0 0 = nI k ∧ rdI s 72 0 0 0 = nI q ∧ rdI s 75 0 0 0 = c32 T q (if k - q ≤ 5 then k - q else 5)) (fun z => mTok z T l q) (ru lt T l q) ?_ ?_ FU q M e1 (by rw [FU_eq]; omega) ⟨Nat.le_refl _, tp, h71, h72, by rw [Nat.sub_self]; exact h75⟩
  · rintro f k s hk ⟨hqk, ts, r1, r2, r4⟩ ih
    have kl : k < l := by omega
    obtain ⟨a1, a2⟩ := M_here ts r1 (by omega)
    have pk := e3 k hqk hk
    have hh : hlt T l k = true := by unfold hlt; rw [decide_eq_true kl, pk]; rfl
    have hv : hr T l k = nI (T k) := if_pos kl
    simp only [s_X13_token_69, f_X13_token_69, s_X13_token_112, f_X13_token_112, bnd, bndP, a1, a2, s_sma, f_sma tb, hh, bz_t, if_neg (show ¬ (1 : Int32) = 0 by decide), r4, r1, r2, sb k hqk, rwN (show (71 : Nat) ≠ 75 by decide), p1, true_and]
    rw [hv]
    by_cases y : 5 ≤ k - q
    · have y2 : (5 : Int32) ≤ nI (k - q) := nI_le (a := 5) y (by omega)
      simp only [if_pos y2]
      refine ih _ ⟨by omega, ts.wr (by omega), rwS, ?_, ?_⟩
      · rw [rwN (by decide)]; exact r2
      · rw [rwN (by decide), r4]
        by_cases w : k - q ≤ 5
        · rw [if_pos w, if_neg (by omega), show k - q = 5 by omega]
        · rw [if_neg w, if_neg (by omega)]
    · have y2 : ¬ (5 : Int32) ≤ nI (k - q) := nI_ge (b := 5) (by omega) (by omega)
      simp only [if_neg y2]
      refine ih _ ⟨by omega, (ts.wr (by omega)).wr (by omega), rwS, ?_, ?_⟩
      · rw [rwN (by decide), rwN (by decide)]; exact r2
      · rw [rwN (by decide), rwS, if_pos (show k - q ≤ 5 by omega), if_pos (show k + 1 - q ≤ 5 by omega), show k + 1 - q = (k - q) + 1 by omega, c32, show q + (k - q) = k by omega]
  · rintro f s ⟨hqk, ts, r1, r2, r4⟩
    obtain ⟨a1, a2⟩ := M_here ts r1 e2
    have hh : hlt T l (ru lt T l q) = false := by
      unfold hlt
      by_cases y : ru lt T l q < l
      · rw [e4 y, Bool.and_false]
      · rw [decide_eq_false y]; rfl
    obtain ⟨b1, b2⟩ := M_word ts r1 r2 e1 e2
    have kd : ∀ N, TPm N T l → rdI N 71 0 0 0 = nI (ru lt T l q) → rdI N 72 0 0 0 = nI q → (if wix T q (ru lt T l q - q) < 21 then rdI N 73 0 0 0 = 0 ∧ rdI N 74 0 0 0 = nI (wix T q (ru lt T l q - q)) else if ru lt T l q - q ≤ 5 then rdI N 73 0 0 0 = 0 ∧ rdI N 74 0 0 0 = -1 ∧ rdI N 75 0 0 0 = c32 T q (ru lt T l q - q) else rdI N 73 0 0 0 = 4) → mTok N T l q := by
      intro N x1 x2 x3 x4
      refine ⟨x1, ?_, x3, by omega, ?_⟩
      · rw [x2, if_pos hq, en, hd, if_neg (by decide), if_pos ha]
      · unfold mKd
        rw [if_pos hq, hd, if_neg (by decide), if_pos ha]
        exact x4
    simp only [s_X13_token_69, f_X13_token_69, s_X13_token_155, f_X13_token_155, s_X13_token_160, f_X13_token_160, bnd, bndP, a1, a2, s_sma, f_sma tb, hh, bz_f, if_true, b1, b2, rwN (show (71 : Nat) ≠ 74 by decide), rwN (show (72 : Nat) ≠ 74 by decide), rwS, r1, r2, sb _ e1, true_and]
    by_cases y : ru lt T l q - q ≤ 5
    · have y2 : nI (ru lt T l q - q) ≤ 5 := nI_le (b := 5) y (by omega)
      simp only [if_pos y2, true_and]
      refine kd _ ((ts.wr (by omega)).wr (by omega)) (by rw [rwN (by decide), rwN (by decide)]; exact r1) (by rw [rwN (by decide), rwN (by decide)]; exact r2) ?_
      rw [if_pos y] at r4
      by_cases w : wix T q (ru lt T l q - q) < 21
      · rw [if_pos w]; exact ⟨rwS, by rw [rwN (by decide), rwS, if_pos w]⟩
      · rw [if_neg w, if_pos y]
        exact ⟨rwS, by rw [rwN (by decide), rwS, if_neg w], by rw [rwN (by decide), rwN (by decide)]; exact r4⟩
    · have y2 : ¬ nI (ru lt T l q - q) ≤ 5 := nI_ge (a := 5) (b := ru lt T l q - q) (by omega) (by omega)
      simp only [if_neg y2]
      by_cases w : wix T q (ru lt T l q - q) < 21
      · have nw : ¬ nI (wix T q (ru lt T l q - q)) = -1 := (nI_ne (show wix T q (ru lt T l q - q) < 2 ^ 31 by omega)).2
        simp only [if_pos w, if_neg nw, true_and]
        refine kd _ ((ts.wr (by omega)).wr (by omega)) (by rw [rwN (by decide), rwN (by decide)]; exact r1) (by rw [rwN (by decide), rwN (by decide)]; exact r2) ?_
        rw [if_pos w]
        exact ⟨rwS, by rw [rwN (by decide), rwS]⟩
      · simp only [if_neg w, if_true, true_and]
        refine kd _ ((ts.wr (by omega)).wr (by omega)) (by rw [rwN (by decide), rwN (by decide)]; exact r1) (by rw [rwN (by decide), rwN (by decide)]; exact r2) ?_
        rw [if_neg w, if_neg y]
        exact rwS
theorem M_tok {M : gM} {T : Nat → Nat} {l p : Nat} (tp : TPm M T l) (h71 : rdI M 71 0 0 0 = nI p) (hp : p ≤ l) : s_X13_token M ∧ mTok (f_X13_token M) T l (ru bl T l p) := by
  obtain ⟨e1, e2, e3, e4⟩ := ru_in (P := bl) (T := T) hp
  have hl := tp.2.1
  have tb : ∀ i, i < l → T i < 256 := fun i hi => (tp.2.2 i hi).1
  unfold s_X13_token f_X13_token
  refine lp (fun f _ (s : gM) => f_X13_token_0 f s) (fun f _ s => s_X13_token_0 f s) (fun k s => p ≤ k ∧ TPm s T l ∧ rdI s 71 0 0 0 = nI k) (fun z => mTok z T l (ru bl T l p)) (ru bl T l p) ?_ ?_ FU p M e1 (by rw [FU_eq]; omega) ⟨Nat.le_refl _, tp, h71⟩
  · rintro f k s hk ⟨hpk, ts, r1⟩ ih
    have kl : k < l := by omega
    obtain ⟨a1, a2⟩ := M_here ts r1 (by omega)
    have pk := e3 k hpk hk
    obtain ⟨n1, n2, n3, n4⟩ := hr_ch (k := k) tb
    have := ih (wrI s 71 0 0 0 (nI (k + 1))) ⟨by omega, ts.wr (by omega), rwS⟩
    simp only [s_X13_token_0, f_X13_token_0, s_X13_token_18, f_X13_token_18, bnd, bndP, a1, a2, n1, n2, r1, p1, true_and]
    by_cases z : T k = 10
    · simp only [if_pos (show k < l ∧ T k = 10 from ⟨kl, z⟩)]
      exact this
    · have z2 : T k = 32 := (of_decide_eq_true pk).resolve_left z
      simp only [if_neg (show ¬ (k < l ∧ T k = 10) from fun y => z y.2), if_pos (show k < l ∧ T k = 32 from ⟨kl, z2⟩)]
      exact this
  · rintro f s ⟨hpk, ts, r1⟩
    generalize hqd : ru bl T l p = q at *
    obtain ⟨a1, a2⟩ := M_here ts r1 e2
    obtain ⟨n1, n2, n3, n4⟩ := hr_ch (k := q) tb
    have nb : q < l → ¬ (T q = 10 ∨ T q = 32) := fun y => of_decide_eq_false (e4 y)
    have ts2 : TPm (wrI s 72 0 0 0 (nI q)) T l := ts.wr (by omega)
    have q71 : rdI (wrI s 72 0 0 0 (nI q)) 71 0 0 0 = nI q := by rw [rwN (by decide)]; exact r1
    have q72 : rdI (wrI s 72 0 0 0 (nI q)) 72 0 0 0 = nI q := rwS
    obtain ⟨b1, b2⟩ := M_here ts2 q71 e2
    simp only [s_X13_token_0, f_X13_token_0, bnd, bndP, a1, a2, n1, n2, if_neg (show ¬ (q < l ∧ T q = 10) from fun y => nb y.1 (Or.inl y.2)), if_neg (show ¬ (q < l ∧ T q = 32) from fun y => nb y.1 (Or.inr y.2)), r1, b1, b2, n3, n4, s_sma, f_sma tb, s_dig, f_dig tb, bz_0, true_and]
    generalize wrI s 72 0 0 0 (nI q) = K at *
    by_cases z : q < l
    · simp only [if_neg (show ¬ ¬ q < l from fun y => y z)]
      have i1 : hlt T l q = lt (T q) := by unfold hlt; rw [decide_eq_true z]; rfl
      have i2 : hdg T l q = dg (T q) := by unfold hdg; rw [decide_eq_true z]; rfl
      rw [i1, i2]
      cases ha : lt (T q)
      · simp only [if_true]
        cases hd : dg (T q)
        · simp only [if_true, s_X13_token_253, f_X13_token_253, bnd, bndP, rwN (show (71 : Nat) ≠ 73 by decide), q71, p1]
          have fin : ∀ v : Int32, (if T q = 59 then v = 2 else v = 4) → mTok (wrI (wrI K 73 0 0 0 v) 71 0 0 0 (nI (q + 1))) T l q := by
            intro v hv
            refine ⟨(ts2.wr (by omega)).wr (by omega), ?_, ?_, e2, ?_⟩
            · rw [rwS, if_pos z, en, hd, ha, if_neg (by decide), if_neg (by decide)]
            · rw [rwN (by decide), rwN (by decide)]; exact q72
            · unfold mKd
              rw [if_pos z, hd, ha, if_neg (by decide), if_neg (by decide), rwN (by decide), rwS]
              exact hv
          by_cases y : T q = 59
          · simp only [if_pos (show q < l ∧ T q = 59 from ⟨z, y⟩), true_and]
            exact fin 2 (by rw [if_pos y])
          · simp only [if_neg (show ¬ (q < l ∧ T q = 59) from fun w => y w.2), true_and]
            exact fin 4 (by rw [if_neg y])
        · simp only [Bool.true_eq_false, if_false]
          exact M_tnum ((ts2.wr (by omega)).wr (by omega)) z hd (by rw [rwN (by decide), rwN (by decide)]; exact q71) (by rw [rwN (by decide), rwN (by decide)]; exact q72) (by rw [rwN (by decide), rwS]) rwS
      · simp only [Bool.true_eq_false, if_false]
        exact M_twrd (ts2.wr (by omega)) z ha (by rw [rwN (by decide)]; exact q71) (by rw [rwN (by decide)]; exact q72) rwS
    · simp only [if_pos z, true_and]
      refine ⟨ts2.wr (by omega), ?_, ?_, e2, ?_⟩
      · rw [rwN (by decide), if_neg z]; exact q71
      · rw [rwN (by decide)]; exact q72
      · unfold mKd
        rw [if_neg z]
        exact rwS
end
