set_option linter.all false
noncomputable section
theorem wr_wr {M : gM} {g a b c : Nat} {u v : Int32} : wrI (wrI M g a b c u) g a b c v = wrI M g a b c v := by
  refine Prod.ext ?_ rfl
  funext g' a' b' c'
  show (if g' = g ∧ a' = a ∧ b' = b ∧ c' = c then v else if g' = g ∧ a' = a ∧ b' = b ∧ c' = c then u else M.1 g' a' b' c') = if g' = g ∧ a' = a ∧ b' = b ∧ c' = c then v else M.1 g' a' b' c'
  split <;> rfl
theorem wr_id {M : gM} {g a b c : Nat} {v : Int32} (h : rdI M g a b c = v) : wrI M g a b c v = M := by
  refine Prod.ext ?_ rfl
  funext g' a' b' c'
  show (if g' = g ∧ a' = a ∧ b' = b ∧ c' = c then v else M.1 g' a' b' c') = M.1 g' a' b' c'
  split
  · rename_i q
    obtain ⟨rfl, rfl, rfl, rfl⟩ := q
    exact h.symm
  · rfl
theorem rwS {M : gM} {g a b c : Nat} {v : Int32} : rdI (wrI M g a b c v) g a b c = v := if_pos ⟨rfl, rfl, rfl, rfl⟩
-- ===== where a run of letters ends =====
def run (P : Nat → Bool) (T : Nat → Nat) : Nat → Nat → Nat
  | 0, p => p
  | n + 1, p => if P (T p) = true then run P T n (p + 1) else p
def ru (P : Nat → Bool) (T : Nat → Nat) (l p : Nat) : Nat := run P T (l - p) p
theorem run_in {P : Nat → Bool} {T : Nat → Nat} : ∀ n p, p ≤ run P T n p ∧ run P T n p ≤ p + n ∧ (∀ k, p ≤ k → k < run P T n p → P (T k) = true) ∧ (run P T n p < p + n → P (T (run P T n p)) = false) := by
  intro n
  induction n with
  | zero => intro p; exact ⟨Nat.le_refl _, Nat.le_refl _, fun k h1 h2 => absurd h2 (Nat.not_lt.mpr h1), fun h => absurd h (Nat.lt_irrefl _)⟩
  | succ n ih =>
    intro p
    rw [run]
    by_cases h : P (T p) = true
    · rw [if_pos h]
      obtain ⟨a1, a2, a3, a4⟩ := ih (p + 1)
      refine ⟨by omega, by omega, fun k h1 h2 => ?_, fun h3 => a4 (by omega)⟩
      by_cases e : k = p
      · rw [e]; exact h
      · exact a3 k (by omega) h2
    · rw [if_neg h]
      exact ⟨Nat.le_refl _, by omega, fun k h1 h2 => absurd h2 (Nat.not_lt.mpr h1), fun _ => by simpa using h⟩
theorem ru_in {P : Nat → Bool} {T : Nat → Nat} {l p : Nat} (h : p ≤ l) : p ≤ ru P T l p ∧ ru P T l p ≤ l ∧ (∀ k, p ≤ k → k < ru P T l p → P (T k) = true) ∧ (ru P T l p < l → P (T (ru P T l p)) = false) := by
  obtain ⟨a1, a2, a3, a4⟩ := run_in (P := P) (T := T) (l - p) p
  exact ⟨a1, by unfold ru; omega, a3, fun z => a4 (by unfold ru at z; omega)⟩
def bl (b : Nat) : Bool := decide (b = 10 ∨ b = 32)
def dg (b : Nat) : Bool := decide (48 ≤ b ∧ b ≤ 57)
def lt (b : Nat) : Bool := decide (97 ≤ b ∧ b ≤ 122)
theorem nB10 : ∀ b, b < 256 → (nB (nI b) = 10 ↔ b = 10) ∧ (nB (nI b) = 32 ↔ b = 32) ∧ (nB (nI b) = 59 ↔ b = 59) := by decide +kernel
theorem nBid : ∀ b, b < 128 → nB (nI b) = nI b := by decide +kernel
theorem dg_c {M : gM} {b : Nat} (h : b < 256) : f_X11_isDigit M (nB (nI b)) = bz (dg b) ∧ s_X11_isDigit M (nB (nI b)) := by
  constructor
  · simp only [f_X11_isDigit, f_X11_isDigit_16]
    exact (by decide +kernel : ∀ b, b < 256 → (if nB (nI b) < 48 then (0 : Int32) else if 57 < nB (nI b) then 0 else 1) = bz (dg b)) b h
  · unfold s_X11_isDigit s_X11_isDigit_16
    repeat' split
    all_goals trivial
theorem lt_c {M : gM} {b : Nat} (h : b < 256) : f_X11_isLetter M (nB (nI b)) = bz (lt b) ∧ s_X11_isLetter M (nB (nI b)) := by
  constructor
  · simp only [f_X11_isLetter, f_X11_isLetter_16]
    exact (by decide +kernel : ∀ b, b < 256 → (if nB (nI b) < 97 then (0 : Int32) else if 122 < nB (nI b) then 0 else 1) = bz (lt b)) b h
  · unfold s_X11_isLetter s_X11_isLetter_16
    repeat' split
    all_goals trivial
theorem dg_lt {b : Nat} (h : dg b = true) : b < 128 := by have := of_decide_eq_true h; omega
theorem lt_lt {b : Nat} (h : lt b = true) : b < 128 := by have := of_decide_eq_true h; omega
/-- the class's tape -/
def TPc (M : gM) (T : Nat → Nat) (l : Nat) : Prop := rdI M 42 0 0 0 = nI l ∧ l ≤ 1200 ∧ ∀ i, i < l → T i < 256 ∧ rdI M 3 0 0 i = nB (nI (T i))
theorem TPc.wr {M : gM} {T : Nat → Nat} {l : Nat} (h : TPc M T l) {g a b c : Nat} {v : Int32} (k : g ≠ 42 ∧ g ≠ 3) : TPc (wrI M g a b c v) T l := by
  obtain ⟨h1, h2, h3⟩ := h
  exact ⟨by rw [rwN (fun z => k.1 z.symm)]; exact h1, h2, fun i hi => ⟨(h3 i hi).1, by rw [rwN (fun z => k.2 z.symm)]; exact (h3 i hi).2⟩⟩
theorem C_skip {M : gM} {T : Nat → Nat} {l p : Nat} (tp : TPc M T l) (h43 : rdI M 43 0 0 0 = nI p) (hp : p ≤ l) : s_X11_skipBlanks M ∧ f_X11_skipBlanks M = wrI M 43 0 0 0 (nI (ru bl T l p)) := by
  obtain ⟨e1, e2, e3, e4⟩ := ru_in (P := bl) (T := T) hp
  have hl := tp.2.1
  unfold s_X11_skipBlanks f_X11_skipBlanks
  refine lp (fun f _ (s : gM) => f_X11_skipBlanks_0 f s) (fun f _ s => s_X11_skipBlanks_0 f s) (fun k s => p ≤ k ∧ s = wrI M 43 0 0 0 (nI k)) (fun z => z = wrI M 43 0 0 0 (nI (ru bl T l p))) (ru bl T l p) ?_ ?_ FU p M e1 (by rw [FU_eq]; omega) ⟨Nat.le_refl _, (wr_id h43).symm⟩
  · rintro f k s hk ⟨hpk, hs⟩ ih
    have r43 : rdI s 43 0 0 0 = nI k := by rw [hs, rwS]
    obtain ⟨t1, t2, t3⟩ : TPc s T l := by rw [hs]; exact tp.wr (by omega)
    have kl : k < l := by omega
    have pk := e3 k hpk hk
    obtain ⟨b1, b2⟩ := t3 k kl
    obtain ⟨n1, n2, n3⟩ := nB10 (T k) b1
    have := ih (wrI s 43 0 0 0 (nI (k + 1))) ⟨by omega, by rw [hs, wr_wr]⟩
    simp only [s_X11_skipBlanks_0, f_X11_skipBlanks_0, s_X11_skipBlanks_39, f_X11_skipBlanks_39, bnd, bndP, t1, r43, if_neg (nI_ge kl (by omega)), nn_nI (show k < 2 ^ 31 by omega), b2, n1, n2, p1]
    have i12 : vp_in (nI k) 1200 := vpi (by omega)
    by_cases z : T k = 10
    · rw [if_pos z, if_pos z]
      exact ⟨⟨i12, this.1⟩, this.2⟩
    · have z2 : T k = 32 := (of_decide_eq_true pk).resolve_left z
      rw [if_neg z, if_neg z, if_pos z2, if_pos z2]
      exact ⟨⟨i12, i12, this.1⟩, this.2⟩
  · rintro f s ⟨hpk, hs⟩
    have r43 : rdI s 43 0 0 0 = nI (ru bl T l p) := by rw [hs, rwS]
    obtain ⟨t1, t2, t3⟩ : TPc s T l := by rw [hs]; exact tp.wr (by omega)
    simp only [s_X11_skipBlanks_0, f_X11_skipBlanks_0, t1, r43]
    by_cases kl : ru bl T l p < l
    · have pk := e4 kl
      obtain ⟨b1, b2⟩ := t3 _ kl
      obtain ⟨n1, n2, n3⟩ := nB10 (T (ru bl T l p)) b1
      have z : ¬ (T (ru bl T l p) = 10 ∨ T (ru bl T l p) = 32) := of_decide_eq_false pk
      have i12 : vp_in (nI (ru bl T l p)) 1200 := vpi (by omega)
      simp only [if_neg (nI_ge kl (by omega)), nn_nI (show ru bl T l p < 2 ^ 31 by omega), b2, n1, n2, if_neg (fun q => z (Or.inl q)), if_neg (fun q => z (Or.inr q))]
      exact ⟨⟨i12, i12, trivial⟩, hs⟩
    · rw [if_pos (nI_le (by omega) (by omega)), if_pos (nI_le (by omega) (by omega))]
      exact ⟨trivial, hs⟩
-- ===== numbers =====
def nvC (T : Nat → Nat) (p : Nat) : Nat → Int32
  | 0 => 0
  | k + 1 => mn ((nvC T p k * 10 + nI (T (p + k))) - 48) 100000
theorem C_num {M : gM} {T : Nat → Nat} {l p i : Nat} (tp : TPc M T l) (h43 : rdI M 43 0 0 0 = nI p) (h41 : rdI M 41 0 0 0 = nI i) (hi : i ≤ 1200) (hp : p ≤ l) :
    s_X11_cutNumber M ∧ f_X11_cutNumber M = wrI (wrI (wrI M 43 0 0 0 (nI (ru dg T l p))) 44 0 0 i (nI 22)) 46 0 0 i (nvC T p (ru dg T l p - p)) := by
  obtain ⟨e1, e2, e3, e4⟩ := ru_in (P := dg) (T := T) hp
  have hl := tp.2.1
  have i41 : vp_in (nI i) 1201 := vpi (by omega)
  have fin : ∀ (s : gM) (v : Int32), rdI s 41 0 0 0 = nI i → s_X11_cutNumber_64 s v ∧ f_X11_cutNumber_64 s v = wrI (wrI s 44 0 0 i (nI 22)) 46 0 0 i v := by
    intro s v r
    simp only [s_X11_cutNumber_64, f_X11_cutNumber_64, bnd, bndP, rwN (show (41 : Nat) ≠ 44 by decide), r, nn_nI (show i < 2 ^ 31 by omega), i41, true_and]
  unfold s_X11_cutNumber f_X11_cutNumber
  refine lp (fun f _ (s : gM × Int32) => f_X11_cutNumber_2 f s.1 s.2) (fun f _ s => s_X11_cutNumber_2 f s.1 s.2) (fun k s => p ≤ k ∧ s.1 = wrI M 43 0 0 0 (nI k) ∧ s.2 = nvC T p (k - p)) (fun z => z = wrI (wrI (wrI M 43 0 0 0 (nI (ru dg T l p))) 44 0 0 i (nI 22)) 46 0 0 i (nvC T p (ru dg T l p - p))) (ru dg T l p) ?_ ?_ FU p (M, 0) e1 (by rw [FU_eq]; omega) ⟨Nat.le_refl _, (wr_id h43).symm, by rw [Nat.sub_self]; rfl⟩
  · rintro f k ⟨s, v⟩ hk ⟨hpk, hs, hv⟩ ih
    have hs : s = wrI M 43 0 0 0 (nI k) := hs
    have hv : v = nvC T p (k - p) := hv
    have r43 : rdI s 43 0 0 0 = nI k := by rw [hs, rwS]
    obtain ⟨t1, t2, t3⟩ : TPc s T l := by rw [hs]; exact tp.wr (by omega)
    have kl : k < l := by omega
    have pk := e3 k hpk hk
    obtain ⟨b1, b2⟩ := t3 k kl
    obtain ⟨n1, n2⟩ := dg_c (M := s) b1
    rw [nBid _ (dg_lt pk)] at b2 n1 n2
    have := ih (wrI s 43 0 0 0 (nI (k + 1)), mn ((v * 10 + nI (T k)) - 48) 100000) ⟨by omega, by show wrI s 43 0 0 0 _ = _; rw [hs, wr_wr], by
      show mn ((v * 10 + nI (T k)) - 48) 100000 = nvC T p (k + 1 - p)
      rw [show k + 1 - p = (k - p) + 1 by omega, nvC, hv, show p + (k - p) = k by omega]⟩
    have i12 : vp_in (nI k) 1200 := vpi (by omega)
    simp only [s_X11_cutNumber_2, f_X11_cutNumber_2, bnd, bndP, t1, r43, if_neg (nI_ge kl (by omega)), nn_nI (show k < 2 ^ 31 by omega), b2, n1, pk, bz_t, if_neg (show ¬ (1 : Int32) = 0 by decide), p1]
    exact ⟨⟨i12, n2, i12, this.1⟩, this.2⟩
  · rintro f ⟨s, v⟩ ⟨hpk, hs, hv⟩
    have hs : s = wrI M 43 0 0 0 (nI (ru dg T l p)) := hs
    have hv : v = nvC T p (ru dg T l p - p) := hv
    have r43 : rdI s 43 0 0 0 = nI (ru dg T l p) := by rw [hs, rwS]
    have r41 : rdI s 41 0 0 0 = nI i := by rw [hs, rwN (by decide)]; exact h41
    obtain ⟨t1, t2, t3⟩ : TPc s T l := by rw [hs]; exact tp.wr (by omega)
    obtain ⟨f1, f2⟩ := fin s v r41
    simp only [s_X11_cutNumber_2, f_X11_cutNumber_2, t1, r43]
    by_cases kl : ru dg T l p < l
    · have pk := e4 kl
      obtain ⟨b1, b2⟩ := t3 _ kl
      obtain ⟨n1, n2⟩ := dg_c (M := s) b1
      have i12 : vp_in (nI (ru dg T l p)) 1200 := vpi (by omega)
      simp only [if_neg (nI_ge kl (by omega)), nn_nI (show ru dg T l p < 2 ^ 31 by omega), b2, n1, pk, bz_f, if_true]
      exact ⟨⟨i12, n2, f1⟩, by rw [f2, hs, hv]⟩
    · rw [if_pos (nI_le (by omega) (by omega)), if_pos (nI_le (by omega) (by omega))]
      exact ⟨f1, by rw [f2, hs, hv]⟩
-- ===== words =====
def mtb (T : Nat → Nat) (w p n : Nat) : Bool := decide (strL w = n ∧ ∀ k, k < n → strB w k = nI (T (p + k)))
theorem C_isW {M : gM} {T : Nat → Nat} {l p e w : Nat} (tp : TPc M T l) (h43 : rdI M 43 0 0 0 = nI e) (hpe : p ≤ e) (he : e ≤ l) (hw : w < 23) (al : ∀ k, p ≤ k → k < e → lt (T k) = true) :
    s_X11_isWord M w (nI p) ∧ f_X11_isWord M w (nI p) = bz (mtb T w p (e - p)) := by
  obtain ⟨t1, t2, t3⟩ := tp
  have hs : strL w < 128 := (by decide : ∀ w, w < 23 → strL w < 128) w hw
  have d : nI e - nI p = nI (e - p) := by
    have := nI_add (e - p) p
    rw [show e - p + p = e by omega] at this
    rw [← this]
    exact Int32.add_sub_cancel _ _
  simp only [s_X11_isWord, f_X11_isWord, f_len hw, h43, d, s_len, true_and]
  by_cases z : strL w = e - p
  · have z2 : nI (strL w) = nI (e - p) := by rw [z]
    rw [if_pos z2, if_pos z2]
    refine lp (fun f k (s : Unit) => f_X11_isWord_17 M w (nI p) f (nI k)) (fun f k s => s_X11_isWord_17 M w (nI p) f (nI k)) (fun k s => ∀ j, j < k → strB w j = nI (T (p + j))) (fun r => r = bz (mtb T w p (e - p))) (strL w) ?_ ?_ FU 0 () (Nat.zero_le _) (by rw [FU_eq]; omega) (fun j hj => absurd hj (Nat.not_lt_zero j))
    · intro f k s hk hI ih
      obtain ⟨c1, c2⟩ := f_char (M := M) hw hk
      obtain ⟨b1, b2⟩ := t3 (p + k) (by omega)
      rw [nBid _ (lt_lt (al (p + k) (by omega) (by omega)))] at b2
      have i12 : vp_in (nI (p + k)) 1200 := vpi (by omega)
      simp only [s_X11_isWord_17, f_X11_isWord_17, f_len hw, s_len, if_neg (nI_ge hk (by omega)), c1, c2, nI_add, nn_nI (show p + k < 2 ^ 31 by omega), b2, i12, p1, true_and]
      by_cases y : strB w k = nI (T (p + k))
      · rw [if_pos y, if_pos y]
        exact ih () (fun j hj => by
          by_cases q : j = k
          · rw [q]; exact y
          · exact hI j (by omega))
      · rw [if_neg y, if_neg y]
        refine ⟨trivial, ?_⟩
        rw [mtb, decide_eq_false (fun q => y (q.2 k (by omega)))]
        rfl
    · intro f s hI
      simp only [s_X11_isWord_17, f_X11_isWord_17, f_len hw, s_len, if_pos (nI_le (Nat.le_refl (strL w)) (by omega)), true_and]
      rw [mtb, decide_eq_true ⟨z, fun k hk => hI k (by omega)⟩]
      rfl
  · have z2 : ¬ nI (strL w) = nI (e - p) := fun q => z (by
      have := congrArg nn q
      rwa [nn_nI (by omega), nn_nI (by omega)] at this)
    rw [if_neg z2, if_neg z2, mtb, decide_eq_false (fun q => z q.1)]
    exact ⟨trivial, rfl⟩
def wfr (T : Nat → Nat) (p n : Nat) : Nat → Nat → Nat
  | 0, x => x
  | f + 1, x => if mtb T x p n = true then x else wfr T p n f (x + 1)
def wix (T : Nat → Nat) (p n : Nat) : Nat := wfr T p n 21 0
theorem wfr_le {T : Nat → Nat} {p n : Nat} : ∀ f x, x ≤ wfr T p n f x ∧ wfr T p n f x ≤ x + f := by
  intro f
  induction f with
  | zero => intro x; exact ⟨Nat.le_refl _, Nat.le_refl _⟩
  | succ f ih =>
    intro x
    rw [wfr]
    split
    · omega
    · have := ih (x + 1); omega
def wkd (T : Nat → Nat) (p n : Nat) : Nat := if wix T p n < 21 then wix T p n else if 5 < n then 24 else 21
theorem C_wk {M : gM} {T : Nat → Nat} {l p e : Nat} (tp : TPc M T l) (h43 : rdI M 43 0 0 0 = nI e) (hpe : p < e) (he : e ≤ l) (al : ∀ k, p ≤ k → k < e → lt (T k) = true) :
    s_X11_wordKind M (nI p) ∧ f_X11_wordKind M (nI p) = wkd T p (e - p) := by
  have hl := tp.2.1
  have d : nI e - nI p = nI (e - p) := by
    have := nI_add (e - p) p
    rw [show e - p + p = e by omega] at this
    rw [← this]
    exact Int32.add_sub_cancel _ _
  unfold s_X11_wordKind f_X11_wordKind
  refine lp (fun f x (s : Unit) => f_X11_wordKind_2 M (nI p) f (nI x)) (fun f x s => s_X11_wordKind_2 M (nI p) f (nI x)) (fun x s => wix T p (e - p) = if x ≤ 21 then wfr T p (e - p) (21 - x) x else 21) (fun r => r = wkd T p (e - p)) 26 ?_ ?_ FU 0 () (Nat.zero_le _) (by rw [FU_eq]; omega) (by rw [if_pos (by omega)]; rfl)
  · intro f x s hx hI ih
    have hli : letIx x < 23 := by unfold letIx; split <;> omega
    obtain ⟨a1, a2⟩ := C_isW tp h43 (by omega) he hli al
    have i26 : vp_in (nI x) 26 := vpi hx
    have g : ¬ (26 : Int32) ≤ nI x := nI_ge (a := x) (b := 26) hx (by omega)
    simp only [s_X11_wordKind_2, f_X11_wordKind_2, if_neg g, i26, nn_nI (show x < 2 ^ 31 by omega), a1, a2, bz_0, p1, true_and]
    by_cases h21 : x < 21
    · have li : letIx x = x := if_pos h21
      rw [li]
      rw [if_pos (by omega), show 21 - x = (21 - (x + 1)) + 1 by omega, wfr] at hI
      cases y : mtb T x p (e - p)
      · rw [if_pos rfl, if_pos rfl]
        rw [y, if_neg (by decide)] at hI
        exact ih () (by rw [if_pos (by omega)]; exact hI)
      · rw [if_neg (by decide), if_neg (by decide)]
        rw [y, if_pos rfl] at hI
        refine ⟨trivial, ?_⟩
        rw [wkd, hI, if_pos h21]
    · have li : letIx x = 21 := if_neg h21
      have y : mtb T 21 p (e - p) = false := decide_eq_false (fun q => by
        have := q.1
        have s0 : strL 21 = 0 := by decide
        omega)
      rw [li, y, if_pos rfl, if_pos rfl]
      refine ih () ?_
      rw [if_neg (by omega), hI]
      by_cases h22 : x ≤ 21
      · rw [if_pos h22, show 21 - x = 0 by omega, wfr]; omega
      · rw [if_neg h22]
  · intro f s hI
    rw [if_neg (by omega)] at hI
    have g : (26 : Int32) ≤ nI 26 := by decide
    simp only [s_X11_wordKind_2, f_X11_wordKind_2, if_pos g, h43, d]
    rw [wkd, hI, if_neg (show ¬ (21 : Nat) < 21 by omega)]
    by_cases y : 5 < e - p
    · have y2 : (5 : Int32) < nI (e - p) := nI_lt (a := 5) y (by omega)
      simp only [y, y2, if_true, true_and]
    · have y2 : ¬ (5 : Int32) < nI (e - p) := i_nlt.mpr (nI_le (b := 5) (by omega) (by omega))
      simp only [y, y2, if_false, true_and, if_true]
def c27 (T : Nat → Nat) (p : Nat) : Nat → Int32
  | 0 => 0
  | k + 1 => (((c27 T p k * 27) + nI (T (p + k))) - 97) + 1
theorem wkd_lt {T : Nat → Nat} {p n : Nat} : wkd T p n < 26 := by
  unfold wkd
  split
  · omega
  · split <;> omega
theorem C_word {M : gM} {T : Nat → Nat} {l p i : Nat} (tp : TPc M T l) (h43 : rdI M 43 0 0 0 = nI p) (h41 : rdI M 41 0 0 0 = nI i) (h46 : rdI M 46 0 0 i = 0) (hi : i ≤ 1200) (hp : p < l) (ht : lt (T p) = true) :
    s_X11_cutWord M ∧ f_X11_cutWord M = wrI (wrI (wrI M 43 0 0 0 (nI (ru lt T l p))) 44 0 0 i (nI (wkd T p (ru lt T l p - p)))) 46 0 0 i (if wkd T p (ru lt T l p - p) = 21 then c27 T p (ru lt T l p - p) else 0) := by
  obtain ⟨e1, e2, e3, e4⟩ := ru_in (P := lt) (T := T) (show p ≤ l by omega)
  have hl := tp.2.1
  have i41 : vp_in (nI i) 1201 := vpi (by omega)
  have hpe : p < ru lt T l p := by
    rcases Nat.lt_or_ge p (ru lt T l p) with q | q
    · exact q
    · have : ru lt T l p = p := by omega
      have := e4 (by omega)
      rw [‹ru lt T l p = p›, ht] at this
      cases this
  have fin : s_X11_cutWord_44 (wrI M 43 0 0 0 (nI (ru lt T l p))) (nI p) ∧ f_X11_cutWord_44 (wrI M 43 0 0 0 (nI (ru lt T l p))) (nI p) = wrI (wrI (wrI M 43 0 0 0 (nI (ru lt T l p))) 44 0 0 i (nI (wkd T p (ru lt T l p - p)))) 46 0 0 i (if wkd T p (ru lt T l p - p) = 21 then c27 T p (ru lt T l p - p) else 0) := by
    have r41 : rdI (wrI M 43 0 0 0 (nI (ru lt T l p))) 41 0 0 0 = nI i := by rw [rwN (by decide)]; exact h41
    have tp2 : TPc (wrI M 43 0 0 0 (nI (ru lt T l p))) T l := tp.wr (by omega)
    have r46 : rdI (wrI M 43 0 0 0 (nI (ru lt T l p))) 46 0 0 i = 0 := by rw [rwN (by decide)]; exact h46
    obtain ⟨a1, a2⟩ := C_wk tp2 (rwS) hpe e2 e3
    have r43 : rdI (wrI M 43 0 0 0 (nI (ru lt T l p))) 43 0 0 0 = nI (ru lt T l p) := rwS
    generalize wrI M 43 0 0 0 (nI (ru lt T l p)) = K at *
    simp only [s_X11_cutWord_44, f_X11_cutWord_44, bnd, bndP, a1, a2, r41, i41, nn_nI (show i < 2 ^ 31 by omega), rwN (show (41 : Nat) ≠ 44 by decide), rwS, nn_nI (show wkd T p (ru lt T l p - p) < 2 ^ 31 by have := wkd_lt (T := T) (p := p) (n := ru lt T l p - p); omega), wkd_lt, true_and]
    by_cases z : wkd T p (ru lt T l p - p) = 21
    · simp only [z, if_true]
      have q46 : rdI (wrI K 44 0 0 i (nI 21)) 46 0 0 i = 0 := by rw [rwN (by decide)]; exact r46
      have q41 : rdI (wrI K 44 0 0 i (nI 21)) 41 0 0 0 = nI i := by rw [rwN (by decide)]; exact r41
      have q43 : rdI (wrI K 44 0 0 i (nI 21)) 43 0 0 0 = nI (ru lt T l p) := by rw [rwN (by decide)]; exact r43
      have tp3 : TPc (wrI K 44 0 0 i (nI 21)) T l := tp2.wr (by omega)
      generalize wrI K 44 0 0 i (nI 21) = K2 at *
      refine lp (fun f k (s : gM) => f_X11_cutWord_75 f s (nI k)) (fun f k s => s_X11_cutWord_75 f s (nI k)) (fun k s => p ≤ k ∧ s = wrI K2 46 0 0 i (c27 T p (k - p))) (fun z => z = wrI K2 46 0 0 i (c27 T p (ru lt T l p - p))) (ru lt T l p) ?_ ?_ FU p K2 e1 (by rw [FU_eq]; omega) ⟨Nat.le_refl _, by rw [Nat.sub_self]; exact (wr_id q46).symm⟩
      · rintro f k s hk ⟨hpk, hs⟩ ih
        have s41 : rdI s 41 0 0 0 = nI i := by rw [hs, rwN (by decide)]; exact q41
        have s43 : rdI s 43 0 0 0 = nI (ru lt T l p) := by rw [hs, rwN (by decide)]; exact q43
        have s46 : rdI s 46 0 0 i = c27 T p (k - p) := by rw [hs, rwS]
        have i12 : vp_in (nI k) 1200 := vpi (by omega)
        obtain ⟨t1, t2, t3⟩ : TPc s T l := by rw [hs]; exact tp3.wr (by omega)
        obtain ⟨b1, b2⟩ := t3 k (by omega)
        rw [nBid _ (lt_lt (e3 k hpk hk))] at b2
        simp only [s_X11_cutWord_75, f_X11_cutWord_75, bnd, bndP, s43, if_neg (nI_ge hk (by omega)), s41, i41, i12, nn_nI (show i < 2 ^ 31 by omega), nn_nI (show k < 2 ^ 31 by omega), s46, b2, p1, true_and]
        refine ih _ ⟨by omega, ?_⟩
        rw [hs, wr_wr, show k + 1 - p = (k - p) + 1 by omega, c27, show p + (k - p) = k by omega]
      · rintro f s ⟨hpk, hs⟩
        have s43 : rdI s 43 0 0 0 = nI (ru lt T l p) := by rw [hs, rwN (by decide)]; exact q43
        simp only [s_X11_cutWord_75, f_X11_cutWord_75, s43, if_pos (nI_le (Nat.le_refl (ru lt T l p)) (by omega))]
        exact ⟨trivial, hs⟩
    · simp only [z, if_false, true_and]
      exact (wr_id (by rw [rwN (by decide)]; exact r46)).symm
  unfold s_X11_cutWord f_X11_cutWord
  rw [h43]
  refine lp (fun f _ (s : gM) => f_X11_cutWord_5 (nI p) f s) (fun f _ s => s_X11_cutWord_5 (nI p) f s) (fun k s => p ≤ k ∧ s = wrI M 43 0 0 0 (nI k)) (fun z => z = wrI (wrI (wrI M 43 0 0 0 (nI (ru lt T l p))) 44 0 0 i (nI (wkd T p (ru lt T l p - p)))) 46 0 0 i (if wkd T p (ru lt T l p - p) = 21 then c27 T p (ru lt T l p - p) else 0)) (ru lt T l p) ?_ ?_ FU p M e1 (by rw [FU_eq]; omega) ⟨Nat.le_refl _, (wr_id h43).symm⟩
  · rintro f k s hk ⟨hpk, hs⟩ ih
    have r43 : rdI s 43 0 0 0 = nI k := by rw [hs, rwS]
    obtain ⟨t1, t2, t3⟩ : TPc s T l := by rw [hs]; exact tp.wr (by omega)
    have kl : k < l := by omega
    obtain ⟨b1, b2⟩ := t3 k kl
    obtain ⟨n1, n2⟩ := lt_c (M := s) b1
    have pk := e3 k hpk hk
    have := ih (wrI s 43 0 0 0 (nI (k + 1))) ⟨by omega, by rw [hs, wr_wr]⟩
    have i12 : vp_in (nI k) 1200 := vpi (by omega)
    simp only [s_X11_cutWord_5, f_X11_cutWord_5, bnd, bndP, t1, r43, if_neg (nI_ge kl (by omega)), nn_nI (show k < 2 ^ 31 by omega), b2, n1, n2, pk, bz_t, if_neg (show ¬ (1 : Int32) = 0 by decide), p1, i12, true_and]
    exact this
  · rintro f s ⟨hpk, hs⟩
    have r43 : rdI s 43 0 0 0 = nI (ru lt T l p) := by rw [hs, rwS]
    obtain ⟨t1, t2, t3⟩ : TPc s T l := by rw [hs]; exact tp.wr (by omega)
    rw [← hs] at fin
    simp only [s_X11_cutWord_5, f_X11_cutWord_5, t1, r43]
    by_cases kl : ru lt T l p < l
    · obtain ⟨b1, b2⟩ := t3 _ kl
      obtain ⟨n1, n2⟩ := lt_c (M := s) b1
      have pk := e4 kl
      have i12 : vp_in (nI (ru lt T l p)) 1200 := vpi (by omega)
      simp only [if_neg (nI_ge kl (by omega)), nn_nI (show ru lt T l p < 2 ^ 31 by omega), b2, n1, n2, pk, bz_f, if_true, i12, true_and]
      rw [hs] at fin ⊢
      exact fin
    · rw [if_pos (nI_le (by omega) (by omega)), if_pos (nI_le (by omega) (by omega))]
      rw [hs] at fin ⊢
      exact fin
end
