-- THE CLASS'S LINES ALONE (draft)
set_option linter.all false
noncomputable section
def KE (r : Nat) (c d : gM) : Prop := ∀ g b x, 4 ≤ g → g ≤ 40 → rdI d g r b x = rdI c g r b x
theorem KE.tr {r : Nat} {c d e : gM} (h : KE r c d) (k : KE r d e) : KE r c e := fun g b x h1 h2 => (k g b x h1 h2).trans (h g b x h1 h2)
theorem KE.of {r : Nat} {c d : gM} {W : List Nat} (o : offW W c d) (k : W.all (fun g => Nat.blt g 4 || Nat.blt 40 g) = true) : KE r c d := fun g b x h1 h2 => (o g r b x fun q => by
    have := List.all_eq_true.mp k g q
    rcases (Bool.or_eq_true _ _).mp this with z | z
    · have := Nat.le_of_ble_eq_true z; omega
    · have := Nat.le_of_ble_eq_true z; omega).1
/-- the row's reader between two steps -/
def CT (r lo : Nat) (c : gM) : Prop := TS c r lo ∧ CI r c
theorem CT.ke {r lo : Nat} {c d : gM} (h : CT r lo c) (t : TS d r lo) (k : KE r c d) : CT r lo d := ⟨t, h.2.keep k⟩
theorem TS.mono {c : gM} {r lo lo' : Nat} (h : TS c r lo) (k : lo' ≤ lo) : TS c r lo' := by
  obtain ⟨cn, i, h1, h2, h3, h4, h5, h6, h7⟩ := h
  exact ⟨cn, i, h1, h2, h3, h4, h5, h6, by omega⟩
theorem CT.vP {r lo : Nat} {c d : gM} (h : CT r lo c) (k : KE r c d) : rdI d 5 r 0 0 = nI (vP (cV r c)) ∧ vP (cV r c) ≤ 10 ∧ cV r d = cV r c := ⟨(k 5 0 0 (by omega) (by omega)).trans h.2.1.P.1, h.2.1.P.2, cV_keep k⟩
theorem KE.rfl {r : Nat} {c : gM} : KE r c c := fun _ _ _ _ _ => Eq.refl _
theorem P_more {r lo : Nat} {c : gM} (h : CT r lo c) (a b : Int32) : s_X8_takeOneMore c r a b ∧ CT r lo (f_X8_takeOneMore c r a b) ∧ KE r c (f_X8_takeOneMore c r a b) ∧ (rdI (f_X8_takeOneMore c r a b) 48 r 0 0 = 0 → rdI c 48 r 0 0 = 0 ∧ a < b) := by
  obtain ⟨a1, a2, a3⟩ := T_more h.1 a b
  have k : KE r c (f_X8_takeOneMore c r a b) := KE.of (o_X8_takeOneMore c r a b) (by decide)
  exact ⟨a1, h.ke a2 k, k, a3⟩
theorem P_once {r lo : Nat} {c : gM} (h : CT r lo c) (a : Int32) : s_X8_takeOnce c r a ∧ CT r lo (f_X8_takeOnce c r a) ∧ KE r c (f_X8_takeOnce c r a) ∧ (rdI (f_X8_takeOnce c r a) 48 r 0 0 = 0 → rdI c 48 r 0 0 = 0 ∧ a = 0) := by
  obtain ⟨a1, a2, a3⟩ := T_once h.1 a
  have k : KE r c (f_X8_takeOnce c r a) := KE.of (o_X8_takeOnce c r a) (by decide)
  exact ⟨a1, h.ke a2 k, k, a3⟩
theorem P_take {r lo : Nat} {c : gM} (h : CT r lo c) : s_X8_takeToken c r ∧ CT r lo (f_X8_takeToken c r) ∧ KE r c (f_X8_takeToken c r) ∧ rdI (f_X8_takeToken c r) 48 r 0 0 = rdI c 48 r 0 0 := by
  obtain ⟨a1, a2, a3⟩ := T_take h.1
  have k : KE r c (f_X8_takeToken c r) := KE.of (o_X8_takeToken c r) (by decide)
  exact ⟨a1, h.ke a2 k, k, a3⟩
theorem P_faT {r lo : Nat} {c : gM} (h : CT r lo c) : s_X8_failAtTaken c r ∧ CT r lo (f_X8_failAtTaken c r) ∧ KE r c (f_X8_failAtTaken c r) ∧ (rdI c 48 r 0 0 ≠ 0 ∨ 0 < lo → rdI (f_X8_failAtTaken c r) 48 r 0 0 ≠ 0) := by
  obtain ⟨a1, a2, a3⟩ := T_faT h.1
  have k : KE r c (f_X8_failAtTaken c r) := KE.of (o_X8_failAtTaken c r) (by decide)
  exact ⟨a1, h.ke a2 k, k, a3⟩
theorem P_faK {r lo : Nat} {c : gM} (h : CT r lo c) : rdI (f_X8_failAtTaken c r) 48 r 0 0 = 0 → rdI c 48 r 0 0 = 0 := fun q => Classical.byContradiction fun z => (P_faT h).2.2.2 (Or.inl z) q
theorem P_num {r lo : Nat} {c : gM} (h : CT r lo c) (a b : Int32) : s_X8_takeNumber c r a b ∧ CT r lo (f_X8_takeNumber c r a b).2 ∧ KE r c (f_X8_takeNumber c r a b).2 ∧ ((f_X8_takeNumber c r a b).1 = 0 ∨ (a ≤ (f_X8_takeNumber c r a b).1 ∧ (f_X8_takeNumber c r a b).1 ≤ b)) ∧ (rdI (f_X8_takeNumber c r a b).2 48 r 0 0 = 0 → rdI c 48 r 0 0 = 0 ∧ a ≤ (f_X8_takeNumber c r a b).1 ∧ (f_X8_takeNumber c r a b).1 ≤ b) := by
  obtain ⟨a1, a2, a3, a4⟩ := T_num h.1 a b
  have k : KE r c (f_X8_takeNumber c r a b).2 := KE.of (o_X8_takeNumber c r a b) (by decide)
  exact ⟨a1, h.ke a2 k, k, a3, a4⟩
theorem P_kd {r lo : Nat} {c : gM} (h : CT r lo c) : s_X8_takePaperKind c r ∧ CT r lo (f_X8_takePaperKind c r).2 ∧ KE r c (f_X8_takePaperKind c r).2 ∧ vp_in (f_X8_takePaperKind c r).1 3 ∧ (rdI (f_X8_takePaperKind c r).2 48 r 0 0 = 0 → rdI c 48 r 0 0 = 0) := by
  obtain ⟨a1, a2, a3, a4⟩ := T_pk h.1
  have k : KE r c (f_X8_takePaperKind c r).2 := KE.of (o_X8_takePaperKind c r) (by decide)
  exact ⟨a1, h.ke a2 k, k, a3, a4⟩
theorem P_nw {r lo kd n : Nat} {c : gM} (h : CT r lo c) (hkd : kd < 3) (hn : n ≤ nmL kd) : s_X8_takeNewName c r kd (nI n) ∧ CT r lo (f_X8_takeNewName c r kd (nI n)) ∧ KE r c (f_X8_takeNewName c r kd (nI n)) ∧ (rdI (f_X8_takeNewName c r kd (nI n)) 48 r 0 0 = 0 → rdI c 48 r 0 0 = 0) := by
  obtain ⟨a1, a2, a3⟩ := T_nw h.1 hkd hn
  have k : KE r c (f_X8_takeNewName c r kd (nI n)) := KE.of (o_X8_takeNewName c r kd (nI n)) (by decide)
  exact ⟨a1, h.ke a2 k, k, a3⟩
theorem P_kn {r lo kd n : Nat} {c : gM} (h : CT r lo c) (hkd : kd < 3) (hn : n ≤ nmL kd) : s_X8_takeKnownName c r kd (nI n) ∧ CT r lo (f_X8_takeKnownName c r kd (nI n)).2 ∧ KE r c (f_X8_takeKnownName c r kd (nI n)).2 ∧ kwX n (f_X8_takeKnownName c r kd (nI n)).1 ∧ (rdI (f_X8_takeKnownName c r kd (nI n)).2 48 r 0 0 = 0 → rdI c 48 r 0 0 = 0 ∧ ∃ j, j < n ∧ (f_X8_takeKnownName c r kd (nI n)).1 = nI j) := by
  obtain ⟨a1, a2, a3, a4⟩ := T_kn h.1 hkd hn
  have k : KE r c (f_X8_takeKnownName c r kd (nI n)).2 := KE.of (o_X8_takeKnownName c r kd (nI n)) (by decide)
  exact ⟨a1, h.ke a2 k, k, a3, a4⟩
theorem P_per {r lo n : Nat} {c : gM} (h : CT r lo c) (e : rdI c 5 r 0 0 = nI n) (hn : n ≤ 10) : s_X8_takePerson c r ∧ CT r lo (f_X8_takePerson c r).2 ∧ KE r c (f_X8_takePerson c r).2 ∧ kwX n (f_X8_takePerson c r).1 ∧ (rdI (f_X8_takePerson c r).2 48 r 0 0 = 0 → rdI c 48 r 0 0 = 0 ∧ ∃ j, j < n ∧ (f_X8_takePerson c r).1 = nI j) := by
  obtain ⟨a1, a2, a3, a4, a5⟩ := P_kn (kd := 0) (n := n) h (by omega) (show n ≤ nmL 0 from hn)
  simp only [s_X8_takePerson, f_X8_takePerson, bnd, bndP, e]
  exact ⟨⟨a1, trivial⟩, a2, a3, a4, a5⟩
theorem P_thg {r lo n : Nat} {c : gM} (h : CT r lo c) (e : rdI c 6 r 0 0 = nI n) (hn : n ≤ 8) : s_X8_takeThing c r ∧ CT r lo (f_X8_takeThing c r).2 ∧ KE r c (f_X8_takeThing c r).2 ∧ kwX n (f_X8_takeThing c r).1 ∧ (rdI (f_X8_takeThing c r).2 48 r 0 0 = 0 → rdI c 48 r 0 0 = 0 ∧ ∃ j, j < n ∧ (f_X8_takeThing c r).1 = nI j) := by
  obtain ⟨a1, a2, a3, a4, a5⟩ := P_kn (kd := 1) (n := n) h (by omega) (show n ≤ nmL 1 from hn)
  simp only [s_X8_takeThing, f_X8_takeThing, bnd, bndP, e]
  exact ⟨⟨a1, trivial⟩, a2, a3, a4, a5⟩
theorem P_pap {r lo n : Nat} {c : gM} (h : CT r lo c) (e : rdI c 7 r 0 0 = nI n) (hn : n ≤ 12) : s_X8_takePaper c r ∧ CT r lo (f_X8_takePaper c r).2 ∧ KE r c (f_X8_takePaper c r).2 ∧ kwX n (f_X8_takePaper c r).1 ∧ (rdI (f_X8_takePaper c r).2 48 r 0 0 = 0 → rdI c 48 r 0 0 = 0 ∧ ∃ j, j < n ∧ (f_X8_takePaper c r).1 = nI j) := by
  obtain ⟨a1, a2, a3, a4, a5⟩ := P_kn (kd := 2) (n := n) h (by omega) (show n ≤ nmL 2 from hn)
  simp only [s_X8_takePaper, f_X8_takePaper, bnd, bndP, e]
  exact ⟨⟨a1, trivial⟩, a2, a3, a4, a5⟩
-- numbers
theorem n_lt {a b : Nat} (ha : a < 2 ^ 31) (hb : b < 2 ^ 31) (h : nI a < nI b) : a < b := by
  rcases Nat.lt_or_ge a b with q | q
  · exact q
  · exact absurd h (i_nlt.mpr (nI_le q ha))
theorem n_vp {x : Int32} {n : Nat} (h : 0 ≤ x) (k : x ≤ nI n) (hn : n < 1000) : vp_in x (n + 1) := by
  have a : (0 : Int) ≤ x.toInt := Int32.le_iff_toInt_le.mp h
  have b := Int32.le_iff_toInt_le.mp k
  rw [nI_toInt (by omega)] at b
  exact vp_in_iff.mpr ⟨a, by omega⟩
theorem n_01 {x : Int32} (h : 0 ≤ x) (k : x ≤ 1) : vp_in x 2 := n_vp (n := 1) h k (by omega)
/-- nothing told is other -/
theorem CI_x {r : Nat} {d c : gM} {W : List Nat} (h : CI r d) (o : offW W d c) (k : W.all (fun g => Nat.blt g 5 || g == 13 || Nat.blt 40 g) = true) : CI r c := by
  have kk : ∀ f : Nat → Bool, (∀ g, (g < 5 ∨ g = 13 ∨ 40 < g) → f g = true) → W.all f = true := fun f hf => List.all_eq_true.mpr fun g hg => by
    have := List.all_eq_true.mp k g hg
    rcases (Bool.or_eq_true _ _).mp this with z | z
    · rcases (Bool.or_eq_true _ _).mp z with z | z
      · exact hf g (Or.inl (by have := Nat.le_of_ble_eq_true z; omega))
      · exact hf g (Or.inr (Or.inl (by simpa using z)))
    · exact hf g (Or.inr (Or.inr (by have := Nat.le_of_ble_eq_true z; omega)))
  obtain ⟨w, lf, f⟩ := h
  obtain ⟨p1, p2, p3⟩ := x_P w o (kk _ (fun g hg => by simp; omega))
  obtain ⟨t1, t2, t3⟩ := x_T w o (kk _ (fun g hg => by simp; omega))
  obtain ⟨a1, a2, a3, a4⟩ := x_A w o (kk _ (fun g hg => by
    have n7 : g ≠ 7 := by omega
    rw [Bool.and_eq_true, Bool.or_eq_true]
    refine ⟨by simpa using n7, ?_⟩
    rcases hg with z | z | z
    · exact Or.inl (Nat.ble_eq_true_of_le (by omega))
    · exact Or.inl (Nat.ble_eq_true_of_le (by omega))
    · exact Or.inr (Nat.ble_eq_true_of_le (by omega))))
  obtain ⟨w1, w2⟩ := x_W w o (kk _ (fun g hg => by simp; omega))
  have l1 := x_L (r := r) o (kk _ (fun g hg => by
    rw [Bool.or_eq_true]
    rcases hg with z | z | z
    · exact Or.inl (Nat.ble_eq_true_of_le (by omega))
    · exact Or.inl (Nat.ble_eq_true_of_le (by omega))
    · exact Or.inr (Nat.ble_eq_true_of_le (by omega))))
  exact ⟨WF_ext w ⟨p2, t2, a2, w1⟩ (by omega) (by omega) p3 t3 a3 a4 w2 l1, lf, x_F w f o (kk _ (fun g hg => by simp; omega))⟩
theorem K_semi {r lo : Nat} {c : gM} (h : CT r lo c) : s_X8_takeSemicolon c r ∧ CT r lo (f_X8_takeSemicolon c r) := by
  obtain ⟨a1, a2⟩ := T_semi h.1
  exact ⟨a1, a2, CI_x h.2 (o_X8_takeSemicolon c r) (by decide)⟩
-- ===== person =====
theorem add_P {r P : Nat} {d : gM} {x : Int32} (h : CI r d) (eP : vP (cV r d) = P) (hP : P < 10) (hx : vp_in x 2) : s_X7_addPerson d r x ∧ CI r (f_X7_addPerson d r x) ∧ ∀ lo, TS d r lo → TS (f_X7_addPerson d r x) r lo := by
  obtain ⟨w, lf, f⟩ := h
  have e5 : rdI d 5 r 0 0 = nI P := by rw [← v_5, w.P.1, eP]
  have o := o_X7_addPerson d r x
  have lt : nI P < 10 := nI_lt (b := 10) hP (by omega)
  have ev : f_X7_addPerson d r x = wrI (wrI (wrI (wrI d 19 r P 0 x) 20 r P 0 (-1)) 21 r P 0 0) 5 r 0 0 (nI (P + 1)) := by
    simp only [f_X7_addPerson, bnd, e5, if_pos lt, nn_nI (show P < 2 ^ 31 by omega), rwN (show (5 : Nat) ≠ 19 by decide), rwN (show (5 : Nat) ≠ 20 by decide), rwN (show (5 : Nat) ≠ 21 by decide), p1]
  refine ⟨?_, ?_, fun lo t => ?_⟩
  · simp only [s_X7_addPerson, bndP, e5, if_pos lt, and_true]
    exact vpi hP
  · have c5 : rdI (f_X7_addPerson d r x) 5 r 0 0 = nI (P + 1) := by rw [ev, rwS]
    have cP : vP (cV r (f_X7_addPerson d r x)) = P + 1 := by unfold vP; rw [v_5, c5, nn_nI (by omega)]
    obtain ⟨t1, t2, t3⟩ := x_T w o (by decide)
    obtain ⟨a1, a2, a3, a4⟩ := x_A w o (by decide)
    obtain ⟨w1, w2⟩ := x_W w o (by decide)
    refine ⟨WF_ext w ⟨by rw [v_5, c5]; exact vpi (by omega), t2, a2, w1⟩ (by omega) (by omega) (fun p hp => ?_) t3 a3 a4 w2 (x_L o (by decide)), lf, x_F w f o (by decide)⟩
    rw [cP] at hp
    by_cases z : p = P
    · subst z
      refine Or.inl ⟨?_, ?_, ?_⟩
      · rw [v_19 (by omega), ev, rwI, if_neg (by omega), rwI, if_neg (by omega), rwI, if_neg (by omega), rwS]; exact hx
      · rw [v_20 (by omega), ev, rwI, if_neg (by omega), rwI, if_neg (by omega), rwS]; exact Or.inl rfl
      · intro i hi
        rw [v_21 (by omega), ev, rwI, if_neg (by omega), rwS, b_0] at hi
        cases hi
    · refine Or.inr ⟨by omega, ?_, ?_, ?_⟩
      · rw [v_19 (by omega), v_19 (by omega), ev, rwI, if_neg (by omega), rwI, if_neg (by omega), rwI, if_neg (by omega), rwI, if_neg (by omega)]
      · rw [v_20 (by omega), v_20 (by omega), ev, rwI, if_neg (by omega), rwI, if_neg (by omega), rwI, if_neg (by omega), rwI, if_neg (by omega)]
      · rw [v_21 (by omega), v_21 (by omega), ev, rwI, if_neg (by omega), rwI, if_neg (by omega), rwI, if_neg (by omega), rwI, if_neg (by omega)]
  · exact t.off o (by decide)
theorem K_per {r lo : Nat} {c : gM} (h : CT r lo c) : s_X8_readPerson c r ∧ CT r lo (f_X8_readPerson c r) := by
  obtain ⟨e0, h10, -⟩ := h.vP KE.rfl
  obtain ⟨a1, a2, a3, a4⟩ := P_more h (rdI c 5 r 0 0) 10
  simp only [s_X8_readPerson, f_X8_readPerson, bnd, bndP]
  rw [e0] at a1 a2 a3 a4 ⊢
  generalize f_X8_takeOneMore c r (nI (vP (cV r c))) 10 = c1 at *
  obtain ⟨e1, -, -⟩ := h.vP a3
  obtain ⟨b1, b2, b3, b4⟩ := P_nw (kd := 0) a2 (by omega) (show vP (cV r c) ≤ nmL 0 from h10)
  rw [e1]
  generalize f_X8_takeNewName c1 r 0 (nI (vP (cV r c))) = c2 at *
  obtain ⟨d1, d2, d3, d4, d5⟩ := P_num b2 0 1
  generalize f_X8_takeNumber c2 r 0 1 = z at *
  by_cases q : rdI z.2 48 r 0 0 = 0
  · simp only [if_pos q]
    obtain ⟨q2, v1, v2⟩ := d5 q
    have lt := n_lt (by omega) (by omega) (show nI (vP (cV r c)) < nI 10 from (a4 (b4 q2)).2)
    obtain ⟨k1, k2, k3⟩ := add_P (P := vP (cV r c)) d2.2 (by rw [(h.vP (a3.tr (b3.tr d3))).2.2]) lt (n_01 v1 v2)
    exact ⟨⟨a1, b1, d1, k1, trivial⟩, k3 lo d2.1, k2⟩
  · simp only [if_neg q]
    exact ⟨⟨a1, b1, d1, trivial⟩, d2⟩
end
