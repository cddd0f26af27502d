-- WF OF ONE VIEW OUT OF THE WF OF ANOTHER ONE; THE CLASS'S ROW AS A VIEW (draft)
set_option linter.all false
noncomputable section
theorem vp_up {x : Int32} {n m : Nat} (h : vp_in x n) (k : n ≤ m) (hm : m < 2 ^ 31) : vp_in x m := by
  obtain ⟨j, hj, rfl⟩ := vp_in_of h (by omega)
  exact vpi (by omega)
theorem WF_ext {V V' : vV} (w : WF V)
    (hc : vp_in (V'.1 0) 11 ∧ vp_in (V'.1 1) 9 ∧ vp_in (V'.1 2) 13 ∧ vp_in (V'.2.1 64) 7)
    (uP : vP V ≤ vP V') (uT : vT V ≤ vT V')
    (hP : ∀ p, p < vP V' → wfP V' p ∨ (p < vP V ∧ V'.1 (14 + p) = V.1 (14 + p) ∧ V'.2.1 p = V.2.1 p ∧ V'.1 (24 + p) = V.1 (24 + p)))
    (hT : ∀ t, t < vT V' → wfT V' t ∨ (t < vT V ∧ ∀ j, j < 3 → V'.1 (34 + 3 * t + j) = V.1 (34 + 3 * t + j)))
    (hA : ∀ q, q < vA V' → wfA V' q ∨ (q < vA V ∧ (∀ j, j < 7 → V'.1 (58 + 7 * q + j) = V.1 (58 + 7 * q + j)) ∧ V'.2.1 (10 + q) = V.2.1 (10 + q) ∧ V'.2.1 (22 + q) = V.2.1 (22 + q) ∧ V'.2.1 (34 + q) = V.2.1 (34 + q)))
    (hG : ∀ q, q < vA V' → (∀ k, k < vG V' q → wfG V' q k) ∨ (q < vA V ∧ V'.1 (58 + 7 * q + 5) = V.1 (58 + 7 * q + 5) ∧ ∀ k j, k < 6 → j < 5 → V'.1 (gi q k j) = V.1 (gi q k j)))
    (hW : ∀ k, k < vN V' → wfW V' k ∨ (k < vN V ∧ ∀ j, j < 3 → V'.2.1 (46 + 3 * k + j) = V.2.1 (46 + 3 * k + j)))
    (hL : ∀ l, l < 2 → wfL V' l ∨ ∀ j, j < 5 → V'.1 (4 + 5 * l + j) = V.1 (4 + 5 * l + j)) : WF V' := by
  obtain ⟨⟨w1, w2, w3, w4⟩, wp, wt, wa, ww, wl⟩ := id w
  have h10 := w.P.2
  have h8 := w.T.2
  have h10' : vP V' ≤ 10 := Nat.le_of_lt_succ (vpe hc.1 (by decide)).2
  have h8' : vT V' ≤ 8 := Nat.le_of_lt_succ (vpe hc.2.1 (by decide)).2
  have upP : ∀ {x : Int32}, vp_in x (vP V) → vp_in x (vP V') := fun h => vp_up h uP (by omega)
  have upT : ∀ {x : Int32}, vp_in x (vT V) → vp_in x (vT V') := fun h => vp_up h uT (by omega)
  refine ⟨hc, fun p hp => ?_, fun t ht => ?_, fun q hq => ⟨?_, fun k hk => ?_⟩, fun k hk => ?_, fun l hl => ?_⟩
  · rcases hP p hp with h | ⟨a, e1, e2, e3⟩
    · exact h
    · unfold wfP
      rw [e1, e2, e3]
      exact wp p a
  · rcases hT t ht with h | ⟨a, e⟩
    · exact h
    · have e0 := e 0 (by omega)
      rw [Nat.add_zero] at e0
      unfold wfT
      rw [e0, e 1 (by omega), e 2 (by omega)]
      obtain ⟨b1, b2, b3⟩ := wt t a
      exact ⟨upP b1, b2, b3⟩
  · rcases hA q hq with h | ⟨a, e, e1, e2, e3⟩
    · exact h
    · have e0 := e 0 (by omega)
      rw [Nat.add_zero] at e0
      unfold wfA
      rw [e0, e 1 (by omega), e 2 (by omega), e 3 (by omega), e 4 (by omega), e 5 (by omega), e 6 (by omega), e1, e2, e3]
      obtain ⟨b1, b2, b3, b4, b5, b6, b7, b8, b9, b10, b11⟩ := (wa q a).1
      exact ⟨upP b1, b2, b3, b4, b5, b6, b7.imp id upP, b8, b9, fun i hi => by have := b10 i hi; omega, b11⟩
  · rcases hG q hq with h | ⟨a, e5, e⟩
    · exact h k hk
    · have eg : vG V' q = vG V q := by unfold vG; rw [e5]
      rw [eg] at hk
      have g6 : vG V q ≤ 6 := Nat.le_of_lt_succ (vpe (wa q a).1.2.2.2.2.2.1 (by decide)).2
      unfold wfG
      rw [e k 0 (by omega) (by omega), e k 1 (by omega) (by omega), e k 2 (by omega) (by omega), e k 3 (by omega) (by omega), e k 4 (by omega) (by omega)]
      obtain ⟨b1, b2, b3, b4, b5⟩ := (wa q a).2 k hk
      exact ⟨upT b1, upP b2, b3, b4.imp id (fun z => ⟨z.1, upP z.2⟩), b5.imp id upP⟩
  · rcases hW k hk with h | ⟨a, e⟩
    · exact h
    · have e0 := e 0 (by omega)
      rw [Nat.add_zero] at e0
      unfold wfW
      rw [e0, e 1 (by omega), e 2 (by omega)]
      obtain ⟨b1, b2, b3⟩ := ww k a
      exact ⟨upP b1, upP b2, b3⟩
  · rcases hL l hl with h | e
    · exact h
    · have e0 := e 0 (by omega)
      rw [Nat.add_zero] at e0
      unfold wfL
      rw [e0, e 1 (by omega), e 2 (by omega), e 3 (by omega), e 4 (by omega)]
      exact wl l hl
-- ===== the class's row r as a view =====
def om (x : Int32) : Int32 := if x = -1 then -2 else if x = -2 then -1 else x
theorem mo_om {x : Int32} (h : om x ≠ -1) : mo (om x) = x := by
  unfold om at h ⊢
  unfold mo
  by_cases a : x = -1
  · rw [if_pos a, if_pos rfl, a]
  · rw [if_neg a] at h ⊢
    by_cases b : x = -2
    · rw [if_pos b] at h; exact absurd rfl h
    · rw [if_neg b, if_neg b]
theorem om_m1 : om (-1) = -2 := rfl
theorem om_ok {x : Int32} (h : 0 ≤ x) : om x = x := by
  unfold om
  rw [if_neg (fun q => by rw [q] at h; exact absurd h (by decide)), if_neg (fun q => by rw [q] at h; exact absurd h (by decide))]
def cV1 (r : Nat) (c : gM) (i : Nat) : Int32 :=
  if i < 4 then rdI c (if i = 0 then 5 else if i = 1 then 6 else if i = 2 then 7 else 4) r 0 0
  else if i < 14 then rdI c (14 + (i - 4) % 5) r ((i - 4) / 5) 0
  else if i < 24 then rdI c 19 r (i - 14) 0
  else if i < 34 then rdI c 21 r (i - 24) 0
  else if i < 58 then rdI c (22 + (i - 34) % 3) r ((i - 34) / 3) 0
  else if i < 142 then (if (i - 58) % 7 = 6 then om (rdI c 32 r ((i - 58) / 7) 0) else rdI c (if (i - 58) % 7 = 5 then 35 else 25 + (i - 58) % 7) r ((i - 58) / 7) 0)
  else if (i - 142) % 5 < 3 then rdI c (36 + (i - 142) % 5) r ((i - 142) / 30) ((i - 142) % 30 / 5)
  else om (rdI c (36 + (i - 142) % 5) r ((i - 142) / 30) ((i - 142) % 30 / 5))
def cV2 (r : Nat) (c : gM) (i : Nat) : Int32 :=
  if i < 10 then om (rdI c 20 r i 0)
  else if i < 22 then om (rdI c 33 r (i - 10) 0)
  else if i < 34 then rdI c 30 r (i - 22) 0
  else if i < 46 then rdI c 34 r (i - 34) 0
  else if i < 64 then rdI c (10 + (i - 46) % 3) r 0 ((i - 46) / 3)
  else rdI c 8 r 0 0
def cV (r : Nat) (c : gM) : vV := (cV1 r c, cV2 r c, fun q => rdI c 31 r q 0)
section
variable {r : Nat} {c : gM}
theorem v_5 : (cV r c).1 0 = rdI c 5 r 0 0 := rfl
theorem v_6 : (cV r c).1 1 = rdI c 6 r 0 0 := rfl
theorem v_7 : (cV r c).1 2 = rdI c 7 r 0 0 := rfl
theorem v_4 : (cV r c).1 3 = rdI c 4 r 0 0 := rfl
theorem v_8 : (cV r c).2.1 64 = rdI c 8 r 0 0 := rfl
theorem v_19 {p : Nat} (h : p < 10) : (cV r c).1 (14 + p) = rdI c 19 r p 0 := by
  show cV1 r c (14 + p) = _
  unfold cV1
  rw [if_neg (by omega), if_neg (by omega), if_pos (by omega), show 14 + p - 14 = p by omega]
theorem v_21 {p : Nat} (h : p < 10) : (cV r c).1 (24 + p) = rdI c 21 r p 0 := by
  show cV1 r c (24 + p) = _
  unfold cV1
  rw [if_neg (by omega), if_neg (by omega), if_neg (by omega), if_pos (by omega), show 24 + p - 24 = p by omega]
theorem v_22 {t j : Nat} (h : t < 8) (hj : j < 3) : (cV r c).1 (34 + 3 * t + j) = rdI c (22 + j) r t 0 := by
  show cV1 r c (34 + 3 * t + j) = _
  unfold cV1
  rw [if_neg (by omega), if_neg (by omega), if_neg (by omega), if_neg (by omega), if_pos (by omega), show (34 + 3 * t + j - 34) % 3 = j by omega, show (34 + 3 * t + j - 34) / 3 = t by omega]
theorem v_25 {q j : Nat} (h : q < 12) (hj : j < 7) : (cV r c).1 (58 + 7 * q + j) = if j = 6 then om (rdI c 32 r q 0) else rdI c (if j = 5 then 35 else 25 + j) r q 0 := by
  show cV1 r c (58 + 7 * q + j) = _
  unfold cV1
  rw [if_neg (by omega), if_neg (by omega), if_neg (by omega), if_neg (by omega), if_neg (by omega), if_pos (by omega), show (58 + 7 * q + j - 58) % 7 = j by omega, show (58 + 7 * q + j - 58) / 7 = q by omega]
theorem v_36 {q k j : Nat} (h : q < 12) (hk : k < 6) (hj : j < 5) : (cV r c).1 (gi q k j) = if j < 3 then rdI c (36 + j) r q k else om (rdI c (36 + j) r q k) := by
  show cV1 r c (gi q k j) = _
  unfold cV1 gi
  rw [if_neg (by omega), if_neg (by omega), if_neg (by omega), if_neg (by omega), if_neg (by omega), if_neg (by omega), show (142 + 5 * (6 * q + k) + j - 142) % 5 = j by omega, show (142 + 5 * (6 * q + k) + j - 142) / 30 = q by omega, show (142 + 5 * (6 * q + k) + j - 142) % 30 / 5 = k by omega]
theorem v_14 {l j : Nat} (h : l < 2) (hj : j < 5) : (cV r c).1 (4 + 5 * l + j) = rdI c (14 + j) r l 0 := by
  show cV1 r c (4 + 5 * l + j) = _
  unfold cV1
  rw [if_neg (by omega), if_pos (by omega), show (4 + 5 * l + j - 4) % 5 = j by omega, show (4 + 5 * l + j - 4) / 5 = l by omega]
theorem v_20 {p : Nat} (h : p < 10) : (cV r c).2.1 p = om (rdI c 20 r p 0) := by
  show cV2 r c p = _
  unfold cV2
  rw [if_pos h]
theorem v_33 {q : Nat} (h : q < 12) : (cV r c).2.1 (10 + q) = om (rdI c 33 r q 0) := by
  show cV2 r c (10 + q) = _
  unfold cV2
  rw [if_neg (by omega), if_pos (by omega), show 10 + q - 10 = q by omega]
theorem v_30 {q : Nat} (h : q < 12) : (cV r c).2.1 (22 + q) = rdI c 30 r q 0 := by
  show cV2 r c (22 + q) = _
  unfold cV2
  rw [if_neg (by omega), if_neg (by omega), if_pos (by omega), show 22 + q - 22 = q by omega]
theorem v_34 {q : Nat} (h : q < 12) : (cV r c).2.1 (34 + q) = rdI c 34 r q 0 := by
  show cV2 r c (34 + q) = _
  unfold cV2
  rw [if_neg (by omega), if_neg (by omega), if_neg (by omega), if_pos (by omega), show 34 + q - 34 = q by omega]
theorem v_10 {k j : Nat} (h : k < 6) (hj : j < 3) : (cV r c).2.1 (46 + 3 * k + j) = rdI c (10 + j) r 0 k := by
  show cV2 r c (46 + 3 * k + j) = _
  unfold cV2
  rw [if_neg (by omega), if_neg (by omega), if_neg (by omega), if_neg (by omega), if_pos (by omega), show (46 + 3 * k + j - 46) % 3 = j by omega, show (46 + 3 * k + j - 46) / 3 = k by omega]
theorem v_25' {q : Nat} (h : q < 12) : (cV r c).1 (58 + 7 * q) = rdI c 25 r q 0 := v_25 (j := 0) h (by omega)
theorem v_22' {t : Nat} (h : t < 8) : (cV r c).1 (34 + 3 * t) = rdI c 22 r t 0 := v_22 (j := 0) h (by omega)
theorem v_14' {l : Nat} (h : l < 2) : (cV r c).1 (4 + 5 * l) = rdI c 14 r l 0 := v_14 (j := 0) h (by omega)
theorem v_10' {k : Nat} (h : k < 6) : (cV r c).2.1 (46 + 3 * k) = rdI c 10 r 0 k := v_10 (j := 0) h (by omega)
theorem cV_keep {c' : gM} (e : ∀ g b d, 4 ≤ g → g ≤ 40 → rdI c' g r b d = rdI c g r b d) : cV r c' = cV r c := by
  have a1 : cV1 r c' = cV1 r c := by
    funext i
    unfold cV1
    (repeat' split) <;> first | exact e _ _ _ (by omega) (by omega) | exact congrArg om (e _ _ _ (by omega) (by omega))
  have a2 : cV2 r c' = cV2 r c := by
    funext i
    unfold cV2
    (repeat' split) <;> first | exact e _ _ _ (by omega) (by omega) | exact congrArg om (e _ _ _ (by omega) (by omega))
  unfold cV
  rw [a1, a2]
  congr 2
  funext q
  exact e _ _ _ (by omega) (by omega)
theorem CV_of {lf : Nat → Nat} (w : WF (cV r c)) (f : cvF (prj r c) (cV r c) lf) : CV (prj r c) (cV r c) lf := by
  have h10 := w.P.2
  have h8 := w.T.2
  have h12 := w.A.2
  have h6 := w.N.2
  obtain ⟨-, wp, wt, wa, ww, wl⟩ := id w
  have ng : ∀ {x : Int32}, x = -2 ∨ dOK x → x ≠ -1 := fun {x} h q => by
    rcases h with h | h
    · rw [q] at h; exact absurd h (by decide)
    · rw [q] at h; exact absurd h.1 (by decide)
  have nv : ∀ {x : Int32} {n : Nat}, n < 100 → vp_in x n → x ≠ -1 := fun {x n} hn h q => by
    obtain ⟨j, hj, e⟩ := vp_in_of h (by omega)
    exact (nI_ne (show j < 2 ^ 31 by omega)).2 (e.symm.trans q)
  refine ⟨⟨rfl, rfl, rfl, rfl, rfl⟩, fun p hp => ?_, fun t ht => ?_, fun q hq => ⟨?_, fun k hk => ?_⟩, fun k hk => ?_, fun l hl => ?_, f⟩
  · unfold cvP
    have z := (wp p hp).2.1
    rw [v_20 (by omega)] at z
    rw [v_19 (by omega), v_20 (by omega), v_21 (by omega), mo_om (ng z)]
    exact ⟨rfl, rfl, rfl⟩
  · unfold cvT
    rw [v_22' (by omega), v_22 (by omega) (by omega), v_22 (by omega) (by omega)]
    exact ⟨rfl, rfl, rfl⟩
  · unfold cvA
    obtain ⟨b1, b2, b3, b4, b5, b6, b7, b8, b9, b10, b11⟩ := (wa q hq).1
    rw [v_25 (by omega) (by omega), if_pos rfl] at b7
    rw [v_33 (by omega)] at b8
    have z7 : om (rdI c 32 r q 0) ≠ -1 := by
      rcases b7 with z | z
      · rw [z]; decide
      · exact nv (by omega) z
    have z8 : om (rdI c 33 r q 0) ≠ -1 := by
      rcases b8 with z | z
      · rw [z]; decide
      · exact nv (by omega) z
    rw [v_25' (by omega), v_25 (by omega) (by omega), v_25 (by omega) (by omega), v_25 (by omega) (by omega), v_25 (by omega) (by omega), v_25 (by omega) (by omega), v_25 (by omega) (by omega), v_30 (by omega), v_33 (by omega), v_34 (by omega), if_pos (show (6 : Nat) = 6 from rfl), mo_om z7, mo_om z8]
    exact ⟨rfl, rfl, rfl, rfl, rfl, rfl, rfl, rfl, rfl, rfl, rfl⟩
  · unfold cvG
    have g6 : vG (cV r c) q ≤ 6 := Nat.le_of_lt_succ (vpe (wa q hq).1.2.2.2.2.2.1 (by decide)).2
    obtain ⟨b1, b2, b3, b4, b5⟩ := (wa q hq).2 k hk
    rw [v_36 (j := 2) (by omega) (by omega) (by omega), v_36 (j := 3) (by omega) (by omega) (by omega), if_pos (by omega), if_neg (by omega)] at b4
    rw [v_36 (by omega) (by omega) (by omega), if_neg (by omega)] at b5
    have z4 : om (rdI c (36 + 3) r q k) ≠ -1 := by
      rcases b4 with z | z
      · rw [z.2]; decide
      · exact nv (by omega) z.2
    have z5 : om (rdI c (36 + 4) r q k) ≠ -1 := by
      rcases b5 with z | z
      · rw [z]; decide
      · exact nv (by omega) z
    rw [v_36 (by omega) (by omega) (by omega), v_36 (by omega) (by omega) (by omega), v_36 (by omega) (by omega) (by omega), v_36 (by omega) (by omega) (by omega), v_36 (by omega) (by omega) (by omega), if_pos (by omega), if_pos (by omega), if_pos (by omega), if_neg (by omega), if_neg (by omega), mo_om z4, mo_om z5]
    exact ⟨rfl, rfl, rfl, rfl, rfl⟩
  · unfold cvW
    rw [v_10' (by omega), v_10 (by omega) (by omega), v_10 (by omega) (by omega)]
    exact ⟨rfl, rfl, rfl⟩
  · unfold cvL
    rw [v_14' hl, v_14 hl (by omega), v_14 hl (by omega), v_14 hl (by omega), v_14 hl (by omega)]
    exact ⟨rfl, rfl, rfl, rfl, rfl⟩
end
/-- the class's row r holds together -/
def CI (r : Nat) (c : gM) : Prop := WF (cV r c) ∧ ∃ lf, cvF (prj r c) (cV r c) lf
theorem CI.cv {r : Nat} {c : gM} (h : CI r c) : ∃ lf, CV (prj r c) (cV r c) lf ∧ WF (cV r c) := by
  obtain ⟨w, lf, f⟩ := h
  exact ⟨lf, CV_of w f, w⟩
theorem cV_off {r : Nat} {c c' : gM} {W : List Nat} (o : offW W c c') (k : W.all (fun g => Nat.blt g 4 || Nat.blt 40 g) = true) : cV r c' = cV r c :=
  cV_keep fun g b d h1 h2 => (o g r b d fun q => by
    have := List.all_eq_true.mp k g q
    rcases (Bool.or_eq_true _ _).mp this with z | z
    · have := Nat.le_of_ble_eq_true z; omega
    · have := Nat.le_of_ble_eq_true z; omega).1
theorem CI.keep {r : Nat} {c c' : gM} (h : CI r c) (e : ∀ g b d, 4 ≤ g → g ≤ 40 → rdI c' g r b d = rdI c g r b d) : CI r c' := by
  obtain ⟨w, lf, f1, f2⟩ := h
  unfold CI
  rw [cV_keep e]
  refine ⟨w, lf, fun i hi => ⟨(f1 i hi).1, ?_⟩, f2⟩
  have := (f1 i hi).2
  rw [rpj] at this ⊢
  rw [e 9 _ _ (by omega) (by omega)]
  exact this
theorem CI.off {r : Nat} {c c' : gM} (h : CI r c) {W : List Nat} (o : offW W c c') (k : W.all (fun g => Nat.blt g 4 || Nat.blt 40 g) = true) : CI r c' :=
  h.keep fun g b d h1 h2 => (o g r b d fun q => by
    have := List.all_eq_true.mp k g q
    rcases (Bool.or_eq_true _ _).mp this with z | z
    · have := Nat.le_of_ble_eq_true z; omega
    · have := Nat.le_of_ble_eq_true z; omega).1
-- what isn't touched
section
variable {r : Nat} {d c : gM} {W : List Nat}
theorem offW.at' (o : offW W d c) {g : Nat} (k : g ∉ W) (a b x : Nat) : rdI c g a b x = rdI d g a b x := (o g a b x k).1
theorem x_P (w : WF (cV r d)) (o : offW W d c) (k : W.all (fun g => g != 5 && g != 19 && g != 20 && g != 21) = true) : vP (cV r c) = vP (cV r d) ∧ vp_in ((cV r c).1 0) 11 ∧ ∀ p, p < vP (cV r c) → wfP (cV r c) p ∨ (p < vP (cV r d) ∧ (cV r c).1 (14 + p) = (cV r d).1 (14 + p) ∧ (cV r c).2.1 p = (cV r d).2.1 p ∧ (cV r c).1 (24 + p) = (cV r d).1 (24 + p)) := by
  have n : ∀ g, (g = 5 ∨ g = 19 ∨ g = 20 ∨ g = 21) → g ∉ W := fun g hg q => by
    have := List.all_eq_true.mp k g q
    rcases hg with rfl | rfl | rfl | rfl <;> simp at this
  have h10 := w.P.2
  have e0 : (cV r c).1 0 = (cV r d).1 0 := by rw [v_5, v_5, o.at' (n 5 (by omega))]
  have e : vP (cV r c) = vP (cV r d) := by unfold vP; rw [e0]
  refine ⟨e, by rw [e0]; exact w.1.1, fun p hp => Or.inr ⟨by omega, ?_, ?_, ?_⟩⟩
  · rw [v_19 (by omega), v_19 (by omega), o.at' (n 19 (by omega))]
  · rw [v_20 (by omega), v_20 (by omega), o.at' (n 20 (by omega))]
  · rw [v_21 (by omega), v_21 (by omega), o.at' (n 21 (by omega))]
theorem x_T (w : WF (cV r d)) (o : offW W d c) (k : W.all (fun g => g != 6 && g != 22 && g != 23 && g != 24) = true) : vT (cV r c) = vT (cV r d) ∧ vp_in ((cV r c).1 1) 9 ∧ ∀ t, t < vT (cV r c) → wfT (cV r c) t ∨ (t < vT (cV r d) ∧ ∀ j, j < 3 → (cV r c).1 (34 + 3 * t + j) = (cV r d).1 (34 + 3 * t + j)) := by
  have n : ∀ g, (g = 6 ∨ g = 22 ∨ g = 23 ∨ g = 24) → g ∉ W := fun g hg q => by
    have := List.all_eq_true.mp k g q
    rcases hg with rfl | rfl | rfl | rfl <;> simp at this
  have h8 := w.T.2
  have e0 : (cV r c).1 1 = (cV r d).1 1 := by rw [v_6, v_6, o.at' (n 6 (by omega))]
  have e : vT (cV r c) = vT (cV r d) := by unfold vT; rw [e0]
  refine ⟨e, by rw [e0]; exact w.1.2.1, fun t ht => Or.inr ⟨by omega, fun j hj => ?_⟩⟩
  rw [v_22 (by omega) hj, v_22 (by omega) hj, o.at' (n (22 + j) (by omega))]
theorem x_A (w : WF (cV r d)) (o : offW W d c) (k : W.all (fun g => g != 7 && (Nat.blt g 25 || Nat.blt 40 g)) = true) : vA (cV r c) = vA (cV r d) ∧ vp_in ((cV r c).1 2) 13 ∧ (∀ q, q < vA (cV r c) → wfA (cV r c) q ∨ (q < vA (cV r d) ∧ (∀ j, j < 7 → (cV r c).1 (58 + 7 * q + j) = (cV r d).1 (58 + 7 * q + j)) ∧ (cV r c).2.1 (10 + q) = (cV r d).2.1 (10 + q) ∧ (cV r c).2.1 (22 + q) = (cV r d).2.1 (22 + q) ∧ (cV r c).2.1 (34 + q) = (cV r d).2.1 (34 + q))) ∧
    ∀ q, q < vA (cV r c) → (∀ k, k < vG (cV r c) q → wfG (cV r c) q k) ∨ (q < vA (cV r d) ∧ (cV r c).1 (58 + 7 * q + 5) = (cV r d).1 (58 + 7 * q + 5) ∧ ∀ k j, k < 6 → j < 5 → (cV r c).1 (gi q k j) = (cV r d).1 (gi q k j)) := by
  have n7 : 7 ∉ W := fun q => by
    have := List.all_eq_true.mp k 7 q
    simp at this
  have n : ∀ g, 25 ≤ g → g ≤ 40 → g ∉ W := fun g h1 h2 q => by
    have := ((Bool.and_eq_true _ _).mp (List.all_eq_true.mp k g q)).2
    rcases (Bool.or_eq_true _ _).mp this with z | z
    · have := Nat.le_of_ble_eq_true z; omega
    · have := Nat.le_of_ble_eq_true z; omega
  have h12 := w.A.2
  have e0 : (cV r c).1 2 = (cV r d).1 2 := by rw [v_7, v_7, o.at' n7]
  have e : vA (cV r c) = vA (cV r d) := by unfold vA; rw [e0]
  have ej : ∀ q, q < 12 → ∀ j, j < 7 → (cV r c).1 (58 + 7 * q + j) = (cV r d).1 (58 + 7 * q + j) := fun q hq j hj => by
    rw [v_25 hq hj, v_25 hq hj]
    by_cases z : j = 6
    · rw [if_pos z, if_pos z, o.at' (n 32 (by omega) (by omega))]
    · rw [if_neg z, if_neg z]
      by_cases y : j = 5
      · rw [if_pos y, o.at' (n 35 (by omega) (by omega))]
      · rw [if_neg y, o.at' (n (25 + j) (by omega) (by omega))]
  refine ⟨e, by rw [e0]; exact w.1.2.2.1, fun q hq => Or.inr ⟨by omega, ej q (by omega), ?_, ?_, ?_⟩, fun q hq => Or.inr ⟨by omega, ej q (by omega) 5 (by omega), fun k j hk hj => ?_⟩⟩
  · rw [v_33 (by omega), v_33 (by omega), o.at' (n 33 (by omega) (by omega))]
  · rw [v_30 (by omega), v_30 (by omega), o.at' (n 30 (by omega) (by omega))]
  · rw [v_34 (by omega), v_34 (by omega), o.at' (n 34 (by omega) (by omega))]
  · rw [v_36 (by omega) hk hj, v_36 (by omega) hk hj, o.at' (n (36 + j) (by omega) (by omega))]
theorem x_W (w : WF (cV r d)) (o : offW W d c) (k : W.all (fun g => g != 8 && g != 10 && g != 11 && g != 12) = true) : vp_in ((cV r c).2.1 64) 7 ∧ ∀ k, k < vN (cV r c) → wfW (cV r c) k ∨ (k < vN (cV r d) ∧ ∀ j, j < 3 → (cV r c).2.1 (46 + 3 * k + j) = (cV r d).2.1 (46 + 3 * k + j)) := by
  have n : ∀ g, (g = 8 ∨ g = 10 ∨ g = 11 ∨ g = 12) → g ∉ W := fun g hg q => by
    have := List.all_eq_true.mp k g q
    rcases hg with rfl | rfl | rfl | rfl <;> simp at this
  have h6 := w.N.2
  have e0 : (cV r c).2.1 64 = (cV r d).2.1 64 := by rw [v_8, v_8, o.at' (n 8 (by omega))]
  have e : vN (cV r c) = vN (cV r d) := by unfold vN; rw [e0]
  refine ⟨by rw [e0]; exact w.1.2.2.2, fun k hk => Or.inr ⟨by omega, fun j hj => ?_⟩⟩
  rw [v_10 (by omega) hj, v_10 (by omega) hj, o.at' (n (10 + j) (by omega))]
theorem x_L (o : offW W d c) (k : W.all (fun g => Nat.blt g 14 || Nat.blt 18 g) = true) : ∀ l, l < 2 → wfL (cV r c) l ∨ ∀ j, j < 5 → (cV r c).1 (4 + 5 * l + j) = (cV r d).1 (4 + 5 * l + j) := by
  have n : ∀ g, 14 ≤ g → g ≤ 18 → g ∉ W := fun g h1 h2 q => by
    have := List.all_eq_true.mp k g q
    rcases (Bool.or_eq_true _ _).mp this with z | z
    · have := Nat.le_of_ble_eq_true z; omega
    · have := Nat.le_of_ble_eq_true z; omega
  refine fun l hl => Or.inr fun j hj => ?_
  rw [v_14 hl hj, v_14 hl hj, o.at' (n (14 + j) (by omega) (by omega))]
theorem x_F {lf : Nat → Nat} (w : WF (cV r d)) (f : cvF (prj r d) (cV r d) lf) (o : offW W d c) (k : W.all (fun g => g != 7 && g != 9 && g != 26) = true) : cvF (prj r c) (cV r c) lf := by
  have n : ∀ g, (g = 7 ∨ g = 9 ∨ g = 26) → g ∉ W := fun g hg q => by
    have := List.all_eq_true.mp k g q
    rcases hg with rfl | rfl | rfl <;> simp at this
  have h12 := w.A.2
  have e : vA (cV r c) = vA (cV r d) := by unfold vA; rw [v_7, v_7, o.at' (n 7 (by omega))]
  have ed : ∀ q, q < 12 → (cV r c).1 (58 + 7 * q + 1) = (cV r d).1 (58 + 7 * q + 1) := fun q hq => by
    rw [v_25 hq (by omega), v_25 hq (by omega)]
    show rdI c 26 r q 0 = rdI d 26 r q 0
    rw [o.at' (n 26 (by omega))]
  obtain ⟨f1, f2⟩ := f
  refine ⟨fun i hi => ?_, fun i j hi hj => ?_⟩
  · rw [e] at hi ⊢
    refine ⟨(f1 i hi).1, ?_⟩
    have := (f1 i hi).2
    rw [rpj] at this ⊢
    rw [o.at' (n 9 (by omega))]
    exact this
  · rw [e] at hj
    have := f2 i j hi hj
    have a := (f1 i (by omega)).1
    have b := (f1 j hj).1
    unfold vlater at this ⊢
    rw [ed _ (by omega), ed _ (by omega)]
    exact this
end
end
