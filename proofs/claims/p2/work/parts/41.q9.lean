set_option linter.all false
noncomputable section
def dH (V : vV) (lf : Nat → Nat) (p o t d : Nat) : Bool := bt (vhold (vrun (vset V p (nI d)) lf t 9999).1) o
def dq (V : vV) (q : Nat) : Nat := nn (V.1 (58 + 7 * q + 1))
def dw (V : vV) (k : Nat) : Nat := nn (V.2.1 (46 + 3 * k + 2))
def dp (V : vV) (q : Nat) : Nat := nn (V.2.1 q)
def told (V : vV) (p d : Nat) : Prop := (∃ q, q < vA V ∧ dq V q = d) ∨ (∃ k, k < vN V ∧ dw V k = d) ∨ (∃ q, q < vP V ∧ q ≠ p ∧ V.2.1 q ≠ -2 ∧ dp V q = d)
theorem dOK_n {d : Nat} (h : d ≤ 9999) : dOK (nI d) := ⟨nI_pos' (by omega), (nI_leI (b := 9999) (by omega) (by decide)).mpr h⟩
theorem dOK_e {x : Int32} (h : dOK x) : ∃ d, d ≤ 9999 ∧ x = nI d := by
  obtain ⟨j, hj, e⟩ := nI_of (x := x) (i_nlt.mpr h.1)
  rw [e] at h
  exact ⟨j, (nI_leI (b := 9999) hj (by decide)).mp h.2, e⟩
theorem dOK_nn {x : Int32} (h : dOK x) : x = nI (nn x) ∧ nn x ≤ 9999 := by
  obtain ⟨d, hd, rfl⟩ := dOK_e h
  rw [nn_nI (by omega)]
  exact ⟨rfl, hd⟩
theorem wdq {V : vV} (w : WF V) {q : Nat} (hq : q < vA V) : V.1 (58 + 7 * q + 1) = nI (dq V q) ∧ dq V q ≤ 9999 := dOK_nn (w.2.2.2.1 q hq).1.2.1
theorem wdw {V : vV} (w : WF V) {k : Nat} (hk : k < vN V) : V.2.1 (46 + 3 * k + 2) = nI (dw V k) ∧ dw V k ≤ 9999 := dOK_nn (w.2.2.2.2.1 k hk).2.2
theorem wdp {V : vV} (w : WF V) {q : Nat} (hq : q < vP V) (m : V.2.1 q ≠ -2) : V.2.1 q = nI (dp V q) ∧ dp V q ≤ 9999 := dOK_nn (((w.2.1 q hq).2.1).resolve_left m)
theorem tol_n {d1 d2 e : Nat} (h1 : d1 ≤ 9999) (h2 : d2 ≤ 9999) (he : e ≤ 9999) (h : ¬ (d1 ≤ e ∧ e ≤ d2)) : tol (nI d1) (nI d2) (nI e) := by
  unfold tol
  rw [nI_toInt (by omega), nI_toInt (by omega), nI_toInt (by omega)]
  omega
theorem dH_c {V : vV} (w : WF V) {lf : Nat → Nat} (hl : ∀ i, i < vA V → lf i < vA V) {p o t d1 d2 : Nat} (hp : p < vP V) (h12 : d1 ≤ d2) (h2 : d2 ≤ 9999) (hn : ∀ e, told V p e → ¬ (d1 ≤ e ∧ e ≤ d2)) : dH V lf p o t d1 = dH V lf p o t d2 := by
  have nt : NT V p (nI d1) (nI d2) := by
    refine ⟨dOK_n (by omega), dOK_n h2, ?_, fun q hq => ?_, fun k hk => ?_, fun q hq hne => ?_⟩
    · rw [nI_toInt (by omega), nI_toInt (by omega)]; omega
    · obtain ⟨ee, he⟩ := wdq w hq
      rw [ee]
      exact tol_n (by omega) h2 he (hn _ (Or.inl ⟨q, hq, rfl⟩))
    · obtain ⟨ee, he⟩ := wdw w hk
      rw [ee]
      exact tol_n (by omega) h2 he (hn _ (Or.inr (Or.inl ⟨k, hk, rfl⟩)))
    · by_cases z : V.2.1 q = -2
      · exact Or.inl z
      · obtain ⟨ee, he⟩ := wdp w hq z
        rw [ee]
        exact Or.inr (tol_n (by omega) h2 he (hn _ (Or.inr (Or.inr ⟨q, hq, hne, z, rfl⟩))))
  unfold dH
  rw [c_run w nt hp hl]
def aLeast (V : vV) (lf : Nat → Nat) (p o t : Nat) (r : Int32) : Prop := (∃ d, d ≤ 9999 ∧ dH V lf p o t d = true ∧ (∀ d', d' < d → dH V lf p o t d' = false) ∧ r = nI d) ∨ ((∀ d, d ≤ 9999 → dH V lf p o t d = false) ∧ r = -2)
theorem aLeast_u {V : vV} {lf : Nat → Nat} {p o t : Nat} {r r' : Int32} (h : aLeast V lf p o t r) (h' : aLeast V lf p o t r') : r = r' := by
  rcases h with ⟨d, a1, a2, a3, a4⟩ | ⟨a1, a2⟩ <;> rcases h' with ⟨d', b1, b2, b3, b4⟩ | ⟨b1, b2⟩
  · rcases Nat.lt_trichotomy d d' with z | z | z
    · rw [b3 d z] at a2; cases a2
    · rw [a4, b4, z]
    · rw [a3 d' z] at b2; cases b2
  · rw [b1 d a1] at a2; cases a2
  · rw [a1 d' b1] at b2; cases b2
  · rw [a2, b2]
-- ===== the class's turns =====
def tbn (x y e : Nat) : Nat := if x ≤ e then Nat.min y (Nat.max e (x + 1)) else y
theorem mx_nI {a b : Nat} (ha : a < 2 ^ 31) (hb : b < 2 ^ 31) : mx (nI a) (nI b) = nI (Nat.max a b) := by
  unfold mx
  by_cases h : a < b
  · rw [if_pos (nI_lt h hb), show Nat.max a b = b from Nat.max_eq_right (by omega)]
  · rw [if_neg (nI_nlt (by omega) ha), show Nat.max a b = a from Nat.max_eq_left (by omega)]
theorem sNear {M : gM} {x0 x1 x2 : Int32} : s_X7_nearer M x0 x1 x2 := by unfold s_X7_nearer; split <;> trivial
theorem fNear {M : gM} {y x e : Nat} (hy : y ≤ 10000) (hx : x ≤ 9999) (he : e ≤ 9999) : f_X7_nearer M (nI y) (nI x) (nI e) = nI (tbn x y e) := by
  unfold f_X7_nearer tbn
  have m1 : Nat.max e (x + 1) ≤ 10000 := by
    rcases Nat.le_total e (x + 1) with z | z
    · rw [show Nat.max e (x + 1) = x + 1 from Nat.max_eq_right z]; omega
    · rw [show Nat.max e (x + 1) = e from Nat.max_eq_left z]; omega
  by_cases h : x ≤ e
  · rw [if_pos (nI_le h (by omega)), if_pos h, p1, mx_nI (by omega) (by omega), mn_nI (by omega) (by omega)]
  · rw [if_neg (nI_ge (by omega) (by omega)), if_neg h]
def TB (V : vV) (p : Nat) (C : Nat → Prop) (x y : Nat) : Prop := x < y ∧ y ≤ 10000 ∧ (∀ e, C e → x ≤ e → y ≤ Nat.max e (x + 1)) ∧ (y = 10000 ∨ ∃ e, told V p e ∧ x ≤ e ∧ y = Nat.max e (x + 1))
theorem TB.step {V : vV} {p : Nat} {C C' : Nat → Prop} {x y e0 : Nat} (h : TB V p C x y) (he : e0 ≤ 9999) (ht : told V p e0) (hC : ∀ e, C' e → C e ∨ e = e0) : TB V p C' x (tbn x y e0) := by
  obtain ⟨a1, a2, a3, a4⟩ := h
  have mx1 : x + 1 ≤ Nat.max e0 (x + 1) := Nat.le_max_right _ _
  unfold tbn
  by_cases z : x ≤ e0
  · rw [if_pos z]
    have mi := Nat.min_le_left y (Nat.max e0 (x + 1))
    have mi2 := Nat.min_le_right y (Nat.max e0 (x + 1))
    have mi : Nat.min y (Nat.max e0 (x + 1)) ≤ y := mi
    have mi2 : Nat.min y (Nat.max e0 (x + 1)) ≤ Nat.max e0 (x + 1) := mi2
    rcases Nat.le_total y (Nat.max e0 (x + 1)) with u | u
    · have eq : Nat.min y (Nat.max e0 (x + 1)) = y := Nat.min_eq_left u
      refine ⟨by omega, by omega, fun e hc hx => ?_, ?_⟩
      · rcases hC e hc with v | v
        · have := a3 e v hx; omega
        · subst v; exact mi2
      · rw [eq]; exact a4
    · have eq : Nat.min y (Nat.max e0 (x + 1)) = Nat.max e0 (x + 1) := Nat.min_eq_right u
      refine ⟨by omega, by omega, fun e hc hx => ?_, Or.inr ⟨e0, ht, z, eq⟩⟩
      rcases hC e hc with v | v
      · have := a3 e v hx; omega
      · subst v; exact mi2
  · rw [if_neg z]
    refine ⟨a1, a2, fun e hc hx => ?_, a4⟩
    rcases hC e hc with v | v
    · exact a3 e v hx
    · subst v; exact absurd hx z
theorem TB.sub {V : vV} {p : Nat} {C C' : Nat → Prop} {x y : Nat} (h : TB V p C x y) (hC : ∀ e, C' e → C e) : TB V p C' x y := ⟨h.1, h.2.1, fun e he hx => h.2.2.1 e (hC e he) hx, h.2.2.2⟩
def tA (V : vV) (n e : Nat) : Prop := ∃ q, q < n ∧ dq V q = e
def tW (V : vV) (n e : Nat) : Prop := ∃ k, k < n ∧ dw V k = e
def tP (V : vV) (p n e : Nat) : Prop := ∃ q, q < n ∧ q ≠ p ∧ V.2.1 q ≠ -2 ∧ dp V q = e
theorem X7_turn3 {M : gM} {V : vV} {lf : Nat → Nat} (c : CV M V lf) (w : WF V) {p x y : Nat} (hx : x ≤ 9999) (hp : p < vP V) (h : TB V p (fun e => tA V (vA V) e ∨ tW V (vN V) e) x y) :
    s_X7_turnBehind_72 M 0 (nI x) (nI p) FU (nI y) 0 ∧ ∃ z, f_X7_turnBehind_72 M 0 (nI x) (nI p) FU (nI y) 0 = nI z ∧ TB V p (told V p) x z := by
  have hN := c.P w
  have h10 := w.P.2
  refine lp (fun n k (s : Int32) => f_X7_turnBehind_72 M 0 (nI x) (nI p) n s (nI k)) (fun n k s => s_X7_turnBehind_72 M 0 (nI x) (nI p) n s (nI k)) (fun k s => ∃ y, s = nI y ∧ TB V p (fun e => tA V (vA V) e ∨ tW V (vN V) e ∨ tP V p k e) x y) (fun r => ∃ z, r = nI z ∧ TB V p (told V p) x z) (vP V) ?_ ?_ FU 0 (nI y) (Nat.zero_le _) (by rw [FU_eq]; omega) ⟨y, rfl, h.sub fun e he => ?_⟩
  · rintro n k s hk ⟨y, rfl, hy⟩ ih
    have i1 : vp_in (nI k) 10 := vpi (by omega)
    have ex : (nI k = nI p) = (k = p) := propext (nI_eq (by omega) (by omega))
    have e20 := (c.2.1 k hk).2.1
    have skip : ¬ (k ≠ p ∧ V.2.1 k ≠ -2) → ∀ e, (tA V (vA V) e ∨ tW V (vN V) e ∨ tP V p (k + 1) e) → (tA V (vA V) e ∨ tW V (vN V) e ∨ tP V p k e) := by
      rintro hs e (a | a | ⟨q, a, b, d, f⟩)
      · exact Or.inl a
      · exact Or.inr (Or.inl a)
      · have : q ≠ k := fun u => by subst u; exact hs ⟨b, d⟩
        exact Or.inr (Or.inr ⟨q, by omega, b, d, f⟩)
    simp only [s_X7_turnBehind_72, f_X7_turnBehind_72, bnd, bndP, hN, if_neg (nI_ge hk (by omega)), ex, nn_nI (show k < 2 ^ 31 by omega), i1, sX6_mortal, fX6_mortal c w hk, p1, true_and, bz_0, decide_eq_false_iff_not, e20, sNear]
    by_cases z : k = p
    · rw [if_pos z, if_pos z]
      exact ih (nI y) ⟨y, rfl, hy.sub (skip fun u => u.1 z)⟩
    · rw [if_neg z, if_neg z]
      by_cases m : V.2.1 k = -2
      · rw [if_pos (fun u => u m), if_pos (fun u => u m)]
        exact ih (nI y) ⟨y, rfl, hy.sub (skip fun u => u.2 m)⟩
      · rw [if_neg (fun u => u m), if_neg (fun u => u m)]
        obtain ⟨ee, he0⟩ := wdp w hk m
        rw [mo_ne m, ee, fNear hy.2.1 hx he0]
        refine ih _ ⟨_, rfl, hy.step he0 (Or.inr (Or.inr ⟨k, hk, z, m, rfl⟩)) ?_⟩
        rintro e (a | a | ⟨q, a, b, d, f⟩)
        · exact Or.inl (Or.inl a)
        · exact Or.inl (Or.inr (Or.inl a))
        · by_cases u : q = k
          · subst u; exact Or.inr f.symm
          · exact Or.inl (Or.inr (Or.inr ⟨q, by omega, b, d, f⟩))
  · rintro n s ⟨y, rfl, hy⟩
    simp only [s_X7_turnBehind_72, f_X7_turnBehind_72, hN, if_pos (nI_le (Nat.le_refl (vP V)) (by omega))]
    exact ⟨trivial, y, rfl, hy⟩
  · rcases he with a | a | ⟨q, a, -⟩
    · exact Or.inl a
    · exact Or.inr a
    · omega
theorem X7_turn2 {M : gM} {V : vV} {lf : Nat → Nat} (c : CV M V lf) (w : WF V) {p x y : Nat} (hx : x ≤ 9999) (hp : p < vP V) (h : TB V p (tA V (vA V)) x y) :
    s_X7_turnBehind_41 M 0 (nI x) (nI p) FU (nI y) 0 ∧ ∃ z, f_X7_turnBehind_41 M 0 (nI x) (nI p) FU (nI y) 0 = nI z ∧ TB V p (told V p) x z := by
  have hN := c.N w
  have h6 := w.N.2
  refine lp (fun n k (s : Int32) => f_X7_turnBehind_41 M 0 (nI x) (nI p) n s (nI k)) (fun n k s => s_X7_turnBehind_41 M 0 (nI x) (nI p) n s (nI k)) (fun k s => ∃ y, s = nI y ∧ TB V p (fun e => tA V (vA V) e ∨ tW V k e) x y) (fun r => ∃ z, r = nI z ∧ TB V p (told V p) x z) (vN V) ?_ ?_ FU 0 (nI y) (Nat.zero_le _) (by rw [FU_eq]; omega) ⟨y, rfl, h.sub fun e he => ?_⟩
  · rintro n k s hk ⟨y, rfl, hy⟩ ih
    have i1 : vp_in (nI k) 6 := vpi (by omega)
    have e12 := (c.2.2.2.2.1 k hk).2.2
    obtain ⟨ee, he0⟩ := wdw w hk
    simp only [s_X7_turnBehind_41, f_X7_turnBehind_41, bnd, bndP, hN, if_neg (nI_ge hk (by omega)), nn_nI (show k < 2 ^ 31 by omega), i1, p1, true_and, e12, ee, sNear, fNear hy.2.1 hx he0]
    refine ih _ ⟨_, rfl, hy.step he0 (Or.inr (Or.inl ⟨k, hk, rfl⟩)) ?_⟩
    rintro e (a | ⟨q, a, f⟩)
    · exact Or.inl (Or.inl a)
    · by_cases u : q = k
      · subst u; exact Or.inr f.symm
      · exact Or.inl (Or.inr ⟨q, by omega, f⟩)
  · rintro n s ⟨y, rfl, hy⟩
    simp only [s_X7_turnBehind_41, f_X7_turnBehind_41, hN, if_pos (nI_le (Nat.le_refl (vN V)) (by omega))]
    exact X7_turn3 c w hx hp hy
  · rcases he with a | ⟨q, a, -⟩
    · exact a
    · omega
theorem X7_turn {M : gM} {V : vV} {lf : Nat → Nat} (c : CV M V lf) (w : WF V) {p x : Nat} (hx : x ≤ 9999) (hp : p < vP V) :
    s_X7_turnBehind M 0 (nI x) (nI p) ∧ ∃ z, f_X7_turnBehind M 0 (nI x) (nI p) = nI z ∧ TB V p (told V p) x z := by
  have hN := c.A w
  have h12 := w.A.2
  unfold s_X7_turnBehind f_X7_turnBehind
  refine lp (fun n k (s : Int32) => f_X7_turnBehind_7 M 0 (nI x) (nI p) n s (nI k)) (fun n k s => s_X7_turnBehind_7 M 0 (nI x) (nI p) n s (nI k)) (fun k s => ∃ y, s = nI y ∧ TB V p (tA V k) x y) (fun r => ∃ z, r = nI z ∧ TB V p (told V p) x z) (vA V) ?_ ?_ FU 0 10000 (Nat.zero_le _) (by rw [FU_eq]; omega) ⟨10000, rfl, by omega, Nat.le_refl _, fun e he => ?_, Or.inl rfl⟩
  · rintro n k s hk ⟨y, rfl, hy⟩ ih
    have i1 : vp_in (nI k) 12 := vpi (by omega)
    have e26 := (c.2.2.2.1 k hk).1.2.1
    obtain ⟨ee, he0⟩ := wdq w hk
    simp only [s_X7_turnBehind_7, f_X7_turnBehind_7, bnd, bndP, hN, if_neg (nI_ge hk (by omega)), nn_nI (show k < 2 ^ 31 by omega), i1, p1, true_and, e26, ee, sNear, fNear hy.2.1 hx he0]
    refine ih _ ⟨_, rfl, hy.step he0 (Or.inl ⟨k, hk, rfl⟩) ?_⟩
    rintro e ⟨q, a, f⟩
    by_cases u : q = k
    · subst u; exact Or.inr f.symm
    · exact Or.inl ⟨q, by omega, f⟩
  · rintro n s ⟨y, rfl, hy⟩
    simp only [s_X7_turnBehind_7, f_X7_turnBehind_7, hN, if_pos (nI_le (Nat.le_refl (vA V)) (by omega))]
    exact X7_turn2 c w hx hp hy
  · obtain ⟨q, a, -⟩ := he; omega
-- how many turns are left
def vmu (V : vV) (p x : Nat) : Nat := (fb_ct (fun q => decide (x < dq V q)) (vA V) + fb_ct (fun q => decide (x ≤ dq V q)) (vA V)) + (fb_ct (fun q => decide (x < dw V q)) (vN V) + fb_ct (fun q => decide (x ≤ dw V q)) (vN V)) + (fb_ct (fun q => decide (q ≠ p ∧ V.2.1 q ≠ -2 ∧ x < dp V q)) (vP V) + fb_ct (fun q => decide (q ≠ p ∧ V.2.1 q ≠ -2 ∧ x ≤ dp V q)) (vP V))
theorem ct_st {P Q : Nat → Bool} {n i : Nat} (h : ∀ k, k < n → Q k = true → P k = true) (hi : i < n) (hp : P i = true) (hq : Q i = false) : fb_ct Q n + 1 ≤ fb_ct P n := by
  have u := fb_ct_upd P false hi
  have z : (if false = true then 1 else 0) = 0 := rfl
  rw [z, if_pos hp] at u
  have s : fb_ct Q n ≤ fb_ct (fun k => if k = i then false else P k) n := fb_ct_sub fun k hk hk2 => by
    have : k ≠ i := fun e => by rw [e, hq] at hk2; cases hk2
    rw [if_neg this]; exact h k hk hk2
  omega
theorem vmu_0 {V : vV} (w : WF V) (p : Nat) : vmu V p 0 ≤ 56 := by
  have h10 := w.P.2
  have h12 := w.A.2
  have h6 := w.N.2
  unfold vmu
  have := fb_ct_le (fun q => decide (0 < dq V q)) (vA V)
  have := fb_ct_le (fun q => decide (0 ≤ dq V q)) (vA V)
  have := fb_ct_le (fun q => decide (0 < dw V q)) (vN V)
  have := fb_ct_le (fun q => decide (0 ≤ dw V q)) (vN V)
  have := fb_ct_le (fun q => decide (q ≠ p ∧ V.2.1 q ≠ -2 ∧ 0 < dp V q)) (vP V)
  have := fb_ct_le (fun q => decide (q ≠ p ∧ V.2.1 q ≠ -2 ∧ 0 ≤ dp V q)) (vP V)
  omega
theorem vmu_s {V : vV} {p x y : Nat} (h : x < y) (e : Nat) (ht : told V p e) (hx : x ≤ e) (hy : y = Nat.max e (x + 1)) : vmu V p y + 1 ≤ vmu V p x := by
  have a1 : fb_ct (fun q => decide (y < dq V q)) (vA V) ≤ fb_ct (fun q => decide (x < dq V q)) (vA V) := fb_ct_sub fun k _ hk => by simp at hk ⊢; omega
  have a2 : fb_ct (fun q => decide (y ≤ dq V q)) (vA V) ≤ fb_ct (fun q => decide (x ≤ dq V q)) (vA V) := fb_ct_sub fun k _ hk => by simp at hk ⊢; omega
  have b1 : fb_ct (fun q => decide (y < dw V q)) (vN V) ≤ fb_ct (fun q => decide (x < dw V q)) (vN V) := fb_ct_sub fun k _ hk => by simp at hk ⊢; omega
  have b2 : fb_ct (fun q => decide (y ≤ dw V q)) (vN V) ≤ fb_ct (fun q => decide (x ≤ dw V q)) (vN V) := fb_ct_sub fun k _ hk => by simp at hk ⊢; omega
  have c1 : fb_ct (fun q => decide (q ≠ p ∧ V.2.1 q ≠ -2 ∧ y < dp V q)) (vP V) ≤ fb_ct (fun q => decide (q ≠ p ∧ V.2.1 q ≠ -2 ∧ x < dp V q)) (vP V) := fb_ct_sub fun k _ hk => by
    rw [decide_eq_true_iff] at hk ⊢; exact ⟨hk.1, hk.2.1, by omega⟩
  have c2 : fb_ct (fun q => decide (q ≠ p ∧ V.2.1 q ≠ -2 ∧ y ≤ dp V q)) (vP V) ≤ fb_ct (fun q => decide (q ≠ p ∧ V.2.1 q ≠ -2 ∧ x ≤ dp V q)) (vP V) := fb_ct_sub fun k _ hk => by
    rw [decide_eq_true_iff] at hk ⊢; exact ⟨hk.1, hk.2.1, by omega⟩
  unfold vmu
  by_cases z : x = e
  · have hy : y = x + 1 := by rw [hy, z]; exact Nat.max_eq_right (by omega)
    rcases ht with ⟨q, hq, eq⟩ | ⟨q, hq, eq⟩ | ⟨q, hq, n1, n2, eq⟩
    · have := ct_st (P := fun q => decide (x ≤ dq V q)) (Q := fun q => decide (y ≤ dq V q)) (fun k _ hk => by simp at hk ⊢; omega) hq (by simp; omega) (by simp; omega)
      omega
    · have := ct_st (P := fun q => decide (x ≤ dw V q)) (Q := fun q => decide (y ≤ dw V q)) (fun k _ hk => by simp at hk ⊢; omega) hq (by simp; omega) (by simp; omega)
      omega
    · have := ct_st (P := fun q => decide (q ≠ p ∧ V.2.1 q ≠ -2 ∧ x ≤ dp V q)) (Q := fun q => decide (q ≠ p ∧ V.2.1 q ≠ -2 ∧ y ≤ dp V q)) (fun k _ hk => by
        rw [decide_eq_true_iff] at hk ⊢; exact ⟨hk.1, hk.2.1, by omega⟩) hq (decide_eq_true ⟨n1, n2, by omega⟩) (decide_eq_false fun u => by omega)
      omega
  · have hy : y = e := by rw [hy]; exact Nat.max_eq_left (by omega)
    rcases ht with ⟨q, hq, eq⟩ | ⟨q, hq, eq⟩ | ⟨q, hq, n1, n2, eq⟩
    · have := ct_st (P := fun q => decide (x < dq V q)) (Q := fun q => decide (y < dq V q)) (fun k _ hk => by simp at hk ⊢; omega) hq (by simp; omega) (by simp; omega)
      omega
    · have := ct_st (P := fun q => decide (x < dw V q)) (Q := fun q => decide (y < dw V q)) (fun k _ hk => by simp at hk ⊢; omega) hq (by simp; omega) (by simp; omega)
      omega
    · have := ct_st (P := fun q => decide (q ≠ p ∧ V.2.1 q ≠ -2 ∧ x < dp V q)) (Q := fun q => decide (q ≠ p ∧ V.2.1 q ≠ -2 ∧ y < dp V q)) (fun k _ hk => by
        rw [decide_eq_true_iff] at hk ⊢; exact ⟨hk.1, hk.2.1, by omega⟩) hq (decide_eq_true ⟨n1, n2, by omega⟩) (decide_eq_false fun u => by omega)
      omega
theorem mo_day {d : Nat} (h : d ≤ 9999) : mo (nI d) = nI d := mo_ne (nI_ne (by omega)).1
theorem C_dayFor {M : gM} {V : vV} {lf : Nat → Nat} (c : CV M V lf) (w : WF V) {p o t : Nat} (hp : p < vP V) (ho : o < vP V) (ht : t < vT V) :
    s_X12_dayFor_46 (nI p) (nI o) (nI t) FU M 0 0 ∧ (aLeast V lf p o t (f_X12_dayFor_46 (nI p) (nI o) (nI t) FU M 0 0).1 ∧ CV (f_X12_dayFor_46 (nI p) (nI o) (nI t) FU M 0 0).2 V lf) := by
  have h10 := w.P.2
  have hl := wf_lf c.2.2.2.2.2.2
  have done : ∀ x, 9999 < x → (∀ d, d < x → d ≤ 9999 → dH V lf p o t d = false) → aLeast V lf p o t (-2) := fun x hx h => Or.inr ⟨fun d hd => h d (by omega) hd, rfl⟩
  refine lp (fun n k (s : gM × Int32) => f_X12_dayFor_46 (nI p) (nI o) (nI t) n s.1 s.2 (nI k)) (fun n k s => s_X12_dayFor_46 (nI p) (nI o) (nI t) n s.1 s.2 (nI k)) (fun k s => CV s.1 V lf ∧ ∃ x, s.2 = nI x ∧ x ≤ 10000 ∧ (∀ d, d < x → d ≤ 9999 → dH V lf p o t d = false) ∧ (x ≤ 9999 → vmu V p x + k ≤ 56)) (fun z => aLeast V lf p o t z.1 ∧ CV z.2 V lf) 57 ?_ ?_ FU 0 (M, 0) (Nat.zero_le _) (by rw [FU_eq]; omega) ⟨c, 0, rfl, by omega, fun d hd => absurd hd (Nat.not_lt_zero _), fun _ => vmu_0 w p⟩
  · rintro n k ⟨N, s⟩ hk ⟨cN, x, hs, h1, h2, h3⟩ ih
    have cN : CV N V lf := cN
    have hs : s = nI x := hs
    subst hs
    have n57 : ¬ (57 : Int32) ≤ nI k := nI_ge (b := 57) hk (by decide)
    by_cases z : 9999 < x
    · have z2 : (9999 : Int32) < nI x := nI_lt (a := 9999) z (by omega)
      simp only [s_X12_dayFor_46, f_X12_dayFor_46, if_neg n57, if_pos z2]
      exact ⟨trivial, done x z h2, cN⟩
    · have z2 : ¬ (9999 : Int32) < nI x := nI_nlt (a := 9999) (by omega) (by decide)
      obtain ⟨a1, a2, a3⟩ := X1_dying cN w hp ht (v := nI x) (Or.inr (dOK_n (by omega)))
      rw [mo_day (by omega)] at a1 a2 a3
      simp only [s_X12_dayFor_46, f_X12_dayFor_46, bnd, bndP, if_neg n57, if_neg z2, a1, a2, b_read _ (show o < 32 by omega), p1, true_and, bz_0]
      cases hb : bt (vhold (vrun (vset V p (nI x)) lf t 9999).1) o
      · obtain ⟨t1, y, t2, t3, t4, t5, t6⟩ := X7_turn a3 w (x := x) (by omega) hp
        simp only [if_true, t1, t2, true_and]
        refine ih (_, nI y) ⟨a3, y, rfl, t4, fun d hd hd2 => ?_, fun hy => ?_⟩
        · rcases Nat.lt_trichotomy d x with u | u | u
          · exact h2 d u hd2
          · rw [u]; exact hb
          · have : dH V lf p o t x = dH V lf p o t d := dH_c w hl hp (by omega) hd2 (fun e he hx => by
              have := t5 e he hx.1
              by_cases q : x + 1 ≤ e
              · rw [show Nat.max e (x + 1) = e from Nat.max_eq_left q] at this; omega
              · rw [show Nat.max e (x + 1) = x + 1 from Nat.max_eq_right (by omega)] at this; omega)
            rw [← this]; exact hb
        · rcases t6 with u | ⟨e, he, hx, u⟩
          · omega
          · have := vmu_s t3 e he hx u
            have := h3 (by omega)
            omega
      · simp only [Bool.true_eq_false, if_false]
        exact ⟨trivial, Or.inl ⟨x, by omega, hb, fun d hd => h2 d hd (by omega), rfl⟩, a3⟩
  · rintro n ⟨N, s⟩ ⟨cN, x, hs, h1, h2, h3⟩
    simp only [s_X12_dayFor_46, f_X12_dayFor_46, if_pos (show (57 : Int32) ≤ nI 57 by decide)]
    refine ⟨trivial, done x ?_ h2, cN⟩
    by_cases z : x ≤ 9999
    · have := h3 z; omega
    · omega
end
