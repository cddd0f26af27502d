set_option linter.all false
noncomputable section
-- ===== greatest divisors, parts in lowest terms =====
theorem lz {a : Nat} (ha : a < 2 ^ 63) : lN a = 0 ↔ a = 0 := pk_lEQ ha (by decide)
theorem gcd_step (a : Nat) {b : Nat} (hb : 0 < b) : Nat.gcd a b = Nat.gcd b (a % b) := by
  rw [Nat.gcd_comm a b, Nat.gcd_rec b a, Nat.gcd_comm]
theorem half_mod {a b : Nat} (hb : 0 < b) (hr : 0 < a % b) : 2 * (b % (a % b)) < b := by
  have h1 := Nat.mod_lt a hb
  have h2 := Nat.mod_lt b hr
  have h3 := Nat.div_add_mod b (a % b)
  have h4 : 1 ≤ b / (a % b) := (Nat.le_div_iff_mul_le hr).mpr (by omega)
  have h5 := Nat.mul_le_mul_left (a % b) h4
  omega
theorem com_0 {M : gM} {a n : Nat} : s_X13_common_6 M (n + 1) (lN a) (lN 0) ∧ f_X13_common_6 M (n + 1) (lN a) (lN 0) = lN a := by
  have e : (lg_cmp (lN 0) 0 = 0) = True := eq_true ((lg_cmp_eq _ _).mpr rfl)
  simp only [s_X13_common_6, f_X13_common_6, e, if_true, and_self]
theorem com_s {M : gM} {a b n : Nat} (ha : a < 2 ^ 63) (hb : b < 2 ^ 63) (h0 : 0 < b) : (s_X13_common_6 M n (lN b) (lN (a % b)) → s_X13_common_6 M (n + 1) (lN a) (lN b)) ∧ f_X13_common_6 M (n + 1) (lN a) (lN b) = f_X13_common_6 M n (lN b) (lN (a % b)) := by
  have nz : ¬ lN b = 0 := fun q => by have := (lz hb).mp q; omega
  have e : ¬ lg_cmp (lN b) 0 = 0 := fun q => nz ((lg_cmp_eq _ _).mp q)
  simp only [s_X13_common_6, f_X13_common_6, if_neg e, pk_lRem ha h0 hb]
  exact ⟨fun h => ⟨nz, h⟩, trivial⟩
theorem com_main {M : gM} : ∀ (k a b n : Nat), a < 2 ^ 63 → b < 2 ^ 63 → b < 2 ^ k → 2 * k + 1 ≤ n → s_X13_common_6 M n (lN a) (lN b) ∧ f_X13_common_6 M n (lN a) (lN b) = lN (Nat.gcd a b) := by
  intro k
  induction k with
  | zero =>
    intro a b n ha hb hk hn
    obtain rfl : b = 0 := by omega
    obtain ⟨m, rfl⟩ : ∃ m, n = m + 1 := ⟨n - 1, by omega⟩
    rw [Nat.gcd_zero_right]
    exact com_0
  | succ k ih =>
    intro a b n ha hb hk hn
    obtain ⟨m, rfl⟩ : ∃ m, n = m + 1 + 1 := ⟨n - 2, by omega⟩
    rcases Nat.eq_zero_or_pos b with z | h0
    · subst z
      rw [Nat.gcd_zero_right]
      exact com_0
    · have c1 := com_s (M := M) (n := m + 1) ha hb h0
      have l1 := Nat.mod_lt a h0
      rcases Nat.eq_zero_or_pos (a % b) with z | h1
      · rw [z] at c1
        have c0 := com_0 (M := M) (a := b) (n := m)
        rw [gcd_step a h0, z, Nat.gcd_zero_right, c1.2]
        exact ⟨c1.1 c0.1, c0.2⟩
      · have c2 := com_s (M := M) (n := m) hb (show a % b < 2 ^ 63 by omega) h1
        have l2 := Nat.mod_lt b h1
        have hm := half_mod h0 h1
        have c3 := ih (a % b) (b % (a % b)) m (by omega) (by omega) (by rw [Nat.pow_succ] at hk; omega) (by omega)
        rw [gcd_step a h0, gcd_step b h1, c1.2, c2.2]
        exact ⟨c1.1 (c2.1 c3.1), c3.2⟩
theorem X13_com {M : gM} {a b : Nat} (ha : a < 2 ^ 63) (hb : b < 2 ^ 63) : s_X13_common M (lN a) (lN b) ∧ f_X13_common M (lN a) (lN b) = lN (Nat.gcd a b) := com_main 63 a b FU ha hb hb (by rw [FU_eq]; decide)
def fN (n d : Nat) : Nat := n / Nat.gcd n d
def fD (n d : Nat) : Nat := d / Nat.gcd n d
theorem red_eq {n d n' d' : Nat} (hd : 0 < d) (hd' : 0 < d') (e : n * d' = n' * d) : fN n d = fN n' d' ∧ fD n d = fD n' d' := by
  have g0 : 0 < Nat.gcd n d := Nat.gcd_pos_of_pos_right n hd
  have g0' : 0 < Nat.gcd n' d' := Nat.gcd_pos_of_pos_right n' hd'
  have h1 : Nat.gcd n d * d' = Nat.gcd n' d' * d := by
    rw [← Nat.gcd_mul_right, ← Nat.gcd_mul_right, e, Nat.mul_comm d d']
  unfold fN fD
  obtain ⟨f, hf⟩ := Nat.gcd_dvd_left n d
  obtain ⟨k, hk⟩ := Nat.gcd_dvd_right n d
  obtain ⟨f', hf'⟩ := Nat.gcd_dvd_left n' d'
  obtain ⟨k', hk'⟩ := Nat.gcd_dvd_right n' d'
  generalize Nat.gcd n d = g at *
  generalize Nat.gcd n' d' = g' at *
  subst hf hk hf' hk'
  rw [Nat.mul_div_cancel_left _ g0, Nat.mul_div_cancel_left _ g0', Nat.mul_div_cancel_left _ g0, Nat.mul_div_cancel_left _ g0']
  have hkk : k = k' := by
    have : (g * g') * k' = (g * g') * k := by
      have := h1
      rw [← Nat.mul_assoc, ← Nat.mul_assoc] at this
      rw [this, Nat.mul_comm g' g]
    exact (Nat.eq_of_mul_eq_mul_left (Nat.mul_pos g0 g0') this).symm
  subst hkk
  refine ⟨?_, rfl⟩
  have k0 : 0 < k := Nat.pos_of_ne_zero fun z => by subst z; simp at hd
  have : (g * g' * k) * f = (g * g' * k) * f' := by
    have := e
    calc g * g' * k * f = g * f * (g' * k) := by simp only [Nat.mul_assoc, Nat.mul_comm, Nat.mul_left_comm]
      _ = g' * f' * (g * k) := this
      _ = g * g' * k * f' := by simp only [Nat.mul_assoc, Nat.mul_comm, Nat.mul_left_comm]
  exact Nat.eq_of_mul_eq_mul_left (Nat.mul_pos (Nat.mul_pos g0 g0') k0) this
theorem red_x {n d : Nat} : fN n d * d = n * fD n d := by
  unfold fN fD
  obtain ⟨f, hf⟩ := Nat.gcd_dvd_left n d
  obtain ⟨k, hk⟩ := Nat.gcd_dvd_right n d
  rcases Nat.eq_zero_or_pos (Nat.gcd n d) with z | g0
  · rw [z]; simp [(Nat.gcd_eq_zero_iff.mp z).1]
  · generalize Nat.gcd n d = g at *
    subst hf hk
    rw [Nat.mul_div_cancel_left _ g0, Nat.mul_div_cancel_left _ g0]
    simp only [Nat.mul_assoc, Nat.mul_comm, Nat.mul_left_comm]
theorem red_pos {n d : Nat} (hd : 0 < d) : 0 < fD n d := Nat.div_pos (Nat.gcd_le_right n hd) (Nat.gcd_pos_of_pos_right n hd)
theorem red_dvd {n d : Nat} : fD n d ∣ d := Nat.div_dvd_of_dvd (Nat.gcd_dvd_right n d)
theorem red_le {n d : Nat} (hd : 0 < d) : fD n d ≤ d := Nat.le_of_dvd hd red_dvd
theorem red_nle {n d : Nat} : fN n d ≤ n := Nat.div_le_self _ _
theorem red_0 {d : Nat} (hd : 0 < d) : fN 0 d = 0 ∧ fD 0 d = 1 := by
  unfold fN fD
  rw [Nat.gcd_zero_left]
  exact ⟨Nat.zero_div _, Nat.div_self hd⟩
theorem red_c {n d c : Nat} (hd : 0 < d) (hc : 0 < c) : fN (n * c) (d * c) = fN n d ∧ fD (n * c) (d * c) = fD n d :=
  red_eq (Nat.mul_pos hd hc) hd (by simp only [Nat.mul_assoc, Nat.mul_comm, Nat.mul_left_comm])
theorem red_nz {n d : Nat} (hd : 0 < d) : fN n d = 0 ↔ n = 0 := by
  constructor
  · intro h
    have := red_x (n := n) (d := d)
    rw [h, Nat.zero_mul] at this
    rcases Nat.mul_eq_zero.mp this.symm with z | z
    · exact z
    · have := red_pos (n := n) hd; omega
  · intro h; subst h; exact (red_0 hd).1
theorem sum_num {n1 d1 a b x v W : Nat} (hd : 0 < d1) (hb : 0 < b) (e1 : n1 * W = x * d1) (e2 : a * W = v * b) :
    (n1 * (b / Nat.gcd d1 b) + a * (d1 / Nat.gcd d1 b)) * W = (x + v) * (d1 / Nat.gcd d1 b * b) := by
  have g0 : 0 < Nat.gcd d1 b := Nat.gcd_pos_of_pos_left b hd
  obtain ⟨f, hf⟩ := Nat.gcd_dvd_left d1 b
  obtain ⟨k, hk⟩ := Nat.gcd_dvd_right d1 b
  generalize Nat.gcd d1 b = g at *
  subst hf hk
  rw [Nat.mul_div_cancel_left _ g0, Nat.mul_div_cancel_left _ g0]
  calc (n1 * k + a * f) * W = (n1 * W) * k + (a * W) * f := by rw [Nat.add_mul]; simp only [Nat.mul_assoc, Nat.mul_comm, Nat.mul_left_comm]
    _ = (x * (g * f)) * k + (v * (g * k)) * f := by rw [e1, e2]
    _ = (x + v) * (f * (g * k)) := by rw [Nat.add_mul]; simp only [Nat.mul_assoc, Nat.mul_comm, Nat.mul_left_comm]
theorem und_dvd {d1 b W : Nat} (h1 : d1 ∣ W) (h2 : b ∣ W) : d1 / Nat.gcd d1 b * b ∣ W := by
  have := Nat.lcm_dvd h1 h2
  have e : d1 / Nat.gcd d1 b * b = Nat.lcm d1 b := by
    unfold Nat.lcm
    rcases Nat.eq_zero_or_pos (Nat.gcd d1 b) with z | g0
    · rw [z]; simp
    · obtain ⟨f, hf⟩ := Nat.gcd_dvd_left d1 b
      generalize Nat.gcd d1 b = g at *
      subst hf
      rw [Nat.mul_div_cancel_left _ g0, Nat.mul_assoc, Nat.mul_div_cancel_left _ g0]
  rw [e]
  exact this
/-- the reference's parts -/
def fr (M : gM) (x : Nat → Nat) (W : Nat) : Prop := ∀ h, h < 11 → rdJ M 97 0 0 h = lN (fN (x h) W) ∧ rdJ M 98 0 0 h = lN (fD (x h) W)
theorem fr.scale {M : gM} {x : Nat → Nat} {W c : Nat} (f : fr M x W) (hW : 0 < W) (hc : 0 < c) : fr M (fun h => x h * c) (W * c) := fun h hh => by
  have := red_c (n := x h) hW hc
  rw [this.1, this.2]
  exact f h hh
theorem fr.off {M N : gM} {x : Nat → Nat} {W : Nat} (f : fr M x W) {G : List Nat} (o : offW G M N) (h1 : 97 ∉ G) (h2 : 98 ∉ G) : fr N x W := fun h hh => by
  rw [(o 97 0 0 h h1).2, (o 98 0 0 h h2).2]
  exact f h hh
theorem fr.wr {M : gM} {x : Nat → Nat} {W : Nat} (f : fr M x W) {g a b c : Nat} {v : Int32} : fr (wrI M g a b c v) x W := fun h hh => f h hh
theorem X13_comes {M : gM} {x : Nat → Nat} {W who a b v : Nat} (f : fr M x W) (hW : 0 < W) (hW2 : W < 2 ^ 63) (hw : who < 11) (hb : b ∣ W) (ha : a * W = v * b) (hv : x who + v ≤ W) :
    s_X13_comes M (nI who) (lN a) (lN b) ∧ fr (f_X13_comes M (nI who) (lN a) (lN b)) (fun h => if h = who then x h + v else x h) W := by
  have hb0 : 0 < b := Nat.pos_of_ne_zero fun z => by subst z; have := Nat.eq_zero_of_zero_dvd hb; omega
  have hbW := Nat.le_of_dvd hW hb
  obtain ⟨f1, f2⟩ := f who hw
  have i1 : vp_in (nI who) 11 := vpi (by omega)
  have d0 : 0 < fD (x who) W := red_pos hW
  have dd : fD (x who) W ∣ W := red_dvd
  have dl := red_le (n := x who) hW
  have nl := red_nle (n := x who) (d := W)
  have nx := red_x (n := x who) (d := W)
  generalize hn1 : fN (x who) W = n1 at *
  generalize hd1 : fD (x who) W = d1 at *
  obtain ⟨c1, c2⟩ := X13_com (M := M) (a := d1) (b := b) (by omega) (by omega)
  have g0 : 0 < Nat.gcd d1 b := Nat.gcd_pos_of_pos_left b d0
  have gl : Nat.gcd d1 b ≤ b := Nat.gcd_le_right d1 hb0
  have gnz : ¬ lN (Nat.gcd d1 b) = 0 := fun q => by have := (lz (by omega)).mp q; omega
  have sm := sum_num (n1 := n1) d0 hb0 nx ha
  have ud := Nat.le_of_dvd hW (und_dvd dd hb)
  have u0 : 0 < d1 / Nat.gcd d1 b * b := Nat.mul_pos (Nat.div_pos (Nat.gcd_le_left b d0) g0) hb0
  have sl : n1 * (b / Nat.gcd d1 b) + a * (d1 / Nat.gcd d1 b) ≤ d1 / Nat.gcd d1 b * b := by
    refine Nat.le_of_mul_le_mul_right ?_ hW
    rw [sm, Nat.mul_comm _ W]
    exact Nat.mul_le_mul_right _ hv
  have e8 : lN n1 * (lN b / lN (Nat.gcd d1 b)) + lN a * (lN d1 / lN (Nat.gcd d1 b)) = lN (n1 * (b / Nat.gcd d1 b) + a * (d1 / Nat.gcd d1 b)) := by
    rw [pk_lDiv (by omega) g0 (by omega), pk_lDiv (by omega) g0 (by omega), lN_mul, lN_mul, lN_add]
  have e11 : lN d1 / lN (Nat.gcd d1 b) * lN b = lN (d1 / Nat.gcd d1 b * b) := by
    rw [pk_lDiv (by omega) g0 (by omega), lN_mul]
  generalize hS : n1 * (b / Nat.gcd d1 b) + a * (d1 / Nat.gcd d1 b) = S at *
  generalize hU : d1 / Nat.gcd d1 b * b = U at *
  obtain ⟨k1, k2⟩ := X13_com (M := M) (a := S) (b := U) (by omega) (by omega)
  have G0 : 0 < Nat.gcd S U := Nat.gcd_pos_of_pos_right S u0
  have Gl : Nat.gcd S U ≤ U := Nat.gcd_le_right S u0
  have Gnz : ¬ lN (Nat.gcd S U) = 0 := fun q => by have := (lz (by omega)).mp q; omega
  have rd := red_eq u0 hW sm
  simp only [s_X13_comes, f_X13_comes, bnd, bndP, nn_nI (show who < 2 ^ 31 by omega), f1, f2, c1, c2, e8, e11, k1, k2, i1, gnz, Gnz, not_false_eq_true, true_and, true_implies, and_self]
  intro h hh
  rw [pk_lDiv (by omega) G0 (by omega), pk_lDiv (by omega) G0 (by omega)]
  dsimp only
  by_cases e : h = who
  · subst e
    rw [if_pos rfl]
    constructor
    · rw [rwJ, if_neg (by simp), rwJ, if_pos (by simp)]
      rw [← rd.1]; rfl
    · rw [rwJ, if_pos (by simp), ← rd.2]; rfl
  · rw [if_neg e]
    constructor
    · rw [rwJ, if_neg (by simp), rwJ, if_neg (by simp [e])]
      exact (f h hh).1
    · rw [rwJ, if_neg (by simp [e]), rwJ, if_neg (by simp)]
      exact (f h hh).2
-- ===== sets of at most ten =====
def bts (x : Int32) : Prop := ∀ i, bt x i = true → i < 10
theorem cnt_set {M : gM} {x : Int32} (hx : bts x) : f_J6_bitCount_0f7a4 M x = nI (fb_ct (bt x) 10) := by
  have e : x = bo (bt x) 10 := bo_bt (by omega) hx
  have := pb_cnt (M := M) (P := bt x) (n := 10) (by omega)
  rwa [← e] at this
theorem bts_0 {x : Int32} (hx : bts x) : x = 0 ↔ fb_ct (bt x) 10 = 0 := by
  constructor
  · intro h
    exact fb_ct_zero.mpr fun k _ => by rw [h, b_0]
  · intro h
    have h2 := fb_ct_zero.mp h
    refine b_ext fun i _ => ?_
    rw [b_0]
    cases hb : bt x i
    · rfl
    · have := hx i hb
      rw [h2 i this] at hb
      cases hb
theorem bts_lv {V : vV} (h : WF V) (x d : Int32) : bts (vlvs V x d) := fun i hi => by
  have h10 := h.P.2
  unfold vlvs at hi
  rcases Nat.lt_or_ge i 32 with q | q
  · rw [bt_bo (by omega) q, Bool.and_eq_true, decide_eq_true_iff] at hi
    omega
  · rw [b_big q] at hi; cases hi
theorem bt_lv {V : vV} (h : WF V) (x d : Int32) {i : Nat} (hi : i < 32) : bt (vlvs V x d) i = (decide (i < vP V) && (bt x i && vliv V i d)) := by
  have h10 := h.P.2
  unfold vlvs
  rw [bt_bo (by omega) hi]
theorem bts_heirs {V : vV} (h : WF V) (p : Nat) : bts (vheirs V p) := by
  have h10 := h.P.2
  unfold vheirs
  split
  · split
    · exact bts_lv h _ _
    · next q =>
      obtain ⟨j, hj, ej⟩ := vp_in_of ((vwed_ok h p (V.2.1 p)).resolve_left q) (by omega)
      split
      · intro i hi
        rcases Nat.lt_or_ge i 32 with y | y
        · rw [ej, bt_bit (by omega) y, decide_eq_true_iff] at hi
          omega
        · rw [b_big y] at hi; cases hi
      · exact bts_lv h _ _
  · exact bts_lv h _ _
theorem X13_alike {M : gM} {x : Nat → Nat} {W a b v : Nat} {set : Int32} (hs : bts set) (f : fr M x W) (hW : 0 < W) (hW2 : W < 2 ^ 63) (hn : fb_ct (bt set) 10 ≠ 0) (hb : b * fb_ct (bt set) 10 ∣ W) (ha : a * W = v * (b * fb_ct (bt set) 10)) (hv : ∀ h, h < 10 → bt set h = true → x h + v ≤ W) :
    s_X13_alike M set (lN a) (lN b) ∧ fr (f_X13_alike M set (lN a) (lN b)) (fun h => if bt set h = true then x h + v else x h) W := by
  have hc : fb_ct (bt set) 10 ≤ 10 := fb_ct_le _ _
  have cz : ¬ nI (fb_ct (bt set) 10) = 0 := nI_ne0 (by omega) (by omega)
  have em : lN b * (nI (fb_ct (bt set) 10)).toInt64 = lN (b * fb_ct (bt set) 10) := by rw [nI_l (by omega), lN_mul]
  simp only [s_X13_alike, f_X13_alike, cnt_set hs, if_neg cz, s_bit, true_and]
  refine lp (fun n k (s : gM) => f_X13_alike_23 set (lN a) (lN b) (nI (fb_ct (bt set) 10)) n s (nI k)) (fun n k s => s_X13_alike_23 set (lN a) (lN b) (nI (fb_ct (bt set) 10)) n s (nI k)) (fun k s => fr s (fun h => if bt set h = true ∧ h < k then x h + v else x h) W) (fun z => fr z (fun h => if bt set h = true then x h + v else x h) W) 10 ?_ ?_ FU 0 M (Nat.zero_le _) (by rw [FU_eq]; omega) (by
    intro h hh
    show rdJ M 97 0 0 h = lN (fN (if bt set h = true ∧ h < 0 then x h + v else x h) W) ∧ rdJ M 98 0 0 h = lN (fD (if bt set h = true ∧ h < 0 then x h + v else x h) W)
    rw [if_neg (fun z => by omega)]
    exact f h hh)
  · intro n k s hk hI ih
    have n10 : ¬ (10 : Int32) ≤ nI k := nI_ge (b := 10) hk (by decide)
    simp only [s_X13_alike_23, f_X13_alike_23, bnd, bndP, if_neg n10, b_read _ (show k < 32 by omega), bz_1, em, p1]
    cases hb2 : bt set k
    · simp only [Bool.false_eq_true, if_false]
      refine ih s (fun h hh => ?_)
      have := hI h hh
      have e : (bt set h = true ∧ h < k + 1) = (bt set h = true ∧ h < k) := propext ⟨fun z => ⟨z.1, by
        have : h ≠ k := fun y => by rw [y, hb2] at z; cases z.1
        omega⟩, fun z => ⟨z.1, by omega⟩⟩
      simp only [e]
      exact this
    · simp only [if_true]
      have hxk : (if bt set k = true ∧ k < k then x k + v else x k) = x k := if_neg (fun z => by omega)
      obtain ⟨a1, a2⟩ := X13_comes (who := k) hI hW hW2 (by omega) hb ha (by
        show (if bt set k = true ∧ k < k then x k + v else x k) + v ≤ W
        rw [hxk]; exact hv k hk hb2)
      refine ⟨⟨a1, (ih _ ?_).1⟩, (ih _ ?_).2⟩ <;>
      · intro h hh
        have := a2 h hh
        have e : (if h = k then (if bt set h = true ∧ h < k then x h + v else x h) + v else (if bt set h = true ∧ h < k then x h + v else x h)) = (if bt set h = true ∧ h < k + 1 then x h + v else x h) := by
          by_cases y : h = k
          · subst y; rw [if_pos rfl, hxk, if_pos ⟨hb2, by omega⟩]
          · rw [if_neg y]
            by_cases z : bt set h = true ∧ h < k
            · rw [if_pos z, if_pos ⟨z.1, by omega⟩]
            · rw [if_neg z, if_neg (fun u => z ⟨u.1, by omega⟩)]
        have this : rdJ _ 97 0 0 h = lN (fN (if h = k then (if bt set h = true ∧ h < k then x h + v else x h) + v else (if bt set h = true ∧ h < k then x h + v else x h)) W) ∧ rdJ _ 98 0 0 h = lN (fD (if h = k then (if bt set h = true ∧ h < k then x h + v else x h) + v else (if bt set h = true ∧ h < k then x h + v else x h)) W) := this
        rw [e] at this
        exact this
  · intro n s hI
    simp only [s_X13_alike_23, f_X13_alike_23, if_pos (show (10 : Int32) ≤ nI 10 by decide)]
    refine ⟨trivial, fun h hh => ?_⟩
    have := hI h hh
    have e : (bt set h = true ∧ h < 10) = (bt set h = true) := propext ⟨fun z => z.1, fun z => ⟨z, hs h z⟩⟩
    simp only [e] at this
    exact this
theorem X13_alike0 {M : gM} {x : Nat → Nat} {W a b v : Nat} (f : fr M x W) (hW : 0 < W) (hW2 : W < 2 ^ 63) (hb : b ∣ W) (ha : a * W = v * b) (hv : x 10 + v ≤ W) :
    s_X13_alike M 0 (lN a) (lN b) ∧ fr (f_X13_alike M 0 (lN a) (lN b)) (fun h => if h = 10 then x h + v else x h) W := by
  have c0 : f_J6_bitCount_0f7a4 M 0 = 0 := by
    have := cnt_set (M := M) (x := 0) (fun i hi => by rw [b_0] at hi; cases hi)
    rw [this, fb_ct_zero.mpr (fun k _ => b_0 k)]; rfl
  obtain ⟨a1, a2⟩ := X13_comes (who := 10) f hW hW2 (by omega) hb ha hv
  have a1 : s_X13_comes M 10 (lN a) (lN b) := a1
  have a2 : fr (f_X13_comes M 10 (lN a) (lN b)) (fun h => if h = 10 then x h + v else x h) W := a2
  simp only [s_X13_alike, f_X13_alike, c0, if_true, s_bit, true_and, bnd, bndP, a1]
  refine lp (fun n k (s : gM) => f_X13_alike_23 0 (lN a) (lN b) 0 n s (nI k)) (fun n k s => s_X13_alike_23 0 (lN a) (lN b) 0 n s (nI k)) (fun k s => fr s (fun h => if h = 10 then x h + v else x h) W) (fun z => fr z (fun h => if h = 10 then x h + v else x h) W) 10 ?_ ?_ FU 0 _ (Nat.zero_le _) (by rw [FU_eq]; omega) a2
  · intro n k s hk hI ih
    have n10 : ¬ (10 : Int32) ≤ nI k := nI_ge (b := 10) hk (by decide)
    simp only [s_X13_alike_23, f_X13_alike_23, if_neg n10, b_read _ (show k < 32 by omega), bz_1, b_0, Bool.false_eq_true, if_false, p1]
    exact ih s hI
  · intro n s hI
    simp only [s_X13_alike_23, f_X13_alike_23, if_pos (show (10 : Int32) ≤ nI 10 by decide)]
    exact ⟨trivial, hI⟩
end
