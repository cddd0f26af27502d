set_option linter.all false
noncomputable section
/-! ===== sums over a range: one place changed, parts, bounds ===== -/
def fb_sm (f : Nat → Nat) : Nat → Nat
  | 0 => 0
  | n + 1 => fb_sm f n + f n
theorem fb_sm_succ (f : Nat → Nat) (n : Nat) : fb_sm f (n + 1) = fb_sm f n + f n := rfl
theorem fb_sm_cong {f g : Nat → Nat} : ∀ {n : Nat}, (∀ k, k < n → f k = g k) → fb_sm f n = fb_sm g n
  | 0, _ => rfl
  | n + 1, h => by rw [fb_sm_succ, fb_sm_succ, fb_sm_cong (fun k hk => h k (by omega)), h n (by omega)]
theorem fb_sm_out (f : Nat → Nat) (v : Nat) {i n : Nat} (h : n ≤ i) : fb_sm (fun k => if k = i then v else f k) n = fb_sm f n :=
  fb_sm_cong fun k hk => if_neg (by omega)
theorem fb_sm_upd (f : Nat → Nat) (v : Nat) {i : Nat} : ∀ {n : Nat}, i < n → fb_sm (fun k => if k = i then v else f k) n + f i = fb_sm f n + v
  | 0, h => absurd h (Nat.not_lt_zero i)
  | n + 1, h => by
    rw [fb_sm_succ, fb_sm_succ]
    rcases Nat.lt_or_ge i n with q | q
    · have := fb_sm_upd f v q
      have e : (if n = i then v else f n) = f n := if_neg (by omega)
      rw [e]
      omega
    · have e : i = n := by omega
      subst e
      rw [fb_sm_out f v (Nat.le_refl _)]
      simp only [if_true]
      omega
theorem fb_sm_add (f g : Nat → Nat) : ∀ n, fb_sm (fun k => f k + g k) n = fb_sm f n + fb_sm g n
  | 0 => rfl
  | n + 1 => by
    have h := fb_sm_add f g n
    rw [fb_sm_succ, fb_sm_succ, fb_sm_succ, h]
    omega
theorem fb_sm_le {f g : Nat → Nat} : ∀ {n : Nat}, (∀ k, k < n → f k ≤ g k) → fb_sm f n ≤ fb_sm g n
  | 0, _ => Nat.le_refl _
  | n + 1, h => by
    have h1 := fb_sm_le (n := n) (f := f) (g := g) (fun k hk => h k (by omega))
    have h2 := h n (by omega)
    rw [fb_sm_succ, fb_sm_succ]
    omega
theorem fb_sm_const (c : Nat) : ∀ n, fb_sm (fun _ => c) n = n * c
  | 0 => by rw [Nat.zero_mul]; rfl
  | n + 1 => by rw [fb_sm_succ, fb_sm_const c n, Nat.succ_mul]
theorem fb_sm_bound {f : Nat → Nat} {c n : Nat} (h : ∀ k, k < n → f k ≤ c) : fb_sm f n ≤ n * c := by
  rw [← fb_sm_const c n]
  exact fb_sm_le h
theorem fb_sm_mono (f : Nat → Nat) (m : Nat) : ∀ n, fb_sm f m ≤ fb_sm f (m + n)
  | 0 => Nat.le_refl _
  | n + 1 => by
    have h := fb_sm_mono f m n
    show fb_sm f m ≤ fb_sm f (m + n + 1)
    rw [fb_sm_succ]
    omega
theorem fb_sm_part (f : Nat → Nat) {i n : Nat} (h : i < n) : fb_sm f i + f i ≤ fb_sm f n := by
  have := fb_sm_mono f (i + 1) (n - (i + 1))
  rw [fb_sm_succ, show i + 1 + (n - (i + 1)) = n by omega] at this
  exact this
theorem fb_sm_split (f : Nat → Nat) (m : Nat) : ∀ n, fb_sm f (m + n) = fb_sm f m + fb_sm (fun k => f (m + k)) n
  | 0 => rfl
  | n + 1 => by
    have h := fb_sm_split f m n
    show fb_sm f (m + n + 1) = _
    rw [fb_sm_succ, fb_sm_succ, h, Nat.add_assoc]
theorem fb_sm_zero {f : Nat → Nat} {n : Nat} (h : fb_sm f n = 0) : ∀ k, k < n → f k = 0 := fun k hk => by
  have := fb_sm_part f hk
  omega
/-- the same over whole numbers -/
-- ===== how what one has is shared out =====
theorem sm_mul (f : Nat → Nat) (u : Nat) : ∀ n, fb_sm (fun h => f h * u) n = fb_sm f n * u := by
  intro n
  induction n with
  | zero => exact (Nat.zero_mul u).symm
  | succ n ih => rw [fb_sm_succ, fb_sm_succ, ih, Nat.add_mul]
theorem sm_ct (p : Nat → Bool) (c : Nat) : ∀ n, fb_sm (fun h => if p h = true then c else 0) n = fb_ct p n * c := by
  intro n
  induction n with
  | zero => exact (Nat.zero_mul c).symm
  | succ n ih =>
    rw [fb_sm_succ, fb_ct_succ, ih, Nat.add_mul]
    cases p n <;> simp
theorem sm_one (c : Nat) {o n : Nat} (h : o < n) : fb_sm (fun k => if k = o then c else 0) n = c := by
  have := fb_sm_upd (fun _ => 0) c h
  have z := fb_sm_const 0 n
  simp at z
  simp [z] at this
  exact this
def vshP (P : Nat → Nat) (d : Nat) (set : Int32) (o uo : Nat) : Nat → Nat := fun h => ((if h = d then 0 else P h) * (fb_ct (bt set) 10 + uo) + (if bt set h = true then P d else 0)) + (if h = o then P d * uo else 0)
def vshW (W : Nat) (set : Int32) (uo : Nat) : Nat := W * (fb_ct (bt set) 10 + uo)
theorem vsh_sum {P : Nat → Nat} {W d o uo : Nat} {set : Int32} (hs : bts set) (hP : fb_sm P 11 = W) (hd : d < 11) (ho : o < 11) : fb_sm (vshP P d set o uo) 11 = vshW W set uo := by
  unfold vshP vshW
  rw [fb_sm_add, fb_sm_add, sm_mul, sm_ct, sm_one _ ho]
  have u := fb_sm_upd P 0 hd
  have c : fb_ct (bt set) 11 = fb_ct (bt set) 10 := by
    rw [fb_ct_succ]
    cases hb : bt set 10
    · simp
    · exact absurd (hs 10 hb) (by omega)
  rw [c]
  rw [hP] at u
  generalize fb_sm (fun k => if k = d then 0 else P k) 11 = S at *
  generalize fb_ct (bt set) 10 = n at *
  have : W = S + P d := by omega
  rw [this, Nat.add_mul, Nat.mul_add (P d), Nat.mul_comm n (P d)]
  omega
theorem sm_le {P : Nat → Nat} {W h : Nat} (hP : fb_sm P 11 = W) (hh : h < 11) : P h ≤ W := by
  have := fb_sm_part P hh
  omega
/-- the class's parts -/
def cl (M : gM) (P : Nat → Nat) (W : Nat) : Prop := (∀ h, h < 11 → rdJ M 61 0 0 h = lN (P h)) ∧ rdJ M 56 0 0 0 = lN W
theorem cl.off {M N : gM} {P : Nat → Nat} {W : Nat} (f : cl M P W) {G : List Nat} (o : offW G M N) (h1 : 61 ∉ G) (h2 : 56 ∉ G) : cl N P W := ⟨fun h hh => by
  rw [(o 61 0 0 h h1).2]
  exact f.1 h hh, by rw [(o 56 0 0 0 h2).2]; exact f.2⟩
theorem cl.wr {M : gM} {P : Nat → Nat} {W : Nat} (f : cl M P W) {g a b c : Nat} {v : Int32} : cl (wrI M g a b c v) P W := f
theorem cl.cong {M : gM} {P Q : Nat → Nat} {W W' : Nat} (f : cl M P W) (h : ∀ k, k < 11 → P k = Q k) (e : W = W') : cl M Q W' := ⟨fun k hk => by rw [← h k hk]; exact f.1 k hk, by rw [← e]; exact f.2⟩
theorem fr.cong {M : gM} {P Q : Nat → Nat} {W W' : Nat} (f : fr M P W) (h : ∀ k, k < 11 → P k = Q k) (e : W = W') : fr M Q W' := fun k hk => by rw [← h k hk, ← e]; exact f k hk
theorem X1_share {M : gM} {P : Nat → Nat} {W d o uo : Nat} {set : Int32} (c : cl M P W) (hs : bts set) (hd : d < 11) (ho : o < 11) (hu : uo ≤ 10) :
    s_X1_shareOut M (nI d) set (nI o) (nI uo) ∧ cl (f_X1_shareOut M (nI d) set (nI o) (nI uo)) (vshP P d set o uo) (vshW W set uo) := by
  have hc : fb_ct (bt set) 10 ≤ 10 := fb_ct_le _ _
  have i1 : vp_in (nI d) 11 := vpi (by omega)
  have i2 : vp_in (nI o) 11 := vpi (by omega)
  simp only [s_X1_shareOut, f_X1_shareOut, bnd, bndP, s_bit, cnt_set hs, nI_add, i1, nn_nI (show d < 2 ^ 31 by omega), c.1 d hd, true_and]
  refine lp (fun n k (s : gM) => f_X1_shareOut_27 set (nI o) (nI uo) (nI (fb_ct (bt set) 10 + uo)) (lN (P d)) n s (nI k)) (fun n k s => s_X1_shareOut_27 set (nI o) (nI uo) (nI (fb_ct (bt set) 10 + uo)) (lN (P d)) n s (nI k)) (fun k s => cl s (fun h => if h < k then ((if h = d then 0 else P h) * (fb_ct (bt set) 10 + uo) + (if bt set h = true then P d else 0)) else (if h = d then 0 else P h)) W) (fun z => cl z (vshP P d set o uo) (vshW W set uo)) 11 ?_ ?_ FU 0 _ (Nat.zero_le _) (by rw [FU_eq]; omega) ⟨fun h hh => ?_, ?_⟩
  · intro n k s hk hI ih
    have n10 : ¬ (10 : Int32) < nI k := nI_nlt (a := 10) (by omega) (by decide)
    have ik : vp_in (nI k) 11 := vpi (by omega)
    have rk := hI.1 k hk
    dsimp only at rk
    rw [if_neg (Nat.lt_irrefl k)] at rk
    have bb : (bz (bt set k)).toInt64 = lN (if bt set k = true then 1 else 0) := by cases bt set k <;> rfl
    simp only [s_X1_shareOut_27, f_X1_shareOut_27, bnd, bndP, if_neg n10, ik, nn_nI (show k < 2 ^ 31 by omega), rk, b_read _ (show k < 32 by omega), bb, nI_l (show fb_ct (bt set) 10 + uo < 2 ^ 31 by omega), lN_mul, lN_add, p1, true_and]
    refine ih _ ⟨fun h hh => ?_, ?_⟩
    · rw [rwJ]
      dsimp only
      by_cases e : h = k
      · subst e
        rw [if_pos (by simp), if_pos (show h < h + 1 by omega)]
        cases bt set h <;> simp
      · rw [if_neg (by simp [e])]
        have := hI.1 h hh
        dsimp only at this
        rw [this]
        by_cases e2 : h < k
        · rw [if_pos e2, if_pos (show h < k + 1 by omega)]
        · rw [if_neg e2, if_neg (show ¬ h < k + 1 by omega)]
    · rw [rwJ, if_neg (by simp)]; exact hI.2
  · intro n s hI
    have n10 : (10 : Int32) < nI 11 := by decide
    have ro := hI.1 o ho
    dsimp only at ro
    rw [if_pos ho] at ro
    simp only [s_X1_shareOut_27, f_X1_shareOut_27, bnd, bndP, if_pos n10, i2, nn_nI (show o < 2 ^ 31 by omega), ro, nI_l (show uo < 2 ^ 31 by omega), nI_l (show fb_ct (bt set) 10 + uo < 2 ^ 31 by omega), lN_mul, lN_add, true_and]
    refine ⟨fun h hh => ?_, ?_⟩
    · rw [rwJ, if_neg (by simp), rwJ]
      unfold vshP
      by_cases e : h = o
      · subst e
        rw [if_pos (by simp), if_pos rfl]
      · rw [if_neg (by simp [e]), if_neg e]
        have := hI.1 h hh
        dsimp only at this
        rw [this, if_pos hh]; rfl
    · rw [rwJ, if_pos (by simp), rwJ, if_neg (by simp), hI.2, lN_mul]
      rfl
  · rw [rwJ]
    dsimp only
    rw [if_neg (Nat.not_lt_zero h)]
    by_cases e : h = d
    · subst e
      rw [if_pos (by simp), if_pos rfl]; rfl
    · rw [if_neg (by simp [e]), if_neg e]
      exact c.1 h hh
  · rw [rwJ, if_neg (by simp)]; exact c.2
def vK (V : vV) (p : Nat) : Int32 := vlvs V (vkids V p) (V.2.1 p)
def vps (V : vV) (lf : Nat → Nat) (t d : Nat) (P : Nat → Nat) (W : Nat) : (Nat → Nat) × Nat :=
  if (vtk V lf d t).1 ≠ -2 ∧ V.1 (4 + 5 * vlt V t + 4) = 1 ∧ vK V d ≠ 0 then (vshP P d (vK V d) (nn (vtk V lf d t).1) (fb_ct (bt (vK V d)) 10), vshW W (vK V d) (fb_ct (bt (vK V d)) 10))
  else if (vtk V lf d t).1 ≠ -2 then (vshP P d 0 (nn (vtk V lf d t).1) 1, vshW W 0 1)
  else if vheirs V d ≠ 0 then (vshP P d (vheirs V d) 10 0, vshW W (vheirs V d) 0)
  else (vshP P d 0 10 1, vshW W 0 1)
theorem bts0 : bts 0 := fun i hi => by rw [b_0] at hi; cases hi
theorem ct0 : fb_ct (bt 0) 10 = 0 := fb_ct_zero.mpr fun k _ => b_0 k
theorem vK_no {V : vV} (h : WF V) {d : Nat} (hd : d < vP V) (hm : V.2.1 d ≠ -2) : bt (vK V d) d = false := by
  have h10 := h.P.2
  unfold vK
  rw [bt_lv h _ _ (by omega)]
  have : vliv V d (V.2.1 d) = false := by
    unfold vliv
    refine decide_eq_false fun q => ?_
    rcases q with q | q
    · exact hm q
    · exact Int32.lt_irrefl q
  rw [this, Bool.and_false, Bool.and_false]
theorem ct_lt {p : Nat → Bool} {i n : Nat} (hi : i < n) (hp : p i = false) : fb_ct p n < n := by
  rcases Nat.lt_or_ge (fb_ct p n) n with q | q
  · exact q
  · have := fb_ct_le p n
    have e : fb_ct p n = n := by omega
    have := fb_ct_all.mp e i hi
    rw [hp] at this; cases this
theorem vK_ct {V : vV} (h : WF V) {d : Nat} (hd : d < vP V) (hm : V.2.1 d ≠ -2) : fb_ct (bt (vK V d)) 10 ≤ 9 := by
  have h10 := h.P.2
  have := ct_lt (p := bt (vK V d)) (i := d) (n := 10) (by omega) (vK_no h hd hm)
  omega
theorem vps_ok {V : vV} (h : WF V) {lf : Nat → Nat} (hl : ∀ i, i < vA V → lf i < vA V) {t d W : Nat} {P : Nat → Nat} (hd : d < vP V) (hm : V.2.1 d ≠ -2) (hP : fb_sm P 11 = W) (hW : 0 < W) :
    fb_sm (vps V lf t d P W).1 11 = (vps V lf t d P W).2 ∧ 0 < (vps V lf t d P W).2 ∧ (vps V lf t d P W).2 ≤ W * 18 := by
  have h10 := h.P.2
  have ok := (vtk_ok h hl d t).1
  have oT : (vtk V lf d t).1 ≠ -2 → nn (vtk V lf d t).1 < 11 := fun q => by
    obtain ⟨j, hj, ej⟩ := vp_in_of (ok.resolve_left q) (by omega)
    rw [ej, nn_nI (by omega)]; omega
  have hK := vK_ct h hd hm
  have bK : bts (vK V d) := bts_lv h _ _
  have bH := bts_heirs h d
  have cH : fb_ct (bt (vheirs V d)) 10 ≤ 10 := fb_ct_le _ _
  unfold vps
  split
  · next q =>
    refine ⟨vsh_sum bK hP (by omega) (oT q.1), ?_, ?_⟩
    · have : fb_ct (bt (vK V d)) 10 ≠ 0 := fun z => q.2.2 ((bts_0 bK).mpr z)
      exact Nat.mul_pos hW (by omega)
    · exact Nat.mul_le_mul_left W (by omega)
  · split
    · next q =>
      refine ⟨vsh_sum bts0 hP (by omega) (oT q), ?_, ?_⟩
      · exact Nat.mul_pos hW (by omega)
      · exact Nat.mul_le_mul_left W (by rw [ct0]; omega)
    · split
      · next q =>
        refine ⟨vsh_sum bH hP (by omega) (by omega), ?_, ?_⟩
        · have : fb_ct (bt (vheirs V d)) 10 ≠ 0 := fun z => q ((bts_0 bH).mpr z)
          exact Nat.mul_pos hW (by omega)
        · exact Nat.mul_le_mul_left W (by omega)
      · refine ⟨vsh_sum bts0 hP (by omega) (by omega), ?_, ?_⟩
        · exact Nat.mul_pos hW (by omega)
        · exact Nat.mul_le_mul_left W (by rw [ct0]; omega)
theorem X1_pass {M : gM} {V : vV} {lf : Nat → Nat} (c : CV M V lf) (h : WF V) {t d W : Nat} {P : Nat → Nat} (hd : d < vP V) (hm : V.2.1 d ≠ -2) (ht : t < vT V) (f : cl M P W) (h51 : rdI M 51 0 0 0 = mo (vtk V lf d t).1) :
    s_X1_passOn M (nI d) (V.1 (4 + 5 * vlt V t + 4)) ∧ cl (f_X1_passOn M (nI d) (V.1 (4 + 5 * vlt V t + 4))) (vps V lf t d P W).1 (vps V lf t d P W).2 := by
  have h10 := h.P.2
  have hl := fun i hi => (c.2.2.2.2.2.2.1 i hi).1
  have ok := (vtk_ok h hl d t).1
  have e20 : rdI M 20 0 d 0 = V.2.1 d := by rw [(c.2.1 d hd).2.1, mo_ne hm]
  have i1 : vp_in (nI d) 10 := vpi (by omega)
  obtain ⟨a1, a2⟩ := X7_living c h (V.2.1 d)
  obtain ⟨b1, b2⟩ := X7_children c h (show d < 32 by omega)
  obtain ⟨d1, d2⟩ := X7_heirs c h hd hm
  have vk : vkids V d &&& bo (fun q => vliv V q (V.2.1 d)) (vP V) = vK V d := vkids_lv h d _
  have bK : bts (vK V d) := bts_lv h _ _
  have bH := bts_heirs h d
  have wh := vp01 (h.2.2.2.2.2 _ (wlt h ht).2).2.2.2.2
  have m51 : (rdI M 51 0 0 0 = -1) = ((vtk V lf d t).1 = -2) := by rw [h51]; exact propext (mo_2 h ok)
  have cK : fb_ct (bt (vK V d)) 10 ≤ 10 := fb_ct_le _ _
  simp only [s_X1_passOn, f_X1_passOn, s_X1_passOn_78, f_X1_passOn_78, bnd, bndP, nn_nI (show d < 2 ^ 31 by omega), e20, i1, a1, a2, b1, b2, d1, d2, vk, m51, s_bit, cnt_set bK, true_and, and_true]
  by_cases T : (vtk V lf d t).1 = -2
  · simp only [T, if_true]
    have ev : vps V lf t d P W = if vheirs V d ≠ 0 then (vshP P d (vheirs V d) 10 0, vshW W (vheirs V d) 0) else (vshP P d 0 10 1, vshW W 0 1) := by
      unfold vps
      rw [if_neg (fun z => z.1 T), if_neg (fun z => z T)]
    rw [ev]
    by_cases H : vheirs V d = 0
    · simp only [H, if_true, ne_eq, not_true, if_false]
      exact X1_share (uo := 1) (o := 10) f bts0 (by omega) (by omega) (by omega)
    · simp only [H, if_false, ne_eq, not_false_eq_true, if_true]
      exact X1_share (uo := 0) (o := 10) f bH (by omega) (by omega) (by omega)
  · obtain ⟨j, hj, ej⟩ := vp_in_of (ok.resolve_left T) (by omega)
    have h51' : rdI M 51 0 0 0 = nI j := by rw [h51, ej, mo_ne (nI_ne (by omega)).1]
    have nj : nn (vtk V lf d t).1 = j := by rw [ej, nn_nI (by omega)]
    simp only [T, if_false, h51']
    by_cases Z : V.1 (4 + 5 * vlt V t + 4) = 1 ∧ vK V d ≠ 0
    · have ev : vps V lf t d P W = (vshP P d (vK V d) (nn (vtk V lf d t).1) (fb_ct (bt (vK V d)) 10), vshW W (vK V d) (fb_ct (bt (vK V d)) 10)) := by
        unfold vps
        rw [if_pos ⟨T, Z⟩]
      rw [ev, nj]
      simp only [Z.1, o1, Z.2, if_false]
      exact X1_share f bK (by omega) (by omega) cK
    · have ev : vps V lf t d P W = (vshP P d 0 (nn (vtk V lf d t).1) 1, vshW W 0 1) := by
        unfold vps
        rw [if_neg (fun z => Z z.2), if_pos T]
      rw [ev, nj]
      have main := X1_share (uo := 1) (o := j) (d := d) f bts0 (by omega) (by omega) (by omega)
      rcases wh with w | w
      · simp only [w, if_true]
        exact main
      · have k0 : vK V d = 0 := by
          by_cases y : vK V d = 0
          · exact y
          · exact absurd ⟨w, y⟩ Z
        simp only [w, k0, o1, if_true, if_false]
        exact main
theorem X13_goes {M : gM} {V : vV} {lf : Nat → Nat} (h : WF V) {M0 : gM} (F : cvF M0 V lf) (c : mV M = V) {t d W : Nat} {P : Nat → Nat} (hd : d < vP V) (hm : V.2.1 d ≠ -2) (ht : t < vT V) (f : fr M P W) (hP : fb_sm P 11 = W) (hW : 0 < W) (hW2 : W * 18 < 2 ^ 63) (h0 : P d ≠ 0) :
    s_X13_goesOn M (nI d) (nI t) ∧ fr (f_X13_goesOn M (nI d) (nI t)) (vps V lf t d P W).1 (vps V lf t d P W).2 := by
  have h10 := h.P.2
  have h8 := h.T.2
  have hl := fun i hi => (F.1 i hi).1
  have ok := (vtk_ok h hl d t).1
  obtain ⟨sm, sp, sb⟩ := vps_ok (t := t) h hl hd hm hP hW
  have i1 : vp_in (nI d) 11 := vpi (by omega)
  obtain ⟨f1, f2⟩ := f d (by omega)
  have ax := red_x (n := P d) (d := W)
  have bd : fD (P d) W ∣ W := red_dvd
  have b0 : 0 < fD (P d) W := red_pos hW
  have a0 : fN (P d) W ≠ 0 := fun z => h0 ((red_nz hW).mp z)
  have al := red_nle (n := P d) (d := W)
  have pl := sm_le hP (show d < 11 by omega)
  generalize fN (P d) W = a at *
  generalize fD (P d) W = b at *
  have nz : ¬ lg_cmp (lN a) 0 = 0 := fun q => a0 ((lz (by omega)).mp ((lg_cmp_eq _ _).mp q))
  have e7 : mV (wrJ (wrJ M 97 0 0 d 0) 98 0 0 d 1) = V := by rw [mV_wrJ, mV_wrJ, c]
  obtain ⟨t1, t2, -⟩ := X13_lays (M := wrJ (wrJ M 97 0 0 d 0) 98 0 0 d 1) h hd ht F e7
  have o9 := o_X13_laysTaker (wrJ (wrJ M 97 0 0 d 0) 98 0 0 d 1) (nI d) (nI t)
  have e9 : mV (f_X13_laysTaker (wrJ (wrJ M 97 0 0 d 0) 98 0 0 d 1) (nI d) (nI t)) = V := by rw [mV_off o9 (by decide), e7]
  have f7 : fr (wrJ (wrJ M 97 0 0 d 0) 98 0 0 d 1) (fun h => if h = d then 0 else P h) W := fun k hk => by
    dsimp only
    by_cases e : k = d
    · subst e
      rw [if_pos rfl, (red_0 hW).1, (red_0 hW).2]
      constructor
      · rw [rwJ, if_neg (by simp), rwJ, if_pos (by simp)]; rfl
      · rw [rwJ, if_pos (by simp)]; rfl
    · rw [if_neg e]
      constructor
      · rw [rwJ, if_neg (by simp), rwJ, if_neg (by simp [e])]; exact (f k hk).1
      · rw [rwJ, if_neg (by simp [e]), rwJ, if_neg (by simp)]; exact (f k hk).2
  have f9 := f7.off o9 (by decide) (by decide)
  generalize hM9 : f_X13_laysTaker (wrJ (wrJ M 97 0 0 d 0) 98 0 0 d 1) (nI d) (nI t) = M9 at *
  have h9 : WF (mV M9) := by rw [e9]; exact h
  have fd : f_X13_diesOn M9 (nI d) = V.2.1 d := by rw [f_dies (by omega), e9]
  obtain ⟨b1, b2⟩ := X13_children h9 (show d < 32 by omega)
  rw [e9] at b2
  obtain ⟨g1, g2⟩ := X13_living h9 (vkids V d) (V.2.1 d)
  rw [e9, show vlvs V (vkids V d) (V.2.1 d) = vK V d from rfl] at g2
  obtain ⟨d1, d2⟩ := X13_heirs h9 (p := d) (by rw [e9]; exact hd)
  rw [e9] at d2
  have wt := (h.2.2.1 t ht).2.1
  have i3 := fhas (M := M9) 4 rfl wt (by omega)
  have i4 := shas (M := M9) 4 rfl wt (by omega)
  rw [show nI 4 = 4 from rfl] at i3 i4
  rw [e9, show nn (V.1 (34 + 3 * t + 1)) = vlt V t from rfl] at i3
  have fl := flnd (M := M9) (t := t) (by omega)
  rw [e9] at fl
  have bK : bts (vK V d) := bts_lv h _ _
  have bH := bts_heirs h d
  have cK : fb_ct (bt (vK V d)) 10 ≤ 10 := fb_ct_le _ _
  have l2 : (2 : Int64) * lN b = lN (2 * b) := by rw [show (2 : Int64) = lN 2 from rfl, lN_mul]
  simp only [s_X13_goesOn, f_X13_goesOn, s_X13_goesOn_134, f_X13_goesOn_134, bnd, bndP, nn_nI (show d < 2 ^ 31 by omega), f1, f2, if_neg nz, i1, hM9, t1, t2, b1, b2, fd, s_dies (show d < 65 by omega), g1, g2, d1, d2, fl, slnd (show t < 8 by omega), i3, i4, l2, true_and, and_true, bz_0, decide_eq_false_iff_not]
  by_cases T : (vtk V lf d t).1 = -2
  · simp only [T, if_true]
    have ev : vps V lf t d P W = if vheirs V d ≠ 0 then (vshP P d (vheirs V d) 10 0, vshW W (vheirs V d) 0) else (vshP P d 0 10 1, vshW W 0 1) := by
      unfold vps
      rw [if_neg (fun z => z.1 T), if_neg (fun z => z T)]
    rw [ev] at sm sp sb ⊢
    by_cases H : vheirs V d = 0
    · simp only [H, ne_eq, not_true, if_false] at sm sp sb ⊢
      have le := sm_le sm (show 10 < 11 by omega)
      unfold vshP vshW at le
      rw [ct0] at le
      have r := X13_alike0 (a := a) (b := b) (v := P d) f9 hW (by omega) bd ax (by simp at le ⊢; exact le)
      refine ⟨r.1, r.2.cong (fun k hk => ?_) ?_⟩
      · unfold vshP
        rw [ct0, b_0]
        by_cases e : k = 10 <;> simp [e]
      · unfold vshW; rw [ct0]; simp
    · simp only [H, ne_eq, not_false_eq_true, if_true] at sm sp sb ⊢
      have n0 : fb_ct (bt (vheirs V d)) 10 ≠ 0 := fun z => H ((bts_0 bH).mpr z)
      have fs := f9.scale hW (Nat.pos_of_ne_zero n0)
      have wle : W * fb_ct (bt (vheirs V d)) 10 ≤ W * 18 := sb
      have r := X13_alike (a := a) (b := b) (v := P d) bH fs (Nat.mul_pos hW (Nat.pos_of_ne_zero n0)) (by omega) n0 (Nat.mul_dvd_mul_right bd _) (by rw [← Nat.mul_assoc, ax, Nat.mul_assoc]) (fun k hk hb => by
        have le := sm_le sm (show k < 11 by omega)
        unfold vshP vshW at le
        rw [if_pos hb, if_neg (show ¬ k = 10 by omega)] at le
        try dsimp only
        simpa using le)
      refine ⟨r.1, r.2.cong (fun k hk => ?_) ?_⟩
      · unfold vshP
        by_cases hb : bt (vheirs V d) k = true
        · rw [if_pos hb, if_pos hb]; simp
        · rw [if_neg hb, if_neg hb]; simp
      · unfold vshW; simp
  · obtain ⟨j, hj, ej⟩ := vp_in_of (ok.resolve_left T) (by omega)
    have nj : nn (vtk V lf d t).1 = j := by rw [ej, nn_nI (by omega)]
    have nj2 : ¬ nI j = -2 := (nI_ne (by omega)).1
    rw [ej]
    simp only [nj2, if_false]
    by_cases Z : V.1 (4 + 5 * vlt V t + 4) = 1 ∧ vK V d ≠ 0
    · have ev : vps V lf t d P W = (vshP P d (vK V d) (nn (vtk V lf d t).1) (fb_ct (bt (vK V d)) 10), vshW W (vK V d) (fb_ct (bt (vK V d)) 10)) := by
        unfold vps
        rw [if_pos ⟨T, Z⟩]
      rw [ev, nj] at sm sp sb ⊢
      dsimp only at sm sp sb ⊢
      have n0 : fb_ct (bt (vK V d)) 10 ≠ 0 := fun z => Z.2 ((bts_0 bK).mpr z)
      have dK := vK_no h hd hm
      simp only [Z.1, Z.2, not_true, if_false]
      generalize hn : fb_ct (bt (vK V d)) 10 = n at *
      have fs := f9.scale hW (show 0 < n + n by omega)
      have eW : vshW W (vK V d) n = W * (n + n) := by unfold vshW; rw [hn]
      rw [eW] at sm sp sb ⊢
      have r := X13_alike (a := a) (b := 2 * b) (v := P d) bK fs (Nat.mul_pos hW (by omega)) (by omega) (by rw [hn]; exact n0) (by
        rw [hn]
        obtain ⟨m, hm2⟩ := bd
        exact ⟨m, by rw [hm2]; simp only [← Nat.two_mul, Nat.mul_assoc, Nat.mul_comm, Nat.mul_left_comm]⟩) (by
        rw [hn, ← Nat.mul_assoc, ax, ← Nat.two_mul]
        simp only [Nat.mul_assoc, Nat.mul_comm, Nat.mul_left_comm]) (fun k hk hb => by
        have le := sm_le sm (show k < 11 by omega)
        unfold vshP at le
        rw [if_pos hb, hn] at le
        try dsimp only
        omega)
      have jl := sm_le sm (show j < 11 by omega)
      unfold vshP at jl
      rw [if_pos rfl, hn] at jl
      have r2 := X13_comes (who := j) (a := a) (b := 2 * b) (v := P d * n) r.2 (Nat.mul_pos hW (by omega)) (by omega) (by omega) (by
        obtain ⟨m, hm2⟩ := bd
        exact ⟨m * n, by rw [hm2]; simp only [← Nat.two_mul, Nat.mul_assoc, Nat.mul_comm, Nat.mul_left_comm]⟩) (by
        rw [← Nat.mul_assoc, ax, ← Nat.two_mul]
        simp only [Nat.mul_assoc, Nat.mul_comm, Nat.mul_left_comm]) (by
        try dsimp only
        by_cases hb : bt (vK V d) j = true
        · rw [if_pos hb] at jl ⊢; exact jl
        · rw [if_neg hb] at jl ⊢; simpa using jl)
      refine ⟨⟨r.1, r2.1⟩, r2.2.cong (fun k hk => ?_) rfl⟩
      unfold vshP
      rw [hn]
      by_cases e : k = j
      · subst e
        rw [if_pos rfl, if_pos rfl]
        by_cases hb : bt (vK V d) k = true
        · rw [if_pos hb, if_pos hb]
        · rw [if_neg hb, if_neg hb]; simp
      · rw [if_neg e, if_neg e]
        by_cases hb : bt (vK V d) k = true
        · rw [if_pos hb, if_pos hb]; simp
        · rw [if_neg hb, if_neg hb]; simp
    · have ev : vps V lf t d P W = (vshP P d 0 (nn (vtk V lf d t).1) 1, vshW W 0 1) := by
        unfold vps
        rw [if_neg (fun z => Z z.2), if_pos T]
      rw [ev, nj] at sm sp sb ⊢
      dsimp only at sm sp sb ⊢
      have jl := sm_le sm (show j < 11 by omega)
      unfold vshP vshW at jl
      rw [if_pos rfl, ct0, b_0] at jl
      have r := X13_comes (who := j) (a := a) (b := b) (v := P d) f9 hW (by omega) (by omega) bd ax (by simp at jl ⊢; exact jl)
      have main : s_X13_comes M9 (nI j) (lN a) (lN b) ∧ fr (f_X13_comes M9 (nI j) (lN a) (lN b)) (vshP P d 0 j 1) (vshW W 0 1) := by
        refine ⟨r.1, r.2.cong (fun k hk => ?_) ?_⟩
        · unfold vshP
          rw [ct0, b_0]
          by_cases e : k = j <;> simp [e]
        · unfold vshW; rw [ct0]; simp
      by_cases w : V.1 (4 + 5 * vlt V t + 4) = 1
      · have k0 : vK V d = 0 := by
          by_cases y : vK V d = 0
          · exact y
          · exact absurd ⟨w, y⟩ Z
        simp only [w, k0, not_true, if_true, if_false]
        exact main
      · simp only [w, not_false_eq_true, if_true]
        exact main
end
