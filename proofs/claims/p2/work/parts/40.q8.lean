set_option linter.all false
noncomputable section
-- ===== a death moved over days on which nothing is told =====
def tol (d1 d2 x : Int32) : Prop := x.toInt < d1.toInt ∨ d2.toInt < x.toInt
def NT (V : vV) (p : Nat) (d1 d2 : Int32) : Prop := dOK d1 ∧ dOK d2 ∧ d1.toInt ≤ d2.toInt ∧ (∀ q, q < vA V → tol d1 d2 (V.1 (58 + 7 * q + 1))) ∧ (∀ k, k < vN V → tol d1 d2 (V.2.1 (46 + 3 * k + 2))) ∧ ∀ q, q < vP V → q ≠ p → V.2.1 q = -2 ∨ tol d1 d2 (V.2.1 q)
/-- days that answer to each other -/
def mt (d1 d2 x y : Int32) : Prop := (x = y ∧ tol d1 d2 x) ∨ (x = d1 ∧ y = d2)
theorem dOK_i {x : Int32} (h : dOK x) : 0 ≤ x.toInt ∧ x.toInt ≤ 9999 := by
  have a := h.1
  have b := h.2
  rw [Int32.le_iff_toInt_le] at a b
  exact ⟨a, b⟩
theorem m2_i : ((-2 : Int32)).toInt = -2 := by decide
theorem mt_lt {d1 d2 a b x y : Int32} (h : d1.toInt ≤ d2.toInt) (h1 : mt d1 d2 a b) (h2 : mt d1 d2 x y) : (a < x) = (b < y) := propext (by
  rw [Int32.lt_iff_toInt_lt, Int32.lt_iff_toInt_lt]
  unfold mt tol at h1 h2
  rcases h1 with ⟨rfl, u⟩ | ⟨rfl, rfl⟩ <;> rcases h2 with ⟨rfl, v⟩ | ⟨rfl, rfl⟩ <;> omega)
theorem mt_eq {d1 d2 a b x y : Int32} (h : d1.toInt ≤ d2.toInt) (h1 : mt d1 d2 a b) (h2 : mt d1 d2 x y) : (a = x) = (b = y) := propext (by
  rw [← Int32.toInt_inj, ← Int32.toInt_inj]
  unfold mt tol at h1 h2
  rcases h1 with ⟨rfl, u⟩ | ⟨rfl, rfl⟩ <;> rcases h2 with ⟨rfl, v⟩ | ⟨rfl, rfl⟩ <;> omega)
theorem mt_le {d1 d2 a b x y : Int32} (h : d1.toInt ≤ d2.toInt) (h1 : mt d1 d2 a b) (h2 : mt d1 d2 x y) : (a ≤ x) = (b ≤ y) := propext (by
  rw [Int32.le_iff_toInt_le, Int32.le_iff_toInt_le]
  unfold mt tol at h1 h2
  rcases h1 with ⟨rfl, u⟩ | ⟨rfl, rfl⟩ <;> rcases h2 with ⟨rfl, v⟩ | ⟨rfl, rfl⟩ <;> omega)
theorem mt_die {V : vV} {p : Nat} {d1 d2 : Int32} (h : NT V p d1 d2) {q : Nat} (hq : q < vP V) : ((vset V p d1).2.1 q = -2 ∧ (vset V p d2).2.1 q = -2) ∨ ((vset V p d1).2.1 q ≠ -2 ∧ (vset V p d2).2.1 q ≠ -2 ∧ mt d1 d2 ((vset V p d1).2.1 q) ((vset V p d2).2.1 q)) := by
  obtain ⟨a1, a2, a3, -, -, a6⟩ := h
  by_cases e : q = p
  · subst e
    rw [vset_eq, vset_eq]
    refine Or.inr ⟨fun z => ?_, fun z => ?_, Or.inr ⟨rfl, rfl⟩⟩
    · rw [z] at a1; exact absurd a1.1 (by decide)
    · rw [z] at a2; exact absurd a2.1 (by decide)
  · rw [vset_ne e, vset_ne e]
    rcases a6 q hq e with z | z
    · exact Or.inl ⟨z, z⟩
    · by_cases y : V.2.1 q = -2
      · exact Or.inl ⟨y, y⟩
      · exact Or.inr ⟨y, y, Or.inl ⟨rfl, z⟩⟩
theorem c_liv {V : vV} {p : Nat} {d1 d2 : Int32} (h : NT V p d1 d2) {q : Nat} (hq : q < vP V) {x y : Int32} (m : mt d1 d2 x y) : vliv (vset V p d1) q x = vliv (vset V p d2) q y := by
  unfold vliv
  rcases mt_die h hq with ⟨a, b⟩ | ⟨a, b, c⟩
  · rw [a, b]; simp
  · have e := mt_lt h.2.2.1 m c
    simp only [a, b, e, false_or]
theorem c_lvs {V : vV} {p : Nat} {d1 d2 : Int32} (h : NT V p d1 d2) {x y : Int32} (m : mt d1 d2 x y) (S : Int32) : vlvs (vset V p d1) S x = vlvs (vset V p d2) S y :=
  bo_cong (n := vP V) fun k hk => by rw [c_liv h hk m]
theorem c_wd {V : vV} {p : Nat} {d1 d2 : Int32} (h : NT V p d1 d2) (hp : p < 46) {x y : Int32} (m : mt d1 d2 x y) (w : Nat) : ∀ k, k ≤ vN V → vwd (vset V p d1) w x k = vwd (vset V p d2) w y k := by
  intro k
  induction k with
  | zero => intro _; rfl
  | succ k ih =>
    intro hk
    have i := ih (by omega)
    rw [vwd, vwd, i]
    rw [vset_ne (i := 46 + 3 * k) (by omega), vset_ne (i := 46 + 3 * k) (by omega), vset_ne (i := 46 + 3 * k + 1) (by omega), vset_ne (i := 46 + 3 * k + 1) (by omega), vset_ne (i := 46 + 3 * k + 2) (by omega), vset_ne (i := 46 + 3 * k + 2) (by omega)]
    have t := h.2.2.2.2.1 k (by omega)
    have e := mt_le h.2.2.1 (Or.inl ⟨rfl, t⟩ : mt d1 d2 (V.2.1 (46 + 3 * k + 2)) (V.2.1 (46 + 3 * k + 2))) m
    simp only [e]
theorem c_wed {V : vV} {p : Nat} {d1 d2 : Int32} (h : NT V p d1 d2) (hp : p < 46) {x y : Int32} (m : mt d1 d2 x y) (w : Nat) : vwed (vset V p d1) w x = vwed (vset V p d2) w y := by
  unfold vwed
  rw [vset_N hp, vset_N hp, c_wd h hp m w (vN V) (Nat.le_refl _)]
theorem c_K {V : vV} {p : Nat} {d1 d2 : Int32} (h : NT V p d1 d2) {q : Nat} (hq : q < vP V) (mo : (vset V p d1).2.1 q ≠ -2) : vK (vset V p d1) q = vK (vset V p d2) q := by
  rcases mt_die h hq with ⟨a, b⟩ | ⟨a, b, c⟩
  · exact absurd a mo
  · exact c_lvs h c _
theorem c_heirs {V : vV} {p : Nat} {d1 d2 : Int32} (w : WF V) (h : NT V p d1 d2) (hp : p < 46) {q : Nat} (hq : q < vP V) (mo : (vset V p d1).2.1 q ≠ -2) (w1 : WF (vset V p d1)) : vheirs (vset V p d1) q = vheirs (vset V p d2) q := by
  rcases mt_die h hq with ⟨a, b⟩ | ⟨a, b, c⟩
  · exact absurd a mo
  · have h10 := w.P.2
    have e1 : vlvs (vset V p d1) (vkids (vset V p d1) q) ((vset V p d1).2.1 q) = vlvs (vset V p d2) (vkids (vset V p d2) q) ((vset V p d2).2.1 q) := c_lvs h c _
    have e2 := c_wed h hp c q
    have e3 : vlvs (vset V p d1) ((vset V p d1).1 (24 + q)) ((vset V p d1).2.1 q) = vlvs (vset V p d2) ((vset V p d2).1 (24 + q)) ((vset V p d2).2.1 q) := c_lvs h c _
    unfold vheirs
    rw [e1, e2, e3]
    by_cases z : vwed (vset V p d2) q ((vset V p d2).2.1 q) = -2
    · simp only [z, if_true]
    · have ok := (vwed_ok w1 q ((vset V p d1).2.1 q))
      rw [e2] at ok
      obtain ⟨j, hj, ej⟩ := vp_in_of (ok.resolve_left z) (by have : vP (vset V p d1) = vP V := rfl; omega)
      rw [ej, nn_nI (by have : vP (vset V p d1) = vP V := rfl; omega), c_liv h hj c]
theorem c_lc {V : vV} {p : Nat} {d1 d2 : Int32} (w : WF V) (h : NT V p d1 d2) (hp : p < vP V) {q : Nat} (hq : q < vA V) : vlc (vset V p d1) q = vlc (vset V p d2) q := by
  have h10 := w.P.2
  have h12 := w.A.2
  unfold vlc
  exact fb_ct_cong fun k hk => by
    rw [vset_ne (by omega), vset_ne (by omega)]
    have := c_liv h (q := k) hk (x := V.1 (58 + 7 * q + 1)) (y := V.1 (58 + 7 * q + 1)) (Or.inl ⟨rfl, h.2.2.2.1 q hq⟩)
    show (bt (V.2.1 (22 + q)) k && vliv (vset V p d1) k (V.1 (58 + 7 * q + 1))) = (bt (V.2.1 (22 + q)) k && vliv (vset V p d2) k (V.1 (58 + 7 * q + 1)))
    rw [this]
theorem c_form {V : vV} {p : Nat} {d1 d2 : Int32} (w : WF V) (h : NT V p d1 d2) (hp : p < vP V) {q : Nat} (hq : q < vA V) (l : Nat) : vform (vset V p d1) q l = vform (vset V p d2) q l := by
  unfold vform
  rw [c_lc w h hp hq]
  rfl
theorem c_lack {V : vV} {p : Nat} {d1 d2 : Int32} (w : WF V) (h : NT V p d1 d2) (hp : p < vP V) {q t : Nat} (hq : q < vA V) : vlack (vset V p d1) q t = vlack (vset V p d2) q t := by
  have h10 := w.P.2
  have h12 := w.A.2
  have m := (wmk w hq).2
  have em : ∀ d, vmk (vset V p d) q = vmk V q := fun _ => rfl
  have el : ∀ d, vld (vset V p d) q = vld V q := fun _ => rfl
  have et : ∀ d, vlt (vset V p d) t = vlt V t := fun _ => rfl
  have ep : vprov (vset V p d1) q = vprov (vset V p d2) q := by
    unfold vprov
    rw [vset_ne (by omega), vset_ne (by omega)]; rfl
  unfold vlack
  rw [em, em, el, el, et, et, ep, c_form w h hp hq, c_form w h hp hq, vset_ne (i := 34 + q) (by omega), vset_ne (i := 34 + q) (by omega)]
  rcases mt_die h m with ⟨a, b⟩ | ⟨a, b, c⟩
  · simp only [a, b, if_true]
  · have e := mt_lt h.2.2.1 (Or.inl ⟨rfl, h.2.2.2.1 q hq⟩ : mt d1 d2 (V.1 (58 + 7 * q + 1)) (V.1 (58 + 7 * q + 1))) c
    have e : ((vset V p d1).1 (58 + 7 * q + 1) < (vset V p d1).2.1 (vmk V q)) = ((vset V p d2).1 (58 + 7 * q + 1) < (vset V p d2).2.1 (vmk V q)) := e
    simp only [a, b, e, if_false]
theorem vmx_cong {V W : vV} {P Q : Nat → Bool} (hV : ∀ a b, vlater V a b = vlater W a b) : ∀ n, (∀ k, k < n → P k = Q k) → vmx V P n = vmx W Q n := by
  intro n
  induction n with
  | zero => intro _; rfl
  | succ n ih =>
    intro h
    rw [vmx, vmx, h n (by omega), ih (fun k hk => h k (by omega))]
    simp only [hV]
theorem c_struck {V : vV} {p : Nat} {d1 d2 : Int32} (w : WF V) (h : NT V p d1 d2) (hp : p < vP V) {q t : Nat} : vstruck (vset V p d1) q t = vstruck (vset V p d2) q t := by
  unfold vstruck
  show vmx (vset V p d1) (vsk (vset V p d1) q t) (vA V) = vmx (vset V p d2) (vsk (vset V p d2) q t) (vA V)
  refine vmx_cong (V := vset V p d1) (W := vset V p d2) (fun _ _ => rfl) (vA V) fun k hk => ?_
  unfold vsk
  rw [c_lack w h hp hk]
  rfl
theorem c_brk {V : vV} {p : Nat} {d1 d2 : Int32} (w : WF V) (h : NT V p d1 d2) (hp : p < vP V) {q : Nat} (hq : q < vA V) (mo : (vset V p d1).2.1 (vmk V q) ≠ -2) : vbrk (vset V p d1) q = vbrk (vset V p d2) q := by
  have h10 := w.P.2
  have m := (wmk w hq).2
  rcases mt_die h m with ⟨a, b⟩ | ⟨a, b, c⟩
  · exact absurd a mo
  · have e : vex (vbk (vset V p d1) q) (vN V) = vex (vbk (vset V p d2) q) (vN V) := vex_cong fun k hk => by
      have em : ∀ d, vmk (vset V p d) q = vmk V q := fun _ => rfl
      unfold vbk
      rw [em, em, vset_ne (i := 46 + 3 * k) (by omega), vset_ne (i := 46 + 3 * k) (by omega), vset_ne (i := 46 + 3 * k + 1) (by omega), vset_ne (i := 46 + 3 * k + 1) (by omega), vset_ne (i := 46 + 3 * k + 2) (by omega), vset_ne (i := 46 + 3 * k + 2) (by omega)]
      have e := mt_lt h.2.2.1 (Or.inl ⟨rfl, h.2.2.2.2.1 k hk⟩ : mt d1 d2 (V.2.1 (46 + 3 * k + 2)) (V.2.1 (46 + 3 * k + 2))) c
      simp only [e]
      rfl
    unfold vbrk
    rw [vset_N (by omega), vset_N (by omega), e]
    rfl
theorem c_why {V : vV} {p : Nat} {d1 d2 : Int32} (w : WF V) (h : NT V p d1 d2) (hp : p < vP V) {q t : Nat} (hq : q < vA V) : vwhy (vset V p d1) q t = vwhy (vset V p d2) q t := by
  unfold vwhy
  rw [← c_lack w h hp hq, c_struck w h hp]
  by_cases z : vlack (vset V p d1) q t = 0
  · rw [c_brk w h hp hq (vlack_d z)]
  · rw [if_neg z, if_neg z]
theorem c_cnt {V : vV} {p : Nat} {d1 d2 : Int32} (w : WF V) (h : NT V p d1 d2) (hp : p < vP V) {m q t : Nat} (hq : q < vA V) : vcnt (vset V p d1) m t q = vcnt (vset V p d2) m t q := by
  unfold vcnt
  rw [c_why w h hp hq]
  rfl
theorem c_may {V : vV} {p : Nat} {d1 d2 : Int32} (w : WF V) (h : NT V p d1 d2) (hp : p < vP V) {q t : Nat} (hq : q < vA V) {x y : Int32} (m : mt d1 d2 x y) {who : Int32} (hw : whoOK V who) : vmay (vset V p d1) q t who x = vmay (vset V p d2) q t who y := by
  have h10 := w.P.2
  have h12 := w.A.2
  unfold vmay
  rw [vset_ne (i := 22 + q) (by omega), vset_ne (i := 22 + q) (by omega)]
  rcases hw with rfl | hw
  · simp
  · obtain ⟨j, hj, rfl⟩ := vp_in_of hw (by omega)
    rw [nn_nI (by omega), c_liv h hj m]
    rfl
theorem c_take {V : vV} {p : Nat} {d1 d2 : Int32} (w : WF V) (h : NT V p d1 d2) (hp : p < vP V) {q t : Nat} (hq : q < vA V) {x y : Int32} (m : mt d1 d2 x y) : vtake (vset V p d1) q t x = vtake (vset V p d2) q t y := by
  have h10 := w.P.2
  have main : ∀ j k, k + j ≤ vG V q → vtg (vset V p d1) q t x j k = vtg (vset V p d2) q t y j k := by
    intro j
    induction j with
    | zero => intro k _; rfl
    | succ j ih =>
      intro k hk
      have g := (w.2.2.2.1 q hq).2 k (by omega)
      have so : vso (vset V p d1) q k x = vso (vset V p d2) q k y := by
        unfold vso
        show (decide (V.1 (gi q k 2) = 0) || (vliv (vset V p d1) (nn (V.1 (gi q k 3))) x == decide (V.1 (gi q k 2) = 1))) = (decide (V.1 (gi q k 2) = 0) || (vliv (vset V p d2) (nn (V.1 (gi q k 3))) y == decide (V.1 (gi q k 2) = 1)))
        rcases g.2.2.2.1 with ⟨a, b⟩ | ⟨a, b⟩
        · simp [a]
        · obtain ⟨i, hi, ei⟩ := vp_in_of b (by omega)
          rw [ei, nn_nI (by omega), c_liv h hi m]
      have m1 : vmay (vset V p d1) q t (V.1 (gi q k 1)) x = vmay (vset V p d2) q t (V.1 (gi q k 1)) y := c_may w h hp hq m (Or.inr g.2.1)
      have m4 : vmay (vset V p d1) q t (V.1 (gi q k 4)) x = vmay (vset V p d2) q t (V.1 (gi q k 4)) y := c_may w h hp hq m g.2.2.2.2
      rw [vtg, vtg, so, ih (k + 1) (by omega)]
      show (if V.1 (gi q k 0) = nI t ∧ vso (vset V p d2) q k y = true then (if vmay (vset V p d1) q t (V.1 (gi q k 1)) x = true then V.1 (gi q k 1) else if vmay (vset V p d1) q t (V.1 (gi q k 4)) x = true then V.1 (gi q k 4) else vtg (vset V p d2) q t y j (k + 1)) else vtg (vset V p d2) q t y j (k + 1)) = _
      rw [m1, m4]
      rfl
  exact main (vG V q) 0 (by omega)
theorem vfs_cong {pi pi' : Nat → Bool} {lf : Nat → Nat} {f g : Nat → Int32} : ∀ j i, (∀ k, i ≤ k → k < i + j → pi k = pi' k ∧ f (lf k) = g (lf k)) → vfs pi lf f j i = vfs pi' lf g j i := by
  intro j
  induction j with
  | zero => intro i _; rfl
  | succ j ih =>
    intro i h
    obtain ⟨a, b⟩ := h i (Nat.le_refl _) (by omega)
    rw [vfs, vfs, a, b, ih (i + 1) (fun k h1 h2 => h k (by omega) (by omega))]
theorem c_tk {V : vV} {p : Nat} {d1 d2 : Int32} (w : WF V) (h : NT V p d1 d2) (hp : p < vP V) {lf : Nat → Nat} (hl : ∀ i, i < vA V → lf i < vA V) {m t : Nat} (hm : m < vP V) (mo : (vset V p d1).2.1 m ≠ -2) : vtk (vset V p d1) lf m t = vtk (vset V p d2) lf m t := by
  rcases mt_die h hm with ⟨a, b⟩ | ⟨a, b, c⟩
  · exact absurd a mo
  · have e1 : vfs (fun i => vcnt (vset V p d1) m t (lf i)) lf (vgv (vset V p d1) m t) (vA V) 0 = vfs (fun i => vcnt (vset V p d2) m t (lf i)) lf (vgv (vset V p d2) m t) (vA V) 0 := vfs_cong _ _ fun k _ hk => ⟨c_cnt w h hp (hl k (by omega)), c_take w h hp (hl k (by omega)) c⟩
    have e2 : vfs (fun i => vcnt (vset V p d1) m t (lf i)) lf (vrs (vset V p d1) m t) (vA V) 0 = vfs (fun i => vcnt (vset V p d2) m t (lf i)) lf (vrs (vset V p d2) m t) (vA V) 0 := vfs_cong _ _ fun k _ hk => ⟨c_cnt w h hp (hl k (by omega)), by
      have ok := (w.2.2.2.1 _ (hl k (by omega))).1.2.2.2.2.2.2.1
      have mm : vmay (vset V p d1) (lf k) t (V.1 (58 + 7 * lf k + 6)) ((vset V p d1).2.1 m) = vmay (vset V p d2) (lf k) t (V.1 (58 + 7 * lf k + 6)) ((vset V p d2).2.1 m) := c_may w h hp (hl k (by omega)) c ok
      show (if vmay (vset V p d1) (lf k) t (V.1 (58 + 7 * lf k + 6)) ((vset V p d1).2.1 m) = true then V.1 (58 + 7 * lf k + 6) else -2) = _
      rw [mm]
      rfl⟩
    unfold vtk
    show (if (vfs (fun i => vcnt (vset V p d1) m t (lf i)) lf (vgv (vset V p d1) m t) (vA V) 0).1 = -2 then vfs (fun i => vcnt (vset V p d1) m t (lf i)) lf (vrs (vset V p d1) m t) (vA V) 0 else vfs (fun i => vcnt (vset V p d1) m t (lf i)) lf (vgv (vset V p d1) m t) (vA V) 0) = _
    rw [e1, e2]
    rfl
theorem c_ps {V : vV} {p : Nat} {d1 d2 : Int32} (w : WF V) (h : NT V p d1 d2) (hp : p < vP V) {lf : Nat → Nat} (hl : ∀ i, i < vA V → lf i < vA V) {m t : Nat} (hm : m < vP V) (mo : (vset V p d1).2.1 m ≠ -2) (w1 : WF (vset V p d1)) (P : Nat → Nat) (W : Nat) : vps (vset V p d1) lf t m P W = vps (vset V p d2) lf t m P W := by
  have h10 := w.P.2
  unfold vps
  rw [c_tk w h hp hl hm mo, c_K h hm mo, c_heirs w h (by omega) hm mo w1]
  rfl
theorem c_ah {V : vV} {p : Nat} {d1 d2 : Int32} (h : NT V p d1 d2) {a b : Nat} (ha : a < vP V) (hb : b < vP V) (ma : (vset V p d1).2.1 a ≠ -2) (mb : (vset V p d1).2.1 b ≠ -2) : vah (vset V p d1) a b = vah (vset V p d2) a b := by
  rcases mt_die h ha with ⟨x, -⟩ | ⟨-, -, c⟩
  · exact absurd x ma
  · rcases mt_die h hb with ⟨x, -⟩ | ⟨-, -, c2⟩
    · exact absurd x mb
    · unfold vah
      have e1 := mt_lt h.2.2.1 c c2
      have e2 := mt_eq h.2.2.1 c c2
      simp only [e1, e2]
theorem c_cm {V : vV} {p : Nat} {d1 d2 : Int32} (h : NT V p d1 d2) {last : Option Nat} (ml : mortal (vset V p d1) last) {q : Nat} (hq : q < vP V) : vcm (vset V p d1) last q = vcm (vset V p d2) last q := by
  unfold vcm
  rcases mt_die h hq with ⟨a, b⟩ | ⟨a, b, c⟩
  · rw [a, b]; simp
  · cases last with
    | none => simp [a, b]
    | some l =>
      obtain ⟨l1, l2⟩ := ml l rfl
      simp only [a, b, ne_eq, not_false_eq_true, decide_true, Bool.true_and]
      exact c_ah h l1 hq l2 a
theorem c_nd {V : vV} {p : Nat} {d1 d2 : Int32} (h : NT V p d1 d2) {last : Option Nat} (ml : mortal (vset V p d1) last) : vnd (vset V p d1) last = vnd (vset V p d2) last := by
  have main : ∀ n, n ≤ vP V → vnq (vset V p d1) (vcm (vset V p d1) last) n = vnq (vset V p d2) (vcm (vset V p d2) last) n := by
    intro n
    induction n with
    | zero => intro _; show (none : Option Nat) = none; rfl
    | succ n ih =>
      intro hn
      have i := ih (by omega)
      rw [vnq, vnq, ← c_cm h ml (show n < vP V by omega), ← i]
      by_cases z : vcm (vset V p d1) last n = true
      · rw [if_pos z, if_pos z]
        cases hv : vnq (vset V p d1) (vcm (vset V p d1) last) n with
        | none => show some n = some n; rfl
        | some b =>
          obtain ⟨k1, k2, -⟩ := (vnq_spec n).2 b hv
          have mb : (vset V p d1).2.1 b ≠ -2 := by
            unfold vcm at k2
            rw [Bool.and_eq_true, decide_eq_true_iff] at k2
            exact k2.1
          have mn : (vset V p d1).2.1 n ≠ -2 := by
            unfold vcm at z
            rw [Bool.and_eq_true, decide_eq_true_iff] at z
            exact z.1
          show (if vah (vset V p d1) n b = true then some n else some b) = (if vah (vset V p d2) n b = true then some n else some b)
          rw [c_ah h (show n < vP V by omega) (show b < vP V by omega) mn mb]
      · rw [if_neg z, if_neg z]
  have eP : ∀ d, vP (vset V p d) = vP V := fun _ => rfl
  have mm := main (vP V) (Nat.le_refl _)
  unfold vnd
  rw [eP, eP]
  exact mm
theorem c_go {V : vV} {p : Nat} {d1 d2 : Int32} (w : WF V) (h : NT V p d1 d2) (hp : p < vP V) {lf : Nat → Nat} (hl : ∀ i, i < vA V → lf i < vA V) {t : Nat} : ∀ n cur (S S' : vS), mortal (vset V p d1) cur → S.1 = S'.1 → S.2.1 = S'.2.1 → (vgo (vset V p d1) lf t 9999 n cur S).1 = (vgo (vset V p d2) lf t 9999 n cur S').1 := by
  have w1 : WF (vset V p d1) := wf_die w hp (Or.inr h.1)
  have w2 : WF (vset V p d2) := wf_die w hp (Or.inr h.2.1)
  intro n
  induction n with
  | zero => intro cur S S' _ e _; rw [vgo, vgo]; exact e
  | succ n ih =>
    intro cur S S' mc e e2
    cases cur with
    | none => rw [vgo, vgo]; exact e
    | some d =>
      obtain ⟨hd, md⟩ := mc d rfl
      have hd : d < vP V := hd
      rw [vgo, vgo, ← c_nd h mc]
      have l1 : (vset V p d1).2.1 d ≤ 9999 := (((w1.2.1 d hd).2.1).resolve_left md).2
      have md2 : (vset V p d2).2.1 d ≠ -2 := by
        rcases mt_die h hd with ⟨a, b⟩ | ⟨a, b, c⟩
        · exact absurd a md
        · exact b
      have l2 : (vset V p d2).2.1 d ≤ 9999 := (((w2.2.1 d hd).2.1).resolve_left md2).2
      by_cases z : S.1 d = 0
      · rw [if_neg (fun y => y.2 z), if_neg (fun y => y.2 (by rw [← e]; exact z))]
        exact ih _ _ _ (vnd_mortal _) e e2
      · rw [if_pos ⟨l1, z⟩, if_pos ⟨l2, by rw [← e]; exact z⟩]
        have ep := c_ps w h hp hl (t := t) hd md w1 S.1 S.2.1
        refine ih _ _ _ (vnd_mortal _) ?_ ?_
        · show (vps (vset V p d1) lf t d S.1 S.2.1).1 = (vps (vset V p d2) lf t d S'.1 S'.2.1).1
          rw [ep, e, e2]
        · show (vps (vset V p d1) lf t d S.1 S.2.1).2 = (vps (vset V p d2) lf t d S'.1 S'.2.1).2
          rw [ep, e, e2]
theorem c_run {V : vV} {p : Nat} {d1 d2 : Int32} (w : WF V) (h : NT V p d1 d2) (hp : p < vP V) {lf : Nat → Nat} (hl : ∀ i, i < vA V → lf i < vA V) {t : Nat} : (vrun (vset V p d1) lf t 9999).1 = (vrun (vset V p d2) lf t 9999).1 := by
  unfold vrun
  rw [← c_nd h (last := none) (fun l hl => by cases hl)]
  exact c_go w h hp hl 10 _ _ _ (vnd_mortal _) rfl rfl
end
