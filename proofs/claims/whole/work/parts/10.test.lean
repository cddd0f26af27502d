def f_X6_isMortal (M : gM) (r : Nat) (p : Nat) : Int32 :=
  if (rdI M 20 r p 0) = (-1) then
    (0)
  else
    (1)
def s_X6_isMortal (M : gM) (r : Nat) (p : Nat) : Prop :=
  if (rdI M 20 r p 0) = (-1) then
    (True)
  else
    (True)
set_option maxRecDepth 100000 in
set_option maxHeartbeats 4000000 in
theorem t_X6_isMortal {E : gE} {K : Int32 → Prop} {Q : Option Value → gM → Prop} {M : gM} (hK : ∀ z : Int32, K z → Q (some (.int z)) M)  (r : Nat) (p : Nat) (hr : r < 2) (hp : p < 10) (hs : s_X6_isMortal M r p) (hQ : K (f_X6_isMortal M r p)) : gG E RX6 cX6_isMortal 1 (some .boolean) (rm 0) 0 [(0, .ref (gla E (peC r p)))] [] M Q := by
  rw [s_X6_isMortal] at hs
  rw [f_X6_isMortal] at hQ
  refine g_aload_n 0 dX6_isMortal_0 rfl ?_
  refine g_getI (peC r p) fd_X6_9 (dF_Pe hr hp) rfl dX6_isMortal_1 ?_
  refine g_iconst (v := (-1)) dX6_isMortal_4 (by decide) ?_
  refine g_icmp_eq 12 dX6_isMortal_5 (by decide) (fun c1 => ?_) (fun c1 => ?_)
  · have hs := ifSt hs c1; have hQ := ifQt hQ c1
    refine g_iconst (v := 0) dX6_isMortal_12 (by decide) ?_
    exact g_zret rfl (Or.inl rfl) dX6_isMortal_13 (hK _ hQ)
  · have hs := ifSf hs c1; have hQ := ifQf hQ c1
    refine g_iconst (v := 1) dX6_isMortal_8 (by decide) ?_
    refine g_goto 13 dX6_isMortal_9 (by decide) ?_
    exact g_zret rfl (Or.inr rfl) dX6_isMortal_13 (hK _ hQ)
theorem c_X6_isMortal (E : gE) (M : gM) (r : Nat) (hr : r < 2) (p : Nat) (hp : p < 10) (hs : s_X6_isMortal M r p) : gC E yX6_isMortal cX6_isMortal 1 (some .boolean) (rm 0) [.ref (gla E (peC r p))] M (fun o N => o = some (.int (f_X6_isMortal M r p)) ∧ N = M) :=
  gC.of (by decide +kernel) (Nat.le_of_ble_eq_true rfl) rfl (t_X6_isMortal (K := fun z => z = f_X6_isMortal M r p) (fun z hz => by rw [hz]; exact ⟨rfl, rfl⟩) r p hr hp hs rfl)
def f_X6_livesOn_16 (M : gM) (r : Nat) (p : Nat)  : Int32 :=
  1
def s_X6_livesOn_16 (M : gM) (r : Nat) (p : Nat)  : Prop :=
  True
set_option maxRecDepth 100000 in
set_option maxHeartbeats 4000000 in
theorem t_X6_livesOn_16 {E : gE} {K : Int32 → Prop} {Q : Option Value → gM → Prop} {M : gM} (hK : ∀ z : Int32, K z → Q (some (.int z)) M) (r : Nat) (p : Nat) (hr : r < 2) (hp : p < 10)  (hs : s_X6_livesOn_16 M r p ) (hQ : K (f_X6_livesOn_16 M r p )) : gG E RX6 cX6_livesOn 2 (some .boolean) (rm 0) 16 [] [] M Q := by
  rw [s_X6_livesOn_16] at hs
  rw [f_X6_livesOn_16] at hQ
  refine g_iconst (v := 1) dX6_livesOn_16 (by decide) ?_
  refine g_goto 21 dX6_livesOn_17 (by decide) ?_
  exact g_zret rfl (Or.inr rfl) dX6_livesOn_21 (hK _ hQ)
def f_X6_livesOn (M : gM) (r : Nat) (p : Nat) (x1 : Int32) : Int32 :=
  if (rdI M 20 r p 0) = (-1) then
    (f_X6_livesOn_16 M r p)
  else
    (if (rdI M 20 r p 0) ≤ x1 then
      (0)
    else
      (f_X6_livesOn_16 M r p))
def s_X6_livesOn (M : gM) (r : Nat) (p : Nat) (x1 : Int32) : Prop :=
  if (rdI M 20 r p 0) = (-1) then
    (s_X6_livesOn_16 M r p)
  else
    (if (rdI M 20 r p 0) ≤ x1 then
      (True)
    else
      (s_X6_livesOn_16 M r p))
set_option maxRecDepth 100000 in
set_option maxHeartbeats 4000000 in
theorem t_X6_livesOn {E : gE} {K : Int32 → Prop} {Q : Option Value → gM → Prop} {M : gM} (hK : ∀ z : Int32, K z → Q (some (.int z)) M)  (r : Nat) (p : Nat) (x1 : Int32) (hr : r < 2) (hp : p < 10) (hs : s_X6_livesOn M r p x1) (hQ : K (f_X6_livesOn M r p x1)) : gG E RX6 cX6_livesOn 2 (some .boolean) (rm 0) 0 [(0, .ref (gla E (peC r p))), (1, .int x1)] [] M Q := by
  rw [s_X6_livesOn] at hs
  rw [f_X6_livesOn] at hQ
  refine g_aload_n 0 dX6_livesOn_0 rfl ?_
  refine g_getI (peC r p) fd_X6_9 (dF_Pe hr hp) rfl dX6_livesOn_1 ?_
  refine g_iconst (v := (-1)) dX6_livesOn_4 (by decide) ?_
  refine g_icmp_eq 16 dX6_livesOn_5 (by decide) (fun c1 => ?_) (fun c1 => ?_)
  · have hs := ifSt hs c1; have hQ := ifQt hQ c1
    refine g_sub [] _ rfl ?_
    exact t_X6_livesOn_16 hK r p hr hp hs hQ
  · have hs := ifSf hs c1; have hQ := ifQf hQ c1
    refine g_aload_n 0 dX6_livesOn_8 rfl ?_
    refine g_getI (peC r p) fd_X6_9 (dF_Pe hr hp) rfl dX6_livesOn_9 ?_
    refine g_iload_n 1 dX6_livesOn_12 rfl ?_
    refine g_icmp_le 20 dX6_livesOn_13 (by decide) (fun c2 => ?_) (fun c2 => ?_)
    · have hs := ifSt hs c2; have hQ := ifQt hQ c2
      refine g_iconst (v := 0) dX6_livesOn_20 (by decide) ?_
      exact g_zret rfl (Or.inl rfl) dX6_livesOn_21 (hK _ hQ)
    · have hs := ifSf hs c2; have hQ := ifQf hQ c2
      refine g_sub [] _ rfl ?_
      exact t_X6_livesOn_16 hK r p hr hp hs hQ
theorem c_X6_livesOn (E : gE) (M : gM) (r : Nat) (hr : r < 2) (p : Nat) (hp : p < 10) (x1 : Int32) (hs : s_X6_livesOn M r p x1) : gC E yX6_livesOn cX6_livesOn 2 (some .boolean) (rm 0) [.ref (gla E (peC r p)), .int x1] M (fun o N => o = some (.int (f_X6_livesOn M r p x1)) ∧ N = M) :=
  gC.of (by decide +kernel) (Nat.le_of_ble_eq_true rfl) rfl (t_X6_livesOn (K := fun z => z = f_X6_livesOn M r p x1) (fun z hz => by rw [hz]; exact ⟨rfl, rfl⟩) r p x1 hr hp hs rfl)
def f_X7_isPerson_22 (M : gM) (r : Nat)  : Int32 :=
  0
def s_X7_isPerson_22 (M : gM) (r : Nat)  : Prop :=
  True
set_option maxRecDepth 100000 in
set_option maxHeartbeats 4000000 in
theorem t_X7_isPerson_22 {E : gE} {K : Int32 → Prop} {Q : Option Value → gM → Prop} {M : gM} (hK : ∀ z : Int32, K z → Q (some (.int z)) M) (r : Nat) (hr : r < 2)  (hs : s_X7_isPerson_22 M r ) (hQ : K (f_X7_isPerson_22 M r )) : gG E RX7 cX7_isPerson 2 (some .boolean) (rm 0) 22 [] [] M Q := by
  rw [s_X7_isPerson_22] at hs
  rw [f_X7_isPerson_22] at hQ
  refine g_iconst (v := 0) dX7_isPerson_22 (by decide) ?_
  exact g_zret rfl (Or.inl rfl) dX7_isPerson_23 (hK _ hQ)
def f_X7_isPerson (M : gM) (r : Nat) (x1 : Int32) : Int32 :=
  if x1 < 0 then
    (f_X7_isPerson_22 M r)
  else
    (if (rdI M 5 r 0 0) ≤ x1 then
      (f_X7_isPerson_22 M r)
    else
      (if 10 ≤ x1 then
        (f_X7_isPerson_22 M r)
      else
        (1)))
def s_X7_isPerson (M : gM) (r : Nat) (x1 : Int32) : Prop :=
  if x1 < 0 then
    (s_X7_isPerson_22 M r)
  else
    (if (rdI M 5 r 0 0) ≤ x1 then
      (s_X7_isPerson_22 M r)
    else
      (if 10 ≤ x1 then
        (s_X7_isPerson_22 M r)
      else
        (True)))
set_option maxRecDepth 100000 in
set_option maxHeartbeats 4000000 in
theorem t_X7_isPerson {E : gE} {K : Int32 → Prop} {Q : Option Value → gM → Prop} {M : gM} (hK : ∀ z : Int32, K z → Q (some (.int z)) M)  (r : Nat) (x1 : Int32) (hr : r < 2) (hs : s_X7_isPerson M r x1) (hQ : K (f_X7_isPerson M r x1)) : gG E RX7 cX7_isPerson 2 (some .boolean) (rm 0) 0 [(0, .ref (gla E (rgC r))), (1, .int x1)] [] M Q := by
  rw [s_X7_isPerson] at hs
  rw [f_X7_isPerson] at hQ
  refine g_iload_n 1 dX7_isPerson_0 rfl ?_
  refine g_if_lt 22 dX7_isPerson_1 (by decide) (fun c1 => ?_) (fun c1 => ?_)
  · have hs := ifSt hs c1; have hQ := ifQt hQ c1
    refine g_sub [] _ rfl ?_
    exact t_X7_isPerson_22 hK r hr hs hQ
  · have hs := ifSf hs c1; have hQ := ifQf hQ c1
    refine g_iload_n 1 dX7_isPerson_4 rfl ?_
    refine g_aload_n 0 dX7_isPerson_5 rfl ?_
    refine g_getI (rgC r) fd_X7_60 (dF_Rg hr) rfl dX7_isPerson_6 ?_
    refine g_icmp_ge 22 dX7_isPerson_9 (by decide) (fun c2 => ?_) (fun c2 => ?_)
    · have hs := ifSt hs c2; have hQ := ifQt hQ c2
      refine g_sub [] _ rfl ?_
      exact t_X7_isPerson_22 hK r hr hs hQ
    · have hs := ifSf hs c2; have hQ := ifQf hQ c2
      refine g_iload_n 1 dX7_isPerson_12 rfl ?_
      refine g_bipush (v := 10) dX7_isPerson_13 (by decide) ?_
      refine g_icmp_ge 22 dX7_isPerson_15 (by decide) (fun c3 => ?_) (fun c3 => ?_)
      · have hs := ifSt hs c3; have hQ := ifQt hQ c3
        refine g_sub [] _ rfl ?_
        exact t_X7_isPerson_22 hK r hr hs hQ
      · have hs := ifSf hs c3; have hQ := ifQf hQ c3
        refine g_iconst (v := 1) dX7_isPerson_18 (by decide) ?_
        refine g_goto 23 dX7_isPerson_19 (by decide) ?_
        exact g_zret rfl (Or.inr rfl) dX7_isPerson_23 (hK _ hQ)
theorem c_X7_isPerson (E : gE) (M : gM) (r : Nat) (hr : r < 2) (x1 : Int32) (hs : s_X7_isPerson M r x1) : gC E yX7_isPerson cX7_isPerson 2 (some .boolean) (rm 0) [.ref (gla E (rgC r)), .int x1] M (fun o N => o = some (.int (f_X7_isPerson M r x1)) ∧ N = M) :=
  gC.of (by decide +kernel) (Nat.le_of_ble_eq_true rfl) rfl (t_X7_isPerson (K := fun z => z = f_X7_isPerson M r x1) (fun z hz => by rw [hz]; exact ⟨rfl, rfl⟩) r x1 hr hs rfl)
def f_X7_childrenOf_4 (M : gM) (r : Nat) (x1 : Int32)  : Nat → Int32 → Int32 → Int32
  | 0, _, _ => 0
  | n + 1, x2, x3 =>
    if (rdI M 5 r 0 0) ≤ x3 then
      (x2)
    else
      (bnd (x2 ||| ((((rdI M 21 r (nn x3) 0) >>> (x1 &&& 31)) &&& 1) <<< (x3 &&& 31))) fun v3 =>
      (f_X7_childrenOf_4 M r x1 n v3 (x3 + 1)))
def s_X7_childrenOf_4 (M : gM) (r : Nat) (x1 : Int32)  : Nat → Int32 → Int32 → Prop
  | 0, _, _ => False
  | n + 1, x2, x3 =>
    if (rdI M 5 r 0 0) ≤ x3 then
      (True)
    else
      ((vp_in x3 10) ∧
      (bndP (x2 ||| ((((rdI M 21 r (nn x3) 0) >>> (x1 &&& 31)) &&& 1) <<< (x3 &&& 31))) fun v3 =>
      (s_X7_childrenOf_4 M r x1 n v3 (x3 + 1))))
set_option maxRecDepth 100000 in
set_option maxHeartbeats 4000000 in
theorem t_X7_childrenOf_4 {E : gE} {K : Int32 → Prop} {Q : Option Value → gM → Prop} {M : gM} (hK : ∀ z : Int32, K z → Q (some (.int z)) M) (r : Nat) (x1 : Int32) (hr : r < 2)  : ∀ (n : Nat) (x2 : Int32) (x3 : Int32) , s_X7_childrenOf_4 M r x1  n x2 x3 → K (f_X7_childrenOf_4 M r x1  n x2 x3) → gG E RX7 cX7_childrenOf 4 (some .int) (rm 0) 4 [(0, .ref (gla E (rgC r))), (1, .int x1), (2, .int x2), (3, .int x3)] [] M Q := by
  intro n
  induction n with
  | zero => intro x2 x3 hs hQ; exact (hs : False).elim
  | succ n ih =>
    intro x2 x3 hs hQ
    rw [s_X7_childrenOf_4] at hs
    rw [f_X7_childrenOf_4] at hQ
    refine g_iload_n 3 dX7_childrenOf_4 rfl ?_
    refine g_aload_n 0 dX7_childrenOf_5 rfl ?_
    refine g_getI (rgC r) fd_X7_60 (dF_Rg hr) rfl dX7_childrenOf_6 ?_
    refine g_icmp_ge 36 dX7_childrenOf_9 (by decide) (fun c1 => ?_) (fun c1 => ?_)
    · have hs := ifSt hs c1; have hQ := ifQt hQ c1
      refine g_iload_n 2 dX7_childrenOf_36 rfl ?_
      exact g_iret rfl dX7_childrenOf_37 (hK _ hQ)
    · have hs := ifSf hs c1; have hQ := ifQf hQ c1
      refine g_iload_n 2 dX7_childrenOf_12 rfl ?_
      refine g_aload_n 0 dX7_childrenOf_13 rfl ?_
      refine g_getR (rgC r) (rgC r + 2) fd_X7_19 (dF_Rg hr) rfl rfl dX7_childrenOf_14 ?_
      refine g_iload_n 3 dX7_childrenOf_17 rfl ?_
      have h2 := hs.1; have hs := hs.2
      refine g_aald (rgC r + 2) (peC r (nn x3)) rfl (dF_Rg_persons hr) h2 (aj_Pe _ _) dX7_childrenOf_18 ?_
      refine g_getI (peC r (nn x3)) fd_X7_78 (dF_Pe hr (vpL h2)) rfl dX7_childrenOf_19 ?_
      refine g_iload_n 1 dX7_childrenOf_22 rfl ?_
      refine g_ishr dX7_childrenOf_23 ?_
      refine g_iconst (v := 1) dX7_childrenOf_24 (by decide) ?_
      refine g_iand dX7_childrenOf_25 ?_
      refine g_iload_n 3 dX7_childrenOf_26 rfl ?_
      refine g_ishl dX7_childrenOf_27 ?_
      refine g_ior dX7_childrenOf_28 ?_
      refine g_topI (fun v3 hv3 => ?_)
      have hQ := bndQ hQ v3 hv3; have hs := bndS hs v3 hv3
      refine g_istore_n _ dX7_childrenOf_29 (by decide) rfl ?_
      refine g_iinc 3 (v := x3 + 1) _ dX7_childrenOf_30 rfl rfl (by decide) rfl ?_
      refine g_goto 4 dX7_childrenOf_33 (by decide) ?_
      refine g_sub [2, 3, 1, 0] _ rfl ?_
      exact ih v3 (x3 + 1) hs hQ
def f_X7_childrenOf (M : gM) (r : Nat) (x1 : Int32) : Int32 :=
  f_X7_childrenOf_4 M r x1 FU 0 0
def s_X7_childrenOf (M : gM) (r : Nat) (x1 : Int32) : Prop :=
  s_X7_childrenOf_4 M r x1 FU 0 0
set_option maxRecDepth 100000 in
set_option maxHeartbeats 4000000 in
theorem t_X7_childrenOf {E : gE} {K : Int32 → Prop} {Q : Option Value → gM → Prop} {M : gM} (hK : ∀ z : Int32, K z → Q (some (.int z)) M)  (r : Nat) (x1 : Int32) (hr : r < 2) (hs : s_X7_childrenOf M r x1) (hQ : K (f_X7_childrenOf M r x1)) : gG E RX7 cX7_childrenOf 4 (some .int) (rm 0) 0 [(0, .ref (gla E (rgC r))), (1, .int x1)] [] M Q := by
  rw [s_X7_childrenOf] at hs
  rw [f_X7_childrenOf] at hQ
  refine g_iconst (v := 0) dX7_childrenOf_0 (by decide) ?_
  refine g_istore_n _ dX7_childrenOf_1 (by decide) rfl ?_
  refine g_iconst (v := 0) dX7_childrenOf_2 (by decide) ?_
  refine g_istore_n _ dX7_childrenOf_3 (by decide) rfl ?_
  refine g_sub [2, 3, 1, 0] _ rfl ?_
  exact t_X7_childrenOf_4 hK r x1 hr FU 0 0 hs hQ
theorem c_X7_childrenOf (E : gE) (M : gM) (r : Nat) (hr : r < 2) (x1 : Int32) (hs : s_X7_childrenOf M r x1) : gC E yX7_childrenOf cX7_childrenOf 4 (some .int) (rm 0) [.ref (gla E (rgC r)), .int x1] M (fun o N => o = some (.int (f_X7_childrenOf M r x1)) ∧ N = M) :=
  gC.of (by decide +kernel) (Nat.le_of_ble_eq_true rfl) rfl (t_X7_childrenOf (K := fun z => z = f_X7_childrenOf M r x1) (fun z hz => by rw [hz]; exact ⟨rfl, rfl⟩) r x1 hr hs rfl)
