set_option linter.all false
noncomputable section
-- ===== only the row r is written =====
def offP (r : Nat) (M N : gM) : Prop := ∀ g a b c : Nat, a ≠ r → rdI N g a b c = rdI M g a b c
theorem poR {r : Nat} {M : gM} : offP r M M := fun _ _ _ _ _ => rfl
theorem offP.tr {r : Nat} {M N O : gM} (h : offP r M N) (k : offP r N O) : offP r M O := fun g a b c q => (k g a b c q).trans (h g a b c q)
theorem offP.wI {r : Nat} {M N : gM} {g b c : Nat} {v : Int32} (h : offP r M N) : offP r M (wrI N g r b c v) := fun g' a' b' c' q => by
  rw [rwI, if_neg (fun z => q z.2.1)]
  exact h g' a' b' c' q
theorem poB {r : Nat} {M e : gM} {k : gM → gM} (h : offP r M e) (kk : ∀ z, offP r M z → offP r M (k z)) : offP r M (bnd e k) := kk e h
theorem poB2 {β : Type} {r : Nat} {M e : gM} {k : gM → β × gM} (h : offP r M e) (kk : ∀ z, offP r M z → offP r M (k z).2) : offP r M (bnd e k).2 := kk e h
theorem poZ {α : Type} {r : Nat} {M : gM} {e : α × gM} {k : α × gM → gM} (h : offP r M e.2) (kk : ∀ z, offP r M z.2 → offP r M (k z)) : offP r M (bnd e k) := kk e h
theorem poZ2 {α β : Type} {r : Nat} {M : gM} {e : α × gM} {k : α × gM → β × gM} (h : offP r M e.2) (kk : ∀ z, offP r M z.2 → offP r M (k z).2) : offP r M (bnd e k).2 := kk e h
theorem poV {α : Type} {r : Nat} {M : gM} {e : α} {k : α → gM} (kk : ∀ z, offP r M (k z)) : offP r M (bnd e k) := kk e
theorem poV2 {α β : Type} {r : Nat} {M : gM} {e : α} {k : α → β × gM} (kk : ∀ z, offP r M (k z).2) : offP r M (bnd e k).2 := kk e
theorem poI {r : Nat} {M : gM} {c : Prop} [Decidable c] {a b : gM} (h1 : offP r M a) (h2 : offP r M b) : offP r M (if c then a else b) := by split <;> assumption
theorem poI2 {β : Type} {r : Nat} {M : gM} {c : Prop} [Decidable c] {a b : β × gM} (h1 : offP r M a.2) (h2 : offP r M b.2) : offP r M (if c then a else b).2 := by split <;> assumption
set_option maxRecDepth 100000 in
theorem w_X3_clear (M : gM) (r : Nat) (l : Nat) : offP r M (f_X3_clear M r l) := by
  rw [f_X3_clear]
  refine poB (poR.wI) (fun M1 oM1 => ?_)
  refine poB (oM1.wI) (fun M2 oM2 => ?_)
  refine poB (oM2.wI) (fun M3 oM3 => ?_)
  refine poB (oM3.wI) (fun M4 oM4 => ?_)
  refine poB (oM4.wI) (fun M5 oM5 => ?_)
  refine poB (oM5.wI) (fun M6 oM6 => ?_)
  exact oM6
set_option maxRecDepth 100000 in
theorem w_X5_clear (M : gM) (r : Nat) (q : Nat) : offP r M (f_X5_clear M r q) := by
  rw [f_X5_clear]
  refine poB (poR.wI) (fun M1 oM1 => ?_)
  refine poB (oM1.wI) (fun M2 oM2 => ?_)
  refine poB (oM2.wI) (fun M3 oM3 => ?_)
  refine poB (oM3.wI) (fun M4 oM4 => ?_)
  refine poB (oM4.wI) (fun M5 oM5 => ?_)
  refine poB (oM5.wI) (fun M6 oM6 => ?_)
  refine poB (oM6.wI) (fun M7 oM7 => ?_)
  exact oM7
set_option maxRecDepth 100000 in
theorem w_X7_addPerson (M : gM) (r : Nat) (x1 : Int32) : offP r M (f_X7_addPerson M r x1) := by
  rw [f_X7_addPerson]
  refine poI ?_ ?_
  · refine poB (poR.wI) (fun M3 oM3 => ?_)
    refine poB (oM3.wI) (fun M4 oM4 => ?_)
    refine poB (oM4.wI) (fun M5 oM5 => ?_)
    refine poB (oM5.wI) (fun M6 oM6 => ?_)
    exact oM6
  · exact poR
set_option maxRecDepth 100000 in
theorem w_X7_addThing (M : gM) (r : Nat) (x1 : Int32) (x2 : Int32) (x3 : Int32) : offP r M (f_X7_addThing M r x1 x2 x3) := by
  rw [f_X7_addThing]
  refine poI ?_ ?_
  · refine poB (poR.wI) (fun M3 oM3 => ?_)
    refine poB (oM3.wI) (fun M4 oM4 => ?_)
    refine poB (oM4.wI) (fun M5 oM5 => ?_)
    refine poB (oM5.wI) (fun M6 oM6 => ?_)
    exact oM6
  · exact poR
set_option maxRecDepth 100000 in
theorem w_X7_addWedding (M : gM) (r : Nat) (x1 : Int32) (x2 : Int32) (x3 : Int32) : offP r M (f_X7_addWedding M r x1 x2 x3) := by
  rw [f_X7_addWedding]
  refine poI ?_ ?_
  · refine poB (poR.wI) (fun M3 oM3 => ?_)
    refine poB (oM3.wI) (fun M5 oM5 => ?_)
    refine poB (oM5.wI) (fun M7 oM7 => ?_)
    refine poB (oM7.wI) (fun M8 oM8 => ?_)
    exact oM8
  · exact poR
set_option maxRecDepth 100000 in
theorem w_X7_addFilledPaper_60 (r : Nat) (x1 : Int32)  : ∀ (n : Nat) (M : gM) (x2 : Int32), offP r M (f_X7_addFilledPaper_60 r x1  n M x2) := by
  intro n
  induction n with
  | zero => intro M x2; exact poR
  | succ n ih =>
    intro M x2
    rw [f_X7_addFilledPaper_60]
    refine poI ?_ ?_
    · refine poB (poR.wI) (fun M9 oM9 => ?_)
      refine poB (oM9.wI) (fun M10 oM10 => ?_)
      exact oM10
    · refine poB (poR.wI) (fun M13 oM13 => ?_)
      exact oM13.tr (ih M13 (x2 + (-1)))
set_option maxRecDepth 100000 in
theorem w_X7_addFilledPaper_12 (M : gM) (r : Nat)  : ∀ (n : Nat) (x1 : Int32), offP r M (f_X7_addFilledPaper_12 M r  n x1) := by
  intro n
  induction n with
  | zero => intro x1; exact poR
  | succ n ih =>
    intro x1
    rw [f_X7_addFilledPaper_12]
    refine poI ?_ ?_
    · exact (w_X7_addFilledPaper_60 r x1 FU M (rdI M 7 r 0 0))
    · refine poI ?_ ?_
      · exact (w_X7_addFilledPaper_60 r x1 FU M (rdI M 7 r 0 0))
      · exact (ih (x1 + 1))
set_option maxRecDepth 100000 in
theorem w_X7_addFilledPaper (M : gM) (r : Nat) : offP r M (f_X7_addFilledPaper M r) := by
  rw [f_X7_addFilledPaper]
  refine poI ?_ ?_
  · exact (w_X7_addFilledPaper_12 M r FU 0)
  · exact poR
set_option maxRecDepth 100000 in
theorem w_X7_clear_2 (r : Nat)  : ∀ (n : Nat) (M : gM) (x1 : Int32), offP r M (f_X7_clear_2 r  n M x1) := by
  intro n
  induction n with
  | zero => intro M x1; exact poR
  | succ n ih =>
    intro M x1
    rw [f_X7_clear_2]
    refine poI ?_ ?_
    · refine poB (poR.wI) (fun M2 oM2 => ?_)
      refine poB (oM2.wI) (fun M3 oM3 => ?_)
      refine poB (oM3.wI) (fun M4 oM4 => ?_)
      refine poB (oM4.wI) (fun M5 oM5 => ?_)
      refine poB (oM5.wI) (fun M6 oM6 => ?_)
      exact oM6
    · refine poB (poR.tr ((w_X3_clear M r (nn x1)))) (fun M9 oM9 => ?_)
      exact oM9.tr (ih M9 (x1 + 1))
set_option maxRecDepth 100000 in
theorem w_X7_clear (M : gM) (r : Nat) : offP r M (f_X7_clear M r) := by
  rw [f_X7_clear]
  exact (w_X7_clear_2 r FU M 0)
set_option maxRecDepth 100000 in
theorem w_X8_takeToken (M : gM) (r : Nat) : offP r M (f_X8_takeToken M r) := by
  rw [f_X8_takeToken]
  refine poI ?_ ?_
  · refine poI ?_ ?_
    · exact poR
    · refine poB (poR.wI) (fun M3 oM3 => ?_)
      exact oM3
  · exact poR
set_option maxRecDepth 100000 in
theorem w_X8_fail (M : gM) (r : Nat) (x1 : Int32) : offP r M (f_X8_fail M r x1) := by
  rw [f_X8_fail]
  refine poI ?_ ?_
  · refine poB (poR.wI) (fun M2 oM2 => ?_)
    refine poB (oM2.wI) (fun M4 oM4 => ?_)
    exact oM4
  · exact poR
set_option maxRecDepth 100000 in
theorem w_X8_failAtTaken (M : gM) (r : Nat) : offP r M (f_X8_failAtTaken M r) := by
  rw [f_X8_failAtTaken]
  refine poI ?_ ?_
  · refine poI ?_ ?_
    · exact poR
    · refine poB (poR.wI) (fun M3 oM3 => ?_)
      refine poB (oM3.wI) (fun M5 oM5 => ?_)
      exact oM5
  · exact poR
set_option maxRecDepth 100000 in
theorem w_X8_takePaperKind (M : gM) (r : Nat) : offP r M (f_X8_takePaperKind M r).2 := by
  rw [f_X8_takePaperKind]
  refine poI2 ?_ ?_
  · refine poB2 (poR.tr ((w_X8_takeToken M r))) (fun M6 oM6 => ?_)
    exact oM6
  refine poI2 ?_ ?_
  · refine poB2 (poR.tr ((w_X8_takeToken M r))) (fun M8 oM8 => ?_)
    exact oM8
  refine poI2 ?_ ?_
  · refine poB2 (poR.tr ((w_X8_takeToken M r))) (fun M10 oM10 => ?_)
    exact oM10
  refine poB2 (poR.tr ((w_X8_fail M r 1))) (fun M12 oM12 => ?_)
  refine poB2 (oM12.tr ((w_X8_takeToken M12 r))) (fun M14 oM14 => ?_)
  exact oM14
set_option maxRecDepth 100000 in
theorem w_X8_takeKnownName_17 (M : gM) (r : Nat) (kd : Nat) (x3 : Int32)  : offP r M (f_X8_takeKnownName_17 M r kd x3 ).2 := by
  rw [f_X8_takeKnownName_17]
  refine poB2 (poR.tr ((w_X8_takeToken M r))) (fun M7 oM7 => ?_)
  refine poI2 ?_ ?_
  · exact oM7
  · exact oM7
set_option maxRecDepth 100000 in
theorem w_X8_takeKnownName (M : gM) (r : Nat) (kd : Nat) (x2 : Int32) : offP r M (f_X8_takeKnownName M r kd x2).2 := by
  rw [f_X8_takeKnownName]
  refine poV2 (fun v2 => ?_)
  refine poI2 ?_ ?_
  · refine poB2 (poR.tr ((w_X8_fail M r 1))) (fun M5 oM5 => ?_)
    exact oM5.tr (w_X8_takeKnownName_17 M5 r kd v2)
  · exact (w_X8_takeKnownName_17 M r kd v2)
set_option maxRecDepth 100000 in
theorem w_X8_takeNewName_33 (M : gM) (r : Nat) (kd : Nat) (x2 : Int32)  : offP r M (f_X8_takeNewName_33 M r kd x2 ) := by
  rw [f_X8_takeNewName_33]
  refine poI ?_ ?_
  · refine poI ?_ ?_
    · refine poB (poR.tr ((w_X8_takeToken M r))) (fun M15 oM15 => ?_)
      exact oM15
    · refine poB (poR.wI) (fun M18 oM18 => ?_)
      refine poB (oM18.tr ((w_X8_takeToken M18 r))) (fun M20 oM20 => ?_)
      exact oM20
  · refine poB (poR.tr ((w_X8_takeToken M r))) (fun M12 oM12 => ?_)
    exact oM12
set_option maxRecDepth 100000 in
theorem w_X8_takeNewName (M : gM) (r : Nat) (kd : Nat) (x2 : Int32) : offP r M (f_X8_takeNewName M r kd x2) := by
  rw [f_X8_takeNewName]
  refine poI ?_ ?_
  · refine poI ?_ ?_
    · exact (w_X8_takeNewName_33 M r kd x2)
    · refine poB (poR.tr ((w_X8_fail M r 3))) (fun M7 oM7 => ?_)
      exact oM7.tr (w_X8_takeNewName_33 M7 r kd x2)
  · refine poB (poR.tr ((w_X8_fail M r 1))) (fun M9 oM9 => ?_)
    exact oM9.tr (w_X8_takeNewName_33 M9 r kd x2)
set_option maxRecDepth 100000 in
theorem w_X8_takeNumber_46 (M : gM) (r : Nat) (x3 : Int32)  : offP r M (f_X8_takeNumber_46 M r x3 ).2 := by
  rw [f_X8_takeNumber_46]
  refine poB2 (poR.tr ((w_X8_takeToken M r))) (fun M13 oM13 => ?_)
  refine poI2 ?_ ?_
  · exact oM13
  · exact oM13
set_option maxRecDepth 100000 in
theorem w_X8_takeNumber_41 (M : gM) (r : Nat) (x3 : Int32)  : offP r M (f_X8_takeNumber_41 M r x3 ).2 := by
  rw [f_X8_takeNumber_41]
  refine poB2 (poR.tr ((w_X8_fail M r 2))) (fun M11 oM11 => ?_)
  exact oM11.tr (w_X8_takeNumber_46 M11 r x3)
set_option maxRecDepth 100000 in
theorem w_X8_takeNumber (M : gM) (r : Nat) (x1 : Int32) (x2 : Int32) : offP r M (f_X8_takeNumber M r x1 x2).2 := by
  rw [f_X8_takeNumber]
  refine poV2 (fun v2 => ?_)
  refine poI2 ?_ ?_
  · refine poI2 ?_ ?_
    · exact (w_X8_takeNumber_41 M r v2)
    · refine poI2 ?_ ?_
      · exact (w_X8_takeNumber_46 M r v2)
      · exact (w_X8_takeNumber_41 M r v2)
  · refine poB2 (poR.tr ((w_X8_fail M r 1))) (fun M9 oM9 => ?_)
    exact oM9.tr (w_X8_takeNumber_46 M9 r v2)
set_option maxRecDepth 100000 in
theorem w_X8_takeOneMore (M : gM) (r : Nat) (x1 : Int32) (x2 : Int32) : offP r M (f_X8_takeOneMore M r x1 x2) := by
  rw [f_X8_takeOneMore]
  refine poI ?_ ?_
  · refine poB (poR.tr ((w_X8_takeToken M r))) (fun M3 oM3 => ?_)
    exact oM3
  · refine poB (poR.tr ((w_X8_fail M r 2))) (fun M5 oM5 => ?_)
    refine poB (oM5.tr ((w_X8_takeToken M5 r))) (fun M7 oM7 => ?_)
    exact oM7
set_option maxRecDepth 100000 in
theorem w_X8_takeOnce (M : gM) (r : Nat) (x1 : Int32) : offP r M (f_X8_takeOnce M r x1) := by
  rw [f_X8_takeOnce]
  refine poI ?_ ?_
  · refine poB (poR.tr ((w_X8_takeToken M r))) (fun M3 oM3 => ?_)
    exact oM3
  · refine poB (poR.tr ((w_X8_fail M r 3))) (fun M5 oM5 => ?_)
    refine poB (oM5.tr ((w_X8_takeToken M5 r))) (fun M7 oM7 => ?_)
    exact oM7
set_option maxRecDepth 100000 in
theorem w_X8_takeSemicolon_15 (M : gM) (r : Nat)  : offP r M (f_X8_takeSemicolon_15 M r ) := by
  rw [f_X8_takeSemicolon_15]
  refine poB (poR.tr ((w_X8_takeToken M r))) (fun M7 oM7 => ?_)
  refine poI ?_ ?_
  · refine poB (oM7.wI) (fun M9 oM9 => ?_)
    exact oM9
  · exact oM7
set_option maxRecDepth 100000 in
theorem w_X8_takeSemicolon (M : gM) (r : Nat) : offP r M (f_X8_takeSemicolon M r) := by
  rw [f_X8_takeSemicolon]
  refine poI ?_ ?_
  · exact (w_X8_takeSemicolon_15 M r)
  · refine poB (poR.tr ((w_X8_fail M r 1))) (fun M5 oM5 => ?_)
    exact oM5.tr (w_X8_takeSemicolon_15 M5 r)
set_option maxRecDepth 100000 in
theorem w_X8_readRight_120 (M : gM) (r : Nat) (l : Nat)  : offP r M (f_X8_readRight_120 M r l ) := by
  rw [f_X8_readRight_120]
  refine poB (poR.tr ((w_X8_fail M r 1))) (fun M22 oM22 => ?_)
  exact oM22
set_option maxRecDepth 100000 in
theorem w_X8_readRight (M : gM) (r : Nat) (l : Nat) : offP r M (f_X8_readRight M r l) := by
  rw [f_X8_readRight]
  refine poI ?_ ?_
  · refine poB (poR.tr ((w_X8_takeOnce M r (rdI M 16 r l 0)))) (fun M6 oM6 => ?_)
    refine poB (oM6.wI) (fun M7 oM7 => ?_)
    exact oM7
  refine poI ?_ ?_
  · refine poB (poR.tr ((w_X8_takeOnce M r (rdI M 15 r l 0)))) (fun M9 oM9 => ?_)
    refine poB (oM9.wI) (fun M10 oM10 => ?_)
    exact oM10
  refine poI ?_ ?_
  · refine poB (poR.tr ((w_X8_takeOnce M r (rdI M 17 r l 0)))) (fun M12 oM12 => ?_)
    refine poB (oM12.wI) (fun M13 oM13 => ?_)
    exact oM13
  refine poI ?_ ?_
  · refine poB (poR.tr ((w_X8_takeOnce M r (rdI M 18 r l 0)))) (fun M15 oM15 => ?_)
    refine poB (oM15.wI) (fun M16 oM16 => ?_)
    exact oM16
  exact (w_X8_readRight_120 M r l)
set_option maxRecDepth 100000 in
theorem w_X8_readPerson (M : gM) (r : Nat) : offP r M (f_X8_readPerson M r) := by
  rw [f_X8_readPerson]
  refine poB (poR.tr ((w_X8_takeOneMore M r (rdI M 5 r 0 0) 10))) (fun M2 oM2 => ?_)
  refine poB (oM2.tr ((w_X8_takeNewName M2 r 0 (rdI M2 5 r 0 0)))) (fun M4 oM4 => ?_)
  refine poZ (oM4.tr ((w_X8_takeNumber M4 r 0 1))) (fun z6 oz6 => ?_)
  refine poI ?_ ?_
  · refine poB (oz6.tr ((w_X7_addPerson z6.2 r z6.1))) (fun M9 oM9 => ?_)
    exact oM9
  · exact oz6
set_option maxRecDepth 100000 in
theorem w_X8_takePerson (M : gM) (r : Nat) : offP r M (f_X8_takePerson M r).2 := by
  rw [f_X8_takePerson]
  refine poZ2 (poR.tr ((w_X8_takeKnownName M r 0 (rdI M 5 r 0 0)))) (fun z2 oz2 => ?_)
  exact oz2
set_option maxRecDepth 100000 in
theorem w_X8_takeThing (M : gM) (r : Nat) : offP r M (f_X8_takeThing M r).2 := by
  rw [f_X8_takeThing]
  refine poZ2 (poR.tr ((w_X8_takeKnownName M r 1 (rdI M 6 r 0 0)))) (fun z2 oz2 => ?_)
  exact oz2
set_option maxRecDepth 100000 in
theorem w_X8_takePaper (M : gM) (r : Nat) : offP r M (f_X8_takePaper M r).2 := by
  rw [f_X8_takePaper]
  refine poZ2 (poR.tr ((w_X8_takeKnownName M r 2 (rdI M 7 r 0 0)))) (fun z2 oz2 => ?_)
  exact oz2
set_option maxRecDepth 100000 in
theorem w_X8_readLand_47 (r : Nat) (x1c1 : Nat)  : ∀ (n : Nat) (M : gM) (x2 : Int32), offP r M (f_X8_readLand_47 r x1c1  n M x2) := by
  intro n
  induction n with
  | zero => intro M x2; exact poR
  | succ n ih =>
    intro M x2
    rw [f_X8_readLand_47]
    refine poI ?_ ?_
    · exact poR
    · refine poI ?_ ?_
      · refine poI ?_ ?_
        · exact poR
        · refine poB (poR.tr ((w_X8_readRight M r x1c1))) (fun M19 oM19 => ?_)
          exact oM19.tr (ih M19 (x2 + 1))
      · exact poR
set_option maxRecDepth 100000 in
theorem w_X8_readLand_30 (M : gM) (r : Nat) (x1c1 : Nat)  : offP r M (f_X8_readLand_30 M r x1c1 ) := by
  rw [f_X8_readLand_30]
  refine poB (poR.wI) (fun M9 oM9 => ?_)
  refine poZ (oM9.tr ((w_X8_takeNumber M9 r 0 4))) (fun z11 oz11 => ?_)
  refine poB (oz11.wI) (fun M12 oM12 => ?_)
  exact oM12.tr (w_X8_readLand_47 r x1c1 FU M12 0)
set_option maxRecDepth 100000 in
theorem w_X8_readLand (M : gM) (r : Nat) : offP r M (f_X8_readLand M r) := by
  rw [f_X8_readLand]
  refine poB (poR.tr ((w_X8_takeToken M r))) (fun M2 oM2 => ?_)
  refine poZ (oM2.tr ((w_X8_takeNumber M2 r 0 1))) (fun z4 oz4 => ?_)
  refine poI ?_ ?_
  · exact oz4.tr (w_X8_readLand_30 z4.2 r (nn z4.1))
  · refine poB (oz4.tr ((w_X8_failAtTaken z4.2 r))) (fun M8 oM8 => ?_)
    exact oM8.tr (w_X8_readLand_30 M8 r (nn z4.1))
set_option maxRecDepth 100000 in
theorem w_X8_readChild_67 (M : gM) (r : Nat) (x2 : Int32) (x3c1 : Nat)  : offP r M (f_X8_readChild_67 M r x2 x3c1 ) := by
  rw [f_X8_readChild_67]
  refine poI ?_ ?_
  · refine poB (poR.wI) (fun M16 oM16 => ?_)
    exact oM16
  · exact poR
set_option maxRecDepth 100000 in
theorem w_X8_readChild_63 (M : gM) (r : Nat) (x2 : Int32) (x3c1 : Nat)  : offP r M (f_X8_readChild_63 M r x2 x3c1 ) := by
  rw [f_X8_readChild_63]
  refine poB (poR.tr ((w_X8_failAtTaken M r))) (fun M14 oM14 => ?_)
  exact oM14.tr (w_X8_readChild_67 M14 r x2 x3c1)
set_option maxRecDepth 100000 in
theorem w_X8_readChild_40 (M : gM) (r : Nat) (x1 : Int32) (x2 : Int32) (x3c1 : Nat) (y0 : Int32)  : offP r M (f_X8_readChild_40 M r x1 x2 x3c1 y0 ) := by
  rw [f_X8_readChild_40]
  refine poI ?_ ?_
  · exact (w_X8_readChild_63 M r x2 x3c1)
  · refine poI ?_ ?_
    · refine poI ?_ ?_
      · exact (w_X8_readChild_67 M r x2 x3c1)
      · exact (w_X8_readChild_63 M r x2 x3c1)
    · exact (w_X8_readChild_63 M r x2 x3c1)
set_option maxRecDepth 100000 in
theorem w_X8_readChild (M : gM) (r : Nat) : offP r M (f_X8_readChild M r) := by
  rw [f_X8_readChild]
  refine poB (poR.tr ((w_X8_takeToken M r))) (fun M2 oM2 => ?_)
  refine poZ (oM2.tr ((w_X8_takePerson M2 r))) (fun z4 oz4 => ?_)
  refine poZ (oz4.tr ((w_X8_takePerson z4.2 r))) (fun z6 oz6 => ?_)
  refine poI ?_ ?_
  · exact oz6.tr (w_X8_readChild_40 z6.2 r z4.1 z6.1 (nn z4.1) 0)
  · exact oz6.tr (w_X8_readChild_40 z6.2 r z4.1 z6.1 (nn z4.1) 1)
set_option maxRecDepth 100000 in
theorem w_X8_readWedding_32 (M : gM) (r : Nat) (x1 : Int32) (x2 : Int32)  : offP r M (f_X8_readWedding_32 M r x1 x2 ) := by
  rw [f_X8_readWedding_32]
  refine poZ (poR.tr ((w_X8_takeNumber M r 0 9999))) (fun z11 oz11 => ?_)
  refine poI ?_ ?_
  · refine poB (oz11.tr ((w_X7_addWedding z11.2 r x1 x2 z11.1))) (fun M14 oM14 => ?_)
    exact oM14
  · exact oz11
set_option maxRecDepth 100000 in
theorem w_X8_readWedding (M : gM) (r : Nat) : offP r M (f_X8_readWedding M r) := by
  rw [f_X8_readWedding]
  refine poB (poR.tr ((w_X8_takeOneMore M r (rdI M 8 r 0 0) 6))) (fun M2 oM2 => ?_)
  refine poZ (oM2.tr ((w_X8_takePerson M2 r))) (fun z4 oz4 => ?_)
  refine poZ (oz4.tr ((w_X8_takePerson z4.2 r))) (fun z6 oz6 => ?_)
  refine poI ?_ ?_
  · refine poB (oz6.tr ((w_X8_failAtTaken z6.2 r))) (fun M9 oM9 => ?_)
    exact oM9.tr (w_X8_readWedding_32 M9 r z4.1 z6.1)
  · exact oz6.tr (w_X8_readWedding_32 z6.2 r z4.1 z6.1)
set_option maxRecDepth 100000 in
theorem w_X8_readThing (M : gM) (r : Nat) : offP r M (f_X8_readThing M r) := by
  rw [f_X8_readThing]
  refine poB (poR.tr ((w_X8_takeOneMore M r (rdI M 6 r 0 0) 8))) (fun M2 oM2 => ?_)
  refine poB (oM2.tr ((w_X8_takeNewName M2 r 1 (rdI M2 6 r 0 0)))) (fun M4 oM4 => ?_)
  refine poZ (oM4.tr ((w_X8_takePerson M4 r))) (fun z6 oz6 => ?_)
  refine poZ (oz6.tr ((w_X8_takeNumber z6.2 r 0 1))) (fun z8 oz8 => ?_)
  refine poZ (oz8.tr ((w_X8_takeNumber z8.2 r 1 9999))) (fun z10 oz10 => ?_)
  refine poI ?_ ?_
  · refine poB (oz10.tr ((w_X7_addThing z10.2 r z6.1 z8.1 z10.1))) (fun M13 oM13 => ?_)
    exact oM13
  · exact oz10
set_option maxRecDepth 100000 in
theorem w_X8_readWitness_37 (M : gM) (r : Nat) (q : Nat) (x2 : Int32)  : offP r M (f_X8_readWitness_37 M r q x2 ) := by
  rw [f_X8_readWitness_37]
  refine poB (poR.wI) (fun M11 oM11 => ?_)
  exact oM11
set_option maxRecDepth 100000 in
theorem w_X8_readWitness_33 (M : gM) (r : Nat) (q : Nat) (x2 : Int32)  : offP r M (f_X8_readWitness_33 M r q x2 ) := by
  rw [f_X8_readWitness_33]
  refine poB (poR.tr ((w_X8_failAtTaken M r))) (fun M10 oM10 => ?_)
  exact oM10.tr (w_X8_readWitness_37 M10 r q x2)
set_option maxRecDepth 100000 in
theorem w_X8_readWitness (M : gM) (r : Nat) (q : Nat) : offP r M (f_X8_readWitness M r q) := by
  rw [f_X8_readWitness]
  refine poB (poR.tr ((w_X8_takeOneMore M r (f_J6_bitCount_0f7a4 M (rdI M 30 r q 0)) 4))) (fun M3 oM3 => ?_)
  refine poZ (oM3.tr ((w_X8_takePerson M3 r))) (fun z5 oz5 => ?_)
  refine poI ?_ ?_
  · refine poI ?_ ?_
    · exact oz5.tr (w_X8_readWitness_33 z5.2 r q z5.1)
    · exact oz5.tr (w_X8_readWitness_37 z5.2 r q z5.1)
  · exact oz5.tr (w_X8_readWitness_33 z5.2 r q z5.1)
set_option maxRecDepth 100000 in
theorem w_X8_readGive_165 (M : gM) (r : Nat) (q : Nat)  : offP r M (f_X8_readGive_165 M r q ) := by
  rw [f_X8_readGive_165]
  refine poB (poR.wI) (fun M50 oM50 => ?_)
  exact oM50
set_option maxRecDepth 100000 in
theorem w_X8_readGive_122 (M : gM) (r : Nat) (q : Nat) (x2 : Int32)  : offP r M (f_X8_readGive_122 M r q x2 ) := by
  rw [f_X8_readGive_122]
  refine poI ?_ ?_
  · refine poB (poR.tr ((w_X8_takeToken M r))) (fun M32 oM32 => ?_)
    refine poZ (oM32.tr ((w_X8_takePerson M32 r))) (fun z34 oz34 => ?_)
    refine poB (oz34.wI) (fun M36 oM36 => ?_)
    refine poI ?_ ?_
    · refine poB (oM36.tr ((w_X8_failAtTaken M36 r))) (fun M41 oM41 => ?_)
      exact oM41.tr (w_X8_readGive_165 M41 r q)
    · exact oM36.tr (w_X8_readGive_165 M36 r q)
  · exact (w_X8_readGive_165 M r q)
set_option maxRecDepth 100000 in
theorem w_X8_readGive_107 (M : gM) (r : Nat) (q : Nat) (x2 : Int32) (y1 : Int32) (y2 : Int32)  : offP r M (f_X8_readGive_107 M r q x2 y1 y2 ) := by
  rw [f_X8_readGive_107]
  refine poB (poR.wI) (fun M43 oM43 => ?_)
  refine poB (oM43.tr ((w_X8_takeToken M43 r))) (fun M45 oM45 => ?_)
  refine poZ (oM45.tr ((w_X8_takePerson M45 r))) (fun z47 oz47 => ?_)
  refine poB (oz47.wI) (fun M49 oM49 => ?_)
  exact oM49.tr (w_X8_readGive_122 M49 r q x2)
set_option maxRecDepth 100000 in
theorem w_X8_readGive_87 (M : gM) (r : Nat) (q : Nat) (x2 : Int32)  : offP r M (f_X8_readGive_87 M r q x2 ) := by
  rw [f_X8_readGive_87]
  refine poI ?_ ?_
  · exact (w_X8_readGive_107 M r q x2 x2 1)
  · exact (w_X8_readGive_107 M r q x2 x2 2)
set_option maxRecDepth 100000 in
theorem w_X8_readGive (M : gM) (r : Nat) (q : Nat) : offP r M (f_X8_readGive M r q) := by
  rw [f_X8_readGive]
  refine poB (poR.tr ((w_X8_takeOneMore M r (rdI M 35 r q 0) 6))) (fun M2 oM2 => ?_)
  refine poI ?_ ?_
  · refine poI ?_ ?_
    · refine poZ (oM2.tr ((w_X8_takeThing M2 r))) (fun z6 oz6 => ?_)
      refine poB (oz6.wI) (fun M8 oM8 => ?_)
      refine poZ (oM8.tr ((w_X8_takePerson M8 r))) (fun z10 oz10 => ?_)
      refine poB (oz10.wI) (fun M12 oM12 => ?_)
      refine poB (oM12.wI) (fun M14 oM14 => ?_)
      refine poB (oM14.wI) (fun M16 oM16 => ?_)
      refine poB (oM16.wI) (fun M18 oM18 => ?_)
      refine poI ?_ ?_
      · exact oM18.tr (w_X8_readGive_87 M18 r q (rdI M 35 r q 0))
      · refine poI ?_ ?_
        · exact oM18.tr (w_X8_readGive_87 M18 r q (rdI M 35 r q 0))
        · exact oM18.tr (w_X8_readGive_122 M18 r q (rdI M 35 r q 0))
    · exact oM2
  · exact oM2
set_option maxRecDepth 100000 in
theorem w_X8_readStrike_48 (M : gM) (r : Nat) (q : Nat) (x2 : Int32)  : offP r M (f_X8_readStrike_48 M r q x2 ) := by
  rw [f_X8_readStrike_48]
  refine poB (poR.wI) (fun M12 oM12 => ?_)
  exact oM12
set_option maxRecDepth 100000 in
theorem w_X8_readStrike_44 (M : gM) (r : Nat) (q : Nat) (x2 : Int32)  : offP r M (f_X8_readStrike_44 M r q x2 ) := by
  rw [f_X8_readStrike_44]
  refine poB (poR.tr ((w_X8_failAtTaken M r))) (fun M11 oM11 => ?_)
  exact oM11.tr (w_X8_readStrike_48 M11 r q x2)
set_option maxRecDepth 100000 in
theorem w_X8_readStrike (M : gM) (r : Nat) (q : Nat) : offP r M (f_X8_readStrike M r q) := by
  rw [f_X8_readStrike]
  refine poB (poR.tr ((w_X8_takeOneMore M r (f_J6_bitCount_0f7a4 M (rdI M 31 r q 0)) 3))) (fun M3 oM3 => ?_)
  refine poZ (oM3.tr ((w_X8_takePaper M3 r))) (fun z5 oz5 => ?_)
  refine poI ?_ ?_
  · refine poI ?_ ?_
    · exact oz5.tr (w_X8_readStrike_48 z5.2 r q z5.1)
    · exact oz5.tr (w_X8_readStrike_44 z5.2 r q z5.1)
  · exact oz5.tr (w_X8_readStrike_44 z5.2 r q z5.1)
set_option maxRecDepth 100000 in
theorem w_X8_readLost_28 (M : gM) (r : Nat) (x1c1 : Nat)  : offP r M (f_X8_readLost_28 M r x1c1 ) := by
  rw [f_X8_readLost_28]
  refine poZ (poR.tr ((w_X8_takeNumber M r 0 3))) (fun z11 oz11 => ?_)
  refine poI ?_ ?_
  · refine poB (oz11.wI) (fun M13 oM13 => ?_)
    exact oM13
  · exact oz11
set_option maxRecDepth 100000 in
theorem w_X8_readLost (M : gM) (r : Nat) : offP r M (f_X8_readLost M r) := by
  rw [f_X8_readLost]
  refine poB (poR.tr ((w_X8_takeToken M r))) (fun M2 oM2 => ?_)
  refine poZ (oM2.tr ((w_X8_takePaper M2 r))) (fun z4 oz4 => ?_)
  refine poI ?_ ?_
  · exact oz4.tr (w_X8_readLost_28 z4.2 r (nn z4.1))
  · refine poB (oz4.tr ((w_X8_failAtTaken z4.2 r))) (fun M9 oM9 => ?_)
    exact oM9.tr (w_X8_readLost_28 M9 r (nn z4.1))
set_option maxRecDepth 100000 in
theorem w_X8_readDeath_28 (M : gM) (r : Nat) (x1c1 : Nat)  : offP r M (f_X8_readDeath_28 M r x1c1 ) := by
  rw [f_X8_readDeath_28]
  refine poZ (poR.tr ((w_X8_takeNumber M r 0 9999))) (fun z11 oz11 => ?_)
  refine poI ?_ ?_
  · refine poB (oz11.wI) (fun M13 oM13 => ?_)
    exact oM13
  · exact oz11
set_option maxRecDepth 100000 in
theorem w_X8_readDeath (M : gM) (r : Nat) : offP r M (f_X8_readDeath M r) := by
  rw [f_X8_readDeath]
  refine poB (poR.tr ((w_X8_takeToken M r))) (fun M2 oM2 => ?_)
  refine poZ (oM2.tr ((w_X8_takePerson M2 r))) (fun z4 oz4 => ?_)
  refine poI ?_ ?_
  · exact oz4.tr (w_X8_readDeath_28 z4.2 r (nn z4.1))
  · refine poB (oz4.tr ((w_X8_failAtTaken z4.2 r))) (fun M9 oM9 => ?_)
    exact oM9.tr (w_X8_readDeath_28 M9 r (nn z4.1))
set_option maxRecDepth 100000 in
theorem w_X8_readPart_110 (M : gM) (r : Nat) (q : Nat) (y1 : Int32)  : offP r M (f_X8_readPart_110 M r q y1 ) := by
  rw [f_X8_readPart_110]
  refine poB (poR.tr ((w_X8_takeOnce M r y1))) (fun M21 oM21 => ?_)
  refine poZ (oM21.tr ((w_X8_takePerson M21 r))) (fun z23 oz23 => ?_)
  refine poB (oz23.wI) (fun M24 oM24 => ?_)
  exact oM24
set_option maxRecDepth 100000 in
theorem w_X8_readPart_132 (M : gM) (r : Nat) (q : Nat)  : offP r M (f_X8_readPart_132 M r q ) := by
  rw [f_X8_readPart_132]
  refine poB (poR.tr ((w_X8_fail M r 1))) (fun M26 oM26 => ?_)
  exact oM26
set_option maxRecDepth 100000 in
theorem w_X8_readPart (M : gM) (r : Nat) (q : Nat) : offP r M (f_X8_readPart M r q) := by
  rw [f_X8_readPart]
  refine poI ?_ ?_
  · refine poB (poR.tr ((w_X8_takeOnce M r (rdI M 29 r q 0)))) (fun M6 oM6 => ?_)
    refine poB (oM6.wI) (fun M7 oM7 => ?_)
    exact oM7
  refine poI ?_ ?_
  · refine poB (poR.tr ((w_X8_readWitness M r q))) (fun M9 oM9 => ?_)
    exact oM9
  refine poI ?_ ?_
  · refine poB (poR.tr ((w_X8_readGive M r q))) (fun M11 oM11 => ?_)
    exact oM11
  refine poI ?_ ?_
  · refine poI ?_ ?_
    · exact (w_X8_readPart_110 M r q 0)
    · exact (w_X8_readPart_110 M r q 1)
  refine poI ?_ ?_
  · refine poB (poR.tr ((w_X8_readStrike M r q))) (fun M14 oM14 => ?_)
    exact oM14
  exact (w_X8_readPart_132 M r q)
set_option maxRecDepth 100000 in
theorem w_X8_readPaper_143 (M : gM) (r : Nat)  : offP r M (f_X8_readPaper_143 M r ) := by
  rw [f_X8_readPaper_143]
  refine poI ?_ ?_
  · refine poB (poR.tr ((w_X7_addFilledPaper M r))) (fun M31 oM31 => ?_)
    exact oM31
  · exact poR
set_option maxRecDepth 100000 in
theorem w_X8_readPaper_108 (r : Nat) (x1c1 : Nat)  : ∀ (n : Nat) (M : gM) (x2 : Int32), offP r M (f_X8_readPaper_108 r x1c1  n M x2) := by
  intro n
  induction n with
  | zero => intro M x2; exact poR
  | succ n ih =>
    intro M x2
    rw [f_X8_readPaper_108]
    refine poI ?_ ?_
    · exact (w_X8_readPaper_143 M r)
    · refine poI ?_ ?_
      · refine poI ?_ ?_
        · exact (w_X8_readPaper_143 M r)
        · refine poB (poR.tr ((w_X8_readPart M r x1c1))) (fun M28 oM28 => ?_)
          exact oM28.tr (ih M28 (x2 + 1))
      · exact (w_X8_readPaper_143 M r)
set_option maxRecDepth 100000 in
theorem w_X8_readPaper (M : gM) (r : Nat) : offP r M (f_X8_readPaper M r) := by
  rw [f_X8_readPaper]
  refine poB (poR.tr ((w_X8_takeOneMore M r (rdI M 7 r 0 0) 12))) (fun M2 oM2 => ?_)
  refine poI ?_ ?_
  · refine poI ?_ ?_
    · refine poB (oM2.tr ((w_X5_clear M2 r (nn (rdI M2 7 r 0 0))))) (fun M7 oM7 => ?_)
      refine poB (oM7.tr ((w_X8_takeNewName M7 r 2 (rdI M7 7 r 0 0)))) (fun M9 oM9 => ?_)
      refine poZ (oM9.tr ((w_X8_takePerson M9 r))) (fun z11 oz11 => ?_)
      refine poB (oz11.wI) (fun M12 oM12 => ?_)
      refine poZ (oM12.tr ((w_X8_takeNumber M12 r 0 9999))) (fun z14 oz14 => ?_)
      refine poB (oz14.wI) (fun M15 oM15 => ?_)
      refine poZ (oM15.tr ((w_X8_takeNumber M15 r 0 1))) (fun z17 oz17 => ?_)
      refine poB (oz17.wI) (fun M18 oM18 => ?_)
      refine poZ (oM18.tr ((w_X8_takePaperKind M18 r))) (fun z20 oz20 => ?_)
      refine poB (oz20.wI) (fun M21 oM21 => ?_)
      exact oM21.tr (w_X8_readPaper_108 r (nn (rdI M2 7 r 0 0)) FU M21 0)
    · exact oM2
  · exact oM2
set_option maxRecDepth 100000 in
theorem w_X8_readAll_24 (r : Nat)  : ∀ (n : Nat) (M : gM) (x1 : Int32), offP r M (f_X8_readAll_24 r  n M x1) := by
  intro n
  induction n with
  | zero => intro M x1; exact poR
  | succ n ih =>
    intro M x1
    rw [f_X8_readAll_24]
    refine poI ?_ ?_
    · exact poR
    · refine poI ?_ ?_
      · refine poI ?_ ?_
        · exact poR
        · refine poI ?_ ?_
          · refine poB (poR.tr ((w_X8_readLand M r))) (fun M16 oM16 => ?_)
            refine poB (oM16.tr ((w_X8_takeSemicolon M16 r))) (fun M18 oM18 => ?_)
            exact oM18.tr (ih M18 (x1 + 1))
          refine poI ?_ ?_
          · refine poB (poR.tr ((w_X8_readPerson M r))) (fun M20 oM20 => ?_)
            refine poB (oM20.tr ((w_X8_takeSemicolon M20 r))) (fun M22 oM22 => ?_)
            exact oM22.tr (ih M22 (x1 + 1))
          refine poI ?_ ?_
          · refine poB (poR.tr ((w_X8_readChild M r))) (fun M24 oM24 => ?_)
            refine poB (oM24.tr ((w_X8_takeSemicolon M24 r))) (fun M26 oM26 => ?_)
            exact oM26.tr (ih M26 (x1 + 1))
          refine poI ?_ ?_
          · refine poB (poR.tr ((w_X8_readWedding M r))) (fun M28 oM28 => ?_)
            refine poB (oM28.tr ((w_X8_takeSemicolon M28 r))) (fun M30 oM30 => ?_)
            exact oM30.tr (ih M30 (x1 + 1))
          refine poI ?_ ?_
          · refine poB (poR.tr ((w_X8_readThing M r))) (fun M32 oM32 => ?_)
            refine poB (oM32.tr ((w_X8_takeSemicolon M32 r))) (fun M34 oM34 => ?_)
            exact oM34.tr (ih M34 (x1 + 1))
          refine poI ?_ ?_
          · refine poB (poR.tr ((w_X8_readPaper M r))) (fun M36 oM36 => ?_)
            refine poB (oM36.tr ((w_X8_takeSemicolon M36 r))) (fun M38 oM38 => ?_)
            exact oM38.tr (ih M38 (x1 + 1))
          refine poI ?_ ?_
          · refine poB (poR.tr ((w_X8_readLost M r))) (fun M40 oM40 => ?_)
            refine poB (oM40.tr ((w_X8_takeSemicolon M40 r))) (fun M42 oM42 => ?_)
            exact oM42.tr (ih M42 (x1 + 1))
          refine poI ?_ ?_
          · refine poB (poR.tr ((w_X8_readDeath M r))) (fun M44 oM44 => ?_)
            refine poB (oM44.tr ((w_X8_takeSemicolon M44 r))) (fun M46 oM46 => ?_)
            exact oM46.tr (ih M46 (x1 + 1))
          refine poB (poR.tr ((w_X8_fail M r 1))) (fun M48 oM48 => ?_)
          refine poB (oM48.tr ((w_X8_takeSemicolon M48 r))) (fun M50 oM50 => ?_)
          exact oM50.tr (ih M50 (x1 + 1))
      · exact poR
set_option maxRecDepth 100000 in
theorem w_X8_readAll (M : gM) (r : Nat) : offP r M (f_X8_readAll M r) := by
  rw [f_X8_readAll]
  refine poB (poR.tr ((w_X7_clear M r))) (fun M2 oM2 => ?_)
  refine poB (oM2.wI) (fun M3 oM3 => ?_)
  refine poB (oM3.wI) (fun M4 oM4 => ?_)
  refine poB (oM4.wI) (fun M5 oM5 => ?_)
  exact oM5.tr (w_X8_readAll_24 r FU M5 0)
end
