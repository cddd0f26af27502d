-- THE BASE: a flat memory of numbers, the cells that hold it, and the judgement gG over it
abbrev gM : Type := (Nat → Nat → Nat → Nat → Int32) × (Nat → Nat → Nat → Nat → Int64)
def rdI (M : gM) (g a b c : Nat) : Int32 := M.1 g a b c
def rdJ (M : gM) (g a b c : Nat) : Int64 := M.2 g a b c
def wrI (M : gM) (g a b c : Nat) (v : Int32) : gM := (fun g' a' b' c' => if g' = g ∧ a' = a ∧ b' = b ∧ c' = c then v else M.1 g' a' b' c', M.2)
def wrJ (M : gM) (g a b c : Nat) (v : Int64) : gM := (M.1, fun g' a' b' c' => if g' = g ∧ a' = a ∧ b' = b ∧ c' = c then v else M.2 g' a' b' c')
abbrev nn (i : Int32) : Nat := i.toNatClampNeg
/-- the places of things: the classes, the arrays' classes, the cells' addresses, the enum constants' addresses, where ours begin -/
abbrev gE : Type := va_G × (Nat → ClassId) × (Nat → Nat) × (Nat → Nat) × Nat × (Nat → Nat) × (Nat → Nat) × Nat × Nat
abbrev gD (E : gE) : va_G := E.1
abbrev gcA (E : gE) : Nat → ClassId := E.2.1
abbrev gla (E : gE) : Nat → Nat := E.2.2.1
abbrev gad (E : gE) : Nat → Nat := E.2.2.2.1
abbrev gbs (E : gE) : Nat := E.2.2.2.2.1
/-- the text constants' addresses, their bytes' addresses, the two static tables -/
abbrev gstr (E : gE) : Nat → Nat := E.2.2.2.2.2.1
abbrev gstv (E : gE) : Nat → Nat := E.2.2.2.2.2.2.1
abbrev gstTK (E : gE) : Nat := E.2.2.2.2.2.2.2.1
abbrev gstSW (E : gE) : Nat := E.2.2.2.2.2.2.2.2
abbrev gSD : Type := Nat × Nat × Nat × Nat × Nat
abbrev gCD : Type := (Nat × List gSD) ⊕ (Nat × Nat × Nat × Nat × Nat × Nat)
def gV (E : gE) (M : gM) (d : gSD) : Value := match d.1 with
  | 0 => .int (rdI M d.2.1 d.2.2.1 d.2.2.2.1 d.2.2.2.2)
  | 1 => .long (rdJ M d.2.1 d.2.2.1 d.2.2.2.1 d.2.2.2.2)
  | 2 => .ref (gla E d.2.1)
  | _ => .null
def gY (E : gE) (M : gM) (k g a b : Nat) : (Nat → Int32) ⊕ (Nat → Int64) ⊕ (Nat → UInt32) ⊕ (Nat → UInt64) ⊕ (Nat → Option Nat) := match k with
  | 0 => .inl (fun j => rdI M g a b j)
  | 1 => .inr (.inl (fun j => rdJ M g a b j))
  | 2 => .inr (.inr (.inr (.inr (fun j => some (gla E (g + a * j))))))
  | _ => .inr (.inr (.inr (.inr (fun j => some (gad E (nn (rdI M g a b j)))))))
def gW (E : gE) (M : gM) (d : gCD) : va_E := match d with
  | .inl o => .inr (o.1, o.2.map (gV E M))
  | .inr x => .inl (gcA E x.1, x.2.1, gY E M x.2.2.1 x.2.2.2.1 x.2.2.2.2.1 x.2.2.2.2.2)
/-- of each group: the cell of its first, and the steps -/
def OWT : List (Nat × Nat × Nat) := [(0, 0, 0), (0, 0, 0), (0, 0, 0), (1, 0, 0), (2, 101, 0), (2, 101, 0), (2, 101, 0), (2, 101, 0), (2, 101, 0), (7, 101, 0), (8, 101, 0), (9, 101, 0), (10, 101, 0), (11, 101, 1), (11, 101, 1), (11, 101, 1), (11, 101, 1), (11, 101, 1), (11, 101, 1), (13, 101, 1), (13, 101, 1), (13, 101, 1), (23, 101, 1), (23, 101, 1), (23, 101, 1), (31, 101, 6), (31, 101, 6), (31, 101, 6), (31, 101, 6), (31, 101, 6), (31, 101, 6), (31, 101, 6), (31, 101, 6), (31, 101, 6), (31, 101, 6), (31, 101, 6), (32, 101, 6), (33, 101, 6), (34, 101, 6), (35, 101, 6), (36, 101, 6), (204, 0, 0), (204, 0, 0), (204, 0, 0), (205, 0, 0), (206, 0, 0), (207, 0, 0), (208, 4, 0), (208, 4, 0), (208, 4, 0), (209, 4, 1), (216, 0, 0), (216, 0, 0), (217, 0, 0), (218, 0, 0), (219, 0, 0), (220, 0, 0), (220, 0, 0), (220, 0, 0), (220, 0, 0), (220, 0, 0), (221, 0, 0), (222, 0, 0), (222, 0, 0), (223, 0, 0), (224, 0, 0), (225, 0, 0), (226, 0, 0), (226, 0, 0), (226, 0, 0), (226, 0, 0), (226, 0, 0), (226, 0, 0), (226, 0, 0), (226, 0, 0), (226, 0, 0), (226, 0, 0), (226, 0, 0), (226, 0, 0), (226, 0, 0), (226, 0, 0), (226, 0, 0), (226, 0, 0), (226, 0, 0), (226, 0, 0), (226, 0, 0), (226, 0, 0), (227, 0, 0), (228, 0, 0), (229, 0, 0), (230, 0, 0), (231, 0, 0), (232, 0, 0), (233, 0, 0), (234, 0, 0), (235, 0, 0), (236, 0, 0), (237, 0, 0), (238, 0, 0), (239, 0, 0), (240, 0, 0)]
/-- the cells -/
def DSC : List gCD := [
  .inl (10, [(2, 1, 0, 0, 0), (0, 0, 0, 0, 0), (0, 1, 0, 0, 0), (0, 2, 0, 0, 0), (2, 2, 0, 0, 0), (2, 103, 0, 0, 0), (2, 204, 0, 0, 0), (2, 212, 0, 0, 0), (2, 208, 0, 0, 0), (2, 216, 0, 0, 0), (2, 220, 0, 0, 0), (2, 222, 0, 0, 0)]),
  .inr (3, 1200, 0, 3, 0, 0),
  .inl (6, [(2, 3, 0, 0, 0), (2, 4, 0, 0, 0), (2, 5, 0, 0, 0), (2, 6, 0, 0, 0), (2, 7, 0, 0, 0), (2, 8, 0, 0, 0), (2, 9, 0, 0, 0), (2, 10, 0, 0, 0), (0, 4, 0, 0, 0), (0, 5, 0, 0, 0), (0, 6, 0, 0, 0), (0, 7, 0, 0, 0), (0, 8, 0, 0, 0)]),
  .inr (4, 2, 2, 11, 1, 0),
  .inr (5, 10, 2, 13, 1, 0),
  .inr (6, 8, 2, 23, 1, 0),
  .inr (7, 12, 2, 31, 6, 0),
  .inr (0, 12, 0, 9, 0, 0),
  .inr (0, 6, 0, 10, 0, 0),
  .inr (0, 6, 0, 11, 0, 0),
  .inr (0, 6, 0, 12, 0, 0),
  .inl (2, [(0, 13, 0, 0, 0), (0, 14, 0, 0, 0), (0, 15, 0, 0, 0), (0, 16, 0, 0, 0), (0, 17, 0, 0, 0), (0, 18, 0, 0, 0)]),
  .inl (2, [(0, 13, 0, 1, 0), (0, 14, 0, 1, 0), (0, 15, 0, 1, 0), (0, 16, 0, 1, 0), (0, 17, 0, 1, 0), (0, 18, 0, 1, 0)]),
  .inl (5, [(0, 19, 0, 0, 0), (0, 20, 0, 0, 0), (0, 21, 0, 0, 0)]),
  .inl (5, [(0, 19, 0, 1, 0), (0, 20, 0, 1, 0), (0, 21, 0, 1, 0)]),
  .inl (5, [(0, 19, 0, 2, 0), (0, 20, 0, 2, 0), (0, 21, 0, 2, 0)]),
  .inl (5, [(0, 19, 0, 3, 0), (0, 20, 0, 3, 0), (0, 21, 0, 3, 0)]),
  .inl (5, [(0, 19, 0, 4, 0), (0, 20, 0, 4, 0), (0, 21, 0, 4, 0)]),
  .inl (5, [(0, 19, 0, 5, 0), (0, 20, 0, 5, 0), (0, 21, 0, 5, 0)]),
  .inl (5, [(0, 19, 0, 6, 0), (0, 20, 0, 6, 0), (0, 21, 0, 6, 0)]),
  .inl (5, [(0, 19, 0, 7, 0), (0, 20, 0, 7, 0), (0, 21, 0, 7, 0)]),
  .inl (5, [(0, 19, 0, 8, 0), (0, 20, 0, 8, 0), (0, 21, 0, 8, 0)]),
  .inl (5, [(0, 19, 0, 9, 0), (0, 20, 0, 9, 0), (0, 21, 0, 9, 0)]),
  .inl (8, [(0, 22, 0, 0, 0), (0, 23, 0, 0, 0), (0, 24, 0, 0, 0)]),
  .inl (8, [(0, 22, 0, 1, 0), (0, 23, 0, 1, 0), (0, 24, 0, 1, 0)]),
  .inl (8, [(0, 22, 0, 2, 0), (0, 23, 0, 2, 0), (0, 24, 0, 2, 0)]),
  .inl (8, [(0, 22, 0, 3, 0), (0, 23, 0, 3, 0), (0, 24, 0, 3, 0)]),
  .inl (8, [(0, 22, 0, 4, 0), (0, 23, 0, 4, 0), (0, 24, 0, 4, 0)]),
  .inl (8, [(0, 22, 0, 5, 0), (0, 23, 0, 5, 0), (0, 24, 0, 5, 0)]),
  .inl (8, [(0, 22, 0, 6, 0), (0, 23, 0, 6, 0), (0, 24, 0, 6, 0)]),
  .inl (8, [(0, 22, 0, 7, 0), (0, 23, 0, 7, 0), (0, 24, 0, 7, 0)]),
  .inl (4, [(0, 25, 0, 0, 0), (0, 26, 0, 0, 0), (0, 27, 0, 0, 0), (0, 28, 0, 0, 0), (0, 29, 0, 0, 0), (0, 30, 0, 0, 0), (0, 31, 0, 0, 0), (0, 32, 0, 0, 0), (0, 33, 0, 0, 0), (0, 34, 0, 0, 0), (0, 35, 0, 0, 0), (2, 32, 0, 0, 0), (2, 33, 0, 0, 0), (2, 34, 0, 0, 0), (2, 35, 0, 0, 0), (2, 36, 0, 0, 0)]),
  .inr (0, 6, 0, 36, 0, 0),
  .inr (0, 6, 0, 37, 0, 0),
  .inr (0, 6, 0, 38, 0, 0),
  .inr (0, 6, 0, 39, 0, 0),
  .inr (0, 6, 0, 40, 0, 0),
  .inl (4, [(0, 25, 0, 1, 0), (0, 26, 0, 1, 0), (0, 27, 0, 1, 0), (0, 28, 0, 1, 0), (0, 29, 0, 1, 0), (0, 30, 0, 1, 0), (0, 31, 0, 1, 0), (0, 32, 0, 1, 0), (0, 33, 0, 1, 0), (0, 34, 0, 1, 0), (0, 35, 0, 1, 0), (2, 38, 0, 0, 0), (2, 39, 0, 0, 0), (2, 40, 0, 0, 0), (2, 41, 0, 0, 0), (2, 42, 0, 0, 0)]),
  .inr (0, 6, 0, 36, 0, 1),
  .inr (0, 6, 0, 37, 0, 1),
  .inr (0, 6, 0, 38, 0, 1),
  .inr (0, 6, 0, 39, 0, 1),
  .inr (0, 6, 0, 40, 0, 1),
  .inl (4, [(0, 25, 0, 2, 0), (0, 26, 0, 2, 0), (0, 27, 0, 2, 0), (0, 28, 0, 2, 0), (0, 29, 0, 2, 0), (0, 30, 0, 2, 0), (0, 31, 0, 2, 0), (0, 32, 0, 2, 0), (0, 33, 0, 2, 0), (0, 34, 0, 2, 0), (0, 35, 0, 2, 0), (2, 44, 0, 0, 0), (2, 45, 0, 0, 0), (2, 46, 0, 0, 0), (2, 47, 0, 0, 0), (2, 48, 0, 0, 0)]),
  .inr (0, 6, 0, 36, 0, 2),
  .inr (0, 6, 0, 37, 0, 2),
  .inr (0, 6, 0, 38, 0, 2),
  .inr (0, 6, 0, 39, 0, 2),
  .inr (0, 6, 0, 40, 0, 2),
  .inl (4, [(0, 25, 0, 3, 0), (0, 26, 0, 3, 0), (0, 27, 0, 3, 0), (0, 28, 0, 3, 0), (0, 29, 0, 3, 0), (0, 30, 0, 3, 0), (0, 31, 0, 3, 0), (0, 32, 0, 3, 0), (0, 33, 0, 3, 0), (0, 34, 0, 3, 0), (0, 35, 0, 3, 0), (2, 50, 0, 0, 0), (2, 51, 0, 0, 0), (2, 52, 0, 0, 0), (2, 53, 0, 0, 0), (2, 54, 0, 0, 0)]),
  .inr (0, 6, 0, 36, 0, 3),
  .inr (0, 6, 0, 37, 0, 3),
  .inr (0, 6, 0, 38, 0, 3),
  .inr (0, 6, 0, 39, 0, 3),
  .inr (0, 6, 0, 40, 0, 3),
  .inl (4, [(0, 25, 0, 4, 0), (0, 26, 0, 4, 0), (0, 27, 0, 4, 0), (0, 28, 0, 4, 0), (0, 29, 0, 4, 0), (0, 30, 0, 4, 0), (0, 31, 0, 4, 0), (0, 32, 0, 4, 0), (0, 33, 0, 4, 0), (0, 34, 0, 4, 0), (0, 35, 0, 4, 0), (2, 56, 0, 0, 0), (2, 57, 0, 0, 0), (2, 58, 0, 0, 0), (2, 59, 0, 0, 0), (2, 60, 0, 0, 0)]),
  .inr (0, 6, 0, 36, 0, 4),
  .inr (0, 6, 0, 37, 0, 4),
  .inr (0, 6, 0, 38, 0, 4),
  .inr (0, 6, 0, 39, 0, 4),
  .inr (0, 6, 0, 40, 0, 4),
  .inl (4, [(0, 25, 0, 5, 0), (0, 26, 0, 5, 0), (0, 27, 0, 5, 0), (0, 28, 0, 5, 0), (0, 29, 0, 5, 0), (0, 30, 0, 5, 0), (0, 31, 0, 5, 0), (0, 32, 0, 5, 0), (0, 33, 0, 5, 0), (0, 34, 0, 5, 0), (0, 35, 0, 5, 0), (2, 62, 0, 0, 0), (2, 63, 0, 0, 0), (2, 64, 0, 0, 0), (2, 65, 0, 0, 0), (2, 66, 0, 0, 0)]),
  .inr (0, 6, 0, 36, 0, 5),
  .inr (0, 6, 0, 37, 0, 5),
  .inr (0, 6, 0, 38, 0, 5),
  .inr (0, 6, 0, 39, 0, 5),
  .inr (0, 6, 0, 40, 0, 5),
  .inl (4, [(0, 25, 0, 6, 0), (0, 26, 0, 6, 0), (0, 27, 0, 6, 0), (0, 28, 0, 6, 0), (0, 29, 0, 6, 0), (0, 30, 0, 6, 0), (0, 31, 0, 6, 0), (0, 32, 0, 6, 0), (0, 33, 0, 6, 0), (0, 34, 0, 6, 0), (0, 35, 0, 6, 0), (2, 68, 0, 0, 0), (2, 69, 0, 0, 0), (2, 70, 0, 0, 0), (2, 71, 0, 0, 0), (2, 72, 0, 0, 0)]),
  .inr (0, 6, 0, 36, 0, 6),
  .inr (0, 6, 0, 37, 0, 6),
  .inr (0, 6, 0, 38, 0, 6),
  .inr (0, 6, 0, 39, 0, 6),
  .inr (0, 6, 0, 40, 0, 6),
  .inl (4, [(0, 25, 0, 7, 0), (0, 26, 0, 7, 0), (0, 27, 0, 7, 0), (0, 28, 0, 7, 0), (0, 29, 0, 7, 0), (0, 30, 0, 7, 0), (0, 31, 0, 7, 0), (0, 32, 0, 7, 0), (0, 33, 0, 7, 0), (0, 34, 0, 7, 0), (0, 35, 0, 7, 0), (2, 74, 0, 0, 0), (2, 75, 0, 0, 0), (2, 76, 0, 0, 0), (2, 77, 0, 0, 0), (2, 78, 0, 0, 0)]),
  .inr (0, 6, 0, 36, 0, 7),
  .inr (0, 6, 0, 37, 0, 7),
  .inr (0, 6, 0, 38, 0, 7),
  .inr (0, 6, 0, 39, 0, 7),
  .inr (0, 6, 0, 40, 0, 7),
  .inl (4, [(0, 25, 0, 8, 0), (0, 26, 0, 8, 0), (0, 27, 0, 8, 0), (0, 28, 0, 8, 0), (0, 29, 0, 8, 0), (0, 30, 0, 8, 0), (0, 31, 0, 8, 0), (0, 32, 0, 8, 0), (0, 33, 0, 8, 0), (0, 34, 0, 8, 0), (0, 35, 0, 8, 0), (2, 80, 0, 0, 0), (2, 81, 0, 0, 0), (2, 82, 0, 0, 0), (2, 83, 0, 0, 0), (2, 84, 0, 0, 0)]),
  .inr (0, 6, 0, 36, 0, 8),
  .inr (0, 6, 0, 37, 0, 8),
  .inr (0, 6, 0, 38, 0, 8),
  .inr (0, 6, 0, 39, 0, 8),
  .inr (0, 6, 0, 40, 0, 8),
  .inl (4, [(0, 25, 0, 9, 0), (0, 26, 0, 9, 0), (0, 27, 0, 9, 0), (0, 28, 0, 9, 0), (0, 29, 0, 9, 0), (0, 30, 0, 9, 0), (0, 31, 0, 9, 0), (0, 32, 0, 9, 0), (0, 33, 0, 9, 0), (0, 34, 0, 9, 0), (0, 35, 0, 9, 0), (2, 86, 0, 0, 0), (2, 87, 0, 0, 0), (2, 88, 0, 0, 0), (2, 89, 0, 0, 0), (2, 90, 0, 0, 0)]),
  .inr (0, 6, 0, 36, 0, 9),
  .inr (0, 6, 0, 37, 0, 9),
  .inr (0, 6, 0, 38, 0, 9),
  .inr (0, 6, 0, 39, 0, 9),
  .inr (0, 6, 0, 40, 0, 9),
  .inl (4, [(0, 25, 0, 10, 0), (0, 26, 0, 10, 0), (0, 27, 0, 10, 0), (0, 28, 0, 10, 0), (0, 29, 0, 10, 0), (0, 30, 0, 10, 0), (0, 31, 0, 10, 0), (0, 32, 0, 10, 0), (0, 33, 0, 10, 0), (0, 34, 0, 10, 0), (0, 35, 0, 10, 0), (2, 92, 0, 0, 0), (2, 93, 0, 0, 0), (2, 94, 0, 0, 0), (2, 95, 0, 0, 0), (2, 96, 0, 0, 0)]),
  .inr (0, 6, 0, 36, 0, 10),
  .inr (0, 6, 0, 37, 0, 10),
  .inr (0, 6, 0, 38, 0, 10),
  .inr (0, 6, 0, 39, 0, 10),
  .inr (0, 6, 0, 40, 0, 10),
  .inl (4, [(0, 25, 0, 11, 0), (0, 26, 0, 11, 0), (0, 27, 0, 11, 0), (0, 28, 0, 11, 0), (0, 29, 0, 11, 0), (0, 30, 0, 11, 0), (0, 31, 0, 11, 0), (0, 32, 0, 11, 0), (0, 33, 0, 11, 0), (0, 34, 0, 11, 0), (0, 35, 0, 11, 0), (2, 98, 0, 0, 0), (2, 99, 0, 0, 0), (2, 100, 0, 0, 0), (2, 101, 0, 0, 0), (2, 102, 0, 0, 0)]),
  .inr (0, 6, 0, 36, 0, 11),
  .inr (0, 6, 0, 37, 0, 11),
  .inr (0, 6, 0, 38, 0, 11),
  .inr (0, 6, 0, 39, 0, 11),
  .inr (0, 6, 0, 40, 0, 11),
  .inl (6, [(2, 104, 0, 0, 0), (2, 105, 0, 0, 0), (2, 106, 0, 0, 0), (2, 107, 0, 0, 0), (2, 108, 0, 0, 0), (2, 109, 0, 0, 0), (2, 110, 0, 0, 0), (2, 111, 0, 0, 0), (0, 4, 1, 0, 0), (0, 5, 1, 0, 0), (0, 6, 1, 0, 0), (0, 7, 1, 0, 0), (0, 8, 1, 0, 0)]),
  .inr (4, 2, 2, 112, 1, 0),
  .inr (5, 10, 2, 114, 1, 0),
  .inr (6, 8, 2, 124, 1, 0),
  .inr (7, 12, 2, 132, 6, 0),
  .inr (0, 12, 0, 9, 1, 0),
  .inr (0, 6, 0, 10, 1, 0),
  .inr (0, 6, 0, 11, 1, 0),
  .inr (0, 6, 0, 12, 1, 0),
  .inl (2, [(0, 13, 1, 0, 0), (0, 14, 1, 0, 0), (0, 15, 1, 0, 0), (0, 16, 1, 0, 0), (0, 17, 1, 0, 0), (0, 18, 1, 0, 0)]),
  .inl (2, [(0, 13, 1, 1, 0), (0, 14, 1, 1, 0), (0, 15, 1, 1, 0), (0, 16, 1, 1, 0), (0, 17, 1, 1, 0), (0, 18, 1, 1, 0)]),
  .inl (5, [(0, 19, 1, 0, 0), (0, 20, 1, 0, 0), (0, 21, 1, 0, 0)]),
  .inl (5, [(0, 19, 1, 1, 0), (0, 20, 1, 1, 0), (0, 21, 1, 1, 0)]),
  .inl (5, [(0, 19, 1, 2, 0), (0, 20, 1, 2, 0), (0, 21, 1, 2, 0)]),
  .inl (5, [(0, 19, 1, 3, 0), (0, 20, 1, 3, 0), (0, 21, 1, 3, 0)]),
  .inl (5, [(0, 19, 1, 4, 0), (0, 20, 1, 4, 0), (0, 21, 1, 4, 0)]),
  .inl (5, [(0, 19, 1, 5, 0), (0, 20, 1, 5, 0), (0, 21, 1, 5, 0)]),
  .inl (5, [(0, 19, 1, 6, 0), (0, 20, 1, 6, 0), (0, 21, 1, 6, 0)]),
  .inl (5, [(0, 19, 1, 7, 0), (0, 20, 1, 7, 0), (0, 21, 1, 7, 0)]),
  .inl (5, [(0, 19, 1, 8, 0), (0, 20, 1, 8, 0), (0, 21, 1, 8, 0)]),
  .inl (5, [(0, 19, 1, 9, 0), (0, 20, 1, 9, 0), (0, 21, 1, 9, 0)]),
  .inl (8, [(0, 22, 1, 0, 0), (0, 23, 1, 0, 0), (0, 24, 1, 0, 0)]),
  .inl (8, [(0, 22, 1, 1, 0), (0, 23, 1, 1, 0), (0, 24, 1, 1, 0)]),
  .inl (8, [(0, 22, 1, 2, 0), (0, 23, 1, 2, 0), (0, 24, 1, 2, 0)]),
  .inl (8, [(0, 22, 1, 3, 0), (0, 23, 1, 3, 0), (0, 24, 1, 3, 0)]),
  .inl (8, [(0, 22, 1, 4, 0), (0, 23, 1, 4, 0), (0, 24, 1, 4, 0)]),
  .inl (8, [(0, 22, 1, 5, 0), (0, 23, 1, 5, 0), (0, 24, 1, 5, 0)]),
  .inl (8, [(0, 22, 1, 6, 0), (0, 23, 1, 6, 0), (0, 24, 1, 6, 0)]),
  .inl (8, [(0, 22, 1, 7, 0), (0, 23, 1, 7, 0), (0, 24, 1, 7, 0)]),
  .inl (4, [(0, 25, 1, 0, 0), (0, 26, 1, 0, 0), (0, 27, 1, 0, 0), (0, 28, 1, 0, 0), (0, 29, 1, 0, 0), (0, 30, 1, 0, 0), (0, 31, 1, 0, 0), (0, 32, 1, 0, 0), (0, 33, 1, 0, 0), (0, 34, 1, 0, 0), (0, 35, 1, 0, 0), (2, 133, 0, 0, 0), (2, 134, 0, 0, 0), (2, 135, 0, 0, 0), (2, 136, 0, 0, 0), (2, 137, 0, 0, 0)]),
  .inr (0, 6, 0, 36, 1, 0),
  .inr (0, 6, 0, 37, 1, 0),
  .inr (0, 6, 0, 38, 1, 0),
  .inr (0, 6, 0, 39, 1, 0),
  .inr (0, 6, 0, 40, 1, 0),
  .inl (4, [(0, 25, 1, 1, 0), (0, 26, 1, 1, 0), (0, 27, 1, 1, 0), (0, 28, 1, 1, 0), (0, 29, 1, 1, 0), (0, 30, 1, 1, 0), (0, 31, 1, 1, 0), (0, 32, 1, 1, 0), (0, 33, 1, 1, 0), (0, 34, 1, 1, 0), (0, 35, 1, 1, 0), (2, 139, 0, 0, 0), (2, 140, 0, 0, 0), (2, 141, 0, 0, 0), (2, 142, 0, 0, 0), (2, 143, 0, 0, 0)]),
  .inr (0, 6, 0, 36, 1, 1),
  .inr (0, 6, 0, 37, 1, 1),
  .inr (0, 6, 0, 38, 1, 1),
  .inr (0, 6, 0, 39, 1, 1),
  .inr (0, 6, 0, 40, 1, 1),
  .inl (4, [(0, 25, 1, 2, 0), (0, 26, 1, 2, 0), (0, 27, 1, 2, 0), (0, 28, 1, 2, 0), (0, 29, 1, 2, 0), (0, 30, 1, 2, 0), (0, 31, 1, 2, 0), (0, 32, 1, 2, 0), (0, 33, 1, 2, 0), (0, 34, 1, 2, 0), (0, 35, 1, 2, 0), (2, 145, 0, 0, 0), (2, 146, 0, 0, 0), (2, 147, 0, 0, 0), (2, 148, 0, 0, 0), (2, 149, 0, 0, 0)]),
  .inr (0, 6, 0, 36, 1, 2),
  .inr (0, 6, 0, 37, 1, 2),
  .inr (0, 6, 0, 38, 1, 2),
  .inr (0, 6, 0, 39, 1, 2),
  .inr (0, 6, 0, 40, 1, 2),
  .inl (4, [(0, 25, 1, 3, 0), (0, 26, 1, 3, 0), (0, 27, 1, 3, 0), (0, 28, 1, 3, 0), (0, 29, 1, 3, 0), (0, 30, 1, 3, 0), (0, 31, 1, 3, 0), (0, 32, 1, 3, 0), (0, 33, 1, 3, 0), (0, 34, 1, 3, 0), (0, 35, 1, 3, 0), (2, 151, 0, 0, 0), (2, 152, 0, 0, 0), (2, 153, 0, 0, 0), (2, 154, 0, 0, 0), (2, 155, 0, 0, 0)]),
  .inr (0, 6, 0, 36, 1, 3),
  .inr (0, 6, 0, 37, 1, 3),
  .inr (0, 6, 0, 38, 1, 3),
  .inr (0, 6, 0, 39, 1, 3),
  .inr (0, 6, 0, 40, 1, 3),
  .inl (4, [(0, 25, 1, 4, 0), (0, 26, 1, 4, 0), (0, 27, 1, 4, 0), (0, 28, 1, 4, 0), (0, 29, 1, 4, 0), (0, 30, 1, 4, 0), (0, 31, 1, 4, 0), (0, 32, 1, 4, 0), (0, 33, 1, 4, 0), (0, 34, 1, 4, 0), (0, 35, 1, 4, 0), (2, 157, 0, 0, 0), (2, 158, 0, 0, 0), (2, 159, 0, 0, 0), (2, 160, 0, 0, 0), (2, 161, 0, 0, 0)]),
  .inr (0, 6, 0, 36, 1, 4),
  .inr (0, 6, 0, 37, 1, 4),
  .inr (0, 6, 0, 38, 1, 4),
  .inr (0, 6, 0, 39, 1, 4),
  .inr (0, 6, 0, 40, 1, 4),
  .inl (4, [(0, 25, 1, 5, 0), (0, 26, 1, 5, 0), (0, 27, 1, 5, 0), (0, 28, 1, 5, 0), (0, 29, 1, 5, 0), (0, 30, 1, 5, 0), (0, 31, 1, 5, 0), (0, 32, 1, 5, 0), (0, 33, 1, 5, 0), (0, 34, 1, 5, 0), (0, 35, 1, 5, 0), (2, 163, 0, 0, 0), (2, 164, 0, 0, 0), (2, 165, 0, 0, 0), (2, 166, 0, 0, 0), (2, 167, 0, 0, 0)]),
  .inr (0, 6, 0, 36, 1, 5),
  .inr (0, 6, 0, 37, 1, 5),
  .inr (0, 6, 0, 38, 1, 5),
  .inr (0, 6, 0, 39, 1, 5),
  .inr (0, 6, 0, 40, 1, 5),
  .inl (4, [(0, 25, 1, 6, 0), (0, 26, 1, 6, 0), (0, 27, 1, 6, 0), (0, 28, 1, 6, 0), (0, 29, 1, 6, 0), (0, 30, 1, 6, 0), (0, 31, 1, 6, 0), (0, 32, 1, 6, 0), (0, 33, 1, 6, 0), (0, 34, 1, 6, 0), (0, 35, 1, 6, 0), (2, 169, 0, 0, 0), (2, 170, 0, 0, 0), (2, 171, 0, 0, 0), (2, 172, 0, 0, 0), (2, 173, 0, 0, 0)]),
  .inr (0, 6, 0, 36, 1, 6),
  .inr (0, 6, 0, 37, 1, 6),
  .inr (0, 6, 0, 38, 1, 6),
  .inr (0, 6, 0, 39, 1, 6),
  .inr (0, 6, 0, 40, 1, 6),
  .inl (4, [(0, 25, 1, 7, 0), (0, 26, 1, 7, 0), (0, 27, 1, 7, 0), (0, 28, 1, 7, 0), (0, 29, 1, 7, 0), (0, 30, 1, 7, 0), (0, 31, 1, 7, 0), (0, 32, 1, 7, 0), (0, 33, 1, 7, 0), (0, 34, 1, 7, 0), (0, 35, 1, 7, 0), (2, 175, 0, 0, 0), (2, 176, 0, 0, 0), (2, 177, 0, 0, 0), (2, 178, 0, 0, 0), (2, 179, 0, 0, 0)]),
  .inr (0, 6, 0, 36, 1, 7),
  .inr (0, 6, 0, 37, 1, 7),
  .inr (0, 6, 0, 38, 1, 7),
  .inr (0, 6, 0, 39, 1, 7),
  .inr (0, 6, 0, 40, 1, 7),
  .inl (4, [(0, 25, 1, 8, 0), (0, 26, 1, 8, 0), (0, 27, 1, 8, 0), (0, 28, 1, 8, 0), (0, 29, 1, 8, 0), (0, 30, 1, 8, 0), (0, 31, 1, 8, 0), (0, 32, 1, 8, 0), (0, 33, 1, 8, 0), (0, 34, 1, 8, 0), (0, 35, 1, 8, 0), (2, 181, 0, 0, 0), (2, 182, 0, 0, 0), (2, 183, 0, 0, 0), (2, 184, 0, 0, 0), (2, 185, 0, 0, 0)]),
  .inr (0, 6, 0, 36, 1, 8),
  .inr (0, 6, 0, 37, 1, 8),
  .inr (0, 6, 0, 38, 1, 8),
  .inr (0, 6, 0, 39, 1, 8),
  .inr (0, 6, 0, 40, 1, 8),
  .inl (4, [(0, 25, 1, 9, 0), (0, 26, 1, 9, 0), (0, 27, 1, 9, 0), (0, 28, 1, 9, 0), (0, 29, 1, 9, 0), (0, 30, 1, 9, 0), (0, 31, 1, 9, 0), (0, 32, 1, 9, 0), (0, 33, 1, 9, 0), (0, 34, 1, 9, 0), (0, 35, 1, 9, 0), (2, 187, 0, 0, 0), (2, 188, 0, 0, 0), (2, 189, 0, 0, 0), (2, 190, 0, 0, 0), (2, 191, 0, 0, 0)]),
  .inr (0, 6, 0, 36, 1, 9),
  .inr (0, 6, 0, 37, 1, 9),
  .inr (0, 6, 0, 38, 1, 9),
  .inr (0, 6, 0, 39, 1, 9),
  .inr (0, 6, 0, 40, 1, 9),
  .inl (4, [(0, 25, 1, 10, 0), (0, 26, 1, 10, 0), (0, 27, 1, 10, 0), (0, 28, 1, 10, 0), (0, 29, 1, 10, 0), (0, 30, 1, 10, 0), (0, 31, 1, 10, 0), (0, 32, 1, 10, 0), (0, 33, 1, 10, 0), (0, 34, 1, 10, 0), (0, 35, 1, 10, 0), (2, 193, 0, 0, 0), (2, 194, 0, 0, 0), (2, 195, 0, 0, 0), (2, 196, 0, 0, 0), (2, 197, 0, 0, 0)]),
  .inr (0, 6, 0, 36, 1, 10),
  .inr (0, 6, 0, 37, 1, 10),
  .inr (0, 6, 0, 38, 1, 10),
  .inr (0, 6, 0, 39, 1, 10),
  .inr (0, 6, 0, 40, 1, 10),
  .inl (4, [(0, 25, 1, 11, 0), (0, 26, 1, 11, 0), (0, 27, 1, 11, 0), (0, 28, 1, 11, 0), (0, 29, 1, 11, 0), (0, 30, 1, 11, 0), (0, 31, 1, 11, 0), (0, 32, 1, 11, 0), (0, 33, 1, 11, 0), (0, 34, 1, 11, 0), (0, 35, 1, 11, 0), (2, 199, 0, 0, 0), (2, 200, 0, 0, 0), (2, 201, 0, 0, 0), (2, 202, 0, 0, 0), (2, 203, 0, 0, 0)]),
  .inr (0, 6, 0, 36, 1, 11),
  .inr (0, 6, 0, 37, 1, 11),
  .inr (0, 6, 0, 38, 1, 11),
  .inr (0, 6, 0, 39, 1, 11),
  .inr (0, 6, 0, 40, 1, 11),
  .inl (9, [(2, 205, 0, 0, 0), (2, 206, 0, 0, 0), (2, 207, 0, 0, 0), (0, 41, 0, 0, 0), (2, 1, 0, 0, 0), (0, 42, 0, 0, 0), (0, 43, 0, 0, 0)]),
  .inr (8, 1201, 3, 44, 0, 0),
  .inr (0, 1201, 0, 45, 0, 0),
  .inr (0, 1201, 0, 46, 0, 0),
  .inl (7, [(2, 204, 0, 0, 0), (2, 2, 0, 0, 0), (2, 209, 0, 0, 0), (2, 210, 0, 0, 0), (2, 211, 0, 0, 0), (0, 47, 0, 0, 0), (0, 48, 0, 0, 0), (0, 49, 0, 0, 0)]),
  .inr (0, 10, 0, 50, 0, 0),
  .inr (0, 8, 0, 50, 0, 1),
  .inr (0, 12, 0, 50, 0, 2),
  .inl (7, [(2, 204, 0, 0, 0), (2, 103, 0, 0, 0), (2, 213, 0, 0, 0), (2, 214, 0, 0, 0), (2, 215, 0, 0, 0), (0, 47, 1, 0, 0), (0, 48, 1, 0, 0), (0, 49, 1, 0, 0)]),
  .inr (0, 10, 0, 50, 1, 0),
  .inr (0, 8, 0, 50, 1, 1),
  .inr (0, 12, 0, 50, 1, 2),
  .inl (3, [(2, 2, 0, 0, 0), (2, 217, 0, 0, 0), (2, 218, 0, 0, 0), (2, 219, 0, 0, 0), (0, 51, 0, 0, 0), (0, 52, 0, 0, 0)]),
  .inr (2, 12, 0, 53, 0, 0),
  .inr (0, 12, 0, 54, 0, 0),
  .inr (0, 12, 0, 55, 0, 0),
  .inl (0, [(2, 2, 0, 0, 0), (2, 216, 0, 0, 0), (2, 221, 0, 0, 0), (1, 56, 0, 0, 0), (0, 57, 0, 0, 0), (0, 58, 0, 0, 0), (0, 59, 0, 0, 0), (0, 60, 0, 0, 0)]),
  .inr (1, 11, 1, 61, 0, 0),
  .inl (1, [(2, 2, 0, 0, 0), (2, 223, 0, 0, 0), (2, 224, 0, 0, 0), (2, 225, 0, 0, 0), (0, 62, 0, 0, 0), (0, 63, 0, 0, 0)]),
  .inr (0, 16, 0, 64, 0, 0),
  .inr (0, 16, 0, 65, 0, 0),
  .inr (0, 16, 0, 66, 0, 0),
  .inl (11, [(0, 67, 0, 0, 0), (2, 227, 0, 0, 0), (0, 68, 0, 0, 0), (2, 228, 0, 0, 0), (2, 229, 0, 0, 0), (2, 230, 0, 0, 0), (2, 231, 0, 0, 0), (2, 232, 0, 0, 0), (2, 233, 0, 0, 0), (2, 234, 0, 0, 0), (0, 69, 0, 0, 0), (2, 235, 0, 0, 0), (0, 70, 0, 0, 0), (0, 71, 0, 0, 0), (0, 72, 0, 0, 0), (0, 73, 0, 0, 0), (0, 74, 0, 0, 0), (0, 75, 0, 0, 0), (0, 76, 0, 0, 0), (0, 77, 0, 0, 0), (0, 78, 0, 0, 0), (0, 79, 0, 0, 0), (2, 236, 0, 0, 0), (0, 80, 0, 0, 0), (0, 81, 0, 0, 0), (2, 237, 0, 0, 0), (2, 238, 0, 0, 0), (0, 82, 0, 0, 0), (0, 83, 0, 0, 0), (0, 84, 0, 0, 0), (0, 85, 0, 0, 0), (2, 239, 0, 0, 0), (0, 86, 0, 0, 0)]),
  .inr (0, 1200, 0, 87, 0, 0),
  .inr (0, 502, 0, 88, 0, 0),
  .inr (0, 502, 0, 89, 0, 0),
  .inr (0, 12, 0, 90, 0, 0),
  .inr (0, 12, 0, 91, 0, 0),
  .inr (0, 65, 0, 92, 0, 0),
  .inr (0, 65, 0, 93, 0, 0),
  .inr (0, 1040, 0, 94, 0, 0),
  .inr (0, 36, 0, 95, 0, 0),
  .inr (2, 2, 0, 96, 0, 0),
  .inr (1, 11, 1, 97, 0, 0),
  .inr (1, 11, 1, 98, 0, 0),
  .inr (0, 60, 0, 99, 0, 0),
  .inr (1, 1, 1, 100, 0, 0)]
/-- the cell that a number lies in -/
def gOw (g a b : Nat) : Nat := match OWT[g]? with
  | some (base, sa, sb) => base + sa * a + sb * b
  | none => 100000
def gSok (j : Nat) (d : gSD) : Bool := match d.1 with
  | 0 => gOw d.2.1 d.2.2.1 d.2.2.2.1 == j
  | 1 => gOw d.2.1 d.2.2.1 d.2.2.2.1 == j
  | _ => true
def gCok (j : Nat) (d : gCD) : Bool := match d with
  | .inl o => o.2.all (gSok j) && o.2.zipIdx.all (fun x => o.2.zipIdx.all (fun y => x.2 == y.2 || Nat.ble 2 x.1.1 || Nat.ble 2 y.1.1 || x.1.2.1 != y.1.2.1))
  | .inr x => x.2.2.1 == 2 || gOw x.2.2.2.1 x.2.2.2.2.1 x.2.2.2.2.2 == j
theorem DSC_ok : (List.range 241).all (fun j => match DSC[j]? with | some d => gCok j d | none => false) = true := by decide +kernel
theorem DSC_len : DSC.length = 241 := by decide +kernel
theorem DSC_at {j : Nat} {d : gCD} (h : DSC[j]? = some d) : j < 241 ∧ gCok j d = true := by
  have hj : j < 241 := by
    have h1 := (List.getElem?_eq_some_iff.mp h).1
    rw [DSC_len] at h1
    exact h1
  have h2 := List.all_eq_true.mp DSC_ok j (List.mem_range.mpr hj)
  rw [h] at h2
  exact ⟨hj, h2⟩
theorem rdI_wr_ne {M : gM} {g a b c g' a' b' c' : Nat} {v : Int32} (h : gOw g' a' b' ≠ gOw g a b) : rdI (wrI M g a b c v) g' a' b' c' = rdI M g' a' b' c' := by
  unfold rdI wrI
  refine if_neg fun q => h ?_
  rw [q.1, q.2.1, q.2.2.1]
theorem rdJ_wr_ne {M : gM} {g a b c g' a' b' c' : Nat} {v : Int64} (h : gOw g' a' b' ≠ gOw g a b) : rdJ (wrJ M g a b c v) g' a' b' c' = rdJ M g' a' b' c' := by
  unfold rdJ wrJ
  refine if_neg fun q => h ?_
  rw [q.1, q.2.1, q.2.2.1]
theorem gV_same {E : gE} {M M1 : gM} {j : Nat} {d : gSD} (hI : ∀ g a b c, gOw g a b = j → rdI M1 g a b c = rdI M g a b c) (hJ : ∀ g a b c, gOw g a b = j → rdJ M1 g a b c = rdJ M g a b c) (h : gSok j d = true) : gV E M1 d = gV E M d := by
  obtain ⟨k, g, a, b, c⟩ := d
  unfold gSok at h
  unfold gV
  match k, h with
  | 0, h => exact congrArg Value.int (hI _ _ _ _ (by simpa using h))
  | 1, h => exact congrArg Value.long (hJ _ _ _ _ (by simpa using h))
  | 2, _ => rfl
  | (n + 3), _ => rfl
theorem gY_0 {E : gE} {M : gM} {g a b : Nat} : gY E M 0 g a b = .inl (fun j => rdI M g a b j) := rfl
theorem gY_1 {E : gE} {M : gM} {g a b : Nat} : gY E M 1 g a b = .inr (.inl (fun j => rdJ M g a b j)) := rfl
theorem gY_2 {E : gE} {M : gM} {g a b : Nat} : gY E M 2 g a b = .inr (.inr (.inr (.inr (fun j => some (gla E (g + a * j)))))) := rfl
theorem gY_3 {E : gE} {M : gM} {k g a b : Nat} : gY E M (k + 3) g a b = .inr (.inr (.inr (.inr (fun j => some (gad E (nn (rdI M g a b j))))))) := rfl
theorem gY_same {E : gE} {M M1 : gM} {k g a b : Nat} (hI : k ≠ 2 → ∀ c, rdI M1 g a b c = rdI M g a b c) (hJ : k ≠ 2 → ∀ c, rdJ M1 g a b c = rdJ M g a b c) : gY E M1 k g a b = gY E M k g a b := by
  by_cases h2 : k = 2
  · subst h2
    rw [gY_2, gY_2]
  · have e1 := fun c => hI h2 c
    have e2 := fun c => hJ h2 c
    by_cases h0 : k = 0
    · subst h0
      rw [gY_0, gY_0]
      simp only [e1]
    · by_cases h1 : k = 1
      · subst h1
        rw [gY_1, gY_1]
        simp only [e2]
      · obtain ⟨m, rfl⟩ : ∃ m, k = m + 3 := ⟨k - 3, by omega⟩
        rw [gY_3, gY_3]
        simp only [e1]
theorem gW_same {E : gE} {M M1 : gM} {j : Nat} {d : gCD} (hI : ∀ g a b c, gOw g a b = j → rdI M1 g a b c = rdI M g a b c) (hJ : ∀ g a b c, gOw g a b = j → rdJ M1 g a b c = rdJ M g a b c) (h : gCok j d = true) : gW E M1 d = gW E M d := by
  rcases d with o | x
  · have h1 : o.2.all (gSok j) = true := ((Bool.and_eq_true _ _).mp h).1
    have h2 : o.2.map (gV E M1) = o.2.map (gV E M) := List.map_congr_left (fun x hx => gV_same hI hJ (List.all_eq_true.mp h1 x hx))
    exact congrArg (fun z => Sum.inr (o.1, z)) h2
  · have h1 : (x.2.2.1 == 2 || gOw x.2.2.2.1 x.2.2.2.2.1 x.2.2.2.2.2 == j) = true := h
    have h3 : x.2.2.1 ≠ 2 → gOw x.2.2.2.1 x.2.2.2.2.1 x.2.2.2.2.2 = j := fun q => by
      rcases Bool.or_eq_true _ _ ▸ h1 with h | h
      · exact absurd (by simpa using h) q
      · simpa using h
    have h2 : gY E M1 x.2.2.1 x.2.2.2.1 x.2.2.2.2.1 x.2.2.2.2.2 = gY E M x.2.2.1 x.2.2.2.1 x.2.2.2.2.1 x.2.2.2.2.2 := gY_same (fun q c => hI _ _ _ c (h3 q)) (fun q c => hJ _ _ _ c (h3 q))
    exact congrArg (fun z => Sum.inl (gcA E x.1, x.2.1, z)) h2
def gAll (E : gE) (M : gM) : va_W := DSC.zipIdx.map (fun x => (gla E x.2, gW E M x.1))
theorem gAll_get {E : gE} {M : gM} (j : Nat) : (gAll E M)[j]? = (DSC[j]?).map (fun d => (gla E j, gW E M d)) := by
  unfold gAll
  rw [List.getElem?_map, List.getElem?_zipIdx]
  cases DSC[j]? <;> simp
theorem gAll_at {E : gE} {M : gM} {i : Nat} {d : gCD} (h : DSC[i]? = some d) : (gAll E M)[i]? = some (gla E i, gW E M d) := by rw [gAll_get, h]; rfl
def gOK (E : gE) : Prop := (∀ i j : Nat, i < 241 → j < 241 → gla E i = gla E j → i = j) ∧ ∀ i : Nat, i < 241 → gbs E ≤ gla E i
theorem gAll_D {E : gE} {M : gM} (h : gOK E) : va_D (fun q => gbs E ≤ q) (gAll E M) := by
  refine ⟨fun i j p q hi hj hpq => ?_, fun k q hk => ?_⟩
  · rw [gAll_get] at hi hj
    cases h1 : DSC[i]? with
    | none => rw [h1] at hi; cases hi
    | some d1 =>
      cases h2 : DSC[j]? with
      | none => rw [h2] at hj; cases hj
      | some d2 =>
        rw [h1] at hi
        rw [h2] at hj
        cases hi
        cases hj
        exact h.1 i j (DSC_at h1).1 (DSC_at h2).1 hpq
  · rw [gAll_get] at hk
    cases h1 : DSC[k]? with
    | none => rw [h1] at hk; cases hk
    | some d1 =>
      rw [h1] at hk
      cases hk
      exact h.2 k (DSC_at h1).1
def gR (E : gE) (M : gM) (H : Heap) : Prop := va_P (gD E) vwCl (gAll E M) H
theorem gAll_set {E : gE} {M M1 : gM} {i : Nat} {d : gCD} {e : va_E} (hd : DSC[i]? = some d) (he : e = gW E M1 d) (hI : ∀ g a b c, gOw g a b ≠ i → rdI M1 g a b c = rdI M g a b c) (hJ : ∀ g a b c, gOw g a b ≠ i → rdJ M1 g a b c = rdJ M g a b c) :
    (gAll E M).set i (gla E i, e) = gAll E M1 := by
  subst he
  apply List.ext_getElem?
  intro j
  by_cases hj : j = i
  · subst hj
    have h1 := gAll_at (E := E) (M := M) hd
    have h2 := (List.getElem?_eq_some_iff.mp h1).1
    rw [List.getElem?_set_self h2, gAll_at hd]
  · rw [List.getElem?_set_ne (fun q => hj q.symm), gAll_get, gAll_get]
    cases h1 : DSC[j]? with
    | none => rfl
    | some d1 =>
      have h2 := (DSC_at h1).2
      show some (gla E j, gW E M d1) = some (gla E j, gW E M1 d1)
      rw [gW_same (fun g a b c q => hI g a b c (by omega)) (fun g a b c q => hJ g a b c (by omega)) h2]
abbrev gTy (E : gE) : List (ClassId × FieldType) := [(gcA E 0, .int), (gcA E 1, .long), (gcA E 2, .boolean), (gcA E 3, .byte), (gcA E 4, .object "WillDeposit$Land"), (gcA E 5, .object "WillDeposit$Person"), (gcA E 6, .object "WillDeposit$Thing"), (gcA E 7, .object "WillDeposit$Paper"), (gcA E 8, .object "WillDeposit$Token")]
abbrev gA (E : gE) : Nat → Prop := fun q => gbs E ≤ q
/-- the enum's constants by name; what the switch's table holds; the text constants: their letters -/
def tokNm : List String := ["LAND", "PERSON", "CHILD", "WED", "THING", "PAPER", "LOST", "DIES", "OWN", "COPIES", "HALF", "WILL", "ADDS", "STRIKES", "WITNESS", "GIVE", "IF", "UNLESS", "OR", "REST", "STRIKE", "NAME", "NUMBER", "SEMICOLON", "WRONG", "END"]
def swL : List Int32 := [1, 2, 3, 4, 5, 6, 7, 8, 9, 10, 11, 12, 13, 14, 15, 16, 0, 0, 0, 17, 18, 0, 0, 0, 0, 0]
def swm (j : Nat) : Int32 := swL.getD j 0
def strTx : List String := ["land", "person", "child", "wed", "thing", "paper", "lost", "dies", "own", "copies", "half", "will", "adds", "strikes", "witness", "give", "if", "unless", "or", "rest", "strike", "", "land person child wed thing paper lost dies own copies half will adds strikes witness give if unless or rest strike "]
def strBs : List (List Int32) := [[108, 97, 110, 100], [112, 101, 114, 115, 111, 110], [99, 104, 105, 108, 100], [119, 101, 100], [116, 104, 105, 110, 103], [112, 97, 112, 101, 114], [108, 111, 115, 116], [100, 105, 101, 115], [111, 119, 110], [99, 111, 112, 105, 101, 115], [104, 97, 108, 102], [119, 105, 108, 108], [97, 100, 100, 115], [115, 116, 114, 105, 107, 101, 115], [119, 105, 116, 110, 101, 115, 115], [103, 105, 118, 101], [105, 102], [117, 110, 108, 101, 115, 115], [111, 114], [114, 101, 115, 116], [115, 116, 114, 105, 107, 101], [], [108, 97, 110, 100, 32, 112, 101, 114, 115, 111, 110, 32, 99, 104, 105, 108, 100, 32, 119, 101, 100, 32, 116, 104, 105, 110, 103, 32, 112, 97, 112, 101, 114, 32, 108, 111, 115, 116, 32, 100, 105, 101, 115, 32, 111, 119, 110, 32, 99, 111, 112, 105, 101, 115, 32, 104, 97, 108, 102, 32, 119, 105, 108, 108, 32, 97, 100, 100, 115, 32, 115, 116, 114, 105, 107, 101, 115, 32, 119, 105, 116, 110, 101, 115, 115, 32, 103, 105, 118, 101, 32, 105, 102, 32, 117, 110, 108, 101, 115, 115, 32, 111, 114, 32, 114, 101, 115, 116, 32, 115, 116, 114, 105, 107, 101, 32]]
def strLs : List Nat := [4, 6, 5, 3, 5, 5, 4, 4, 3, 6, 4, 4, 4, 7, 7, 4, 2, 6, 2, 4, 6, 0, 116]
def strL (i : Nat) : Nat := strLs.getD i 0
def strB (i j : Nat) : Int32 := (strBs.getD i []).getD j 0
def letIx (i : Nat) : Nat := if i < 21 then i else 21
/-- the statics: what the constants hold -/
def gTs (E : gE) (A : Nat → Prop) (U : State) (H : Heap) : Prop :=
  (∀ i : Nat, i < 26 → va_Z "WillDeposit$Token" (tokNm.getD i "") "LWillDeposit$Token;" (.ref (gad E i)) A U H ∧ va_O "WillDeposit$Token" (gad E i) A U H ∧ va_OF "java/lang/Enum" "ordinal" "I" (.int (nI i)) (gad E i) A U H ∧ va_OF "WillDeposit$Token" "letters" "Ljava/lang/String;" (.ref (gstr E (letIx i))) (gad E i) A U H) ∧
  (va_Z "WillDeposit" "TOKENS" "[LWillDeposit$Token;" (.ref (gstTK E)) A U H ∧ va_T (.object "WillDeposit$Token") (gstTK E) 26 (fun j => .ref (gad E j)) A U H) ∧
  (va_Z "WillDeposit$1" "$SwitchMap$WillDeposit$Token" "[I" (.ref (gstSW E)) A U H ∧ va_T .int (gstSW E) 26 (fun j => .int (swm j)) A U H) ∧
  (∀ i : Nat, i < 23 → va_O "java/lang/String" (gstr E i) A U H ∧ va_OF "java/lang/String" "coder" "B" (.int 0) (gstr E i) A U H ∧ va_OF "java/lang/String" "value" "[B" (.ref (gstv E i)) (gstr E i) A U H ∧ va_T .byte (gstv E i) (strL i) (fun j => .int (strB i j)) A U H) ∧
  va_Z "java/lang/String" "COMPACT_STRINGS" "Z" (.int 1) A U H ∧
  va_Zq "jdk/internal/util/Preconditions" "SIOOBE_FORMATTER" "Ljava/util/function/BiFunction;" A U H ∧
  vx_Zq "java/lang/Throwable" "UNASSIGNED_STACK" "[Ljava/lang/StackTraceElement;" A U H ∧ vx_Zq "java/lang/Throwable" "SUPPRESSED_SENTINEL" "Ljava/util/List;" A U H
theorem gTs.moved {E : gE} {A : Nat → Prop} {u U : State} {H : Heap} (hvm : u.vm.Alike U.vm) (h : gTs E A u H) : gTs E A U H :=
  ⟨fun i hi => ⟨va_Z.moved hvm (h.1 i hi).1, va_O.moved hvm (h.1 i hi).2.1, va_OF.moved hvm (h.1 i hi).2.2.1, va_OF.moved hvm (h.1 i hi).2.2.2⟩, ⟨va_Z.moved hvm h.2.1.1, va_T.moved hvm h.2.1.2⟩, ⟨va_Z.moved hvm h.2.2.1.1, va_T.moved hvm h.2.2.1.2⟩,
    fun i hi => ⟨va_O.moved hvm (h.2.2.2.1 i hi).1, va_OF.moved hvm (h.2.2.2.1 i hi).2.1, va_OF.moved hvm (h.2.2.2.1 i hi).2.2.1, va_T.moved hvm (h.2.2.2.1 i hi).2.2.2⟩, va_Z.moved hvm h.2.2.2.2.1, va_Zq.moved hvm h.2.2.2.2.2.1, vx_Zq.moved hvm h.2.2.2.2.2.2.1, vx_Zq.moved hvm h.2.2.2.2.2.2.2⟩
theorem gTs.kept {E : gE} {A : Nat → Prop} {U : State} {H H1 : Heap} (h : gTs E A U H) (hq : ∀ a : Nat, a < H.size → ¬ A a → H1[a]? = H[a]?) : gTs E A U H1 :=
  ⟨fun i hi => ⟨(h.1 i hi).1.kept hq, (h.1 i hi).2.1.kept hq, (h.1 i hi).2.2.1.kept hq, (h.1 i hi).2.2.2.kept hq⟩, ⟨h.2.1.1.kept hq, h.2.1.2.kept hq⟩, ⟨h.2.2.1.1.kept hq, h.2.2.1.2.kept hq⟩,
    fun i hi => ⟨(h.2.2.2.1 i hi).1.kept hq, (h.2.2.2.1 i hi).2.1.kept hq, (h.2.2.2.1 i hi).2.2.1.kept hq, (h.2.2.2.1 i hi).2.2.2.kept hq⟩, h.2.2.2.2.1.kept hq, va_Zq.kept h.2.2.2.2.2.1 hq, h.2.2.2.2.2.2.1.kept hq, h.2.2.2.2.2.2.2.kept hq⟩
def exI : String := "java/lang/IndexOutOfBoundsException"
def exN : String := "java/util/NoSuchElementException"
def dcl6 : List MethodName := [⟨"java/lang/RuntimeException", "<init>", "()V"⟩, ⟨"java/lang/RuntimeException", "<init>", "(Ljava/lang/String;)V"⟩, ⟨"java/lang/Exception", "<init>", "()V"⟩, ⟨"java/lang/Exception", "<init>", "(Ljava/lang/String;)V"⟩, ⟨"java/lang/Throwable", "<init>", "()V"⟩, ⟨"java/lang/Throwable", "<init>", "(Ljava/lang/String;)V"⟩]
/-- what the tables say of the exceptions' classes -/
def gTx (U : State) : Prop := va_Nw (.castable exI exI) U ∧ va_Nw (.castable exN exN) U ∧ (∀ x ∈ dcl6, va_Nw (.declares x) U) ∧ va_Nc exN exI U
theorem gTx.warm {s U : State} (hW : s.WarmedH U.vm) (h : gTx s) : gTx U := ⟨va_Nw.warmC hW h.1, va_Nw.warmC hW h.2.1, fun x hx => va_Nw.warmD hW (h.2.2.1 x hx), va_Nc.moved hW.alike h.2.2.2⟩
theorem gTx.same {s U : State} (hv : U.vm = s.vm) (h : gTx s) : gTx U := ⟨va_Nw.same rfl hv.symm h.1, va_Nw.same rfl hv.symm h.2.1, fun x hx => va_Nw.same rfl hv.symm (h.2.2.1 x hx), va_Nc.moved (by rw [hv]; exact Vm.Alike.refl _) h.2.2.2⟩
/-- the text constants of the constant pools -/
def gTr (E : gE) (U : State) : Prop := vk_R "WillDepositModel" 100 (strTx.getD 22 "") (gstr E 22) U ∧ (∃ a, vk_R "WillDeposit" 107 "no such person" a U) ∧ (∃ a, vk_R "WillDeposit" 140 "no such what" a U) ∧ (∃ a, vk_R "WillDeposit" 146 "no such paper" a U) ∧ va_Nw (.fieldLinkNest "WillDeposit$Tokens" 81 "WillDeposit" "TOKENS" "[LWillDeposit$Token;" "WillDeposit") U ∧ gTx U
theorem gTr.warm {E : gE} {s U : State} (hW : s.WarmedH U.vm) (h : gTr E s) : gTr E U := by
  obtain ⟨h1, ⟨a, h2⟩, ⟨b, h3⟩, ⟨c, h4⟩, h5, h6⟩ := h
  exact ⟨vk_R.warm hW h1, ⟨a, vk_R.warm hW h2⟩, ⟨b, vk_R.warm hW h3⟩, ⟨c, vk_R.warm hW h4⟩, va_Nw.warmF hW h5, h6.warm hW⟩
theorem gTr.same {E : gE} {s U : State} (hv : U.vm = s.vm) (h : gTr E s) : gTr E U := by
  obtain ⟨h1, ⟨a, h2⟩, ⟨b, h3⟩, ⟨c, h4⟩, h5, h6⟩ := h
  exact ⟨vk_R.same hv h1, ⟨a, vk_R.same hv h2⟩, ⟨b, vk_R.same hv h3⟩, ⟨c, vk_R.same hv h4⟩, va_Nw.same rfl hv.symm h5, h6.same hv⟩
def gT (E : gE) (U : State) : Prop := gTs E (gA E) U U.heap ∧ gTr E U
theorem gT.go {E : gE} {s U : State} {H : Heap} {locs : List Loc} (h : gT E s) (hS : va_S (gA E) s.heap H locs) (hW : s.WarmedH U.vm) (hU : U.heap = H) : gT E U := ⟨by rw [hU]; exact (h.1.moved hW.alike).kept hS.2.1, h.2.warm hW⟩
theorem gT.same {E : gE} {s U : State} (h : gT E s) (hv : U.vm = s.vm) (hU : U.heap = s.heap) : gT E U := ⟨by rw [hU]; exact h.1.moved (by rw [hv]; exact Vm.Alike.refl _), h.2.same hv⟩
def gtbl : List Cond := lw_tbl.filter goodWord
theorem gtbl_in {w : Cond} (i : Nat) (h : lw_tbl[i]? = some w) (hg : goodWord w = true) : w ∈ gtbl := List.mem_filter.mpr ⟨List.mem_of_getElem? h, hg⟩
/-- what stays fixed in a method's walk -/
def gFx (own : String) (cc : ByteArray) (nL : Nat) (ret : Option FieldType) (p : Program) (l : Launch) (s : State) (m : MethodId) (args : Array Value) (meth : Method) (c : Code) : Prop :=
  p.tables.exec = Jvm.exec ∧ c.code = cc ∧ meth.sig.returnType = ret ∧ c.maxLocals = nL ∧ s.vm.findClass own = some m.cls ∧ meth.locks = false ∧ (∀ w ∈ gtbl, w.before args s = true) ∧ l.stackTraces = false
def gCx (E : gE) (M : gM) (s : State) (H : Heap) (locs : List Loc) : Prop :=
  gOK E ∧ gbs E ≤ s.heap.size ∧ va_K (gD E) vwCl (gTy E) s ∧ gT E s ∧ gR E M H ∧ va_S (gA E) s.heap H locs
def gQ (E : gE) (Q : Option Value → gM → Prop) : Array Value → State → Outcome → State → Prop := fun _ st o t =>
  (∃ (r : Option Value) (N : gM), o = .returned r ∧ Q r N ∧ gR E N t.heap) ∧ va_F (gA E) st t
/-- the judgement: Sx is what is known of the entry's state (and the code), Zf the end that is owed, cs and ss what has been made so far -/
def gK (E : gE) (own : String) (cc : ByteArray) (nL : Nat) (ret : Option FieldType) (R : Room) (Sx : State → MethodId → Code → Prop) (Zf : List Frame → Array Value → State → State → Prop) (cs ss : Nat) (pc : Nat) (lv : List (Nat × Value)) (st : List Value) (M : gM) : Prop :=
  ∀ (p : Program) (l : Launch) (e : Env) (s : State) (m : MethodId) (args : Array Value) (below : List Frame) (meth : Method) (c : Code) (H : Heap) (locs : List Loc) (ls : Array Slot),
    gFx own cc nL ret p l s m args meth c → Sx s m c → gCx E M s H locs → lv_has ls nL lv → W p l e R s m args below meth c H locs cs ss (Zf below args s) (F0 m pc ls st)
abbrev gG (E : gE) (own : String) (cc : ByteArray) (nL : Nat) (ret : Option FieldType) (R : Room) (pc : Nat) (lv : List (Nat × Value)) (st : List Value) (M : gM) (Q : Option Value → gM → Prop) : Prop :=
  gK E own cc nL ret R (fun _ _ _ => True) (fun below args s => MQ below (gQ E Q) args s 0 0 (gA E)) 0 0 pc lv st M
/-- a method's contract: from the memory M it returns with Q -/
def gC (E : gE) (y : MethodName) (cc : ByteArray) (nL : Nat) (ret : Option FieldType) (R : Room) (av : List Value) (M : gM) (Q : Option Value → gM → Prop) : Prop :=
  ∀ l : Launch, l.stackTraces = false → Met l y (.code y cc nL ret :: gtbl) R (va_Pc av (fun U => gOK E ∧ gbs E ≤ U.heap.size ∧ va_K (gD E) vwCl (gTy E) U ∧ gT E U ∧ gR E M U.heap)) (gQ E Q) 0 0 (gA E)
abbrev rm (d : Nat) : Room := { frames := d, cells := 0, slots := 0, locals := d * 64 }
theorem gC.of {E : gE} {y : MethodName} {cc : ByteArray} {nL : Nat} {ret : Option FieldType} {d : Nat} {av : List Value} {lv : List (Nat × Value)} {M : gM} {Q : Option Value → gM → Prop}
    (hy : plainName y.cls = true) (hn : (lg_sl av).length ≤ nL) (hl : lv_args 0 av = lv) (h : gG E y.cls cc nL ret (rm d) 0 lv [] M Q) : gC E y cc nL ret (rm d) av M Q := by
  intro l hl9
  refine Met.ofW (cc := cc) (maxL := nL) (ret := ret) hy rfl ?_
  intro p e s m args below meth c s₁ B hml hv
  obtain ⟨rfl, hok, hbs, hK, hT, hR⟩ := hv
  have hts := atoms_spec B.pre
  rw [lg_entry_eq]
  subst hl
  exact h p l e s m _ below meth c s.heap [] _ ⟨B.exec, B.bytes, B.returns, hml, findClass_of_methodNamed B.named, B.notSynchronized, fun w hw => hts w (List.mem_cons_of_mem _ hw), hl9⟩ trivial ⟨hok, hbs, hK, hT, hR, va_S.rf⟩ (lv_entry av hn)
/-- naming what comes out -/
def bnd {α β : Type} (x : α) (k : α → β) : β := k x
theorem bndQ {α β : Type} {K : β → Prop} {x : α} {k : α → β} (h : K (bnd x k)) : ∀ z, z = x → K (k z) := fun z hz => by subst hz; exact h
def bndP {α : Type} (x : α) (k : α → Prop) : Prop := k x
theorem bndS {α : Type} {x : α} {k : α → Prop} (h : bndP x k) : ∀ z, z = x → k z := fun z hz => by subst hz; exact h
theorem ifQt {β : Type} {K : β → Prop} {c : Prop} [Decidable c] {a b : β} (h : K (if c then a else b)) (hc : c) : K a := by rwa [if_pos hc] at h
theorem ifQf {β : Type} {K : β → Prop} {c : Prop} [Decidable c] {a b : β} (h : K (if c then a else b)) (hc : ¬ c) : K b := by rwa [if_neg hc] at h
theorem ifSt {c : Prop} [Decidable c] {a b : Prop} (h : if c then a else b) (hc : c) : a := by rwa [if_pos hc] at h
theorem ifSf {c : Prop} [Decidable c] {a b : Prop} (h : if c then a else b) (hc : ¬ c) : b := by rwa [if_neg hc] at h
section GR
variable {E : gE} {own : String} {cc : ByteArray} {nL : Nat} {ret : Option FieldType} {R : Room} {pc : Nat} {lv : List (Nat × Value)} {st : List Value} {M : gM} {Q : Option Value → gM → Prop} {Sx : State → MethodId → Code → Prop} {Zf : List Frame → Array Value → State → State → Prop} {cs ss : Nat}
theorem g_iload_n {k : Fin 4} (j : Nat) {x : Int32} (hd : decode cc pc = .ok (.iload_n k, 1)) (hk : lv[j]? = some (k.val, .int x)) (h : gK E own cc nL ret R Sx Zf cs ss (pc + 1) lv (.int x :: st) M) : gK E own cc nL ret R Sx Zf cs ss pc lv st M := by
  intro p l e s m args below meth c H locs ls F X9 C L
  exact lv_iload_n F.1 F.2.1 hd rfl (lv_at L j hk) (h p l e s m args below meth c H locs ls F X9 C L)
theorem g_iload {k : Nat} (j : Nat) {x : Int32} (hd : decode cc pc = .ok (.iload k, 2)) (hk : lv[j]? = some (k, .int x)) (h : gK E own cc nL ret R Sx Zf cs ss (pc + 2) lv (.int x :: st) M) : gK E own cc nL ret R Sx Zf cs ss pc lv st M := by
  intro p l e s m args below meth c H locs ls F X9 C L
  exact lv_iload F.1 F.2.1 hd (lv_at L j hk) (h p l e s m args below meth c H locs ls F X9 C L)
theorem g_lload_n {k : Fin 4} (j : Nat) {x : Int64} (hd : decode cc pc = .ok (.lload_n k, 1)) (hk : lv[j]? = some (k.val, .long x)) (h : gK E own cc nL ret R Sx Zf cs ss (pc + 1) lv (.long x :: st) M) : gK E own cc nL ret R Sx Zf cs ss pc lv st M := by
  intro p l e s m args below meth c H locs ls F X9 C L
  exact lv_lload_n F.1 F.2.1 hd rfl (lv_at L j hk) (h p l e s m args below meth c H locs ls F X9 C L)
theorem g_lload {k : Nat} (j : Nat) {x : Int64} (hd : decode cc pc = .ok (.lload k, 2)) (hk : lv[j]? = some (k, .long x)) (h : gK E own cc nL ret R Sx Zf cs ss (pc + 2) lv (.long x :: st) M) : gK E own cc nL ret R Sx Zf cs ss pc lv st M := by
  intro p l e s m args below meth c H locs ls F X9 C L
  exact lv_lload F.1 F.2.1 hd (lv_at L j hk) (h p l e s m args below meth c H locs ls F X9 C L)
theorem g_aload_n {k : Fin 4} (j : Nat) {x : Nat} (hd : decode cc pc = .ok (.aload_n k, 1)) (hk : lv[j]? = some (k.val, .ref x)) (h : gK E own cc nL ret R Sx Zf cs ss (pc + 1) lv (.ref x :: st) M) : gK E own cc nL ret R Sx Zf cs ss pc lv st M := by
  intro p l e s m args below meth c H locs ls F X9 C L
  exact lv_aload_n F.1 F.2.1 hd rfl (lv_at L j hk) (h p l e s m args below meth c H locs ls F X9 C L)
theorem g_aload {k : Nat} (j : Nat) {x : Nat} (hd : decode cc pc = .ok (.aload k, 2)) (hk : lv[j]? = some (k, .ref x)) (h : gK E own cc nL ret R Sx Zf cs ss (pc + 2) lv (.ref x :: st) M) : gK E own cc nL ret R Sx Zf cs ss pc lv st M := by
  intro p l e s m args below meth c H locs ls F X9 C L
  exact lv_aload F.1 F.2.1 hd (lv_at L j hk) (h p l e s m args below meth c H locs ls F X9 C L)
abbrev lS (i : Nat) (v : Value) (lv : List (Nat × Value)) : List (Nat × Value) := (i, v) :: lv.filter (fun q => !(q.1 == i) && !(q.1 + 1 == i && q.2.category == 2))
abbrev lSL (i : Nat) (v : Value) (lv : List (Nat × Value)) : List (Nat × Value) := (i, v) :: lv.filter (fun q => !(q.1 == i) && (!(q.1 == i + 1) && !(q.1 + 1 == i && q.2.category == 2)))
theorem g_istore_n {k : Fin 4} {x : Int32} (lv' : List (Nat × Value)) (hd : decode cc pc = .ok (.istore_n k, 1)) (hn : k.val < nL) (hl : lS k.val (.int x) lv = lv') (h : gK E own cc nL ret R Sx Zf cs ss (pc + 1) lv' st M) : gK E own cc nL ret R Sx Zf cs ss pc lv (.int x :: st) M := by
  intro p l e s m args below meth c H locs ls F X9 C L
  exact lv_istore_n F.1 F.2.1 hd rfl L hn hl (fun ls' L' => h p l e s m args below meth c H locs ls' F X9 C L')
theorem g_istore {k : Nat} {x : Int32} (lv' : List (Nat × Value)) (hd : decode cc pc = .ok (.istore k, 2)) (hn : k < nL) (hl : lS k (.int x) lv = lv') (h : gK E own cc nL ret R Sx Zf cs ss (pc + 2) lv' st M) : gK E own cc nL ret R Sx Zf cs ss pc lv (.int x :: st) M := by
  intro p l e s m args below meth c H locs ls F X9 C L
  exact lv_istore F.1 F.2.1 hd L hn hl (fun ls' L' => h p l e s m args below meth c H locs ls' F X9 C L')
theorem g_lstore_n {k : Fin 4} {x : Int64} (lv' : List (Nat × Value)) (hd : decode cc pc = .ok (.lstore_n k, 1)) (hn : k.val + 1 < nL) (hl : lSL k.val (.long x) lv = lv') (h : gK E own cc nL ret R Sx Zf cs ss (pc + 1) lv' st M) : gK E own cc nL ret R Sx Zf cs ss pc lv (.long x :: st) M := by
  intro p l e s m args below meth c H locs ls F X9 C L
  exact lv_lstore_n F.1 F.2.1 hd rfl L hn hl (fun ls' L' => h p l e s m args below meth c H locs ls' F X9 C L')
theorem g_lstore {k : Nat} {x : Int64} (lv' : List (Nat × Value)) (hd : decode cc pc = .ok (.lstore k, 2)) (hn : k + 1 < nL) (hl : lSL k (.long x) lv = lv') (h : gK E own cc nL ret R Sx Zf cs ss (pc + 2) lv' st M) : gK E own cc nL ret R Sx Zf cs ss pc lv (.long x :: st) M := by
  intro p l e s m args below meth c H locs ls F X9 C L
  exact lv_lstore F.1 F.2.1 hd L hn hl (fun ls' L' => h p l e s m args below meth c H locs ls' F X9 C L')
theorem g_astore_n {k : Fin 4} {x : Nat} (lv' : List (Nat × Value)) (hd : decode cc pc = .ok (.astore_n k, 1)) (hn : k.val < nL) (hl : lS k.val (.ref x) lv = lv') (h : gK E own cc nL ret R Sx Zf cs ss (pc + 1) lv' st M) : gK E own cc nL ret R Sx Zf cs ss pc lv (.ref x :: st) M := by
  intro p l e s m args below meth c H locs ls F X9 C L
  exact lv_astore_n F.1 F.2.1 hd rfl L hn hl (fun ls' L' => h p l e s m args below meth c H locs ls' F X9 C L')
theorem g_astore {k : Nat} {x : Nat} (lv' : List (Nat × Value)) (hd : decode cc pc = .ok (.astore k, 2)) (hn : k < nL) (hl : lS k (.ref x) lv = lv') (h : gK E own cc nL ret R Sx Zf cs ss (pc + 2) lv' st M) : gK E own cc nL ret R Sx Zf cs ss pc lv (.ref x :: st) M := by
  intro p l e s m args below meth c H locs ls F X9 C L
  exact lv_astore F.1 F.2.1 hd L hn hl (fun ls' L' => h p l e s m args below meth c H locs ls' F X9 C L')
theorem g_iinc {k : Nat} {n : Int} (j : Nat) {x v : Int32} (lv' : List (Nat × Value)) (hd : decode cc pc = .ok (.iinc k n, 3)) (hk : lv[j]? = some (k, .int x)) (hv : x + Int32.ofInt n = v) (hn : k < nL) (hl : lS k (.int v) lv = lv') (h : gK E own cc nL ret R Sx Zf cs ss (pc + 3) lv' st M) : gK E own cc nL ret R Sx Zf cs ss pc lv st M := by
  intro p l e s m args below meth c H locs ls F X9 C L
  exact lv_iinc F.1 F.2.1 hd L hk hv hn hl (fun ls' L' => h p l e s m args below meth c H locs ls' F X9 C L')
/-- fewer locals, in another order -/
theorem g_sub (ks : List Nat) (lv' : List (Nat × Value)) (hl : lv_pick lv ks = lv') (h : gK E own cc nL ret R Sx Zf cs ss pc lv' st M) : gK E own cc nL ret R Sx Zf cs ss pc lv st M := by
  intro p l e s m args below meth c H locs ls F X9 C L
  exact h p l e s m args below meth c H locs ls F X9 C (lv_sub L ks hl)
theorem g_iconst {n : Int} {v : Int32} (hd : decode cc pc = .ok (.iconst n, 1)) (hv : Int32.ofInt n = v) (h : gK E own cc nL ret R Sx Zf cs ss (pc + 1) lv (.int v :: st) M) : gK E own cc nL ret R Sx Zf cs ss pc lv st M := by
  intro p l e s m args below meth c H locs ls F X9 C L
  exact lv_iconst F.1 F.2.1 hd hv (h p l e s m args below meth c H locs ls F X9 C L)
theorem g_bipush {n : Int} {v : Int32} (hd : decode cc pc = .ok (.bipush n, 2)) (hv : (Int8.ofInt n).toInt32 = v) (h : gK E own cc nL ret R Sx Zf cs ss (pc + 2) lv (.int v :: st) M) : gK E own cc nL ret R Sx Zf cs ss pc lv st M := by
  intro p l e s m args below meth c H locs ls F X9 C L
  exact lv_bipush F.1 F.2.1 hd hv (h p l e s m args below meth c H locs ls F X9 C L)
theorem g_sipush {n : Int} {v : Int32} (hd : decode cc pc = .ok (.sipush n, 3)) (hv : (Int16.ofInt n).toInt32 = v) (h : gK E own cc nL ret R Sx Zf cs ss (pc + 3) lv (.int v :: st) M) : gK E own cc nL ret R Sx Zf cs ss pc lv st M := by
  intro p l e s m args below meth c H locs ls F X9 C L
  exact lv_sipush F.1 F.2.1 hd hv (h p l e s m args below meth c H locs ls F X9 C L)
theorem g_lconst {n : Fin 2} {v : Int64} (hd : decode cc pc = .ok (.lconst n, 1)) (hv : Int64.ofNat (n : Nat) = v) (h : gK E own cc nL ret R Sx Zf cs ss (pc + 1) lv (.long v :: st) M) : gK E own cc nL ret R Sx Zf cs ss pc lv st M := by
  intro p l e s m args below meth c H locs ls F X9 C L
  exact lv_lconst F.1 F.2.1 hd hv (h p l e s m args below meth c H locs ls F X9 C L)
theorem g_ldc {index : Nat} {v : Int32} (hw : Cond.constant own index v ∈ gtbl) (hd : decode cc pc = .ok (.ldc index, 2)) (h : gK E own cc nL ret R Sx Zf cs ss (pc + 2) lv (.int v :: st) M) : gK E own cc nL ret R Sx Zf cs ss pc lv st M := by
  intro p l e s m args below meth c H locs ls F X9 C L
  exact lv_ldc F.1 F.2.1 F.2.2.2.2.1 (F.2.2.2.2.2.2.1 _ hw) hd (h p l e s m args below meth c H locs ls F X9 C L)
theorem g_ldc2 {index : Nat} {v : Int64} (hw : Cond.constantLong own index v ∈ gtbl) (hd : decode cc pc = .ok (.ldc2_w index, 3)) (h : gK E own cc nL ret R Sx Zf cs ss (pc + 3) lv (.long v :: st) M) : gK E own cc nL ret R Sx Zf cs ss pc lv st M := by
  intro p l e s m args below meth c H locs ls F X9 C L
  exact lv_ldc2 F.1 F.2.1 F.2.2.2.2.1 (F.2.2.2.2.2.2.1 _ hw) hd (h p l e s m args below meth c H locs ls F X9 C L)
theorem g_iadd {x y : Int32} (hd : decode cc pc = .ok (.iadd, 1)) (h : gK E own cc nL ret R Sx Zf cs ss (pc + 1) lv (.int (x + y) :: st) M) : gK E own cc nL ret R Sx Zf cs ss pc lv (.int y :: .int x :: st) M := by
  intro p l e s m args below meth c H locs ls F X9 C L
  exact lv_iadd F.1 F.2.1 hd (h p l e s m args below meth c H locs ls F X9 C L)
theorem g_isub {x y : Int32} (hd : decode cc pc = .ok (.isub, 1)) (h : gK E own cc nL ret R Sx Zf cs ss (pc + 1) lv (.int (x - y) :: st) M) : gK E own cc nL ret R Sx Zf cs ss pc lv (.int y :: .int x :: st) M := by
  intro p l e s m args below meth c H locs ls F X9 C L
  exact lv_isub F.1 F.2.1 hd (h p l e s m args below meth c H locs ls F X9 C L)
theorem g_imul {x y : Int32} (hd : decode cc pc = .ok (.imul, 1)) (h : gK E own cc nL ret R Sx Zf cs ss (pc + 1) lv (.int (x * y) :: st) M) : gK E own cc nL ret R Sx Zf cs ss pc lv (.int y :: .int x :: st) M := by
  intro p l e s m args below meth c H locs ls F X9 C L
  exact lv_imul F.1 F.2.1 hd (h p l e s m args below meth c H locs ls F X9 C L)
theorem g_iand {x y : Int32} (hd : decode cc pc = .ok (.iand, 1)) (h : gK E own cc nL ret R Sx Zf cs ss (pc + 1) lv (.int (x &&& y) :: st) M) : gK E own cc nL ret R Sx Zf cs ss pc lv (.int y :: .int x :: st) M := by
  intro p l e s m args below meth c H locs ls F X9 C L
  exact lv_iand F.1 F.2.1 hd (h p l e s m args below meth c H locs ls F X9 C L)
theorem g_ior {x y : Int32} (hd : decode cc pc = .ok (.ior, 1)) (h : gK E own cc nL ret R Sx Zf cs ss (pc + 1) lv (.int (x ||| y) :: st) M) : gK E own cc nL ret R Sx Zf cs ss pc lv (.int y :: .int x :: st) M := by
  intro p l e s m args below meth c H locs ls F X9 C L
  exact lv_ior F.1 F.2.1 hd (h p l e s m args below meth c H locs ls F X9 C L)
theorem g_ixor {x y : Int32} (hd : decode cc pc = .ok (.ixor, 1)) (h : gK E own cc nL ret R Sx Zf cs ss (pc + 1) lv (.int (x ^^^ y) :: st) M) : gK E own cc nL ret R Sx Zf cs ss pc lv (.int y :: .int x :: st) M := by
  intro p l e s m args below meth c H locs ls F X9 C L
  exact lv_ixor F.1 F.2.1 hd (h p l e s m args below meth c H locs ls F X9 C L)
theorem g_idiv {x y : Int32} (hd : decode cc pc = .ok (.idiv, 1)) (hne : ¬ y = 0) (h : gK E own cc nL ret R Sx Zf cs ss (pc + 1) lv (.int (x / y) :: st) M) : gK E own cc nL ret R Sx Zf cs ss pc lv (.int y :: .int x :: st) M := by
  intro p l e s m args below meth c H locs ls F X9 C L
  exact lv_idiv F.1 F.2.1 hd hne (h p l e s m args below meth c H locs ls F X9 C L)
theorem g_irem {x y : Int32} (hd : decode cc pc = .ok (.irem, 1)) (hne : ¬ y = 0) (h : gK E own cc nL ret R Sx Zf cs ss (pc + 1) lv (.int (x - x / y * y) :: st) M) : gK E own cc nL ret R Sx Zf cs ss pc lv (.int y :: .int x :: st) M := by
  intro p l e s m args below meth c H locs ls F X9 C L
  exact lv_irem F.1 F.2.1 hd hne (h p l e s m args below meth c H locs ls F X9 C L)
theorem g_ineg {x : Int32} (hd : decode cc pc = .ok (.ineg, 1)) (h : gK E own cc nL ret R Sx Zf cs ss (pc + 1) lv (.int (-x) :: st) M) : gK E own cc nL ret R Sx Zf cs ss pc lv (.int x :: st) M := by
  intro p l e s m args below meth c H locs ls F X9 C L
  exact lv_ineg F.1 F.2.1 hd (h p l e s m args below meth c H locs ls F X9 C L)
theorem g_ladd {x y : Int64} (hd : decode cc pc = .ok (.ladd, 1)) (h : gK E own cc nL ret R Sx Zf cs ss (pc + 1) lv (.long (x + y) :: st) M) : gK E own cc nL ret R Sx Zf cs ss pc lv (.long y :: .long x :: st) M := by
  intro p l e s m args below meth c H locs ls F X9 C L
  exact lv_ladd F.1 F.2.1 hd (h p l e s m args below meth c H locs ls F X9 C L)
theorem g_lsub {x y : Int64} (hd : decode cc pc = .ok (.lsub, 1)) (h : gK E own cc nL ret R Sx Zf cs ss (pc + 1) lv (.long (x - y) :: st) M) : gK E own cc nL ret R Sx Zf cs ss pc lv (.long y :: .long x :: st) M := by
  intro p l e s m args below meth c H locs ls F X9 C L
  exact lv_lsub F.1 F.2.1 hd (h p l e s m args below meth c H locs ls F X9 C L)
theorem g_lmul {x y : Int64} (hd : decode cc pc = .ok (.lmul, 1)) (h : gK E own cc nL ret R Sx Zf cs ss (pc + 1) lv (.long (x * y) :: st) M) : gK E own cc nL ret R Sx Zf cs ss pc lv (.long y :: .long x :: st) M := by
  intro p l e s m args below meth c H locs ls F X9 C L
  exact lv_lmul F.1 F.2.1 hd (h p l e s m args below meth c H locs ls F X9 C L)
theorem g_ldiv {x y : Int64} (hd : decode cc pc = .ok (.ldiv, 1)) (hne : ¬ y = 0) (h : gK E own cc nL ret R Sx Zf cs ss (pc + 1) lv (.long (x / y) :: st) M) : gK E own cc nL ret R Sx Zf cs ss pc lv (.long y :: .long x :: st) M := by
  intro p l e s m args below meth c H locs ls F X9 C L
  exact lv_ldiv F.1 F.2.1 hd hne (h p l e s m args below meth c H locs ls F X9 C L)
theorem g_lrem {x y : Int64} (hd : decode cc pc = .ok (.lrem, 1)) (hne : ¬ y = 0) (h : gK E own cc nL ret R Sx Zf cs ss (pc + 1) lv (.long (x - x / y * y) :: st) M) : gK E own cc nL ret R Sx Zf cs ss pc lv (.long y :: .long x :: st) M := by
  intro p l e s m args below meth c H locs ls F X9 C L
  exact lv_lrem F.1 F.2.1 hd hne (h p l e s m args below meth c H locs ls F X9 C L)
theorem g_ishl {x y : Int32} (hd : decode cc pc = .ok (.ishl, 1)) (h : gK E own cc nL ret R Sx Zf cs ss (pc + 1) lv (.int (x <<< (y &&& 31)) :: st) M) : gK E own cc nL ret R Sx Zf cs ss pc lv (.int y :: .int x :: st) M := by
  intro p l e s m args below meth c H locs ls F X9 C L
  exact lv_ishl F.1 F.2.1 hd (h p l e s m args below meth c H locs ls F X9 C L)
theorem g_ishr {x y : Int32} (hd : decode cc pc = .ok (.ishr, 1)) (h : gK E own cc nL ret R Sx Zf cs ss (pc + 1) lv (.int (x >>> (y &&& 31)) :: st) M) : gK E own cc nL ret R Sx Zf cs ss pc lv (.int y :: .int x :: st) M := by
  intro p l e s m args below meth c H locs ls F X9 C L
  exact lv_ishr F.1 F.2.1 hd (h p l e s m args below meth c H locs ls F X9 C L)
abbrev iush (x y : Int32) : Int32 := (x.toUInt32 >>> (y.toUInt32 &&& Int32.toUInt32 31)).toInt32
theorem g_iushr {x y : Int32} (hd : decode cc pc = .ok (.iushr, 1)) (h : gK E own cc nL ret R Sx Zf cs ss (pc + 1) lv (.int (iush x y) :: st) M) : gK E own cc nL ret R Sx Zf cs ss pc lv (.int y :: .int x :: st) M := by
  intro p l e s m args below meth c H locs ls F X9 C L
  exact lv_iushr F.1 F.2.1 hd rfl (h p l e s m args below meth c H locs ls F X9 C L)
theorem g_i2l {x : Int32} (hd : decode cc pc = .ok (.i2l, 1)) (h : gK E own cc nL ret R Sx Zf cs ss (pc + 1) lv (.long x.toInt64 :: st) M) : gK E own cc nL ret R Sx Zf cs ss pc lv (.int x :: st) M := by
  intro p l e s m args below meth c H locs ls F X9 C L
  exact lv_i2l F.1 F.2.1 hd rfl (h p l e s m args below meth c H locs ls F X9 C L)
theorem g_l2i {x : Int64} (hd : decode cc pc = .ok (.l2i, 1)) (h : gK E own cc nL ret R Sx Zf cs ss (pc + 1) lv (.int x.toInt32 :: st) M) : gK E own cc nL ret R Sx Zf cs ss pc lv (.long x :: st) M := by
  intro p l e s m args below meth c H locs ls F X9 C L
  exact lv_l2i F.1 F.2.1 hd rfl (h p l e s m args below meth c H locs ls F X9 C L)
theorem g_i2b {x : Int32} (hd : decode cc pc = .ok (.i2b, 1)) (h : gK E own cc nL ret R Sx Zf cs ss (pc + 1) lv (.int x.toInt8.toInt32 :: st) M) : gK E own cc nL ret R Sx Zf cs ss pc lv (.int x :: st) M := by
  intro p l e s m args below meth c H locs ls F X9 C L
  exact lv_i2b F.1 F.2.1 hd rfl (h p l e s m args below meth c H locs ls F X9 C L)
theorem g_dup {va : Value} (hd : decode cc pc = .ok (.dup, 1)) (hva : va.category = 1) (h : gK E own cc nL ret R Sx Zf cs ss (pc + 1) lv (va :: va :: st) M) : gK E own cc nL ret R Sx Zf cs ss pc lv (va :: st) M := by
  intro p l e s m args below meth c H locs ls F X9 C L
  exact lv_dup F.1 F.2.1 hd hva (h p l e s m args below meth c H locs ls F X9 C L)
theorem g_dup_x1 {va vb : Value} (hd : decode cc pc = .ok (.dup_x1, 1)) (hva : va.category = 1) (hvb : vb.category = 1) (h : gK E own cc nL ret R Sx Zf cs ss (pc + 1) lv (va :: vb :: va :: st) M) : gK E own cc nL ret R Sx Zf cs ss pc lv (va :: vb :: st) M := by
  intro p l e s m args below meth c H locs ls F X9 C L
  exact lv_dup_x1 F.1 F.2.1 hd hva hvb (h p l e s m args below meth c H locs ls F X9 C L)
theorem g_dup2 {va vb : Value} (hd : decode cc pc = .ok (.dup2, 1)) (hva : va.category = 1) (hvb : vb.category = 1) (h : gK E own cc nL ret R Sx Zf cs ss (pc + 1) lv (va :: vb :: va :: vb :: st) M) : gK E own cc nL ret R Sx Zf cs ss pc lv (va :: vb :: st) M := by
  intro p l e s m args below meth c H locs ls F X9 C L
  exact lv_dup2_11 F.1 F.2.1 hd hva hvb (h p l e s m args below meth c H locs ls F X9 C L)
theorem g_pop {va : Value} (hd : decode cc pc = .ok (.pop, 1)) (hva : va.category = 1) (h : gK E own cc nL ret R Sx Zf cs ss (pc + 1) lv st M) : gK E own cc nL ret R Sx Zf cs ss pc lv (va :: st) M := by
  intro p l e s m args below meth c H locs ls F X9 C L
  exact lv_pop F.1 F.2.1 hd hva (h p l e s m args below meth c H locs ls F X9 C L)
theorem g_lcmp {x y : Int64} (hd : decode cc pc = .ok (.lcmp, 1)) (h : gK E own cc nL ret R Sx Zf cs ss (pc + 1) lv (.int (lg_cmp x y) :: st) M) : gK E own cc nL ret R Sx Zf cs ss pc lv (.long y :: .long x :: st) M := by
  intro p l e s m args below meth c H locs ls F X9 C L
  exact W.lcmp F.1 F.2.1 hd (h p l e s m args below meth c H locs ls F X9 C L)
theorem g_goto {off : Int} (tgt : Nat) (hd : decode cc pc = .ok (.goto off, 3)) (ht : (pc : Int) + off = (tgt : Int)) (h : gK E own cc nL ret R Sx Zf cs ss tgt lv st M) : gK E own cc nL ret R Sx Zf cs ss pc lv st M := by
  intro p l e s m args below meth c H locs ls F X9 C L
  exact lv_goto F.1 F.2.1 hd ht (h p l e s m args below meth c H locs ls F X9 C L)
theorem g_if_eq {x : Int32} {off : Int} (tgt : Nat) (hd : decode cc pc = .ok (.ifCond .eq off, 3)) (ht : (pc : Int) + off = (tgt : Int)) (kt : x = 0 → gK E own cc nL ret R Sx Zf cs ss tgt lv st M) (kf : ¬ x = 0 → gK E own cc nL ret R Sx Zf cs ss (pc + 3) lv st M) : gK E own cc nL ret R Sx Zf cs ss pc lv (.int x :: st) M := by
  intro p l e s m args below meth c H locs ls F X9 C L
  exact lv_if_eq F.1 F.2.1 hd ht (fun q => kt q p l e s m args below meth c H locs ls F X9 C L) (fun q => kf q p l e s m args below meth c H locs ls F X9 C L)
theorem g_icmp_eq {x y : Int32} {off : Int} (tgt : Nat) (hd : decode cc pc = .ok (.if_icmp .eq off, 3)) (ht : (pc : Int) + off = (tgt : Int)) (kt : x = y → gK E own cc nL ret R Sx Zf cs ss tgt lv st M) (kf : ¬ x = y → gK E own cc nL ret R Sx Zf cs ss (pc + 3) lv st M) : gK E own cc nL ret R Sx Zf cs ss pc lv (.int y :: .int x :: st) M := by
  intro p l e s m args below meth c H locs ls F X9 C L
  exact lv_icmp_eq F.1 F.2.1 hd ht (fun q => kt q p l e s m args below meth c H locs ls F X9 C L) (fun q => kf q p l e s m args below meth c H locs ls F X9 C L)
theorem g_if_ne {x : Int32} {off : Int} (tgt : Nat) (hd : decode cc pc = .ok (.ifCond .ne off, 3)) (ht : (pc : Int) + off = (tgt : Int)) (kt : ¬ x = 0 → gK E own cc nL ret R Sx Zf cs ss tgt lv st M) (kf : x = 0 → gK E own cc nL ret R Sx Zf cs ss (pc + 3) lv st M) : gK E own cc nL ret R Sx Zf cs ss pc lv (.int x :: st) M := by
  intro p l e s m args below meth c H locs ls F X9 C L
  exact lv_if_ne F.1 F.2.1 hd ht (fun q => kt q p l e s m args below meth c H locs ls F X9 C L) (fun q => kf q p l e s m args below meth c H locs ls F X9 C L)
theorem g_icmp_ne {x y : Int32} {off : Int} (tgt : Nat) (hd : decode cc pc = .ok (.if_icmp .ne off, 3)) (ht : (pc : Int) + off = (tgt : Int)) (kt : ¬ x = y → gK E own cc nL ret R Sx Zf cs ss tgt lv st M) (kf : x = y → gK E own cc nL ret R Sx Zf cs ss (pc + 3) lv st M) : gK E own cc nL ret R Sx Zf cs ss pc lv (.int y :: .int x :: st) M := by
  intro p l e s m args below meth c H locs ls F X9 C L
  exact lv_icmp_ne F.1 F.2.1 hd ht (fun q => kt q p l e s m args below meth c H locs ls F X9 C L) (fun q => kf q p l e s m args below meth c H locs ls F X9 C L)
theorem g_if_lt {x : Int32} {off : Int} (tgt : Nat) (hd : decode cc pc = .ok (.ifCond .lt off, 3)) (ht : (pc : Int) + off = (tgt : Int)) (kt : x < 0 → gK E own cc nL ret R Sx Zf cs ss tgt lv st M) (kf : ¬ x < 0 → gK E own cc nL ret R Sx Zf cs ss (pc + 3) lv st M) : gK E own cc nL ret R Sx Zf cs ss pc lv (.int x :: st) M := by
  intro p l e s m args below meth c H locs ls F X9 C L
  exact lv_if_lt F.1 F.2.1 hd ht (fun q => kt q p l e s m args below meth c H locs ls F X9 C L) (fun q => kf q p l e s m args below meth c H locs ls F X9 C L)
theorem g_icmp_lt {x y : Int32} {off : Int} (tgt : Nat) (hd : decode cc pc = .ok (.if_icmp .lt off, 3)) (ht : (pc : Int) + off = (tgt : Int)) (kt : x < y → gK E own cc nL ret R Sx Zf cs ss tgt lv st M) (kf : ¬ x < y → gK E own cc nL ret R Sx Zf cs ss (pc + 3) lv st M) : gK E own cc nL ret R Sx Zf cs ss pc lv (.int y :: .int x :: st) M := by
  intro p l e s m args below meth c H locs ls F X9 C L
  exact lv_icmp_lt F.1 F.2.1 hd ht (fun q => kt q p l e s m args below meth c H locs ls F X9 C L) (fun q => kf q p l e s m args below meth c H locs ls F X9 C L)
theorem g_if_ge {x : Int32} {off : Int} (tgt : Nat) (hd : decode cc pc = .ok (.ifCond .ge off, 3)) (ht : (pc : Int) + off = (tgt : Int)) (kt : 0 ≤ x → gK E own cc nL ret R Sx Zf cs ss tgt lv st M) (kf : ¬ 0 ≤ x → gK E own cc nL ret R Sx Zf cs ss (pc + 3) lv st M) : gK E own cc nL ret R Sx Zf cs ss pc lv (.int x :: st) M := by
  intro p l e s m args below meth c H locs ls F X9 C L
  exact lv_if_ge F.1 F.2.1 hd ht (fun q => kt q p l e s m args below meth c H locs ls F X9 C L) (fun q => kf q p l e s m args below meth c H locs ls F X9 C L)
theorem g_icmp_ge {x y : Int32} {off : Int} (tgt : Nat) (hd : decode cc pc = .ok (.if_icmp .ge off, 3)) (ht : (pc : Int) + off = (tgt : Int)) (kt : y ≤ x → gK E own cc nL ret R Sx Zf cs ss tgt lv st M) (kf : ¬ y ≤ x → gK E own cc nL ret R Sx Zf cs ss (pc + 3) lv st M) : gK E own cc nL ret R Sx Zf cs ss pc lv (.int y :: .int x :: st) M := by
  intro p l e s m args below meth c H locs ls F X9 C L
  exact lv_icmp_ge F.1 F.2.1 hd ht (fun q => kt q p l e s m args below meth c H locs ls F X9 C L) (fun q => kf q p l e s m args below meth c H locs ls F X9 C L)
theorem g_if_gt {x : Int32} {off : Int} (tgt : Nat) (hd : decode cc pc = .ok (.ifCond .gt off, 3)) (ht : (pc : Int) + off = (tgt : Int)) (kt : 0 < x → gK E own cc nL ret R Sx Zf cs ss tgt lv st M) (kf : ¬ 0 < x → gK E own cc nL ret R Sx Zf cs ss (pc + 3) lv st M) : gK E own cc nL ret R Sx Zf cs ss pc lv (.int x :: st) M := by
  intro p l e s m args below meth c H locs ls F X9 C L
  exact lv_if_gt F.1 F.2.1 hd ht (fun q => kt q p l e s m args below meth c H locs ls F X9 C L) (fun q => kf q p l e s m args below meth c H locs ls F X9 C L)
theorem g_icmp_gt {x y : Int32} {off : Int} (tgt : Nat) (hd : decode cc pc = .ok (.if_icmp .gt off, 3)) (ht : (pc : Int) + off = (tgt : Int)) (kt : y < x → gK E own cc nL ret R Sx Zf cs ss tgt lv st M) (kf : ¬ y < x → gK E own cc nL ret R Sx Zf cs ss (pc + 3) lv st M) : gK E own cc nL ret R Sx Zf cs ss pc lv (.int y :: .int x :: st) M := by
  intro p l e s m args below meth c H locs ls F X9 C L
  exact lv_icmp_gt F.1 F.2.1 hd ht (fun q => kt q p l e s m args below meth c H locs ls F X9 C L) (fun q => kf q p l e s m args below meth c H locs ls F X9 C L)
theorem g_if_le {x : Int32} {off : Int} (tgt : Nat) (hd : decode cc pc = .ok (.ifCond .le off, 3)) (ht : (pc : Int) + off = (tgt : Int)) (kt : x ≤ 0 → gK E own cc nL ret R Sx Zf cs ss tgt lv st M) (kf : ¬ x ≤ 0 → gK E own cc nL ret R Sx Zf cs ss (pc + 3) lv st M) : gK E own cc nL ret R Sx Zf cs ss pc lv (.int x :: st) M := by
  intro p l e s m args below meth c H locs ls F X9 C L
  exact lv_if_le F.1 F.2.1 hd ht (fun q => kt q p l e s m args below meth c H locs ls F X9 C L) (fun q => kf q p l e s m args below meth c H locs ls F X9 C L)
theorem g_icmp_le {x y : Int32} {off : Int} (tgt : Nat) (hd : decode cc pc = .ok (.if_icmp .le off, 3)) (ht : (pc : Int) + off = (tgt : Int)) (kt : x ≤ y → gK E own cc nL ret R Sx Zf cs ss tgt lv st M) (kf : ¬ x ≤ y → gK E own cc nL ret R Sx Zf cs ss (pc + 3) lv st M) : gK E own cc nL ret R Sx Zf cs ss pc lv (.int y :: .int x :: st) M := by
  intro p l e s m args below meth c H locs ls F X9 C L
  exact lv_icmp_le F.1 F.2.1 hd ht (fun q => kt q p l e s m args below meth c H locs ls F X9 C L) (fun q => kf q p l e s m args below meth c H locs ls F X9 C L)
theorem g_iret {v : Int32} (hret : ret = some .int) (hd : decode cc pc = .ok (.ireturn, 1)) (h : Q (some (.int v)) M) : gG E own cc nL ret R pc lv [.int v] M Q := by
  intro p l e s m args below meth c H locs ls F _ C L
  exact W.iret F.1 F.2.1 (F.2.2.1.trans hret) (fun t ht _ => ⟨⟨_, M, rfl, h, by rw [ht]; exact C.2.2.2.2.1⟩, C.2.2.2.2.2.F ht⟩) C.2.2.2.2.2.2.2 hd F.2.2.2.2.2.1
/-- a truth value -/
def gB (v : Int32) : Prop := v = 0 ∨ v = 1
theorem gB.n {v : Int32} (h : gB v) : narrow .boolean (.int v) = .int v := by rcases h with rfl | rfl <;> rfl
theorem gB.f {v : Int32} (h : gB v) : fits .boolean (.int v) = true := by rcases h with rfl | rfl <;> rfl
theorem g_zret {v : Int32} (hret : ret = some .boolean) (hv : gB v) (hd : decode cc pc = .ok (.ireturn, 1)) (h : Q (some (.int v)) M) : gG E own cc nL ret R pc lv [.int v] M Q := by
  intro p l e s m args below meth c H locs ls F _ C L
  exact W.zret F.1 F.2.1 (F.2.2.1.trans hret) hv.n (fun t ht _ => ⟨⟨_, M, rfl, h, by rw [ht]; exact C.2.2.2.2.1⟩, C.2.2.2.2.2.F ht⟩) C.2.2.2.2.2.2.2 hd F.2.2.2.2.2.1
theorem g_vret (hret : ret = none) (hd : decode cc pc = .ok (.return_, 1)) (h : Q none M) : gG E own cc nL ret R pc lv [] M Q := by
  intro p l e s m args below meth c H locs ls F _ C L
  exact W.vret F.1 F.2.1 (F.2.2.1.trans hret) (fun t ht _ => ⟨⟨_, M, rfl, h, by rw [ht]; exact C.2.2.2.2.1⟩, C.2.2.2.2.2.F ht⟩) C.2.2.2.2.2.2.2 hd F.2.2.2.2.2.1
theorem g_lret {v : Int64} (hret : ret = some .long) (hd : decode cc pc = .ok (.lreturn, 1)) (h : Q (some (.long v)) M) : gG E own cc nL ret R pc lv [.long v] M Q := by
  intro p l e s m args below meth c H locs ls F _ C L
  exact W.lret F.1 F.2.1 (F.2.2.1.trans hret) (fun t ht _ => ⟨⟨_, M, rfl, h, by rw [ht]; exact C.2.2.2.2.1⟩, C.2.2.2.2.2.F ht⟩) C.2.2.2.2.2.2.2 hd F.2.2.2.2.2.1
theorem g_aret {a : Nat} {ty : String} (hret : ret = some (.object ty)) (hd : decode cc pc = .ok (.areturn, 1)) (h : Q (some (.ref a)) M) : gG E own cc nL ret R pc lv [.ref a] M Q := by
  intro p l e s m args below meth c H locs ls F _ C L
  exact W.aret F.1 F.2.1 (F.2.2.1.trans hret) (Or.inl ⟨_, rfl⟩) (Or.inr ⟨_, rfl⟩) (fun t ht _ => ⟨⟨_, M, rfl, h, by rw [ht]; exact C.2.2.2.2.1⟩, C.2.2.2.2.2.F ht⟩) C.2.2.2.2.2.2.2 hd F.2.2.2.2.2.1
/-- what the tables say of a field that a class's own constant pool names at idx: field k of the class of kind ci -/
def gFd (own : String) (idx ci k : Nat) (ty : FieldType) (fin : Bool) : Prop := ∃ (C : String) (T : u_T) (N : Nat) (tys : Nat → FieldType), vwCl[ci]? = some (C, T, N) ∧ k < N ∧ (∀ w ∈ u_ws C T N, w ∈ gtbl) ∧ Cond.fieldLink own idx C (T k).2.1 (T k).2.2.1 ∈ gtbl ∧ (T k).1 = C ∧ tys k = ty ∧
  (∀ j, j < N → parseFieldDescriptor (T j).2.2.1 = some (tys j)) ∧ (∀ a, a < N → ∀ b, b < N → a ≠ b → (T a).2.1 ≠ (T b).2.1) ∧ (T k).2.2.2 = fin
theorem g_get {idx ci k : Nat} {ty : FieldType} {fin : Bool} {sl : List gSD} {d : gSD} (i : Nat) (X : gFd own idx ci k ty fin) (hD : DSC[i]? = some (.inl (ci, sl))) (hk : sl[k]? = some d) (hd : decode cc pc = .ok (.getfield idx, 3))
    (h : gK E own cc nL ret R Sx Zf cs ss (pc + 3) lv (gV E M d :: st) M) : gK E own cc nL ret R Sx Zf cs ss pc lv (.ref (gla E i) :: st) M := by
  intro p l e s m args below meth c H locs ls F X9 C L
  obtain ⟨C0, T, N, tys, x1, x2, x3, x4, x5, -⟩ := X
  exact va_get (D := gD E) (ci := ci) (C := C0) (T := T) (N := N) (ref := C0) F.1 F.2.1 F.2.2.2.2.2.2.1 x3 F.2.2.2.2.1 C.2.2.1 C.2.2.2.2.1 i (gAll_at hD) x1 k x2 (F.2.2.2.2.2.2.1 _ x4) (fun x hx => by rw [x5] at hx; exact hx) (v := gV E M d)
    (by show (sl.map (gV E M))[k]? = _; rw [List.getElem?_map, hk]; rfl) hd (h p l e s m args below meth c H locs ls F X9 C L)
theorem g_getI {idx ci k : Nat} {ty : FieldType} {fin : Bool} {sl : List gSD} {g a b c' : Nat} (i : Nat) (X : gFd own idx ci k ty fin) (hD : DSC[i]? = some (.inl (ci, sl))) (hk : sl[k]? = some (0, g, a, b, c')) (hd : decode cc pc = .ok (.getfield idx, 3))
    (h : gK E own cc nL ret R Sx Zf cs ss (pc + 3) lv (.int (rdI M g a b c') :: st) M) : gK E own cc nL ret R Sx Zf cs ss pc lv (.ref (gla E i) :: st) M := g_get i X hD hk hd h
theorem g_getJ {idx ci k : Nat} {ty : FieldType} {fin : Bool} {sl : List gSD} {g a b c' : Nat} (i : Nat) (X : gFd own idx ci k ty fin) (hD : DSC[i]? = some (.inl (ci, sl))) (hk : sl[k]? = some (1, g, a, b, c')) (hd : decode cc pc = .ok (.getfield idx, 3))
    (h : gK E own cc nL ret R Sx Zf cs ss (pc + 3) lv (.long (rdJ M g a b c') :: st) M) : gK E own cc nL ret R Sx Zf cs ss pc lv (.ref (gla E i) :: st) M := g_get i X hD hk hd h
theorem g_getR {idx ci k : Nat} {ty : FieldType} {fin : Bool} {sl : List gSD} {g a b c' : Nat} (i j : Nat) (X : gFd own idx ci k ty fin) (hD : DSC[i]? = some (.inl (ci, sl))) (hk : sl[k]? = some (2, g, a, b, c')) (hj : g = j) (hd : decode cc pc = .ok (.getfield idx, 3))
    (h : gK E own cc nL ret R Sx Zf cs ss (pc + 3) lv (.ref (gla E j) :: st) M) : gK E own cc nL ret R Sx Zf cs ss pc lv (.ref (gla E i) :: st) M := by
  subst hj
  exact g_get i X hD hk hd h
theorem gMap_set {E : gE} {M M1 : gM} {sl : List gSD} {j k : Nat} {d : gSD} {v : Value} (hk : sl[k]? = some d) (hv : gV E M1 d = v) (h : ∀ (i : Nat) (x : gSD), i ≠ k → sl[i]? = some x → gV E M1 x = gV E M x) : (sl.map (gV E M)).set k v = sl.map (gV E M1) := by
  apply List.ext_getElem?
  intro i
  by_cases hi : i = k
  · subst hi
    have h2 := (List.getElem?_eq_some_iff.mp hk).1
    rw [List.getElem?_set_self (by rw [List.length_map]; exact h2), List.getElem?_map, hk, ← hv]
    rfl
  · rw [List.getElem?_set_ne (fun q => hi q.symm), List.getElem?_map, List.getElem?_map]
    cases hx : sl[i]? with
    | none => rfl
    | some x => exact congrArg some (h i x hi hx).symm
theorem gCok_ne {j i k : Nat} {ci : Nat} {sl : List gSD} {x d : gSD} (h : gCok j (.inl (ci, sl)) = true) (hi : sl[i]? = some x) (hk : sl[k]? = some d) (hne : i ≠ k) (hx : x.1 < 2) (hd : d.1 < 2) : x.2.1 ≠ d.2.1 := by
  have h1 : (sl.zipIdx.all (fun x => sl.zipIdx.all (fun y => x.2 == y.2 || Nat.ble 2 x.1.1 || Nat.ble 2 y.1.1 || x.1.2.1 != y.1.2.1))) = true := ((Bool.and_eq_true _ _).mp h).2
  have m : ∀ {i : Nat} {x : gSD}, sl[i]? = some x → (x, i) ∈ sl.zipIdx := fun {i x} h => List.mem_of_getElem? (i := i) (by rw [List.getElem?_zipIdx, h]; simp)
  have h2 := List.all_eq_true.mp (List.all_eq_true.mp h1 _ (m hi)) _ (m hk)
  have a1 : Nat.ble 2 x.1 = false := by cases hb : Nat.ble 2 x.1 with | false => rfl | true => exact absurd (Nat.le_of_ble_eq_true hb) (by omega)
  have a2 : Nat.ble 2 d.1 = false := by cases hb : Nat.ble 2 d.1 with | false => rfl | true => exact absurd (Nat.le_of_ble_eq_true hb) (by omega)
  simp only [a1, a2, Bool.or_false] at h2
  intro he
  rw [he] at h2
  simp at h2
  exact hne h2
theorem gAll_put {E : gE} {M : gM} {i ci k : Nat} {sl : List gSD} {g a b c' : Nat} {v : Int32} (hD : DSC[i]? = some (.inl (ci, sl))) (hk : sl[k]? = some (0, g, a, b, c')) : (gAll E M).set i (gla E i, .inr (ci, (sl.map (gV E M)).set k (.int v))) = gAll E (wrI M g a b c' v) := by
  have ho : gOw g a b = i := by
    have h1 : sl.all (gSok i) = true := ((Bool.and_eq_true _ _).mp (DSC_at hD).2).1
    have h2 := List.all_eq_true.mp h1 _ (List.mem_of_getElem? hk)
    simpa [gSok] using h2
  refine gAll_set hD ?_ (fun g' a' b' c2 h => rdI_wr_ne (by rw [ho]; exact h)) (fun _ _ _ _ _ => rfl)
  show Sum.inr (ci, _) = Sum.inr (ci, _)
  rw [gMap_set (j := i) hk (M1 := wrI M g a b c' v) (by show Value.int (rdI _ g a b c') = _; unfold rdI wrI; simp) (fun j x hj hx => ?_)]
  obtain ⟨k1, g1, a1, b1, c1⟩ := x
  match k1, hx with
  | 0, hx =>
    have h3 := gCok_ne (DSC_at hD).2 hx hk hj (by decide : 0 < 2) (by decide : 0 < 2)
    show Value.int (rdI (wrI M g a b c' v) g1 a1 b1 c1) = Value.int (rdI M g1 a1 b1 c1)
    unfold rdI wrI
    exact congrArg Value.int (if_neg fun q => h3 q.1)
  | 1, _ => rfl
  | 2, _ => rfl
  | (n + 3), _ => rfl
theorem gAll_putJ {E : gE} {M : gM} {i ci k : Nat} {sl : List gSD} {g a b c' : Nat} {v : Int64} (hD : DSC[i]? = some (.inl (ci, sl))) (hk : sl[k]? = some (1, g, a, b, c')) : (gAll E M).set i (gla E i, .inr (ci, (sl.map (gV E M)).set k (.long v))) = gAll E (wrJ M g a b c' v) := by
  have ho : gOw g a b = i := by
    have h1 : sl.all (gSok i) = true := ((Bool.and_eq_true _ _).mp (DSC_at hD).2).1
    have h2 := List.all_eq_true.mp h1 _ (List.mem_of_getElem? hk)
    simpa [gSok] using h2
  refine gAll_set hD ?_ (fun _ _ _ _ _ => rfl) (fun g' a' b' c2 h => rdJ_wr_ne (by rw [ho]; exact h))
  show Sum.inr (ci, _) = Sum.inr (ci, _)
  rw [gMap_set (j := i) hk (M1 := wrJ M g a b c' v) (by show Value.long (rdJ _ g a b c') = _; unfold rdJ wrJ; simp) (fun j x hj hx => ?_)]
  obtain ⟨k1, g1, a1, b1, c1⟩ := x
  match k1, hx with
  | 1, hx =>
    have h3 := gCok_ne (DSC_at hD).2 hx hk hj (by decide : 1 < 2) (by decide : 1 < 2)
    show Value.long (rdJ (wrJ M g a b c' v) g1 a1 b1 c1) = Value.long (rdJ M g1 a1 b1 c1)
    unfold rdJ wrJ
    exact congrArg Value.long (if_neg fun q => h3 q.1)
  | 0, _ => rfl
  | 2, _ => rfl
  | (n + 3), _ => rfl
theorem g_putI {idx ci k : Nat} {sl : List gSD} {g a b c' : Nat} {v : Int32} (i : Nat) (X : gFd own idx ci k .int false) (hD : DSC[i]? = some (.inl (ci, sl))) (hk : sl[k]? = some (0, g, a, b, c')) (hd : decode cc pc = .ok (.putfield idx, 3))
    (h : ∀ M1, M1 = wrI M g a b c' v → gK E own cc nL ret R Sx Zf cs ss (pc + 3) lv st M1) : gK E own cc nL ret R Sx Zf cs ss pc lv (.int v :: .ref (gla E i) :: st) M := by
  intro p l e s m args below meth c H locs ls F X9 C L
  obtain ⟨C0, T, N, tys, x1, x2, x3, x4, x5, x6, x7, x8, x9⟩ := X
  refine va_put (D := gD E) (ci := ci) (C := C0) (T := T) (N := N) (ref := C0) (ty := .int) F.1 F.2.1 F.2.2.2.2.2.2.1 x3 tys x7 x8 F.2.2.2.2.1 C.2.2.1 C.2.2.2.2.1 (gAll_D C.1) C.2.2.2.2.2 i (gAll_at hD) x1 k x2 (F.2.2.2.2.2.2.1 _ x4) (fun x hx => by rw [x5] at hx; exact hx) x9 (by rw [x7 k x2, x6]) rfl rfl
    (by show k < (sl.map (gV E M)).length; rw [List.length_map]; exact (List.getElem?_eq_some_iff.mp hk).1) hd (fun H1 locs1 hP hD1 hS => ?_)
  rw [show (gAll E M).set i (gla E i, .inr (ci, (sl.map (gV E M)).set k (.int v))) = gAll E (wrI M g a b c' v) from gAll_put hD hk] at hP
  exact h _ rfl p l e s m args below meth c H1 locs1 ls F X9 ⟨C.1, C.2.1, C.2.2.1, C.2.2.2.1, hP, hS⟩ L
theorem g_putZ {idx ci k : Nat} {sl : List gSD} {g a b c' : Nat} {v : Int32} (i : Nat) (X : gFd own idx ci k .boolean false) (hv : gB v) (hD : DSC[i]? = some (.inl (ci, sl))) (hk : sl[k]? = some (0, g, a, b, c')) (hd : decode cc pc = .ok (.putfield idx, 3))
    (h : ∀ M1, M1 = wrI M g a b c' v → gK E own cc nL ret R Sx Zf cs ss (pc + 3) lv st M1) : gK E own cc nL ret R Sx Zf cs ss pc lv (.int v :: .ref (gla E i) :: st) M := by
  intro p l e s m args below meth c H locs ls F X9 C L
  obtain ⟨C0, T, N, tys, x1, x2, x3, x4, x5, x6, x7, x8, x9⟩ := X
  refine va_put (D := gD E) (ci := ci) (C := C0) (T := T) (N := N) (ref := C0) (ty := .boolean) F.1 F.2.1 F.2.2.2.2.2.2.1 x3 tys x7 x8 F.2.2.2.2.1 C.2.2.1 C.2.2.2.2.1 (gAll_D C.1) C.2.2.2.2.2 i (gAll_at hD) x1 k x2 (F.2.2.2.2.2.2.1 _ x4) (fun x hx => by rw [x5] at hx; exact hx) x9 (by rw [x7 k x2, x6]) hv.n hv.f
    (by show k < (sl.map (gV E M)).length; rw [List.length_map]; exact (List.getElem?_eq_some_iff.mp hk).1) hd (fun H1 locs1 hP hD1 hS => ?_)
  rw [show (gAll E M).set i (gla E i, .inr (ci, (sl.map (gV E M)).set k (.int v))) = gAll E (wrI M g a b c' v) from gAll_put hD hk] at hP
  exact h _ rfl p l e s m args below meth c H1 locs1 ls F X9 ⟨C.1, C.2.1, C.2.2.1, C.2.2.2.1, hP, hS⟩ L
theorem g_putJ {idx ci k : Nat} {sl : List gSD} {g a b c' : Nat} {v : Int64} (i : Nat) (X : gFd own idx ci k .long false) (hD : DSC[i]? = some (.inl (ci, sl))) (hk : sl[k]? = some (1, g, a, b, c')) (hd : decode cc pc = .ok (.putfield idx, 3))
    (h : ∀ M1, M1 = wrJ M g a b c' v → gK E own cc nL ret R Sx Zf cs ss (pc + 3) lv st M1) : gK E own cc nL ret R Sx Zf cs ss pc lv (.long v :: .ref (gla E i) :: st) M := by
  intro p l e s m args below meth c H locs ls F X9 C L
  obtain ⟨C0, T, N, tys, x1, x2, x3, x4, x5, x6, x7, x8, x9⟩ := X
  refine va_put (D := gD E) (ci := ci) (C := C0) (T := T) (N := N) (ref := C0) (ty := .long) F.1 F.2.1 F.2.2.2.2.2.2.1 x3 tys x7 x8 F.2.2.2.2.1 C.2.2.1 C.2.2.2.2.1 (gAll_D C.1) C.2.2.2.2.2 i (gAll_at hD) x1 k x2 (F.2.2.2.2.2.2.1 _ x4) (fun x hx => by rw [x5] at hx; exact hx) x9 (by rw [x7 k x2, x6]) rfl rfl
    (by show k < (sl.map (gV E M)).length; rw [List.length_map]; exact (List.getElem?_eq_some_iff.mp hk).1) hd (fun H1 locs1 hP hD1 hS => ?_)
  rw [show (gAll E M).set i (gla E i, .inr (ci, (sl.map (gV E M)).set k (.long v))) = gAll E (wrJ M g a b c' v) from gAll_putJ hD hk] at hP
  exact h _ rfl p l e s m args below meth c H1 locs1 ls F X9 ⟨C.1, C.2.1, C.2.2.1, C.2.2.2.1, hP, hS⟩ L
theorem gTy_at {E : gE} {t : Nat} {ty : FieldType} (h : (gTy (((fun _ => 0), fun _ _ => 0), (fun t => t), (fun _ => 0), (fun _ => 0), 0, (fun _ => 0), (fun _ => 0), 0, 0))[t]? = some (t, ty)) : (gTy E)[t]? = some (gcA E t, ty) := by
  match t, h with
  | 0, h => cases h; rfl
  | 1, h => cases h; rfl
  | 2, h => cases h; rfl
  | 3, h => cases h; rfl
  | 4, h => cases h; rfl
  | 5, h => cases h; rfl
  | 6, h => cases h; rfl
  | 7, h => cases h; rfl
  | 8, h => cases h; rfl
  | (n + 9), h => cases h
theorem gOw_arr {i t n k g a b : Nat} (hD : DSC[i]? = some (.inr (t, n, k, g, a, b))) (hk : k ≠ 2) : gOw g a b = i := by
  have h1 : (k == 2 || gOw g a b == i) = true := (DSC_at hD).2
  rcases Bool.or_eq_true _ _ ▸ h1 with h | h
  · exact absurd (by simpa using h) hk
  · simpa using h
theorem gAll_arr {E : gE} {M : gM} {i t n g a b : Nat} {x : Int32} {j : Nat} (hD : DSC[i]? = some (.inr (t, n, 0, g, a, b))) : (gAll E M).set i (gla E i, .inl (gcA E t, n, .inl (upd (fun c' => rdI M g a b c') j x))) = gAll E (wrI M g a b j x) := by
  refine gAll_set hD ?_ (fun g' a' b' c2 h => rdI_wr_ne (by rw [gOw_arr hD (by decide)]; exact h)) (fun _ _ _ _ _ => rfl)
  show Sum.inl (gcA E t, n, Sum.inl _) = Sum.inl (gcA E t, n, Sum.inl _)
  congr 4
  funext c'
  unfold upd rdI wrI
  simp
theorem gAll_arrJ {E : gE} {M : gM} {i t n g a b : Nat} {x : Int64} {j : Nat} (hD : DSC[i]? = some (.inr (t, n, 1, g, a, b))) : (gAll E M).set i (gla E i, .inl (gcA E t, n, .inr (.inl (vp_updL (fun c' => rdJ M g a b c') j x)))) = gAll E (wrJ M g a b j x) := by
  refine gAll_set hD ?_ (fun _ _ _ _ _ => rfl) (fun g' a' b' c2 h => rdJ_wr_ne (by rw [gOw_arr hD (by decide)]; exact h))
  show Sum.inl (gcA E t, n, Sum.inr (Sum.inl _)) = Sum.inl (gcA E t, n, Sum.inr (Sum.inl _))
  congr 5
  funext c'
  unfold vp_updL rdJ wrJ
  simp
theorem g_iald {n g a b : Nat} {x : Int32} (i : Nat) (hD : DSC[i]? = some (.inr (0, n, 0, g, a, b))) (hin : vp_in x n) (hd : decode cc pc = .ok (.iaload, 1))
    (h : gK E own cc nL ret R Sx Zf cs ss (pc + 1) lv (.int (rdI M g a b (nn x)) :: st) M) : gK E own cc nL ret R Sx Zf cs ss pc lv (.int x :: .ref (gla E i) :: st) M := by
  intro p l e s m args below meth c H locs ls F X9 C L
  exact va_iald (D := gD E) F.1 F.2.1 C.2.2.1 C.2.2.2.2.1 i 0 (gAll_at hD) rfl hin hd (h p l e s m args below meth c H locs ls F X9 C L)
theorem g_bald {n g a b : Nat} {x : Int32} (i : Nat) (hD : DSC[i]? = some (.inr (3, n, 0, g, a, b))) (hin : vp_in x n) (hd : decode cc pc = .ok (.baload, 1))
    (h : gK E own cc nL ret R Sx Zf cs ss (pc + 1) lv (.int (rdI M g a b (nn x)) :: st) M) : gK E own cc nL ret R Sx Zf cs ss pc lv (.int x :: .ref (gla E i) :: st) M := by
  intro p l e s m args below meth c H locs ls F X9 C L
  exact va_bald (D := gD E) F.1 F.2.1 C.2.2.1 C.2.2.2.2.1 i 3 (gAll_at hD) rfl hin hd (h p l e s m args below meth c H locs ls F X9 C L)
theorem g_zald {n g a b : Nat} {x : Int32} (i : Nat) (hD : DSC[i]? = some (.inr (2, n, 0, g, a, b))) (hin : vp_in x n) (hd : decode cc pc = .ok (.baload, 1))
    (h : gK E own cc nL ret R Sx Zf cs ss (pc + 1) lv (.int (rdI M g a b (nn x)) :: st) M) : gK E own cc nL ret R Sx Zf cs ss pc lv (.int x :: .ref (gla E i) :: st) M := by
  intro p l e s m args below meth c H locs ls F X9 C L
  exact va_zald (D := gD E) F.1 F.2.1 C.2.2.1 C.2.2.2.2.1 i 2 (gAll_at hD) rfl hin hd (h p l e s m args below meth c H locs ls F X9 C L)
theorem g_lald {n g a b : Nat} {x : Int32} (i : Nat) (hD : DSC[i]? = some (.inr (1, n, 1, g, a, b))) (hin : vp_in x n) (hd : decode cc pc = .ok (.laload, 1))
    (h : gK E own cc nL ret R Sx Zf cs ss (pc + 1) lv (.long (rdJ M g a b (nn x)) :: st) M) : gK E own cc nL ret R Sx Zf cs ss pc lv (.int x :: .ref (gla E i) :: st) M := by
  intro p l e s m args below meth c H locs ls F X9 C L
  exact va_lald (D := gD E) F.1 F.2.1 C.2.2.1 C.2.2.2.2.1 i 1 (gAll_at hD) rfl hin hd (h p l e s m args below meth c H locs ls F X9 C L)
theorem g_aald {t n g a b : Nat} {x : Int32} {cn : String} (i j : Nat) (ht : (gTy (((fun _ => 0), fun _ _ => 0), (fun t => t), (fun _ => 0), (fun _ => 0), 0, (fun _ => 0), (fun _ => 0), 0, 0))[t]? = some (t, .object cn)) (hD : DSC[i]? = some (.inr (t, n, 2, g, a, b))) (hin : vp_in x n) (hj : g + a * nn x = j) (hd : decode cc pc = .ok (.aaload, 1))
    (h : gK E own cc nL ret R Sx Zf cs ss (pc + 1) lv (.ref (gla E j) :: st) M) : gK E own cc nL ret R Sx Zf cs ss pc lv (.int x :: .ref (gla E i) :: st) M := by
  intro p l e s m args below meth c H locs ls F X9 C L
  subst hj
  exact va_aldq (D := gD E) (C := cn) F.1 F.2.1 C.2.2.1 C.2.2.2.2.1 i t (gAll_at hD) (gTy_at ht) hin hd (h p l e s m args below meth c H locs ls F X9 C L)
/-- an enum constant out of an array of them -/
theorem g_eald {n g a b : Nat} {x : Int32} (i : Nat) (hD : DSC[i]? = some (.inr (8, n, 3, g, a, b))) (hin : vp_in x n) (hd : decode cc pc = .ok (.aaload, 1))
    (h : gK E own cc nL ret R Sx Zf cs ss (pc + 1) lv (.ref (gad E (nn (rdI M g a b (nn x)))) :: st) M) : gK E own cc nL ret R Sx Zf cs ss pc lv (.int x :: .ref (gla E i) :: st) M := by
  intro p l e s m args below meth c H locs ls F X9 C L
  exact va_aldq (D := gD E) (C := "WillDeposit$Token") F.1 F.2.1 C.2.2.1 C.2.2.2.2.1 i 8 (gAll_at hD) rfl hin hd (h p l e s m args below meth c H locs ls F X9 C L)
theorem g_iast {n g a b : Nat} {x v : Int32} (i : Nat) (hD : DSC[i]? = some (.inr (0, n, 0, g, a, b))) (hin : vp_in x n) (hd : decode cc pc = .ok (.iastore, 1))
    (h : ∀ M1, M1 = wrI M g a b (nn x) v → gK E own cc nL ret R Sx Zf cs ss (pc + 1) lv st M1) : gK E own cc nL ret R Sx Zf cs ss pc lv (.int v :: .int x :: .ref (gla E i) :: st) M := by
  intro p l e s m args below meth c H locs ls F X9 C L
  refine va_iast (D := gD E) F.1 F.2.1 C.2.2.1 C.2.2.2.2.1 (gAll_D C.1) C.2.2.2.2.2 i 0 (gAll_at hD) rfl hin hd (fun H1 locs1 hP hD1 hS => ?_)
  rw [show (gAll E M).set i (gla E i, .inl (gcA E 0, n, .inl (upd (fun c' => rdI M g a b c') x.toNatClampNeg v))) = _ from gAll_arr hD] at hP
  exact h _ rfl p l e s m args below meth c H1 locs1 ls F X9 ⟨C.1, C.2.1, C.2.2.1, C.2.2.2.1, hP, hS⟩ L
abbrev nB (x : Int32) : Int32 := x.toInt8.toInt32
abbrev nZ (x : Int32) : Int32 := vp_nar .boolean x
theorem g_bast {n g a b : Nat} {x v : Int32} (i : Nat) (hD : DSC[i]? = some (.inr (3, n, 0, g, a, b))) (hin : vp_in x n) (hd : decode cc pc = .ok (.bastore, 1))
    (h : ∀ M1, M1 = wrI M g a b (nn x) (nB v) → gK E own cc nL ret R Sx Zf cs ss (pc + 1) lv st M1) : gK E own cc nL ret R Sx Zf cs ss pc lv (.int v :: .int x :: .ref (gla E i) :: st) M := by
  intro p l e s m args below meth c H locs ls F X9 C L
  refine va_bast (D := gD E) F.1 F.2.1 C.2.2.1 C.2.2.2.2.1 (gAll_D C.1) C.2.2.2.2.2 i 3 (gAll_at hD) rfl hin hd (fun H1 locs1 hP hD1 hS => ?_)
  rw [vp_nar_byte, show (gAll E M).set i (gla E i, .inl (gcA E 3, n, .inl (upd (fun c' => rdI M g a b c') x.toNatClampNeg v.toInt8.toInt32))) = _ from gAll_arr hD] at hP
  exact h _ rfl p l e s m args below meth c H1 locs1 ls F X9 ⟨C.1, C.2.1, C.2.2.1, C.2.2.2.1, hP, hS⟩ L
theorem g_zast {n g a b : Nat} {x v : Int32} (i : Nat) (hD : DSC[i]? = some (.inr (2, n, 0, g, a, b))) (hin : vp_in x n) (hd : decode cc pc = .ok (.bastore, 1))
    (h : ∀ M1, M1 = wrI M g a b (nn x) (nZ v) → gK E own cc nL ret R Sx Zf cs ss (pc + 1) lv st M1) : gK E own cc nL ret R Sx Zf cs ss pc lv (.int v :: .int x :: .ref (gla E i) :: st) M := by
  intro p l e s m args below meth c H locs ls F X9 C L
  refine va_zast (D := gD E) F.1 F.2.1 C.2.2.1 C.2.2.2.2.1 (gAll_D C.1) C.2.2.2.2.2 i 2 (gAll_at hD) rfl hin hd (fun H1 locs1 hP hD1 hS => ?_)
  rw [show (gAll E M).set i (gla E i, .inl (gcA E 2, n, .inl (upd (fun c' => rdI M g a b c') x.toNatClampNeg (vp_nar .boolean v)))) = _ from gAll_arr hD] at hP
  exact h _ rfl p l e s m args below meth c H1 locs1 ls F X9 ⟨C.1, C.2.1, C.2.2.1, C.2.2.2.1, hP, hS⟩ L
theorem g_last {n g a b : Nat} {x : Int32} {v : Int64} (i : Nat) (hD : DSC[i]? = some (.inr (1, n, 1, g, a, b))) (hin : vp_in x n) (hd : decode cc pc = .ok (.lastore, 1))
    (h : ∀ M1, M1 = wrJ M g a b (nn x) v → gK E own cc nL ret R Sx Zf cs ss (pc + 1) lv st M1) : gK E own cc nL ret R Sx Zf cs ss pc lv (.long v :: .int x :: .ref (gla E i) :: st) M := by
  intro p l e s m args below meth c H locs ls F X9 C L
  refine va_last (D := gD E) F.1 F.2.1 C.2.2.1 C.2.2.2.2.1 (gAll_D C.1) C.2.2.2.2.2 i 1 (gAll_at hD) rfl hin hd (fun H1 locs1 hP hD1 hS => ?_)
  rw [show (gAll E M).set i (gla E i, .inl (gcA E 1, n, .inr (.inl (vp_updL (fun c' => rdJ M g a b c') x.toNatClampNeg v)))) = _ from gAll_arrJ hD] at hP
  exact h _ rfl p l e s m args below meth c H1 locs1 ls F X9 ⟨C.1, C.2.1, C.2.2.1, C.2.2.2.1, hP, hS⟩ L
theorem g_alen {t n k g a b : Nat} {ty : FieldType} {v : Int32} (i : Nat) (ht : (gTy (((fun _ => 0), fun _ _ => 0), (fun t => t), (fun _ => 0), (fun _ => 0), 0, (fun _ => 0), (fun _ => 0), 0, 0))[t]? = some (t, ty)) (hD : DSC[i]? = some (.inr (t, n, k, g, a, b))) (hv : Int32.ofNat n = v) (hd : decode cc pc = .ok (.arraylength, 1))
    (h : gK E own cc nL ret R Sx Zf cs ss (pc + 1) lv (.int v :: st) M) : gK E own cc nL ret R Sx Zf cs ss pc lv (.ref (gla E i) :: st) M := by
  intro p l e s m args below meth c H locs ls F X9 C L
  exact va_alen (D := gD E) F.1 F.2.1 C.2.2.1 C.2.2.2.2.1 i t (gAll_at hD) (gTy_at ht) hv hd (h p l e s m args below meth c H locs ls F X9 C L)
end GR
theorem gtbl_good : ∀ w ∈ gtbl, (w.onTables && w.keeps) = true ∨ ∃ ty, w = .arrayClass ty := fun w hw => good_of_word (List.mem_filter.mp hw).2
/-- what the tables say of a callee -/
def gMt (y : MethodName) (cc : ByteArray) (nL : Nat) (ret : Option FieldType) : Prop := Cond.instanceMethod y ∈ gtbl ∧ Cond.selects y.cls y y ∈ gtbl ∧ Cond.initialized y.cls ∈ gtbl ∧ Cond.code y cc nL ret ∈ gtbl ∧ y.cls ≠ "java/lang/invoke/MethodHandle" ∧ y.cls ≠ "java/lang/invoke/VarHandle"
def gMs (y : MethodName) (cc : ByteArray) (nL : Nat) (ret : Option FieldType) : Prop := Cond.static y ∈ gtbl ∧ Cond.initialized y.cls ∈ gtbl ∧ Cond.code y cc nL ret ∈ gtbl ∧ y.cls ≠ "java/lang/invoke/MethodHandle" ∧ y.cls ≠ "java/lang/invoke/VarHandle"
theorem gGood {y : MethodName} {cc : ByteArray} {nL : Nat} {ret : Option FieldType} {s : State} {args : Array Value} (hts : ∀ w ∈ gtbl, w.before args s = true) (h : Cond.code y cc nL ret ∈ gtbl) : ∀ w ∈ (Cond.code y cc nL ret :: gtbl), ∀ (a' : Array Value) (U : State), s.WarmedH U.vm → w.before a' U = true :=
  pay_in hts (fun w hw => by
    rcases List.mem_cons.mp hw with rfl | hw
    · exact ⟨h, gtbl_good _ h⟩
    · exact ⟨hw, gtbl_good _ hw⟩)
section GC
variable {E : gE} {own : String} {cc : ByteArray} {nL : Nat} {ret : Option FieldType} {R : Room} {pc : Nat} {lv : List (Nat × Value)} {st : List Value} {M : gM} {Q : Option Value → gM → Prop} {Sx : State → MethodId → Code → Prop} {Zf : List Frame → Array Value → State → State → Prop} {cs ss : Nat}
variable {y : MethodName} {cc' : ByteArray} {nL' : Nat} {ret' : Option FieldType} {d n idx : Nat} {As : List Value} {Q' : Option Value → gM → Prop}
theorem gBlind {E : gE} {M : gM} {av : List Value} : FrameBlind (va_Pc av (fun U => gOK E ∧ gbs E ≤ U.heap.size ∧ va_K (gD E) vwCl (gTy E) U ∧ gT E U ∧ gR E M U.heap)) := by
  intro a U g mk q
  obtain ⟨q0, q1, q2, q3, q4, q5⟩ := q
  exact ⟨q0, q1, q2, va_K.moved (u := U) (U := U.calling g mk a) (Vm.Alike.refl U.vm) q3, gT.same q4 rfl rfl, q5⟩
theorem gPc {E : gE} {M : gM} {av : List Value} {s U : State} {H : Heap} {locs : List Loc} (C : gCx E M s H locs) (hU : U.heap = H) (hW : s.WarmedH U.vm) : va_Pc av (fun U => gOK E ∧ gbs E ≤ U.heap.size ∧ va_K (gD E) vwCl (gTy E) U ∧ gT E U ∧ gR E M U.heap) av.toArray U := by
  refine ⟨rfl, C.1, ?_, va_K.moved hW.alike C.2.2.1, gT.go C.2.2.2.1 C.2.2.2.2.2 hW hU, by rw [hU]; exact C.2.2.2.2.1⟩
  rw [hU]
  exact Nat.le_trans C.2.1 C.2.2.2.2.2.1
/-- behind a call -/
theorem gRun {p : Program} {l : Launch} {e : Env} {s : State} {m : MethodId} {args : Array Value} {below : List Frame} {meth : Method} {c : Code} {H : Heap} {locs : List Loc} {ls : Array Slot} {a : Array Value} {st0 : List Value}
    (hr : va_Run p l e R s m args below meth c H locs cs ss 0 0 (F0 m pc ls st0) st (gQ E Q' a) (gA E)) (F : gFx own cc nL ret p l s m args meth c) (X9 : Sx s m c) (C : gCx E M s H locs) (L : lv_has ls nL lv)
    (h : ∀ r N, Q' r N → gK E own cc nL ret R Sx Zf cs ss (pc + 3) lv (r.toList ++ st) N) : W p l e R s m args below meth c H locs cs ss (Zf below args s) (F0 m pc ls st0) := by
  intro T hT X
  obtain ⟨v, st₀, t, T', L', h0, X', hL, e1, e2, ⟨⟨r, N, hv, hq, hR⟩, hz, hk⟩, stp⟩ := hr T hT X
  cases hv
  rw [h0] at hz hk
  have hS := C.2.2.2.2.2
  have hS1 : va_S (gA E) s.heap T'.heap (locs ++ L') := ⟨Nat.le_trans hS.1 (by rw [e1]; exact hz), fun q h1 h2 => by rw [e1, hk q (Nat.lt_of_lt_of_le h1 hS.1) h2]; exact hS.2.1 q h1 h2, fun q hq => by
      rcases List.mem_append.mp hq with h | h
      · exact hS.2.2 q h
      · exact hL q h⟩
  obtain ⟨t2, a1, b1⟩ := h _ N hq p l e s m args below meth c T'.heap (locs ++ L') ls F X9 ⟨C.1, C.2.1, C.2.2.1, C.2.2.2.1, by rw [e1]; exact hR, hS1⟩ L T' rfl X'
  exact ⟨t2, stp t2 a1, b1⟩
theorem g_callV {ci : Nat} {sl : List gSD} {C0 : String} {T : u_T} {N : Nat} (i : Nat) (hC : gC E y cc' nL' ret' (rm d) (.ref (gla E i) :: As) M Q') (X : gMt y cc' nL' ret') (hl : Cond.methodLink own idx y ∈ gtbl) (hD : DSC[i]? = some (.inl (ci, sl))) (hc : vwCl[ci]? = some (C0, T, N)) (hy : y.cls = C0)
    (hsig : (parseMethodDescriptor y.desc).map (fun d => d.parameters.length) = some n) (hn : As.length = n) (hR : d + 1 ≤ R.frames ∧ 8 + (nL' + 11) + d * 64 ≤ R.locals ∧ cs ≤ R.cells ∧ ss ≤ R.slots) (hcat : (st.map fun v => v.category).sum ≤ 8) (hd : decode cc pc = .ok (.invokevirtual idx, 3))
    (h : ∀ r N, Q' r N → gK E own cc nL ret R Sx Zf cs ss (pc + 3) lv (r.toList ++ st) N) : gK E own cc nL ret R Sx Zf cs ss pc lv (As.reverse ++ .ref (gla E i) :: st) M := by
  intro p l e s m args below meth c H locs ls F X9 C L
  have hts := F.2.2.2.2.2.2.1
  obtain ⟨x1, x2, x3, x4, x5, x6⟩ := X
  subst hy
  refine gRun (va_runV (C := y.cls) (b := gla E i) (As := As) (n := n) ⟨F.1, F.2.1, F.2.2.2.1, F.2.2.2.2.1, hts⟩ (hC l F.2.2.2.2.2.2.2) ⟨⟨rfl, rfl, hR.1, hR.2.1, gGood hts x4, List.mem_cons_self, hts _ x4, hts _ x3, ⟨x5, x6⟩, fun sig hs => ?_, hts _ hl⟩, hts _ x1, hts _ x2⟩ ⟨gBlind, va_recv C.2.2.1 C.2.2.2.2.1 hc (gAll_at hD), fun U hU hW => gPc C hU hW⟩ rfl hn L.1 rfl (lv_room hcat) hd hR.2.2) F X9 C L h
  rw [hs] at hsig
  exact (Option.some.inj hsig).symm
theorem g_callS (hC : gC E y cc' nL' ret' (rm d) As M Q') (X : gMs y cc' nL' ret') (hl : Cond.methodLink own idx y ∈ gtbl)
    (hsig : (parseMethodDescriptor y.desc).map (fun d => d.parameters.length) = some n) (hn : As.length = n) (hR : d + 1 ≤ R.frames ∧ 8 + (nL' + 11) + d * 64 ≤ R.locals ∧ cs ≤ R.cells ∧ ss ≤ R.slots) (hcat : (st.map fun v => v.category).sum ≤ 8) (hd : decode cc pc = .ok (.invokestatic idx, 3))
    (h : ∀ r N, Q' r N → gK E own cc nL ret R Sx Zf cs ss (pc + 3) lv (r.toList ++ st) N) : gK E own cc nL ret R Sx Zf cs ss pc lv (As.reverse ++ st) M := by
  intro p l e s m args below meth c H locs ls F X9 C L
  have hts := F.2.2.2.2.2.2.1
  obtain ⟨x1, x3, x4, x5, x6⟩ := X
  refine gRun (va_runS (As := As) (n := n) ⟨F.1, F.2.1, F.2.2.2.1, F.2.2.2.2.1, hts⟩ (hC l F.2.2.2.2.2.2.2) ⟨⟨rfl, rfl, hR.1, hR.2.1, gGood hts x4, List.mem_cons_self, hts _ x4, hts _ x3, ⟨x5, x6⟩, fun sig hs => ?_, hts _ hl⟩, hts _ x1⟩ ⟨gBlind, fun U hU hW => gPc C hU hW⟩ rfl hn L.1 rfl (lv_room hcat) hd hR.2.2) F X9 C L h
  rw [hs] at hsig
  exact (Option.some.inj hsig).symm
end GC
section GX
variable {E : gE} {own : String} {cc : ByteArray} {nL : Nat} {ret : Option FieldType} {R : Room} {pc : Nat} {lv : List (Nat × Value)} {st : List Value} {M : gM} {Q : Option Value → gM → Prop} {Sx : State → MethodId → Code → Prop} {Zf : List Frame → Array Value → State → State → Prop} {cs ss : Nat}
theorem g_topI {x : Int32} (h : ∀ y, y = x → gK E own cc nL ret R Sx Zf cs ss pc lv (.int y :: st) M) : gK E own cc nL ret R Sx Zf cs ss pc lv (.int x :: st) M := h x rfl
theorem g_topJ {x : Int64} (h : ∀ y, y = x → gK E own cc nL ret R Sx Zf cs ss pc lv (.long y :: st) M) : gK E own cc nL ret R Sx Zf cs ss pc lv (.long x :: st) M := h x rfl
theorem ne_ti {x k : Int32} {z : Int} (h : ¬ x = k) (hz : k.toInt = z) : ¬ x.toInt = z := fun q => h (Int32.toInt_inj.mp (q.trans hz.symm))
theorem g_tin {dflt lo hi off z : Int} {offs : Array Int} {len : Nat} {x k : Int32} (tgt : Nat) (hx : x = k) (hd : decode cc pc = .ok (.tableswitch dflt lo hi offs, len)) (hz : k.toInt = z) (h1 : ¬ z < lo) (h2 : ¬ hi < z) (ho : offs[(z - lo).toNat]? = some off) (ht : (pc : Int) + off = (tgt : Int))
    (h : gK E own cc nL ret R Sx Zf cs ss tgt lv st M) : gK E own cc nL ret R Sx Zf cs ss pc lv (.int x :: st) M := by
  intro p l e s m args below meth c H locs ls F X9 C L
  subst hx
  subst hz
  exact lv_tableIn F.1 F.2.1 hd h1 h2 ho ht (h p l e s m args below meth c H locs ls F X9 C L)
theorem g_tdf {dflt lo hi : Int} {offs : Array Int} {len : Nat} {x : Int32} (tgt : Nat) (hd : decode cc pc = .ok (.tableswitch dflt lo hi offs, len)) (hx : lo ≤ x.toInt → x.toInt ≤ hi → offs[(x.toInt - lo).toNat]? = some dflt) (ht : (pc : Int) + dflt = (tgt : Int))
    (h : gK E own cc nL ret R Sx Zf cs ss tgt lv st M) : gK E own cc nL ret R Sx Zf cs ss pc lv (.int x :: st) M := by
  intro p l e s m args below meth c H locs ls F X9 C L
  by_cases h1 : x.toInt < lo
  · exact lv_tableOut F.1 F.2.1 hd (Or.inl h1) ht (h p l e s m args below meth c H locs ls F X9 C L)
  · by_cases h2 : hi < x.toInt
    · exact lv_tableOut F.1 F.2.1 hd (Or.inr h2) ht (h p l e s m args below meth c H locs ls F X9 C L)
    · exact lv_tableIn F.1 F.2.1 hd h1 h2 (hx (by omega) (by omega)) ht (h p l e s m args below meth c H locs ls F X9 C L)
end GX
/-- the loops' fuel: a number that nothing unfolds -/
noncomputable def FU : Nat := Classical.choose (⟨4096, rfl⟩ : ∃ n : Nat, n = 4096)
theorem FU_eq : FU = 4096 := Classical.choose_spec (⟨4096, rfl⟩ : ∃ n : Nat, n = 4096)
section GY
variable {E : gE} {own : String} {cc : ByteArray} {nL : Nat} {ret : Option FieldType} {R : Room} {pc : Nat} {lv : List (Nat × Value)} {st : List Value} {M : gM} {Q : Option Value → gM → Prop} {Sx : State → MethodId → Code → Prop} {Zf : List Frame → Array Value → State → State → Prop} {cs ss : Nat}
theorem g_tok {idx : Nat} (i : Nat) (hi : i < 26) (hw : Cond.fieldLink own idx "WillDeposit$Token" (tokNm.getD i "") "LWillDeposit$Token;" ∈ gtbl) (hd : decode cc pc = .ok (.getstatic idx, 3)) (h : gK E own cc nL ret R Sx Zf cs ss (pc + 3) lv (.ref (gad E i) :: st) M) : gK E own cc nL ret R Sx Zf cs ss pc lv st M := by
  intro p l e s m args below meth c H locs ls F X9 C L
  exact va_gets F.1 F.2.1 (C.2.2.2.1.1.1 i hi).1 C.2.2.2.2.2 F.2.2.2.2.1 (F.2.2.2.2.2.2.1 _ hw) (fun _ h => h) hd (h p l e s m args below meth c H locs ls F X9 C L)
theorem g_toks {idx : Nat} (ho : own = "WillDeposit$Tokens") (hi : idx = 81) (hd : decode cc pc = .ok (.getstatic idx, 3)) (h : gK E own cc nL ret R Sx Zf cs ss (pc + 3) lv (.ref (gstTK E) :: st) M) : gK E own cc nL ret R Sx Zf cs ss pc lv st M := by
  intro p l e s m args below meth c H locs ls F X9 C L
  subst ho
  subst hi
  exact va_getsN F.1 F.2.1 C.2.2.2.1.1.2.1.1 C.2.2.2.2.2 F.2.2.2.2.1 (va_Nw.use rfl C.2.2.2.1.2.2.2.2.2.1) (fun _ h => h) hd (h p l e s m args below meth c H locs ls F X9 C L)
theorem g_sw {idx : Nat} (hw : Cond.fieldLink own idx "WillDeposit$1" "$SwitchMap$WillDeposit$Token" "[I" ∈ gtbl) (hd : decode cc pc = .ok (.getstatic idx, 3)) (h : gK E own cc nL ret R Sx Zf cs ss (pc + 3) lv (.ref (gstSW E) :: st) M) : gK E own cc nL ret R Sx Zf cs ss pc lv st M := by
  intro p l e s m args below meth c H locs ls F X9 C L
  exact va_gets F.1 F.2.1 C.2.2.2.1.1.2.2.1.1 C.2.2.2.2.2 F.2.2.2.2.1 (F.2.2.2.2.2.2.1 _ hw) (fun _ h => h) hd (h p l e s m args below meth c H locs ls F X9 C L)
theorem g_cs {idx : Nat} (hw : Cond.fieldLink own idx "java/lang/String" "COMPACT_STRINGS" "Z" ∈ gtbl) (hd : decode cc pc = .ok (.getstatic idx, 3)) (h : gK E own cc nL ret R Sx Zf cs ss (pc + 3) lv (.int 1 :: st) M) : gK E own cc nL ret R Sx Zf cs ss pc lv st M := by
  intro p l e s m args below meth c H locs ls F X9 C L
  exact va_gets F.1 F.2.1 C.2.2.2.1.1.2.2.2.2.1 C.2.2.2.2.2 F.2.2.2.2.1 (F.2.2.2.2.2.2.1 _ hw) (fun _ h => h) hd (h p l e s m args below meth c H locs ls F X9 C L)
theorem g_tklen (hd : decode cc pc = .ok (.arraylength, 1)) (h : gK E own cc nL ret R Sx Zf cs ss (pc + 1) lv (.int 26 :: st) M) : gK E own cc nL ret R Sx Zf cs ss pc lv (.ref (gstTK E) :: st) M := by
  intro p l e s m args below meth c H locs ls F X9 C L
  exact va_tlen F.1 F.2.1 C.2.2.2.1.1.2.1.2 C.2.2.2.2.2 (v := 26) (by decide) hd (h p l e s m args below meth c H locs ls F X9 C L)
theorem g_tkald {x : Int32} (hin : vp_in x 26) (hd : decode cc pc = .ok (.aaload, 1)) (h : gK E own cc nL ret R Sx Zf cs ss (pc + 1) lv (.ref (gad E (nn x)) :: st) M) : gK E own cc nL ret R Sx Zf cs ss pc lv (.int x :: .ref (gstTK E) :: st) M := by
  intro p l e s m args below meth c H locs ls F X9 C L
  exact vb_tq F.1 F.2.1 C.2.2.2.1.1.2.1.2 C.2.2.2.2.2 hin rfl hd (h p l e s m args below meth c H locs ls F X9 C L)
theorem g_swald {x : Int32} (hin : vp_in x 26) (hd : decode cc pc = .ok (.iaload, 1)) (h : gK E own cc nL ret R Sx Zf cs ss (pc + 1) lv (.int (swm (nn x)) :: st) M) : gK E own cc nL ret R Sx Zf cs ss pc lv (.int x :: .ref (gstSW E) :: st) M := by
  intro p l e s m args below meth c H locs ls F X9 C L
  exact va_ti F.1 F.2.1 C.2.2.2.1.1.2.2.1.2 C.2.2.2.2.2 hin rfl hd (h p l e s m args below meth c H locs ls F X9 C L)
theorem g_letters {idx i : Nat} (hi : i < 26) (hw : Cond.fieldLink own idx "WillDeposit$Token" "letters" "Ljava/lang/String;" ∈ gtbl) (hd : decode cc pc = .ok (.getfield idx, 3)) (h : gK E own cc nL ret R Sx Zf cs ss (pc + 3) lv (.ref (gstr E (letIx i)) :: st) M) : gK E own cc nL ret R Sx Zf cs ss pc lv (.ref (gad E i) :: st) M := by
  intro p l e s m args below meth c H locs ls F X9 C L
  exact vk_getf F.1 F.2.1 (C.2.2.2.1.1.1 i hi).2.2.2 C.2.2.2.2.2 F.2.2.2.2.1 (F.2.2.2.2.2.2.1 _ hw) (fun _ h => h) hd (h p l e s m args below meth c H locs ls F X9 C L)
theorem g_ordf {idx i : Nat} (hi : i < 26) (hw : Cond.fieldLink own idx "java/lang/Enum" "ordinal" "I" ∈ gtbl) (hd : decode cc pc = .ok (.getfield idx, 3)) (h : gK E own cc nL ret R Sx Zf cs ss (pc + 3) lv (.int (nI i) :: st) M) : gK E own cc nL ret R Sx Zf cs ss pc lv (.ref (gad E i) :: st) M := by
  intro p l e s m args below meth c H locs ls F X9 C L
  exact vk_getf F.1 F.2.1 (C.2.2.2.1.1.1 i hi).2.2.1 C.2.2.2.2.2 F.2.2.2.2.1 (F.2.2.2.2.2.2.1 _ hw) (fun _ h => h) hd (h p l e s m args below meth c H locs ls F X9 C L)
theorem g_scoder {idx i : Nat} (hi : i < 23) (hw : Cond.fieldLink own idx "java/lang/String" "coder" "B" ∈ gtbl) (hd : decode cc pc = .ok (.getfield idx, 3)) (h : gK E own cc nL ret R Sx Zf cs ss (pc + 3) lv (.int 0 :: st) M) : gK E own cc nL ret R Sx Zf cs ss pc lv (.ref (gstr E i) :: st) M := by
  intro p l e s m args below meth c H locs ls F X9 C L
  exact vk_getf F.1 F.2.1 (C.2.2.2.1.1.2.2.2.1 i hi).2.1 C.2.2.2.2.2 F.2.2.2.2.1 (F.2.2.2.2.2.2.1 _ hw) (fun _ h => h) hd (h p l e s m args below meth c H locs ls F X9 C L)
theorem g_svalue {idx i : Nat} (hi : i < 23) (hw : Cond.fieldLink own idx "java/lang/String" "value" "[B" ∈ gtbl) (hd : decode cc pc = .ok (.getfield idx, 3)) (h : gK E own cc nL ret R Sx Zf cs ss (pc + 3) lv (.ref (gstv E i) :: st) M) : gK E own cc nL ret R Sx Zf cs ss pc lv (.ref (gstr E i) :: st) M := by
  intro p l e s m args below meth c H locs ls F X9 C L
  exact vk_getf F.1 F.2.1 (C.2.2.2.1.1.2.2.2.1 i hi).2.2.1 C.2.2.2.2.2 F.2.2.2.2.1 (F.2.2.2.2.2.2.1 _ hw) (fun _ h => h) hd (h p l e s m args below meth c H locs ls F X9 C L)
theorem g_svlen {i : Nat} (hi : i < 23) (hd : decode cc pc = .ok (.arraylength, 1)) (h : gK E own cc nL ret R Sx Zf cs ss (pc + 1) lv (.int (nI (strL i)) :: st) M) : gK E own cc nL ret R Sx Zf cs ss pc lv (.ref (gstv E i) :: st) M := by
  intro p l e s m args below meth c H locs ls F X9 C L
  exact va_tlen F.1 F.2.1 (C.2.2.2.1.1.2.2.2.1 i hi).2.2.2 C.2.2.2.2.2 (v := nI (strL i)) rfl hd (h p l e s m args below meth c H locs ls F X9 C L)
theorem g_svald {i : Nat} {x : Int32} (hi : i < 23) (hin : vp_in x (strL i)) (hd : decode cc pc = .ok (.baload, 1)) (h : gK E own cc nL ret R Sx Zf cs ss (pc + 1) lv (.int (strB i (nn x)) :: st) M) : gK E own cc nL ret R Sx Zf cs ss pc lv (.int x :: .ref (gstv E i) :: st) M := by
  intro p l e s m args below meth c H locs ls F X9 C L
  exact va_tb F.1 F.2.1 (C.2.2.2.1.1.2.2.2.1 i hi).2.2.2 C.2.2.2.2.2 hin rfl hd (h p l e s m args below meth c H locs ls F X9 C L)
theorem g_ldcW {idx : Nat} (ho : own = "WillDepositModel") (hi : idx = 100) (hd : decode cc pc = .ok (.ldc idx, 2)) (h : gK E own cc nL ret R Sx Zf cs ss (pc + 2) lv (.ref (gstr E 22) :: st) M) : gK E own cc nL ret R Sx Zf cs ss pc lv st M := by
  intro p l e s m args below meth c H locs ls F X9 C L
  subst ho
  subst hi
  exact va_ldcS F.1 F.2.1 F.2.2.2.2.1 C.2.2.2.1.2.1 hd (h p l e s m args below meth c H locs ls F X9 C L)
theorem g_inj {s : State} {i j : Nat} (h : gT E s) (hi : i < 26) (hj : j < 26) (he : gad E i = gad E j) : i = j := by
  obtain ⟨cf, k, fi, f, cell, h1, h2, h3, h4, h5, h6⟩ := (h.1.1 i hi).2.2.1
  obtain ⟨cf', k', fi', f', cell', g1, g2, g3, g4, g5, g6⟩ := (h.1.1 j hj).2.2.1
  rw [he] at h3
  cases h1.symm.trans g1
  cases h3.symm.trans g3
  have h7 := Option.some.inj (h5.symm.trans g5)
  injection h7 with h7
  exact (nI_eq (by omega) (by omega)).mp h7
theorem g_acmp_eq {i j : Nat} {off : Int} (tgt : Nat) (hi : i < 26) (hj : j < 26) (hd : decode cc pc = .ok (.if_acmp .eq off, 3)) (ht : (pc : Int) + off = (tgt : Int)) (kt : i = j → gK E own cc nL ret R Sx Zf cs ss tgt lv st M) (kf : ¬ i = j → gK E own cc nL ret R Sx Zf cs ss (pc + 3) lv st M) : gK E own cc nL ret R Sx Zf cs ss pc lv (.ref (gad E j) :: .ref (gad E i) :: st) M := by
  intro p l e s m args below meth c H locs ls F X9 C L
  exact lv_acmp_eq (rx := some (gad E i)) (ry := some (gad E j)) F.1 F.2.1 hd ht (fun q => kt (g_inj C.2.2.2.1 hi hj (Option.some.inj q)) p l e s m args below meth c H locs ls F X9 C L) (fun q => kf (fun e1 => q (by rw [e1])) p l e s m args below meth c H locs ls F X9 C L)
theorem g_acmp_ne {i j : Nat} {off : Int} (tgt : Nat) (hi : i < 26) (hj : j < 26) (hd : decode cc pc = .ok (.if_acmp .ne off, 3)) (ht : (pc : Int) + off = (tgt : Int)) (kt : ¬ i = j → gK E own cc nL ret R Sx Zf cs ss tgt lv st M) (kf : i = j → gK E own cc nL ret R Sx Zf cs ss (pc + 3) lv st M) : gK E own cc nL ret R Sx Zf cs ss pc lv (.ref (gad E j) :: .ref (gad E i) :: st) M := by
  intro p l e s m args below meth c H locs ls F X9 C L
  exact lv_acmp_ne (rx := some (gad E i)) (ry := some (gad E j)) F.1 F.2.1 hd ht (fun q => kt (fun e1 => q (by rw [e1])) p l e s m args below meth c H locs ls F X9 C L) (fun q => kf (g_inj C.2.2.2.1 hi hj (Option.some.inj q)) p l e s m args below meth c H locs ls F X9 C L)
theorem gAll_arrE {M : gM} {i t n g a b : Nat} {o : Nat} {j : Nat} (ho : o < 26) (hD : DSC[i]? = some (.inr (t, n, 3, g, a, b))) : (gAll E M).set i (gla E i, .inl (gcA E t, n, .inr (.inr (.inr (.inr (va_up (fun c' => some (gad E (nn (rdI M g a b c')))) j (some (gad E o)))))))) = gAll E (wrI M g a b j (nI o)) := by
  refine gAll_set hD ?_ (fun g' a' b' c2 h => rdI_wr_ne (by rw [gOw_arr hD (by decide)]; exact h)) (fun _ _ _ _ _ => rfl)
  have h1 : (va_up (fun c' => some (gad E (nn (rdI M g a b c')))) j (some (gad E o))) = (fun c' => some (gad E (nn (rdI (wrI M g a b j (nI o)) g a b c')))) := by
    funext c'
    unfold va_up rdI wrI
    by_cases hc : c' = j
    · simp only [hc, and_self, if_true]
      rw [show nn (nI o) = o from nI_clamp (by omega)]
    · simp only [hc, and_false, if_false]
  rw [h1]
  rfl
theorem g_east {n g a b o : Nat} {x : Int32} (i : Nat) (ho : o < 26) (hD : DSC[i]? = some (.inr (8, n, 3, g, a, b))) (hin : vp_in x n) (hd : decode cc pc = .ok (.aastore, 1))
    (h : ∀ M1, M1 = wrI M g a b (nn x) (nI o) → gK E own cc nL ret R Sx Zf cs ss (pc + 1) lv st M1) : gK E own cc nL ret R Sx Zf cs ss pc lv (.ref (gad E o) :: .int x :: .ref (gla E i) :: st) M := by
  intro p l e s m args below meth c H locs ls F X9 C L
  have hr : ∃ cellV : Cell, H[gad E o]? = some cellV ∧ cellV.vm.isStatics = false ∧ s.vm.findClass "WillDeposit$Token" = some cellV.cls := by
    obtain ⟨cell, h1, h2, h3, -⟩ := (C.2.2.2.1.1.1 o ho).2.1.kept C.2.2.2.2.2.2.1
    exact ⟨cell, h1, h2, h3⟩
  refine vb_astq (D := gD E) (E := "WillDeposit$Token") (C := "WillDeposit$Token") F.1 F.2.1 C.2.2.1 C.2.2.2.2.1 (gAll_D C.1) C.2.2.2.2.2 i 8 (gAll_at hD) rfl hr vb_asgS hin hd (fun H1 locs1 hP hD1 hS => ?_)
  rw [show (gAll E M).set i (gla E i, .inl (gcA E 8, n, .inr (.inr (.inr (.inr (va_up (fun c' => some (gad E (nn (rdI M g a b c')))) x.toNatClampNeg (some (gad E o)))))))) = _ from gAll_arrE ho hD] at hP
  exact h _ rfl p l e s m args below meth c H1 locs1 ls F X9 ⟨C.1, C.2.1, C.2.2.1, C.2.2.2.1, hP, hS⟩ L
end GY
section GZ
variable {E : gE} {own : String} {cc : ByteArray} {nL : Nat} {ret : Option FieldType} {R : Room} {pc : Nat} {lv : List (Nat × Value)} {st : List Value} {M : gM} {Q : Option Value → gM → Prop} {Sx : State → MethodId → Code → Prop} {Zf : List Frame → Array Value → State → State → Prop} {cs ss : Nat}
variable {y : MethodName} {cc' : ByteArray} {nL' : Nat} {ret' : Option FieldType} {d n idx : Nat} {As : List Value} {Q' : Option Value → gM → Prop}
/-- a call on a text constant -/
theorem g_callT (i : Nat) (hi : i < 23) (hC : gC E y cc' nL' ret' (rm d) (.ref (gstr E i) :: As) M Q') (X : gMt y cc' nL' ret') (hl : Cond.methodLink own idx y ∈ gtbl) (hy : y.cls = "java/lang/String")
    (hsig : (parseMethodDescriptor y.desc).map (fun d => d.parameters.length) = some n) (hn : As.length = n) (hR : d + 1 ≤ R.frames ∧ 8 + (nL' + 11) + d * 64 ≤ R.locals ∧ cs ≤ R.cells ∧ ss ≤ R.slots) (hcat : (st.map fun v => v.category).sum ≤ 8) (hd : decode cc pc = .ok (.invokevirtual idx, 3))
    (h : ∀ r N, Q' r N → gK E own cc nL ret R Sx Zf cs ss (pc + 3) lv (r.toList ++ st) N) : gK E own cc nL ret R Sx Zf cs ss pc lv (As.reverse ++ .ref (gstr E i) :: st) M := by
  intro p l e s m args below meth c H locs ls F X9 C L
  have hts := F.2.2.2.2.2.2.1
  obtain ⟨x1, x2, x3, x4, x5, x6⟩ := X
  have hr : ∃ cellV : Cell, H[gstr E i]? = some cellV ∧ cellV.vm.isStatics = false ∧ s.vm.findClass y.cls = some cellV.cls := by
    obtain ⟨cell, h1, h2, h3, -⟩ := (C.2.2.2.1.1.2.2.2.1 i hi).1.kept C.2.2.2.2.2.2.1
    exact ⟨cell, h1, h2, by rw [hy]; exact h3⟩
  refine gRun (va_runV (C := y.cls) (b := gstr E i) (As := As) (n := n) ⟨F.1, F.2.1, F.2.2.2.1, F.2.2.2.2.1, hts⟩ (hC l F.2.2.2.2.2.2.2) ⟨⟨rfl, rfl, hR.1, hR.2.1, gGood hts x4, List.mem_cons_self, hts _ x4, hts _ x3, ⟨x5, x6⟩, fun sig hs => ?_, hts _ hl⟩, hts _ x1, hts _ x2⟩ ⟨gBlind, hr, fun U hU hW => gPc C hU hW⟩ rfl hn L.1 rfl (lv_room hcat) hd hR.2.2) F X9 C L h
  rw [hs] at hsig
  exact (Option.some.inj hsig).symm
/-- a call of the inherited ordinal() -/
theorem g_callO {x : MethodName} (i : Nat) (hi : i < 26) (hC : gC E y cc' nL' ret' (rm d) [.ref (gad E i)] M Q') (hx : x.cls = "WillDeposit$Token") (hy : y = ⟨"java/lang/Enum", x.name, x.desc⟩)
    (hl : Cond.methodLink own idx x ∈ gtbl) (h1 : Cond.sameMethod x.cls "java/lang/Enum" x.name x.desc ∈ gtbl) (h2 : Cond.selects "WillDeposit$Token" x y ∈ gtbl) (h3 : Cond.instanceMethod y ∈ gtbl) (h4 : Cond.initialized y.cls ∈ gtbl) (h5 : Cond.code y cc' nL' ret' ∈ gtbl)
    (hsig : (parseMethodDescriptor x.desc).map (fun d => d.parameters.length) = some 0) (hR : d + 1 ≤ R.frames ∧ 8 + (nL' + 11) + d * 64 ≤ R.locals ∧ cs ≤ R.cells ∧ ss ≤ R.slots) (hcat : (st.map fun v => v.category).sum ≤ 8) (hd : decode cc pc = .ok (.invokevirtual idx, 3))
    (h : ∀ r N, Q' r N → gK E own cc nL ret R Sx Zf cs ss (pc + 3) lv (r.toList ++ st) N) : gK E own cc nL ret R Sx Zf cs ss pc lv (.ref (gad E i) :: st) M := by
  intro p l e s m args below meth c H locs ls F X9 C L
  have hts := F.2.2.2.2.2.2.1
  have hr : ∃ cellV : Cell, H[gad E i]? = some cellV ∧ cellV.vm.isStatics = false ∧ s.vm.findClass "WillDeposit$Token" = some cellV.cls := by
    obtain ⟨cell, g1, g2, g3, -⟩ := (C.2.2.2.1.1.1 i hi).2.1.kept C.2.2.2.2.2.2.1
    exact ⟨cell, g1, g2, g3⟩
  refine gRun (va_runU (C := "WillDeposit$Token") (owner := "java/lang/Enum") (x := x) (b := gad E i) (As := []) (n := 0) ⟨F.1, F.2.1, F.2.2.2.1, F.2.2.2.2.1, hts⟩ (hC l F.2.2.2.2.2.2.2)
    ⟨⟨rfl, rfl, hR.1, hR.2.1, gGood hts h5, List.mem_cons_self⟩, hts _ h5, hts _ h4, ⟨by decide, by decide⟩, fun sig hs => ?_, hts _ hl, hts _ h1, by rw [← hy]; exact va_Decl.of (hts _ h3) (hts _ h5), hts _ h2, hts _ h3⟩ ⟨gBlind, hr, fun U hU hW => gPc C hU hW⟩ rfl rfl L.1 rfl (lv_room hcat) hd hR.2.2) F X9 C L h
  rw [hs] at hsig
  exact (Option.some.inj hsig).symm
theorem g_cret {v : Int32} (hret : ret = some .char) (hv : narrow .char (.int v) = .int v) (hd : decode cc pc = .ok (.ireturn, 1)) (h : Q (some (.int v)) M) : gG E own cc nL ret R pc lv [.int v] M Q := by
  intro p l e s m args below meth c H locs ls F _ C L
  exact W.zret F.1 F.2.1 (F.2.2.1.trans hret) hv (fun t ht _ => ⟨⟨_, M, rfl, h, by rw [ht]; exact C.2.2.2.2.1⟩, C.2.2.2.2.2.F ht⟩) C.2.2.2.2.2.2.2 hd F.2.2.2.2.2.1
theorem g_byret {v : Int32} (hret : ret = some .byte) (hv : narrow .byte (.int v) = .int v) (hd : decode cc pc = .ok (.ireturn, 1)) (h : Q (some (.int v)) M) : gG E own cc nL ret R pc lv [.int v] M Q := by
  intro p l e s m args below meth c H locs ls F _ C L
  exact W.zret F.1 F.2.1 (F.2.2.1.trans hret) hv (fun t ht _ => ⟨⟨_, M, rfl, h, by rw [ht]; exact C.2.2.2.2.1⟩, C.2.2.2.2.2.F ht⟩) C.2.2.2.2.2.2.2 hd F.2.2.2.2.2.1
end GZ
section GV
variable {E : gE} {own : String} {cc : ByteArray} {nL : Nat} {ret : Option FieldType} {R : Room} {pc : Nat} {lv : List (Nat × Value)} {st : List Value} {M : gM} {Q : Option Value → gM → Prop} {Sx : State → MethodId → Code → Prop} {Zf : List Frame → Array Value → State → State → Prop} {cs ss : Nat}
abbrev nC (x : Int32) : Int32 := (x.toUInt32 % 65536).toInt32
theorem g_i2c {x : Int32} (hd : decode cc pc = .ok (.i2c, 1)) (h : gK E own cc nL ret R Sx Zf cs ss (pc + 1) lv (.int (nC x) :: st) M) : gK E own cc nL ret R Sx Zf cs ss pc lv (.int x :: st) M := by
  intro p l e s m args below meth c H locs ls F X9 C L
  exact lv_i2c F.1 F.2.1 hd rfl (h p l e s m args below meth c H locs ls F X9 C L)
end GV
section GU
variable {E : gE} {own : String} {cc : ByteArray} {nL : Nat} {ret : Option FieldType} {R : Room} {pc : Nat} {lv : List (Nat × Value)} {st : List Value} {M : gM} {Q : Option Value → gM → Prop} {Sx : State → MethodId → Code → Prop} {Zf : List Frame → Array Value → State → State → Prop} {cs ss : Nat}
theorem g_siob {idx : Nat} (hw : Cond.fieldLink own idx "jdk/internal/util/Preconditions" "SIOOBE_FORMATTER" "Ljava/util/function/BiFunction;" ∈ gtbl) (hd : decode cc pc = .ok (.getstatic idx, 3)) (h : ∀ v : Value, (v = .null ∨ ∃ a, v = .ref a) → gK E own cc nL ret R Sx Zf cs ss (pc + 3) lv (v :: st) M) : gK E own cc nL ret R Sx Zf cs ss pc lv st M := by
  intro p l e s m args below meth c H locs ls F X9 C L
  rcases C.2.2.2.1.1.2.2.2.2.2.1 with z | ⟨t, z⟩
  · exact va_gets F.1 F.2.1 z C.2.2.2.2.2 F.2.2.2.2.1 (F.2.2.2.2.2.2.1 _ hw) (fun _ h => h) hd (h _ (Or.inl rfl) p l e s m args below meth c H locs ls F X9 C L)
  · exact va_gets F.1 F.2.1 z C.2.2.2.2.2 F.2.2.2.2.1 (F.2.2.2.2.2.2.1 _ hw) (fun _ h => h) hd (h _ (Or.inr ⟨t, rfl⟩) p l e s m args below meth c H locs ls F X9 C L)
theorem rmR {d d' n : Nat} (h : d' + 1 ≤ d) (hn : n ≤ 45) : d' + 1 ≤ (rm d).frames ∧ 8 + (n + 11) + d' * 64 ≤ (rm d).locals ∧ 0 ≤ (rm d).cells ∧ 0 ≤ (rm d).slots := ⟨h, by show 8 + (n + 11) + d' * 64 ≤ d * 64; omega, Nat.zero_le _, Nat.zero_le _⟩
end GU
/-- nothing is written but in the groups W -/
def offW (W : List Nat) (M N : gM) : Prop := ∀ g a b c : Nat, g ∉ W → rdI N g a b c = rdI M g a b c ∧ rdJ N g a b c = rdJ M g a b c
theorem offR {W : List Nat} {M : gM} : offW W M M := fun _ _ _ _ _ => ⟨rfl, rfl⟩
theorem offW.tr {W : List Nat} {M N O : gM} (h : offW W M N) (k : offW W N O) : offW W M O := fun g a b c q => ⟨((k g a b c q).1).trans (h g a b c q).1, ((k g a b c q).2).trans (h g a b c q).2⟩
theorem offW.mono {W W' : List Nat} {M N : gM} (h : offW W' M N) (k : W'.all (fun g => W.contains g) = true) : offW W M N := fun g a b c q => h g a b c (fun z => q (by simpa using List.all_eq_true.mp k g z))
theorem offW.wI {W : List Nat} {M N : gM} {g a b c : Nat} {v : Int32} (h : offW W M N) (k : g ∈ W) : offW W M (wrI N g a b c v) := fun g' a' b' c' q => ⟨by
  rw [← (h g' a' b' c' q).1]
  unfold rdI wrI
  exact if_neg fun z => q (by rw [z.1]; exact k), (h g' a' b' c' q).2⟩
theorem offW.wJ {W : List Nat} {M N : gM} {g a b c : Nat} {v : Int64} (h : offW W M N) (k : g ∈ W) : offW W M (wrJ N g a b c v) := fun g' a' b' c' q => ⟨(h g' a' b' c' q).1, by
  rw [← (h g' a' b' c' q).2]
  unfold rdJ wrJ
  exact if_neg fun z => q (by rw [z.1]; exact k)⟩
theorem offB {W : List Nat} {M e : gM} {k : gM → gM} (h : offW W M e) (kk : ∀ z, offW W M z → offW W M (k z)) : offW W M (bnd e k) := kk e h
theorem offB2 {β : Type} {W : List Nat} {M e : gM} {k : gM → β × gM} (h : offW W M e) (kk : ∀ z, offW W M z → offW W M (k z).2) : offW W M (bnd e k).2 := kk e h
theorem offZ {α : Type} {W : List Nat} {M : gM} {e : α × gM} {k : α × gM → gM} (h : offW W M e.2) (kk : ∀ z, offW W M z.2 → offW W M (k z)) : offW W M (bnd e k) := kk e h
theorem offZ2 {α β : Type} {W : List Nat} {M : gM} {e : α × gM} {k : α × gM → β × gM} (h : offW W M e.2) (kk : ∀ z, offW W M z.2 → offW W M (k z).2) : offW W M (bnd e k).2 := kk e h
theorem offV {α : Type} {W : List Nat} {M : gM} {e : α} {k : α → gM} (kk : ∀ z, offW W M (k z)) : offW W M (bnd e k) := kk e
theorem offV2 {α β : Type} {W : List Nat} {M : gM} {e : α} {k : α → β × gM} (kk : ∀ z, offW W M (k z).2) : offW W M (bnd e k).2 := kk e
theorem offI {W : List Nat} {M : gM} {c : Prop} [Decidable c] {a b : gM} (h1 : offW W M a) (h2 : offW W M b) : offW W M (if c then a else b) := by split <;> assumption
theorem offI2 {β : Type} {W : List Nat} {M : gM} {c : Prop} [Decidable c] {a b : β × gM} (h1 : offW W M a.2) (h2 : offW W M b.2) : offW W M (if c then a else b).2 := by split <;> assumption
abbrev mn (x y : Int32) : Int32 := if y < x then y else x
abbrev mx (x y : Int32) : Int32 := if x < y then y else x
section GM
variable {E : gE} {own : String} {cc : ByteArray} {nL : Nat} {ret : Option FieldType} {R : Room} {pc : Nat} {lv : List (Nat × Value)} {st : List Value} {M : gM} {Q : Option Value → gM → Prop} {Sx : State → MethodId → Code → Prop} {Zf : List Frame → Array Value → State → State → Prop} {cs ss : Nat}
theorem g_mmin {idx : Nat} {x y : Int32} (hl : Cond.methodLink own idx Lib.Math.min.name ∈ gtbl) (hs : Cond.static Lib.Math.min.name ∈ gtbl) (hi : Cond.initialized "java/lang/Math" ∈ gtbl) (hc : Cond.code Lib.Math.min.name Lib.Math.min.code 2 (some .int) ∈ gtbl) (hR : 1 ≤ R.frames ∧ (st.map fun v => v.category).sum + 13 ≤ R.locals ∧ cs ≤ R.cells ∧ ss ≤ R.slots) (hd : decode cc pc = .ok (.invokestatic idx, 3))
    (h : gK E own cc nL ret R Sx Zf cs ss (pc + 3) lv (.int (mn x y) :: st) M) : gK E own cc nL ret R Sx Zf cs ss pc lv (.int y :: .int x :: st) M := by
  intro p l e s m args below meth c H locs ls F X9 C L
  have hts := F.2.2.2.2.2.2.1
  exact va_mmin F.1 F.2.1 (F.2.2.2.1.trans L.1.symm) F.2.2.2.2.1 (hts _ hl) (hts _ hs) (hts _ hi) (hts _ hc) hR.1 hR.2.1 hR.2.2.1 hR.2.2.2 hd (h p l e s m args below meth c H locs ls F X9 C L)
theorem g_mmax {idx : Nat} {x y : Int32} (hl : Cond.methodLink own idx Lib.Math.max.name ∈ gtbl) (hs : Cond.static Lib.Math.max.name ∈ gtbl) (hi : Cond.initialized "java/lang/Math" ∈ gtbl) (hc : Cond.code Lib.Math.max.name Lib.Math.max.code 2 (some .int) ∈ gtbl) (hR : 1 ≤ R.frames ∧ (st.map fun v => v.category).sum + 13 ≤ R.locals ∧ cs ≤ R.cells ∧ ss ≤ R.slots) (hd : decode cc pc = .ok (.invokestatic idx, 3))
    (h : gK E own cc nL ret R Sx Zf cs ss (pc + 3) lv (.int (mx x y) :: st) M) : gK E own cc nL ret R Sx Zf cs ss pc lv (.int y :: .int x :: st) M := by
  intro p l e s m args below meth c H locs ls F X9 C L
  have hts := F.2.2.2.2.2.2.1
  exact va_mmax F.1 F.2.1 (F.2.2.2.1.trans L.1.symm) F.2.2.2.2.1 (hts _ hl) (hts _ hs) (hts _ hi) (hts _ hc) hR.1 hR.2.1 hR.2.2.1 hR.2.2.2 hd (h p l e s m args below meth c H locs ls F X9 C L)
end GM
theorem g_ldcw {E : gE} {own : String} {cc : ByteArray} {nL : Nat} {ret : Option FieldType} {R : Room} {pc : Nat} {lv : List (Nat × Value)} {st : List Value} {M : gM} {Sx : State → MethodId → Code → Prop} {Zf : List Frame → Array Value → State → State → Prop} {cs ss : Nat} {index : Nat} {v : Int32} (hw : Cond.constant own index v ∈ gtbl) (hd : decode cc pc = .ok (.ldc_w index, 3)) (h : gK E own cc nL ret R Sx Zf cs ss (pc + 3) lv (.int v :: st) M) : gK E own cc nL ret R Sx Zf cs ss pc lv st M := by
  intro p l e s m args below meth c H locs ls F X9 C L
  exact lv_ldcw F.1 F.2.1 F.2.2.2.2.1 (F.2.2.2.2.2.2.1 _ hw) hd (h p l e s m args below meth c H locs ls F X9 C L)
section GLS
variable {E : gE} {own : String} {cc : ByteArray} {nL : Nat} {ret : Option FieldType} {R : Room} {pc : Nat} {lv : List (Nat × Value)} {st : List Value} {M : gM} {Q : Option Value → gM → Prop} {Sx : State → MethodId → Code → Prop} {Zf : List Frame → Array Value → State → State → Prop} {cs ss : Nat}
theorem g_lsw {dflt off z : Int} {ps : Array (Int × Int)} {len : Nat} {x k : Int32} (tgt : Nat) (hx : x = k) (hd : decode cc pc = .ok (.lookupswitch dflt ps, len)) (hz : k.toInt = z) (hp : (ps.toList.zip (ps.toList.drop 1)).all (fun (a, next) => a.1 < next.1) = true) (ho : Op.lookupswitch.offset ps.toList dflt z = off) (ht : (pc : Int) + off = (tgt : Int))
    (h : gK E own cc nL ret R Sx Zf cs ss tgt lv st M) : gK E own cc nL ret R Sx Zf cs ss pc lv (.int x :: st) M := by
  intro p l e s m args below meth c H locs ls F X9 C L
  subst hx
  subst hz
  exact lv_lookup F.1 F.2.1 hd hp ho ht (h p l e s m args below meth c H locs ls F X9 C L)
theorem g_lsd {dflt : Int} {ps : Array (Int × Int)} {len : Nat} {x : Int32} (tgt : Nat) (hd : decode cc pc = .ok (.lookupswitch dflt ps, len)) (hp : (ps.toList.zip (ps.toList.drop 1)).all (fun (a, next) => a.1 < next.1) = true) (ho : Op.lookupswitch.offset ps.toList dflt x.toInt = dflt) (ht : (pc : Int) + dflt = (tgt : Int))
    (h : gK E own cc nL ret R Sx Zf cs ss tgt lv st M) : gK E own cc nL ret R Sx Zf cs ss pc lv (.int x :: st) M := by
  intro p l e s m args below meth c H locs ls F X9 C L
  exact lv_lookup F.1 F.2.1 hd hp ho ht (h p l e s m args below meth c H locs ls F X9 C L)
theorem lso_nil {d k : Int} : Op.lookupswitch.offset [] d k = d := rfl
theorem lso_cons {a o d k : Int} {r : List (Int × Int)} (h : ¬ k = a) (h2 : Op.lookupswitch.offset r d k = d) : Op.lookupswitch.offset ((a, o) :: r) d k = d := by
  rw [Op.lookupswitch.offset_cons, if_neg (fun q => h q.symm)]
  exact h2
end GLS
/-! throws -/
def gXC (E : gE) (QX : String → gM → Prop) : String → State → State → Prop := fun X st t => (∃ N : gM, QX X N ∧ gR E N t.heap) ∧ va_F (gA E) st t
/-- the judgement of a method that returns or throws -/
abbrev gX (E : gE) (own : String) (cc : ByteArray) (nL : Nat) (ret : Option FieldType) (R : Room) (pc : Nat) (lv : List (Nat × Value)) (st : List Value) (M : gM) (Q : Option Value → gM → Prop) (QX : String → gM → Prop) : Prop :=
  gK E own cc nL ret R (fun _ _ c => ∀ x ∈ c.exceptionTable.toList, False) (fun below args s => vx_MQ below (gQ E Q) (gXC E QX) args s 1 6 (gA E)) 0 0 pc lv st M
abbrev rmx (d : Nat) : Room := { frames := d, cells := 1, slots := 6, locals := d * 64 }
def gCX (E : gE) (y : MethodName) (cc : ByteArray) (nL : Nat) (ret : Option FieldType) (R : Room) (av : List Value) (M : gM) (Q : Option Value → gM → Prop) (QX : String → gM → Prop) : Prop :=
  ∀ l : Launch, l.stackTraces = false → vx_Met l y (.code y cc nL ret :: gtbl) R (va_Pc av (fun U => gOK E ∧ gbs E ≤ U.heap.size ∧ va_K (gD E) vwCl (gTy E) U ∧ gT E U ∧ gR E M U.heap)) (gQ E Q) (gXC E QX) 1 6 (gA E)
theorem gCX.of {E : gE} {y : MethodName} {cc : ByteArray} {nL : Nat} {ret : Option FieldType} {d : Nat} {av : List Value} {lv : List (Nat × Value)} {M : gM} {Q : Option Value → gM → Prop} {QX : String → gM → Prop}
    (hy : plainName y.cls = true) (hn : (lg_sl av).length ≤ nL) (hl : lv_args 0 av = lv) (h : gX E y.cls cc nL ret (rmx d) 0 lv [] M Q QX) : gCX E y cc nL ret (rmx d) av M Q QX := by
  intro l hl9
  refine vx_ofW (cc := cc) (maxL := nL) (ret := ret) hy rfl ?_
  intro p e s m args below meth c s₁ B hml hex hv
  obtain ⟨rfl, hok, hbs, hK, hT, hR⟩ := hv
  have hts := atoms_spec B.pre
  rw [lg_entry_eq]
  subst hl
  exact h p l e s m _ below meth c s.heap [] _ ⟨B.exec, B.bytes, B.returns, hml, findClass_of_methodNamed B.named, B.notSynchronized, fun w hw => hts w (List.mem_cons_of_mem _ hw), hl9⟩ hex ⟨hok, hbs, hK, hT, hR, va_S.rf⟩ (lv_entry av hn)
section GXX
variable {E : gE} {own : String} {cc : ByteArray} {nL : Nat} {ret : Option FieldType} {R : Room} {pc : Nat} {lv : List (Nat × Value)} {st : List Value} {M : gM} {Q : Option Value → gM → Prop} {QX : String → gM → Prop}
theorem gx_iret {v : Int32} (hret : ret = some .int) (hd : decode cc pc = .ok (.ireturn, 1)) (h : Q (some (.int v)) M) : gX E own cc nL ret R pc lv [.int v] M Q QX := by
  intro p l e s m args below meth c H locs ls F _ C L
  refine W.widen (k := 1) (n := 6) (Nat.zero_le _) (Nat.zero_le _) ?_
  refine vx_ret ?_
  exact W.iret F.1 F.2.1 (F.2.2.1.trans hret) (fun t ht _ => ⟨⟨_, M, rfl, h, by rw [ht]; exact C.2.2.2.2.1⟩, C.2.2.2.2.2.F ht⟩) C.2.2.2.2.2.2.2 hd F.2.2.2.2.2.1
theorem gx_badw : ∀ w ∈ (vx_atS "WillDeposit" 109 exI ["java/lang/RuntimeException", "java/lang/Exception"]).filter (fun w => !goodWord w), w ∈ (.castable exI exI :: .castable exN exN :: dcl6.map Cond.declares) := by decide +kernel
theorem gx_goodw : ∀ w ∈ (vx_atS "WillDeposit" 109 exI ["java/lang/RuntimeException", "java/lang/Exception"]).filter goodWord, w ∈ lw_tbl := by decide +kernel
theorem gx_otw : ∀ w ∈ Cond.classLink "WillDeposit" 105 exI :: Cond.initialized exI :: vx_atS "WillDeposit" 109 exI ["java/lang/RuntimeException", "java/lang/Exception"], vx_ot w = true := by decide +kernel
theorem gx_throw {text : String} {is : Nat} (ho : own = "WillDeposit") (hk : Cond.classLink "WillDeposit" 105 exI ∈ gtbl) (hi : Cond.initialized exI ∈ gtbl) (hstr : ∀ s, gT E s → ∃ sa, vk_R "WillDeposit" is text sa s)
    (d0 : decode cc pc = .ok (.new 105, 3)) (d3 : decode cc (pc + 3) = .ok (.dup, 1)) (d4 : decode cc (pc + 4) = .ok (.ldc is, 2)) (d6 : decode cc (pc + 6) = .ok (.invokespecial 109, 3)) (d9 : decode cc (pc + 9) = .ok (.athrow, 1))
    (hR : 5 < R.frames ∧ (st.map fun v => v.category).sum + 82 ≤ R.locals ∧ 1 ≤ R.cells ∧ 6 ≤ R.slots) (h : QX exI M) : gX E own cc nL ret R pc lv st M Q QX := by
  intro p l e s m args below meth c H locs ls F X9 C L
  subst ho
  have hts := F.2.2.2.2.2.2.1
  obtain ⟨sa, hsa⟩ := hstr s C.2.2.2.1
  have hT := C.2.2.2.1
  have hbad : ∀ w ∈ (.castable exI exI :: .castable exN exN :: dcl6.map Cond.declares : List Cond), w.before args s = true := by
    intro w hw
    have h6 := hT.2.2.2.2.2.2
    rcases List.mem_cons.mp hw with rfl | hw
    · exact va_Nw.use rfl h6.1
    · rcases List.mem_cons.mp hw with rfl | hw
      · exact va_Nw.use rfl h6.2.1
      · obtain ⟨x, hx, rfl⟩ := List.mem_map.mp hw
        exact va_Nw.use rfl (h6.2.2.1 x hx)
  refine vx_throwS (cls := exI) (names := ["java/lang/RuntimeException", "java/lang/Exception"]) (A := gA E) F.1 F.2.1 F.2.2.2.2.2.2.2 F.2.2.2.2.1 (by decide +kernel) (by decide +kernel) (hts _ hk) (hts _ hi) hsa
    (vx_hat (fun w hw => hts _ (List.mem_filter.mpr ⟨gx_goodw w hw, (List.mem_filter.mp hw).2⟩)) gx_badw hbad) gx_otw hT.1.2.2.2.2.2.2.1 hT.1.2.2.2.2.2.2.2 C.2.2.2.2.2 (L.1.trans F.2.2.2.1.symm) d0 d3 d4 d6 d9 (fun x hx => (X9 x hx).elim)
    hR.1 hR.2.1 (by rw [Nat.zero_add]; exact hR.2.2.1) (by rw [Nat.zero_add]; exact hR.2.2.2) F.2.2.2.2.2.1 (fun t hvm hz hq => ⟨⟨M, h, ?_⟩, ?_, ?_⟩) C.2.2.2.2.2.2.2 (by omega) (by omega)
  · exact C.2.2.2.2.1.kept (fun k q hk => hq _ ((C.2.2.2.2.1 k q hk).lt))
  · exact Nat.le_trans C.2.2.2.2.2.1 hz
  · intro q h1 h2
    rw [hq q (Nat.lt_of_lt_of_le h1 C.2.2.2.2.2.1)]
    exact C.2.2.2.2.2.2.1 q h1 h2
end GXX
