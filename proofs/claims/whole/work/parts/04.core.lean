/-! the memory of all cells, ints and longs, by cell and place; the world that holds it; the judgement G; its rows -/
abbrev Mem : Type := (Nat → Nat → Int32) × (Nat → Nat → Int64)
abbrev En : Type := (Nat → Nat) × va_G × (ClassId × ClassId × ClassId × ClassId) × ((Nat → Nat) × (Nat → Nat))
def rI (M : Mem) (k : Nat) (f : Nat → Int32) : Mem := (fun q => if q = k then f else M.1 q, M.2)
def rL (M : Mem) (k : Nat) (f : Nat → Int64) : Mem := (M.1, fun q => if q = k then f else M.2 q)
def mI (M : Mem) (k i : Nat) (v : Int32) : Mem := rI M k (upd (M.1 k) i v)
def mL (M : Mem) (k i : Nat) (v : Int64) : Mem := rL M k (vp_updL (M.2 k) i v)
def nCell : Nat := 81
def cels (E : En) (f : Nat → Int32) (g : Nat → Int64) : List va_E := [
  .inr (5, [.ref (E.1 1), .ref (E.1 14), .ref (E.1 53), .ref (E.1 54), .ref (E.1 55), .ref (E.1 57), .ref (E.1 60), .ref (E.1 61), .ref (E.1 62), .int (f 9), .int (f 10), .int (f 11)]),
  .inr (3, [.ref (E.1 2), .ref (E.1 3), .ref (E.1 4), .ref (E.1 5), .ref (E.1 6), .ref (E.1 7), .int (f 6), .int (f 7), .int (f 8), .ref (E.1 12), .ref (E.1 13)]),
  .inl (E.2.2.1.1, 8, .inl f),
  .inl (E.2.2.1.1, 8, .inl f),
  .inl (E.2.2.1.1, 8, .inl f),
  .inl (E.2.2.1.1, 8, .inl f),
  .inl (E.2.2.1.2.1, 4, .inr (.inl g)),
  .inr (1, [.ref (E.1 8), .ref (E.1 9), .ref (E.1 10), .ref (E.1 11), .int (f 4)]),
  .inl (E.2.2.1.1, 8, .inl f),
  .inl (E.2.2.1.1, 8, .inl f),
  .inl (E.2.2.1.2.1, 8, .inr (.inl g)),
  .inl (E.2.2.1.2.1, 8, .inr (.inl g)),
  .inl (E.2.2.1.1, 8, .inl f),
  .inl (E.2.2.1.1, 8, .inl f),
  .inr (3, [.ref (E.1 15), .ref (E.1 16), .ref (E.1 17), .ref (E.1 18), .ref (E.1 19), .ref (E.1 20), .int (f 6), .int (f 7), .int (f 8), .ref (E.1 25), .ref (E.1 26)]),
  .inl (E.2.2.1.1, 8, .inl f),
  .inl (E.2.2.1.1, 8, .inl f),
  .inl (E.2.2.1.1, 8, .inl f),
  .inl (E.2.2.1.1, 8, .inl f),
  .inl (E.2.2.1.2.1, 4, .inr (.inl g)),
  .inr (1, [.ref (E.1 21), .ref (E.1 22), .ref (E.1 23), .ref (E.1 24), .int (f 4)]),
  .inl (E.2.2.1.1, 8, .inl f),
  .inl (E.2.2.1.1, 8, .inl f),
  .inl (E.2.2.1.2.1, 8, .inr (.inl g)),
  .inl (E.2.2.1.2.1, 8, .inr (.inl g)),
  .inl (E.2.2.1.1, 8, .inl f),
  .inl (E.2.2.1.1, 8, .inl f),
  .inr (3, [.ref (E.1 28), .ref (E.1 29), .ref (E.1 30), .ref (E.1 31), .ref (E.1 32), .ref (E.1 33), .int (f 6), .int (f 7), .int (f 8), .ref (E.1 38), .ref (E.1 39)]),
  .inl (E.2.2.1.1, 8, .inl f),
  .inl (E.2.2.1.1, 8, .inl f),
  .inl (E.2.2.1.1, 8, .inl f),
  .inl (E.2.2.1.1, 8, .inl f),
  .inl (E.2.2.1.2.1, 4, .inr (.inl g)),
  .inr (1, [.ref (E.1 34), .ref (E.1 35), .ref (E.1 36), .ref (E.1 37), .int (f 4)]),
  .inl (E.2.2.1.1, 8, .inl f),
  .inl (E.2.2.1.1, 8, .inl f),
  .inl (E.2.2.1.2.1, 8, .inr (.inl g)),
  .inl (E.2.2.1.2.1, 8, .inr (.inl g)),
  .inl (E.2.2.1.1, 8, .inl f),
  .inl (E.2.2.1.1, 8, .inl f),
  .inr (3, [.ref (E.1 41), .ref (E.1 42), .ref (E.1 43), .ref (E.1 44), .ref (E.1 45), .ref (E.1 46), .int (f 6), .int (f 7), .int (f 8), .ref (E.1 51), .ref (E.1 52)]),
  .inl (E.2.2.1.1, 8, .inl f),
  .inl (E.2.2.1.1, 8, .inl f),
  .inl (E.2.2.1.1, 8, .inl f),
  .inl (E.2.2.1.1, 8, .inl f),
  .inl (E.2.2.1.2.1, 4, .inr (.inl g)),
  .inr (1, [.ref (E.1 47), .ref (E.1 48), .ref (E.1 49), .ref (E.1 50), .int (f 4)]),
  .inl (E.2.2.1.1, 8, .inl f),
  .inl (E.2.2.1.1, 8, .inl f),
  .inl (E.2.2.1.2.1, 8, .inr (.inl g)),
  .inl (E.2.2.1.2.1, 8, .inr (.inl g)),
  .inl (E.2.2.1.1, 8, .inl f),
  .inl (E.2.2.1.1, 8, .inl f),
  .inl (E.2.2.1.2.2.2, 2, .inr (.inr (.inr (.inr (fun i => if i = 0 then some (E.1 27) else some (E.1 40)))))),
  .inl (E.2.2.1.2.2.1, 2, .inl f),
  .inr (2, [.int (f 0), .ref (E.1 56), .int (f 2), .int (f 3), .int (f 4), .int (f 5)]),
  .inl (E.2.2.1.1, 150, .inl f),
  .inr (4, [.ref (E.1 58), .int (f 1), .int (f 2), .int (f 3), .ref (E.1 59), .int (f 5)]),
  .inl (E.2.2.1.1, 6, .inl f),
  .inl (E.2.2.1.1, 6, .inl f),
  .inr (0, [.long (g 0), .long (g 1)]),
  .inl (E.2.2.1.1, 96, .inl f),
  .inl (E.2.2.1.2.1, 96, .inr (.inl g)),
  .inr (6, [.ref (E.1 64), .ref (E.1 65), .ref (E.1 66), .ref (E.1 67), .ref (E.1 68), .ref (E.1 69), .long (g 6), .long (g 7), .ref (E.1 70), .ref (E.1 71), .ref (E.1 72), .ref (E.1 73), .int (f 12), .ref (E.1 74), .int (f 14), .int (f 15), .int (f 16), .ref (E.1 75), .ref (E.1 76), .ref (E.1 77), .int (f 20), .int (f 21), .int (f 22), .int (f 23), .int (f 24), .ref (E.1 78), .ref (E.1 79), .ref (E.1 80)]),
  .inl (E.2.2.1.1, 188, .inl f),
  .inl (E.2.2.1.1, 376, .inl f),
  .inl (E.2.2.1.2.1, 20, .inr (.inl g)),
  .inl (E.2.2.1.2.1, 40, .inr (.inl g)),
  .inl (E.2.2.1.2.2.1, 2, .inl f),
  .inl (E.2.2.1.1, 3, .inl f),
  .inl (E.2.2.1.1, 7, .inl f),
  .inl (E.2.2.1.1, 7, .inl f),
  .inl (E.2.2.1.2.1, 7, .inr (.inl g)),
  .inl (E.2.2.1.1, 7, .inl f),
  .inl (E.2.2.1.1, 6, .inl f),
  .inl (E.2.2.1.2.2.1, 96, .inl f),
  .inl (E.2.2.1.2.1, 14, .inr (.inl g)),
  .inl (E.2.2.1.1, 150, .inl f),
  .inl (E.2.2.1.1, 52, .inl f),
  .inl (E.2.2.1.2.1, 4, .inr (.inl g)),
  .inl (E.2.2.1.1, 4, .inl f)]
def cel (E : En) (k : Nat) (f : Nat → Int32) (g : Nat → Int64) : va_E := (cels E f g).getD k (.inr (0, []))
theorem cel_0 (E : En) (f : Nat → Int32) (g : Nat → Int64) : cel E 0 f g = .inr (5, [.ref (E.1 1), .ref (E.1 14), .ref (E.1 53), .ref (E.1 54), .ref (E.1 55), .ref (E.1 57), .ref (E.1 60), .ref (E.1 61), .ref (E.1 62), .int (f 9), .int (f 10), .int (f 11)]) := rfl
theorem cel_1 (E : En) (f : Nat → Int32) (g : Nat → Int64) : cel E 1 f g = .inr (3, [.ref (E.1 2), .ref (E.1 3), .ref (E.1 4), .ref (E.1 5), .ref (E.1 6), .ref (E.1 7), .int (f 6), .int (f 7), .int (f 8), .ref (E.1 12), .ref (E.1 13)]) := rfl
theorem cel_2 (E : En) (f : Nat → Int32) (g : Nat → Int64) : cel E 2 f g = .inl (E.2.2.1.1, 8, .inl f) := rfl
theorem cel_3 (E : En) (f : Nat → Int32) (g : Nat → Int64) : cel E 3 f g = .inl (E.2.2.1.1, 8, .inl f) := rfl
theorem cel_4 (E : En) (f : Nat → Int32) (g : Nat → Int64) : cel E 4 f g = .inl (E.2.2.1.1, 8, .inl f) := rfl
theorem cel_5 (E : En) (f : Nat → Int32) (g : Nat → Int64) : cel E 5 f g = .inl (E.2.2.1.1, 8, .inl f) := rfl
theorem cel_6 (E : En) (f : Nat → Int32) (g : Nat → Int64) : cel E 6 f g = .inl (E.2.2.1.2.1, 4, .inr (.inl g)) := rfl
theorem cel_7 (E : En) (f : Nat → Int32) (g : Nat → Int64) : cel E 7 f g = .inr (1, [.ref (E.1 8), .ref (E.1 9), .ref (E.1 10), .ref (E.1 11), .int (f 4)]) := rfl
theorem cel_8 (E : En) (f : Nat → Int32) (g : Nat → Int64) : cel E 8 f g = .inl (E.2.2.1.1, 8, .inl f) := rfl
theorem cel_9 (E : En) (f : Nat → Int32) (g : Nat → Int64) : cel E 9 f g = .inl (E.2.2.1.1, 8, .inl f) := rfl
theorem cel_10 (E : En) (f : Nat → Int32) (g : Nat → Int64) : cel E 10 f g = .inl (E.2.2.1.2.1, 8, .inr (.inl g)) := rfl
theorem cel_11 (E : En) (f : Nat → Int32) (g : Nat → Int64) : cel E 11 f g = .inl (E.2.2.1.2.1, 8, .inr (.inl g)) := rfl
theorem cel_12 (E : En) (f : Nat → Int32) (g : Nat → Int64) : cel E 12 f g = .inl (E.2.2.1.1, 8, .inl f) := rfl
theorem cel_13 (E : En) (f : Nat → Int32) (g : Nat → Int64) : cel E 13 f g = .inl (E.2.2.1.1, 8, .inl f) := rfl
theorem cel_14 (E : En) (f : Nat → Int32) (g : Nat → Int64) : cel E 14 f g = .inr (3, [.ref (E.1 15), .ref (E.1 16), .ref (E.1 17), .ref (E.1 18), .ref (E.1 19), .ref (E.1 20), .int (f 6), .int (f 7), .int (f 8), .ref (E.1 25), .ref (E.1 26)]) := rfl
theorem cel_15 (E : En) (f : Nat → Int32) (g : Nat → Int64) : cel E 15 f g = .inl (E.2.2.1.1, 8, .inl f) := rfl
theorem cel_16 (E : En) (f : Nat → Int32) (g : Nat → Int64) : cel E 16 f g = .inl (E.2.2.1.1, 8, .inl f) := rfl
theorem cel_17 (E : En) (f : Nat → Int32) (g : Nat → Int64) : cel E 17 f g = .inl (E.2.2.1.1, 8, .inl f) := rfl
theorem cel_18 (E : En) (f : Nat → Int32) (g : Nat → Int64) : cel E 18 f g = .inl (E.2.2.1.1, 8, .inl f) := rfl
theorem cel_19 (E : En) (f : Nat → Int32) (g : Nat → Int64) : cel E 19 f g = .inl (E.2.2.1.2.1, 4, .inr (.inl g)) := rfl
theorem cel_20 (E : En) (f : Nat → Int32) (g : Nat → Int64) : cel E 20 f g = .inr (1, [.ref (E.1 21), .ref (E.1 22), .ref (E.1 23), .ref (E.1 24), .int (f 4)]) := rfl
theorem cel_21 (E : En) (f : Nat → Int32) (g : Nat → Int64) : cel E 21 f g = .inl (E.2.2.1.1, 8, .inl f) := rfl
theorem cel_22 (E : En) (f : Nat → Int32) (g : Nat → Int64) : cel E 22 f g = .inl (E.2.2.1.1, 8, .inl f) := rfl
theorem cel_23 (E : En) (f : Nat → Int32) (g : Nat → Int64) : cel E 23 f g = .inl (E.2.2.1.2.1, 8, .inr (.inl g)) := rfl
theorem cel_24 (E : En) (f : Nat → Int32) (g : Nat → Int64) : cel E 24 f g = .inl (E.2.2.1.2.1, 8, .inr (.inl g)) := rfl
theorem cel_25 (E : En) (f : Nat → Int32) (g : Nat → Int64) : cel E 25 f g = .inl (E.2.2.1.1, 8, .inl f) := rfl
theorem cel_26 (E : En) (f : Nat → Int32) (g : Nat → Int64) : cel E 26 f g = .inl (E.2.2.1.1, 8, .inl f) := rfl
theorem cel_27 (E : En) (f : Nat → Int32) (g : Nat → Int64) : cel E 27 f g = .inr (3, [.ref (E.1 28), .ref (E.1 29), .ref (E.1 30), .ref (E.1 31), .ref (E.1 32), .ref (E.1 33), .int (f 6), .int (f 7), .int (f 8), .ref (E.1 38), .ref (E.1 39)]) := rfl
theorem cel_28 (E : En) (f : Nat → Int32) (g : Nat → Int64) : cel E 28 f g = .inl (E.2.2.1.1, 8, .inl f) := rfl
theorem cel_29 (E : En) (f : Nat → Int32) (g : Nat → Int64) : cel E 29 f g = .inl (E.2.2.1.1, 8, .inl f) := rfl
theorem cel_30 (E : En) (f : Nat → Int32) (g : Nat → Int64) : cel E 30 f g = .inl (E.2.2.1.1, 8, .inl f) := rfl
theorem cel_31 (E : En) (f : Nat → Int32) (g : Nat → Int64) : cel E 31 f g = .inl (E.2.2.1.1, 8, .inl f) := rfl
theorem cel_32 (E : En) (f : Nat → Int32) (g : Nat → Int64) : cel E 32 f g = .inl (E.2.2.1.2.1, 4, .inr (.inl g)) := rfl
theorem cel_33 (E : En) (f : Nat → Int32) (g : Nat → Int64) : cel E 33 f g = .inr (1, [.ref (E.1 34), .ref (E.1 35), .ref (E.1 36), .ref (E.1 37), .int (f 4)]) := rfl
theorem cel_34 (E : En) (f : Nat → Int32) (g : Nat → Int64) : cel E 34 f g = .inl (E.2.2.1.1, 8, .inl f) := rfl
theorem cel_35 (E : En) (f : Nat → Int32) (g : Nat → Int64) : cel E 35 f g = .inl (E.2.2.1.1, 8, .inl f) := rfl
theorem cel_36 (E : En) (f : Nat → Int32) (g : Nat → Int64) : cel E 36 f g = .inl (E.2.2.1.2.1, 8, .inr (.inl g)) := rfl
theorem cel_37 (E : En) (f : Nat → Int32) (g : Nat → Int64) : cel E 37 f g = .inl (E.2.2.1.2.1, 8, .inr (.inl g)) := rfl
theorem cel_38 (E : En) (f : Nat → Int32) (g : Nat → Int64) : cel E 38 f g = .inl (E.2.2.1.1, 8, .inl f) := rfl
theorem cel_39 (E : En) (f : Nat → Int32) (g : Nat → Int64) : cel E 39 f g = .inl (E.2.2.1.1, 8, .inl f) := rfl
theorem cel_40 (E : En) (f : Nat → Int32) (g : Nat → Int64) : cel E 40 f g = .inr (3, [.ref (E.1 41), .ref (E.1 42), .ref (E.1 43), .ref (E.1 44), .ref (E.1 45), .ref (E.1 46), .int (f 6), .int (f 7), .int (f 8), .ref (E.1 51), .ref (E.1 52)]) := rfl
theorem cel_41 (E : En) (f : Nat → Int32) (g : Nat → Int64) : cel E 41 f g = .inl (E.2.2.1.1, 8, .inl f) := rfl
theorem cel_42 (E : En) (f : Nat → Int32) (g : Nat → Int64) : cel E 42 f g = .inl (E.2.2.1.1, 8, .inl f) := rfl
theorem cel_43 (E : En) (f : Nat → Int32) (g : Nat → Int64) : cel E 43 f g = .inl (E.2.2.1.1, 8, .inl f) := rfl
theorem cel_44 (E : En) (f : Nat → Int32) (g : Nat → Int64) : cel E 44 f g = .inl (E.2.2.1.1, 8, .inl f) := rfl
theorem cel_45 (E : En) (f : Nat → Int32) (g : Nat → Int64) : cel E 45 f g = .inl (E.2.2.1.2.1, 4, .inr (.inl g)) := rfl
theorem cel_46 (E : En) (f : Nat → Int32) (g : Nat → Int64) : cel E 46 f g = .inr (1, [.ref (E.1 47), .ref (E.1 48), .ref (E.1 49), .ref (E.1 50), .int (f 4)]) := rfl
theorem cel_47 (E : En) (f : Nat → Int32) (g : Nat → Int64) : cel E 47 f g = .inl (E.2.2.1.1, 8, .inl f) := rfl
theorem cel_48 (E : En) (f : Nat → Int32) (g : Nat → Int64) : cel E 48 f g = .inl (E.2.2.1.1, 8, .inl f) := rfl
theorem cel_49 (E : En) (f : Nat → Int32) (g : Nat → Int64) : cel E 49 f g = .inl (E.2.2.1.2.1, 8, .inr (.inl g)) := rfl
theorem cel_50 (E : En) (f : Nat → Int32) (g : Nat → Int64) : cel E 50 f g = .inl (E.2.2.1.2.1, 8, .inr (.inl g)) := rfl
theorem cel_51 (E : En) (f : Nat → Int32) (g : Nat → Int64) : cel E 51 f g = .inl (E.2.2.1.1, 8, .inl f) := rfl
theorem cel_52 (E : En) (f : Nat → Int32) (g : Nat → Int64) : cel E 52 f g = .inl (E.2.2.1.1, 8, .inl f) := rfl
theorem cel_53 (E : En) (f : Nat → Int32) (g : Nat → Int64) : cel E 53 f g = .inl (E.2.2.1.2.2.2, 2, .inr (.inr (.inr (.inr (fun i => if i = 0 then some (E.1 27) else some (E.1 40)))))) := rfl
theorem cel_54 (E : En) (f : Nat → Int32) (g : Nat → Int64) : cel E 54 f g = .inl (E.2.2.1.2.2.1, 2, .inl f) := rfl
theorem cel_55 (E : En) (f : Nat → Int32) (g : Nat → Int64) : cel E 55 f g = .inr (2, [.int (f 0), .ref (E.1 56), .int (f 2), .int (f 3), .int (f 4), .int (f 5)]) := rfl
theorem cel_56 (E : En) (f : Nat → Int32) (g : Nat → Int64) : cel E 56 f g = .inl (E.2.2.1.1, 150, .inl f) := rfl
theorem cel_57 (E : En) (f : Nat → Int32) (g : Nat → Int64) : cel E 57 f g = .inr (4, [.ref (E.1 58), .int (f 1), .int (f 2), .int (f 3), .ref (E.1 59), .int (f 5)]) := rfl
theorem cel_58 (E : En) (f : Nat → Int32) (g : Nat → Int64) : cel E 58 f g = .inl (E.2.2.1.1, 6, .inl f) := rfl
theorem cel_59 (E : En) (f : Nat → Int32) (g : Nat → Int64) : cel E 59 f g = .inl (E.2.2.1.1, 6, .inl f) := rfl
theorem cel_60 (E : En) (f : Nat → Int32) (g : Nat → Int64) : cel E 60 f g = .inr (0, [.long (g 0), .long (g 1)]) := rfl
theorem cel_61 (E : En) (f : Nat → Int32) (g : Nat → Int64) : cel E 61 f g = .inl (E.2.2.1.1, 96, .inl f) := rfl
theorem cel_62 (E : En) (f : Nat → Int32) (g : Nat → Int64) : cel E 62 f g = .inl (E.2.2.1.2.1, 96, .inr (.inl g)) := rfl
theorem cel_63 (E : En) (f : Nat → Int32) (g : Nat → Int64) : cel E 63 f g = .inr (6, [.ref (E.1 64), .ref (E.1 65), .ref (E.1 66), .ref (E.1 67), .ref (E.1 68), .ref (E.1 69), .long (g 6), .long (g 7), .ref (E.1 70), .ref (E.1 71), .ref (E.1 72), .ref (E.1 73), .int (f 12), .ref (E.1 74), .int (f 14), .int (f 15), .int (f 16), .ref (E.1 75), .ref (E.1 76), .ref (E.1 77), .int (f 20), .int (f 21), .int (f 22), .int (f 23), .int (f 24), .ref (E.1 78), .ref (E.1 79), .ref (E.1 80)]) := rfl
theorem cel_64 (E : En) (f : Nat → Int32) (g : Nat → Int64) : cel E 64 f g = .inl (E.2.2.1.1, 188, .inl f) := rfl
theorem cel_65 (E : En) (f : Nat → Int32) (g : Nat → Int64) : cel E 65 f g = .inl (E.2.2.1.1, 376, .inl f) := rfl
theorem cel_66 (E : En) (f : Nat → Int32) (g : Nat → Int64) : cel E 66 f g = .inl (E.2.2.1.2.1, 20, .inr (.inl g)) := rfl
theorem cel_67 (E : En) (f : Nat → Int32) (g : Nat → Int64) : cel E 67 f g = .inl (E.2.2.1.2.1, 40, .inr (.inl g)) := rfl
theorem cel_68 (E : En) (f : Nat → Int32) (g : Nat → Int64) : cel E 68 f g = .inl (E.2.2.1.2.2.1, 2, .inl f) := rfl
theorem cel_69 (E : En) (f : Nat → Int32) (g : Nat → Int64) : cel E 69 f g = .inl (E.2.2.1.1, 3, .inl f) := rfl
theorem cel_70 (E : En) (f : Nat → Int32) (g : Nat → Int64) : cel E 70 f g = .inl (E.2.2.1.1, 7, .inl f) := rfl
theorem cel_71 (E : En) (f : Nat → Int32) (g : Nat → Int64) : cel E 71 f g = .inl (E.2.2.1.1, 7, .inl f) := rfl
theorem cel_72 (E : En) (f : Nat → Int32) (g : Nat → Int64) : cel E 72 f g = .inl (E.2.2.1.2.1, 7, .inr (.inl g)) := rfl
theorem cel_73 (E : En) (f : Nat → Int32) (g : Nat → Int64) : cel E 73 f g = .inl (E.2.2.1.1, 7, .inl f) := rfl
theorem cel_74 (E : En) (f : Nat → Int32) (g : Nat → Int64) : cel E 74 f g = .inl (E.2.2.1.1, 6, .inl f) := rfl
theorem cel_75 (E : En) (f : Nat → Int32) (g : Nat → Int64) : cel E 75 f g = .inl (E.2.2.1.2.2.1, 96, .inl f) := rfl
theorem cel_76 (E : En) (f : Nat → Int32) (g : Nat → Int64) : cel E 76 f g = .inl (E.2.2.1.2.1, 14, .inr (.inl g)) := rfl
theorem cel_77 (E : En) (f : Nat → Int32) (g : Nat → Int64) : cel E 77 f g = .inl (E.2.2.1.1, 150, .inl f) := rfl
theorem cel_78 (E : En) (f : Nat → Int32) (g : Nat → Int64) : cel E 78 f g = .inl (E.2.2.1.1, 52, .inl f) := rfl
theorem cel_79 (E : En) (f : Nat → Int32) (g : Nat → Int64) : cel E 79 f g = .inl (E.2.2.1.2.1, 4, .inr (.inl g)) := rfl
theorem cel_80 (E : En) (f : Nat → Int32) (g : Nat → Int64) : cel E 80 f g = .inl (E.2.2.1.1, 4, .inl f) := rfl
def wl (E : En) (M : Mem) : va_W := (List.range nCell).map (fun k => (E.1 k, cel E k (M.1 k) (M.2 k)))
theorem wl_get {E : En} {M : Mem} {k : Nat} (hk : k < nCell) : (wl E M)[k]? = some (E.1 k, cel E k (M.1 k) (M.2 k)) := by
  simp [wl, hk]
theorem wl_len (E : En) (M : Mem) : (wl E M).length = nCell := by simp [wl]
theorem wl_set {E : En} {M M2 : Mem} {k : Nat} {e : va_E} (he : cel E k (M2.1 k) (M2.2 k) = e) (h1 : ∀ q, q ≠ k → M2.1 q = M.1 q) (h2 : ∀ q, q ≠ k → M2.2 q = M.2 q) : (wl E M).set k (E.1 k, e) = wl E M2 := by
  apply List.ext_getElem?
  intro j
  rw [List.getElem?_set]
  by_cases hj : k = j
  · subst hj
    by_cases hk : k < nCell
    · rw [if_pos rfl, if_pos (by rw [wl_len]; exact hk), wl_get hk, he]
    · simp [wl, hk]
  · rw [if_neg hj]
    by_cases hk : j < nCell
    · rw [wl_get hk, wl_get hk, h1 j (fun q => hj q.symm), h2 j (fun q => hj q.symm)]
    · simp [wl, hk]
theorem rI_ne {M : Mem} {k : Nat} {f : Nat → Int32} {q : Nat} (h : q ≠ k) : (rI M k f).1 q = M.1 q := if_neg h
theorem rI_eq {M : Mem} {k : Nat} {f : Nat → Int32} : (rI M k f).1 k = f := if_pos rfl
theorem rI_2 {M : Mem} {k : Nat} {f : Nat → Int32} : (rI M k f).2 = M.2 := rfl
theorem rL_ne {M : Mem} {k : Nat} {f : Nat → Int64} {q : Nat} (h : q ≠ k) : (rL M k f).2 q = M.2 q := if_neg h
theorem rL_eq {M : Mem} {k : Nat} {f : Nat → Int64} : (rL M k f).2 k = f := if_pos rfl
theorem rL_1 {M : Mem} {k : Nat} {f : Nat → Int64} : (rL M k f).1 = M.1 := rfl
theorem wl_rI {E : En} {M : Mem} {k : Nat} {f : Nat → Int32} {e : va_E} (he : cel E k f (M.2 k) = e) : (wl E M).set k (E.1 k, e) = wl E (rI M k f) :=
  wl_set (by rw [rI_eq]; exact he) (fun q h => rI_ne h) (fun q h => rfl)
theorem wl_rL {E : En} {M : Mem} {k : Nat} {f : Nat → Int64} {e : va_E} (he : cel E k (M.1 k) f = e) : (wl E M).set k (E.1 k, e) = wl E (rL M k f) :=
  wl_set (by rw [rL_eq]; exact he) (fun q h => rfl) (fun q h => rL_ne h)
def Av (E : En) : Nat → Prop := fun q => ∃ k, k < nCell ∧ q = E.1 k
def inj (E : En) : Prop := ∀ i j, i < nCell → j < nCell → E.1 i = E.1 j → i = j
theorem wl_at {E : En} {M : Mem} {k : Nat} {q : Nat × va_E} (h : (wl E M)[k]? = some q) : k < nCell ∧ q = (E.1 k, cel E k (M.1 k) (M.2 k)) := by
  have hk : k < nCell := by
    have := (List.getElem?_eq_some_iff.mp h).1
    rwa [wl_len] at this
  rw [wl_get hk] at h
  exact ⟨hk, (Option.some.inj h).symm⟩
theorem wl_D {E : En} (hi : inj E) (M : Mem) : va_D (Av E) (wl E M) := by
  refine ⟨fun i j p q h1 h2 e => ?_, fun k q h => ?_⟩
  · obtain ⟨a1, rfl⟩ := wl_at h1
    obtain ⟨a2, rfl⟩ := wl_at h2
    exact hi i j a1 a2 e
  · obtain ⟨a1, rfl⟩ := wl_at h
    exact ⟨k, a1, rfl⟩
def tysE (E : En) : List (ClassId × FieldType) := [(E.2.2.1.1, .int), (E.2.2.1.2.1, .long), (E.2.2.1.2.2.1, .boolean), (E.2.2.1.2.2.2, .object "BridgeNames$River")]
/-- the tables' words that a callee may be told -/
def TB : List Cond := lw_tbl.filter goodWord
theorem tb_at {w : Cond} (i : Nat) (h : lw_tbl[i]? = some w) (hg : goodWord w = true) : w ∈ TB := List.mem_filter.mpr ⟨List.mem_of_getElem? h, hg⟩
theorem tb_in {w : Cond} (h : w ∈ TB) : w ∈ lw_tbl := (List.mem_filter.mp h).1
theorem tb_good {w : Cond} (h : w ∈ TB) : (w.onTables && w.keeps) = true ∨ ∃ ty, w = .arrayClass ty := good_of_word (List.mem_filter.mp h).2
/-- what is told of the text's three words and of two statics -/
def sLen : List Nat := [5, 6, 3]
def sByt : List (List Int32) := [[114, 105, 118, 101, 114], [98, 114, 105, 100, 103, 101], [114, 111, 119]]
def SO (E : En) (U : State) (H : Heap) : Prop :=
  vk_S 3 sLen sByt E.2.2.2.1 E.2.2.2.2 (Av E) U H ∧ vk_R "BridgeNames$Reader" 88 "river" (E.2.2.2.1 0) U ∧ vk_R "BridgeNames$Reader" 94 "bridge" (E.2.2.2.1 1) U ∧ vk_R "BridgeNames$Reader" 96 "row" (E.2.2.2.1 2) U
  ∧ va_Z "java/lang/String" "COMPACT_STRINGS" "Z" (.int 1) (Av E) U H ∧ ∃ v : Value, (v = .null ∨ ∃ q, v = .ref q) ∧ va_Z "jdk/internal/util/Preconditions" "SIOOBE_FORMATTER" "Ljava/util/function/BiFunction;" v (Av E) U H
theorem SO.warm {E : En} {s U : State} {H : Heap} (hW : s.WarmedH U.vm) (h : SO E s H) : SO E U H := by
  obtain ⟨h1, h2, h3, h4, h5, v, h6, h7⟩ := h
  exact ⟨h1.moved hW.alike, h2.warm hW, h3.warm hW, h4.warm hW, h5.moved hW.alike, v, h6, h7.moved hW.alike⟩
theorem SO.same {E : En} {s U : State} {H : Heap} (hv : U.vm = s.vm) (h : SO E s H) : SO E U H := by
  obtain ⟨h1, h2, h3, h4, h5, v, h6, h7⟩ := h
  have ha : s.vm.Alike U.vm := by rw [hv]; exact Vm.Alike.refl _
  exact ⟨h1.moved ha, h2.same hv, h3.same hv, h4.same hv, h5.moved ha, v, h6, h7.moved ha⟩
theorem SO.kept {E : En} {s : State} {H H1 : Heap} (h : SO E s H) (hq : ∀ a : Nat, a < H.size → ¬ Av E a → H1[a]? = H[a]?) : SO E s H1 := by
  obtain ⟨h1, h2, h3, h4, h5, v, h6, h7⟩ := h
  exact ⟨h1.kept hq, h2, h3, h4, h5.kept hq, v, h6, h7.kept hq⟩
/-- a state that holds the memory -/
def Hol (E : En) (M : Mem) (U : State) : Prop := va_P E.2.1 vwCl (wl E M) U.heap ∧ va_K E.2.1 vwCl (tysE E) U ∧ inj E ∧ SO E U U.heap
def Qm (E : En) (res : Option Value × Mem) : Array Value → State → Outcome → State → Prop := fun _ st o t => o = .returned res.1 ∧ va_P E.2.1 vwCl (wl E res.2) t.heap ∧ va_F (Av E) st t
def rmOf (fr lo : Nat) : Room := { frames := fr, cells := 0, slots := 0, locals := lo }
/-- a method's contract: from the memory M and these arguments it comes to this result -/
def Cn (l : Launch) (y : MethodName) (cc : ByteArray) (nL : Nat) (ret : Option FieldType) (fr lo : Nat) (As : En → List Value) (M : Mem) (res : Option Value × Mem) : Prop :=
  ∀ E : En, Met l y (.code y cc nL ret :: TB) (rmOf fr lo) (va_Pc (As E) (Hol E M)) (Qm E res) 0 0 (Av E)
abbrev Cx : Type := En × Program × Launch × Env × Room × State × MethodId × Array Value × List Frame × Method × Code
abbrev Cx.s (X : Cx) : State := X.2.2.2.2.2.1
abbrev Cx.R (X : Cx) : Room := X.2.2.2.2.1
abbrev Cx.meth (X : Cx) : Method := X.2.2.2.2.2.2.2.2.2.1
abbrev Cx.l (X : Cx) : Launch := X.2.2.1
/-- what stands at every place of a method's body -/
def Ck (X : Cx) (own : String) (cc : ByteArray) (nL fr lo : Nat) : Prop := match X with
  | (E, p, _, _, R, s, m, args, _, meth, c) => p.tables.exec = Jvm.exec ∧ c.code = cc ∧ c.maxLocals = nL ∧ s.vm.findClass own = some m.cls ∧ (∀ w ∈ TB, w.before args s = true) ∧ va_K E.2.1 vwCl (tysE E) s ∧ inj E ∧ SO E s s.heap ∧ fr ≤ R.frames ∧ lo ≤ R.locals ∧ meth.locks = false
/-- the locals: place by place, what is known of them -/
def lvr (ls : Array Slot) (nL : Nat) (L : List (Option Value)) : Prop := ls.size = nL ∧ lv_wf ls ∧ ∀ (i : Nat) (v : Value), L[i]? = some (some v) → ls[i]? = some (.val v)
def lp (L : List (Option Value)) : List (Nat × Value) := L.zipIdx.filterMap (fun q => q.1.map (fun v => (q.2, v)))
theorem mem_lp {L : List (Option Value)} {i : Nat} {v : Value} : (i, v) ∈ lp L ↔ L[i]? = some (some v) := by
  unfold lp
  rw [List.mem_filterMap]
  constructor
  · rintro ⟨⟨o, j⟩, hm, he⟩
    cases o with
    | none => simp at he
    | some w =>
      simp at he
      obtain ⟨rfl, rfl⟩ := he
      exact List.mk_mem_zipIdx_iff_getElem?.mp hm
  · intro h
    exact ⟨(some v, i), List.mk_mem_zipIdx_iff_getElem?.mpr h, rfl⟩
theorem lvr.has {ls : Array Slot} {nL : Nat} {L : List (Option Value)} (h : lvr ls nL L) : lv_has ls nL (lp L) := ⟨h.1, h.2.1, fun q hq => h.2.2 q.1 q.2 (mem_lp.mp hq)⟩
/-- behind a store -/
def lok1 (L L2 : List (Option Value)) (i : Nat) (v : Value) : Prop := ∀ (j : Nat) (w : Value), L2[j]? = some (some w) → (j = i ∧ w = v) ∨ (j ≠ i ∧ L[j]? = some (some w) ∧ ¬ (j + 1 = i ∧ w.category = 2))
def lok2 (L L2 : List (Option Value)) (i : Nat) (v : Value) : Prop := ∀ (j : Nat) (w : Value), L2[j]? = some (some w) → (j = i ∧ w = v) ∨ (j ≠ i ∧ j ≠ i + 1 ∧ L[j]? = some (some w) ∧ ¬ (j + 1 = i ∧ w.category = 2))
theorem lvr_st1 {ls2 : Array Slot} {nL i : Nat} {L L2 : List (Option Value)} {v : Value} (h : lv_has ls2 nL ((i, v) :: (lp L).filter (fun q => !(q.1 == i) && !(q.1 + 1 == i && q.2.category == 2)))) (ho : lok1 L L2 i v) : lvr ls2 nL L2 := by
  refine ⟨h.1, h.2.1, fun j w hj => ?_⟩
  rcases ho j w hj with ⟨rfl, rfl⟩ | ⟨h1, h2, h3⟩
  · exact h.2.2 (j, w) List.mem_cons_self
  · refine h.2.2 (j, w) (List.mem_cons_of_mem _ (List.mem_filter.mpr ⟨mem_lp.mpr h2, ?_⟩))
    simp only [Bool.and_eq_true, Bool.not_eq_true', beq_eq_false_iff_ne, Bool.and_eq_false_imp, beq_iff_eq]
    exact ⟨h1, fun e c => h3 ⟨e, c⟩⟩
theorem lvr_st2 {ls2 : Array Slot} {nL i : Nat} {L L2 : List (Option Value)} {v : Value} (h : lv_has ls2 nL ((i, v) :: (lp L).filter (fun q => !(q.1 == i) && (!(q.1 == i + 1) && !(q.1 + 1 == i && q.2.category == 2))))) (ho : lok2 L L2 i v) : lvr ls2 nL L2 := by
  refine ⟨h.1, h.2.1, fun j w hj => ?_⟩
  rcases ho j w hj with ⟨rfl, rfl⟩ | ⟨h1, h4, h2, h3⟩
  · exact h.2.2 (j, w) List.mem_cons_self
  · refine h.2.2 (j, w) (List.mem_cons_of_mem _ (List.mem_filter.mpr ⟨mem_lp.mpr h2, ?_⟩))
    simp only [Bool.and_eq_true, Bool.not_eq_true', beq_eq_false_iff_ne, Bool.and_eq_false_imp, beq_iff_eq]
    exact ⟨h1, h4, fun e c => h3 ⟨e, c⟩⟩
/-- no long in this place -/
def lnl (o : Option Value) : Prop := ∀ w, o = some w → w.category = 1
theorem lnl_n : lnl none := fun _ h => by cases h
theorem lnl_i {x : Int32} : lnl (some (.int x)) := fun _ h => by cases h; rfl
theorem lnl_r {x : Nat} : lnl (some (.ref x)) := fun _ h => by cases h; rfl
theorem lok1_of {L : List (Option Value)} {i : Nat} {v : Value} (hi : i < L.length) (hp : 0 < i → lnl (L[i - 1]?.getD none)) : lok1 L (L.set i (some v)) i v := by
  intro j w hj
  rw [List.getElem?_set] at hj
  by_cases e : i = j
  · subst e
    rw [if_pos rfl, if_pos hi] at hj
    cases hj
    exact Or.inl ⟨rfl, rfl⟩
  · rw [if_neg e] at hj
    refine Or.inr ⟨fun q => e q.symm, hj, fun ⟨h1, h2⟩ => ?_⟩
    have h3 := hp (by omega) w (by rw [show i - 1 = j by omega, hj]; rfl)
    omega
theorem lok2_of {L : List (Option Value)} {i : Nat} {v : Value} (hi : i + 1 < L.length) (hp : 0 < i → lnl (L[i - 1]?.getD none)) : lok2 L ((L.set i (some v)).set (i + 1) none) i v := by
  intro j w hj
  rw [List.getElem?_set] at hj
  by_cases e1 : i + 1 = j
  · subst e1
    rw [if_pos rfl] at hj
    split at hj <;> cases hj
  · rw [if_neg e1, List.getElem?_set] at hj
    by_cases e : i = j
    · subst e
      rw [if_pos rfl, if_pos (by omega)] at hj
      cases hj
      exact Or.inl ⟨rfl, rfl⟩
    · rw [if_neg e] at hj
      refine Or.inr ⟨fun q => e q.symm, fun q => e1 q.symm, hj, fun ⟨h1, h2⟩ => ?_⟩
      have h3 := hp (by omega) w (by rw [show i - 1 = j by omega, hj]; rfl)
      omega
def lsub : List (Option Value) → List (Option Value) → Prop
  | a :: l, b :: l2 => (b = none ∨ a = b) ∧ lsub l l2
  | _, [] => True
  | [], _ :: _ => False
theorem lsub_get : ∀ {L L2 : List (Option Value)}, lsub L L2 → ∀ (i : Nat) (v : Value), L2[i]? = some (some v) → L[i]? = some (some v)
  | a :: l, b :: l2, h, 0, v, e => by
    rcases h.1 with h1 | h1
    · subst h1; simp at e
    · subst h1; exact e
  | a :: l, b :: l2, h, i + 1, v, e => by
    simp only [List.getElem?_cons_succ] at e ⊢
    exact lsub_get h.2 i v e
  | _, [], _, i, v, e => by simp at e
  | [], _ :: _, h, _, _, _ => h.elim
/-- THE JUDGEMENT: at this place, with these locals, this stack and this memory, the method comes to the result -/
def G (X : Cx) (res : Option Value × Mem) (own : String) (cc : ByteArray) (nL fr lo : Nat) (pc : Nat) (L : List (Option Value)) (st : List Value) (M : Mem) : Prop :=
  Ck X own cc nL fr lo → ∀ (H : Heap) (locs : List Loc) (ls : Array Slot), va_P X.1.2.1 vwCl (wl X.1 M) H → va_S (Av X.1) X.s.heap H locs → lvr ls nL L →
    W X.2.1 X.2.2.1 X.2.2.2.1 X.R X.s X.2.2.2.2.2.2.1 X.2.2.2.2.2.2.2.1 X.2.2.2.2.2.2.2.2.1 X.meth X.2.2.2.2.2.2.2.2.2.2 H locs 0 0 (MQ X.2.2.2.2.2.2.2.2.1 (Qm X.1 res) X.2.2.2.2.2.2.2.1 X.s 0 0 (Av X.1)) (F0 X.2.2.2.2.2.2.1 pc ls st)
section GR
variable {X : Cx} {res : Option Value × Mem} {own : String} {cc : ByteArray} {nL fr lo pc : Nat} {L : List (Option Value)} {st : List Value} {M : Mem}
theorem g_weak {L2 : List (Option Value)} (h : lsub L L2) (k : G X res own cc nL fr lo pc L2 st M) : G X res own cc nL fr lo pc L st M := fun C H locs ls hP hS hl => k C H locs ls hP hS ⟨hl.1, hl.2.1, fun i v hv => hl.2.2 i v (lsub_get h i v hv)⟩

theorem g_iadd {x y : Int32} (d : decode cc pc = .ok (.iadd, 1))  (k : G X res own cc nL fr lo (pc + 1) L (.int (x + y) :: st) M) : G X res own cc nL fr lo pc L (.int y :: .int x :: st) M := fun C H locs ls hP hS hl => lv_iadd C.1 C.2.1 d  (k C H locs ls hP hS hl)
theorem g_isub {x y : Int32} (d : decode cc pc = .ok (.isub, 1))  (k : G X res own cc nL fr lo (pc + 1) L (.int (x - y) :: st) M) : G X res own cc nL fr lo pc L (.int y :: .int x :: st) M := fun C H locs ls hP hS hl => lv_isub C.1 C.2.1 d  (k C H locs ls hP hS hl)
theorem g_imul {x y : Int32} (d : decode cc pc = .ok (.imul, 1))  (k : G X res own cc nL fr lo (pc + 1) L (.int (x * y) :: st) M) : G X res own cc nL fr lo pc L (.int y :: .int x :: st) M := fun C H locs ls hP hS hl => lv_imul C.1 C.2.1 d  (k C H locs ls hP hS hl)
theorem g_iand {x y : Int32} (d : decode cc pc = .ok (.iand, 1))  (k : G X res own cc nL fr lo (pc + 1) L (.int (x &&& y) :: st) M) : G X res own cc nL fr lo pc L (.int y :: .int x :: st) M := fun C H locs ls hP hS hl => lv_iand C.1 C.2.1 d  (k C H locs ls hP hS hl)
theorem g_ior {x y : Int32} (d : decode cc pc = .ok (.ior, 1))  (k : G X res own cc nL fr lo (pc + 1) L (.int (x ||| y) :: st) M) : G X res own cc nL fr lo pc L (.int y :: .int x :: st) M := fun C H locs ls hP hS hl => lv_ior C.1 C.2.1 d  (k C H locs ls hP hS hl)
theorem g_ixor {x y : Int32} (d : decode cc pc = .ok (.ixor, 1))  (k : G X res own cc nL fr lo (pc + 1) L (.int (x ^^^ y) :: st) M) : G X res own cc nL fr lo pc L (.int y :: .int x :: st) M := fun C H locs ls hP hS hl => lv_ixor C.1 C.2.1 d  (k C H locs ls hP hS hl)
theorem g_ishl {x y : Int32} (d : decode cc pc = .ok (.ishl, 1))  (k : G X res own cc nL fr lo (pc + 1) L (.int (x <<< (y &&& 31)) :: st) M) : G X res own cc nL fr lo pc L (.int y :: .int x :: st) M := fun C H locs ls hP hS hl => lv_ishl C.1 C.2.1 d  (k C H locs ls hP hS hl)
theorem g_ishr {x y : Int32} (d : decode cc pc = .ok (.ishr, 1))  (k : G X res own cc nL fr lo (pc + 1) L (.int (x >>> (y &&& 31)) :: st) M) : G X res own cc nL fr lo pc L (.int y :: .int x :: st) M := fun C H locs ls hP hS hl => lv_ishr C.1 C.2.1 d  (k C H locs ls hP hS hl)
theorem g_idiv {x y : Int32} (d : decode cc pc = .ok (.idiv, 1)) (hne : ¬ y = 0) (k : G X res own cc nL fr lo (pc + 1) L (.int (x / y) :: st) M) : G X res own cc nL fr lo pc L (.int y :: .int x :: st) M := fun C H locs ls hP hS hl => lv_idiv C.1 C.2.1 d hne (k C H locs ls hP hS hl)
theorem g_irem {x y : Int32} (d : decode cc pc = .ok (.irem, 1)) (hne : ¬ y = 0) (k : G X res own cc nL fr lo (pc + 1) L (.int (x - x / y * y) :: st) M) : G X res own cc nL fr lo pc L (.int y :: .int x :: st) M := fun C H locs ls hP hS hl => lv_irem C.1 C.2.1 d hne (k C H locs ls hP hS hl)
theorem g_ladd {x y : Int64} (d : decode cc pc = .ok (.ladd, 1))  (k : G X res own cc nL fr lo (pc + 1) L (.long (x + y) :: st) M) : G X res own cc nL fr lo pc L (.long y :: .long x :: st) M := fun C H locs ls hP hS hl => lv_ladd C.1 C.2.1 d  (k C H locs ls hP hS hl)
theorem g_lsub {x y : Int64} (d : decode cc pc = .ok (.lsub, 1))  (k : G X res own cc nL fr lo (pc + 1) L (.long (x - y) :: st) M) : G X res own cc nL fr lo pc L (.long y :: .long x :: st) M := fun C H locs ls hP hS hl => lv_lsub C.1 C.2.1 d  (k C H locs ls hP hS hl)
theorem g_lmul {x y : Int64} (d : decode cc pc = .ok (.lmul, 1))  (k : G X res own cc nL fr lo (pc + 1) L (.long (x * y) :: st) M) : G X res own cc nL fr lo pc L (.long y :: .long x :: st) M := fun C H locs ls hP hS hl => lv_lmul C.1 C.2.1 d  (k C H locs ls hP hS hl)
theorem g_land {x y : Int64} (d : decode cc pc = .ok (.land, 1))  (k : G X res own cc nL fr lo (pc + 1) L (.long (x &&& y) :: st) M) : G X res own cc nL fr lo pc L (.long y :: .long x :: st) M := fun C H locs ls hP hS hl => lv_land C.1 C.2.1 d  (k C H locs ls hP hS hl)
theorem g_lor {x y : Int64} (d : decode cc pc = .ok (.lor, 1))  (k : G X res own cc nL fr lo (pc + 1) L (.long (x ||| y) :: st) M) : G X res own cc nL fr lo pc L (.long y :: .long x :: st) M := fun C H locs ls hP hS hl => lv_lor C.1 C.2.1 d  (k C H locs ls hP hS hl)
theorem g_ldiv {x y : Int64} (d : decode cc pc = .ok (.ldiv, 1)) (hne : ¬ y = 0) (k : G X res own cc nL fr lo (pc + 1) L (.long (x / y) :: st) M) : G X res own cc nL fr lo pc L (.long y :: .long x :: st) M := fun C H locs ls hP hS hl => lv_ldiv C.1 C.2.1 d hne (k C H locs ls hP hS hl)
theorem g_lrem {x y : Int64} (d : decode cc pc = .ok (.lrem, 1)) (hne : ¬ y = 0) (k : G X res own cc nL fr lo (pc + 1) L (.long (x - x / y * y) :: st) M) : G X res own cc nL fr lo pc L (.long y :: .long x :: st) M := fun C H locs ls hP hS hl => lv_lrem C.1 C.2.1 d hne (k C H locs ls hP hS hl)
theorem g_lcmp {x y : Int64} (d : decode cc pc = .ok (.lcmp, 1))  (k : G X res own cc nL fr lo (pc + 1) L (.int (lg_cmp x y) :: st) M) : G X res own cc nL fr lo pc L (.long y :: .long x :: st) M := fun C H locs ls hP hS hl => W.lcmp C.1 C.2.1 d  (k C H locs ls hP hS hl)
theorem g_i2l {x : Int32} (d : decode cc pc = .ok (.i2l, 1))  (k : G X res own cc nL fr lo (pc + 1) L (.long x.toInt64 :: st) M) : G X res own cc nL fr lo pc L (.int x :: st) M := fun C H locs ls hP hS hl => lv_i2l C.1 C.2.1 d rfl (k C H locs ls hP hS hl)
theorem g_l2i {x : Int64} (d : decode cc pc = .ok (.l2i, 1))  (k : G X res own cc nL fr lo (pc + 1) L (.int x.toInt32 :: st) M) : G X res own cc nL fr lo pc L (.long x :: st) M := fun C H locs ls hP hS hl => lv_l2i C.1 C.2.1 d rfl (k C H locs ls hP hS hl)
theorem g_lushr {x : Int64} {y : Int32} (d : decode cc pc = .ok (.lushr, 1))  (k : G X res own cc nL fr lo (pc + 1) L (.long (x.toUInt64 >>> (y.toInt64.toUInt64 &&& Int64.toUInt64 63)).toInt64 :: st) M) : G X res own cc nL fr lo pc L (.int y :: .long x :: st) M := fun C H locs ls hP hS hl => lv_lushr C.1 C.2.1 d rfl (k C H locs ls hP hS hl)
theorem g_lshl {x : Int64} {y : Int32} (d : decode cc pc = .ok (.lshl, 1))  (k : G X res own cc nL fr lo (pc + 1) L (.long (x <<< (y.toInt64 &&& 63)) :: st) M) : G X res own cc nL fr lo pc L (.int y :: .long x :: st) M := fun C H locs ls hP hS hl => lv_lshl C.1 C.2.1 d rfl (k C H locs ls hP hS hl)
theorem g_lshr {x : Int64} {y : Int32} (d : decode cc pc = .ok (.lshr, 1))  (k : G X res own cc nL fr lo (pc + 1) L (.long (x >>> (y.toInt64 &&& 63)) :: st) M) : G X res own cc nL fr lo pc L (.int y :: .long x :: st) M := fun C H locs ls hP hS hl => lv_lshr C.1 C.2.1 d rfl (k C H locs ls hP hS hl)
theorem g_i2c {x : Int32} (d : decode cc pc = .ok (.i2c, 1))  (k : G X res own cc nL fr lo (pc + 1) L (.int (x.toUInt32 % 65536).toInt32 :: st) M) : G X res own cc nL fr lo pc L (.int x :: st) M := fun C H locs ls hP hS hl => lv_i2c C.1 C.2.1 d rfl (k C H locs ls hP hS hl)
theorem g_iconst {n : Int} {v : Int32} (d : decode cc pc = .ok (.iconst n, 1)) (hv : Int32.ofInt n = v) (k : G X res own cc nL fr lo (pc + 1) L (.int v :: st) M) : G X res own cc nL fr lo pc L (st) M := fun C H locs ls hP hS hl => lv_iconst C.1 C.2.1 d hv (k C H locs ls hP hS hl)
theorem g_bipush {n : Int} {v : Int32} (d : decode cc pc = .ok (.bipush n, 2)) (hv : (Int8.ofInt n).toInt32 = v) (k : G X res own cc nL fr lo (pc + 2) L (.int v :: st) M) : G X res own cc nL fr lo pc L (st) M := fun C H locs ls hP hS hl => lv_bipush C.1 C.2.1 d hv (k C H locs ls hP hS hl)
theorem g_sipush {n : Int} {v : Int32} (d : decode cc pc = .ok (.sipush n, 3)) (hv : (Int16.ofInt n).toInt32 = v) (k : G X res own cc nL fr lo (pc + 3) L (.int v :: st) M) : G X res own cc nL fr lo pc L (st) M := fun C H locs ls hP hS hl => lv_sipush C.1 C.2.1 d hv (k C H locs ls hP hS hl)
theorem g_lconst {n : Fin 2} {v : Int64} (d : decode cc pc = .ok (.lconst n, 1)) (hv : Int64.ofNat (n : Nat) = v) (k : G X res own cc nL fr lo (pc + 1) L (.long v :: st) M) : G X res own cc nL fr lo pc L (st) M := fun C H locs ls hP hS hl => lv_lconst C.1 C.2.1 d hv (k C H locs ls hP hS hl)
theorem g_dup {va : Value} (d : decode cc pc = .ok (.dup, 1)) (hva : va.category = 1) (k : G X res own cc nL fr lo (pc + 1) L (va :: va :: st) M) : G X res own cc nL fr lo pc L (va :: st) M := fun C H locs ls hP hS hl => lv_dup C.1 C.2.1 d hva (k C H locs ls hP hS hl)
theorem g_pop {va : Value} (d : decode cc pc = .ok (.pop, 1)) (hva : va.category = 1) (k : G X res own cc nL fr lo (pc + 1) L (st) M) : G X res own cc nL fr lo pc L (va :: st) M := fun C H locs ls hP hS hl => lv_pop C.1 C.2.1 d hva (k C H locs ls hP hS hl)
theorem g_dup2 {va vb : Value} (d : decode cc pc = .ok (.dup2, 1)) (hva : va.category = 1) (hvb : vb.category = 1) (k : G X res own cc nL fr lo (pc + 1) L (va :: vb :: va :: vb :: st) M) : G X res own cc nL fr lo pc L (va :: vb :: st) M := fun C H locs ls hP hS hl => lv_dup2_11 C.1 C.2.1 d hva hvb (k C H locs ls hP hS hl)
theorem g_iload_n {i : Fin 4} {x : Int32} (d : decode cc pc = .ok (.iload_n i, 1)) (hL : L[(i : Nat)]? = some (some (.int x))) (k : G X res own cc nL fr lo (pc + 1) L (.int x :: st) M) : G X res own cc nL fr lo pc L st M := fun C H locs ls hP hS hl => lv_iload_n C.1 C.2.1 d rfl (hl.2.2 _ _ hL) (k C H locs ls hP hS hl)
theorem g_iload {i : Nat} {x : Int32} (d : decode cc pc = .ok (.iload i, 2)) (hL : L[i]? = some (some (.int x))) (k : G X res own cc nL fr lo (pc + 2) L (.int x :: st) M) : G X res own cc nL fr lo pc L st M := fun C H locs ls hP hS hl => lv_iload C.1 C.2.1 d (hl.2.2 _ _ hL) (k C H locs ls hP hS hl)
theorem g_lload_n {i : Fin 4} {x : Int64} (d : decode cc pc = .ok (.lload_n i, 1)) (hL : L[(i : Nat)]? = some (some (.long x))) (k : G X res own cc nL fr lo (pc + 1) L (.long x :: st) M) : G X res own cc nL fr lo pc L st M := fun C H locs ls hP hS hl => lv_lload_n C.1 C.2.1 d rfl (hl.2.2 _ _ hL) (k C H locs ls hP hS hl)
theorem g_lload {i : Nat} {x : Int64} (d : decode cc pc = .ok (.lload i, 2)) (hL : L[i]? = some (some (.long x))) (k : G X res own cc nL fr lo (pc + 2) L (.long x :: st) M) : G X res own cc nL fr lo pc L st M := fun C H locs ls hP hS hl => lv_lload C.1 C.2.1 d (hl.2.2 _ _ hL) (k C H locs ls hP hS hl)
theorem g_aload_n {i : Fin 4} {x : Nat} (d : decode cc pc = .ok (.aload_n i, 1)) (hL : L[(i : Nat)]? = some (some (.ref x))) (k : G X res own cc nL fr lo (pc + 1) L (.ref x :: st) M) : G X res own cc nL fr lo pc L st M := fun C H locs ls hP hS hl => lv_aload_n C.1 C.2.1 d rfl (hl.2.2 _ _ hL) (k C H locs ls hP hS hl)
theorem g_aload {i : Nat} {x : Nat} (d : decode cc pc = .ok (.aload i, 2)) (hL : L[i]? = some (some (.ref x))) (k : G X res own cc nL fr lo (pc + 2) L (.ref x :: st) M) : G X res own cc nL fr lo pc L st M := fun C H locs ls hP hS hl => lv_aload C.1 C.2.1 d (hl.2.2 _ _ hL) (k C H locs ls hP hS hl)
theorem g_ist_n {i : Fin 4} {j : Nat} {x : Int32} {L2 : List (Option Value)} (d : decode cc pc = .ok (.istore_n i, 1)) (hj : (i : Nat) = j) (hn : j < nL) (ho : lok1 L L2 j (.int x)) (k : G X res own cc nL fr lo (pc + 1) L2 st M) : G X res own cc nL fr lo pc L (.int x :: st) M := fun C H locs ls hP hS hl => lv_istore_n C.1 C.2.1 d hj hl.has hn rfl (fun ls2 h2 => k C H locs ls2 hP hS (lvr_st1 h2 ho))
theorem g_ist {i : Nat} {x : Int32} {L2 : List (Option Value)} (d : decode cc pc = .ok (.istore i, 2)) (hn : i < nL) (ho : lok1 L L2 i (.int x)) (k : G X res own cc nL fr lo (pc + 2) L2 st M) : G X res own cc nL fr lo pc L (.int x :: st) M := fun C H locs ls hP hS hl => lv_istore C.1 C.2.1 d hl.has hn rfl (fun ls2 h2 => k C H locs ls2 hP hS (lvr_st1 h2 ho))
theorem g_lst_n {i : Fin 4} {j : Nat} {x : Int64} {L2 : List (Option Value)} (d : decode cc pc = .ok (.lstore_n i, 1)) (hj : (i : Nat) = j) (hn : j + 1 < nL) (ho : lok2 L L2 j (.long x)) (k : G X res own cc nL fr lo (pc + 1) L2 st M) : G X res own cc nL fr lo pc L (.long x :: st) M := fun C H locs ls hP hS hl => lv_lstore_n C.1 C.2.1 d hj hl.has hn rfl (fun ls2 h2 => k C H locs ls2 hP hS (lvr_st2 h2 ho))
theorem g_lst {i : Nat} {x : Int64} {L2 : List (Option Value)} (d : decode cc pc = .ok (.lstore i, 2)) (hn : i + 1 < nL) (ho : lok2 L L2 i (.long x)) (k : G X res own cc nL fr lo (pc + 2) L2 st M) : G X res own cc nL fr lo pc L (.long x :: st) M := fun C H locs ls hP hS hl => lv_lstore C.1 C.2.1 d hl.has hn rfl (fun ls2 h2 => k C H locs ls2 hP hS (lvr_st2 h2 ho))
theorem g_ast_n {i : Fin 4} {j : Nat} {x : Nat} {L2 : List (Option Value)} (d : decode cc pc = .ok (.astore_n i, 1)) (hj : (i : Nat) = j) (hn : j < nL) (ho : lok1 L L2 j (.ref x)) (k : G X res own cc nL fr lo (pc + 1) L2 st M) : G X res own cc nL fr lo pc L (.ref x :: st) M := fun C H locs ls hP hS hl => lv_astore_n C.1 C.2.1 d hj hl.has hn rfl (fun ls2 h2 => k C H locs ls2 hP hS (lvr_st1 h2 ho))
theorem g_ast {i : Nat} {x : Nat} {L2 : List (Option Value)} (d : decode cc pc = .ok (.astore i, 2)) (hn : i < nL) (ho : lok1 L L2 i (.ref x)) (k : G X res own cc nL fr lo (pc + 2) L2 st M) : G X res own cc nL fr lo pc L (.ref x :: st) M := fun C H locs ls hP hS hl => lv_astore C.1 C.2.1 d hl.has hn rfl (fun ls2 h2 => k C H locs ls2 hP hS (lvr_st1 h2 ho))
theorem g_iincg {i : Nat} {n : Int} {x v : Int32} {L2 : List (Option Value)} (d : decode cc pc = .ok (.iinc i n, 3)) (hn : i < nL) (hL : L[i]? = some (some (.int x))) (hv : x + Int32.ofInt n = v) (ho : lok1 L L2 i (.int v)) (k : G X res own cc nL fr lo (pc + 3) L2 st M) : G X res own cc nL fr lo pc L st M := fun C H locs ls hP hS hl => by
  obtain ⟨q, hq⟩ := List.getElem?_of_mem (mem_lp.mpr hL)
  exact lv_iinc (k := q) C.1 C.2.1 d hl.has hq hv hn rfl (fun ls2 h2 => k C H locs ls2 hP hS (lvr_st1 h2 ho))
theorem g_if_eq {x : Int32} {off : Int} {tgt : Nat} (d : decode cc pc = .ok (.ifCond .eq off, 3)) (ht : (pc : Int) + off = (tgt : Int)) (kt : x = 0 → G X res own cc nL fr lo tgt L st M) (kf : ¬ x = 0 → G X res own cc nL fr lo (pc + 3) L st M) : G X res own cc nL fr lo pc L (.int x :: st) M := fun C H locs ls hP hS hl => lv_if_eq C.1 C.2.1 d ht (fun h => kt h C H locs ls hP hS hl) (fun h => kf h C H locs ls hP hS hl)
theorem g_if_ne {x : Int32} {off : Int} {tgt : Nat} (d : decode cc pc = .ok (.ifCond .ne off, 3)) (ht : (pc : Int) + off = (tgt : Int)) (kt : ¬ x = 0 → G X res own cc nL fr lo tgt L st M) (kf : x = 0 → G X res own cc nL fr lo (pc + 3) L st M) : G X res own cc nL fr lo pc L (.int x :: st) M := fun C H locs ls hP hS hl => lv_if_ne C.1 C.2.1 d ht (fun h => kt h C H locs ls hP hS hl) (fun h => kf h C H locs ls hP hS hl)
theorem g_if_lt {x : Int32} {off : Int} {tgt : Nat} (d : decode cc pc = .ok (.ifCond .lt off, 3)) (ht : (pc : Int) + off = (tgt : Int)) (kt : x < 0 → G X res own cc nL fr lo tgt L st M) (kf : ¬ x < 0 → G X res own cc nL fr lo (pc + 3) L st M) : G X res own cc nL fr lo pc L (.int x :: st) M := fun C H locs ls hP hS hl => lv_if_lt C.1 C.2.1 d ht (fun h => kt h C H locs ls hP hS hl) (fun h => kf h C H locs ls hP hS hl)
theorem g_if_ge {x : Int32} {off : Int} {tgt : Nat} (d : decode cc pc = .ok (.ifCond .ge off, 3)) (ht : (pc : Int) + off = (tgt : Int)) (kt : 0 ≤ x → G X res own cc nL fr lo tgt L st M) (kf : ¬ 0 ≤ x → G X res own cc nL fr lo (pc + 3) L st M) : G X res own cc nL fr lo pc L (.int x :: st) M := fun C H locs ls hP hS hl => lv_if_ge C.1 C.2.1 d ht (fun h => kt h C H locs ls hP hS hl) (fun h => kf h C H locs ls hP hS hl)
theorem g_if_gt {x : Int32} {off : Int} {tgt : Nat} (d : decode cc pc = .ok (.ifCond .gt off, 3)) (ht : (pc : Int) + off = (tgt : Int)) (kt : 0 < x → G X res own cc nL fr lo tgt L st M) (kf : ¬ 0 < x → G X res own cc nL fr lo (pc + 3) L st M) : G X res own cc nL fr lo pc L (.int x :: st) M := fun C H locs ls hP hS hl => lv_if_gt C.1 C.2.1 d ht (fun h => kt h C H locs ls hP hS hl) (fun h => kf h C H locs ls hP hS hl)
theorem g_if_le {x : Int32} {off : Int} {tgt : Nat} (d : decode cc pc = .ok (.ifCond .le off, 3)) (ht : (pc : Int) + off = (tgt : Int)) (kt : x ≤ 0 → G X res own cc nL fr lo tgt L st M) (kf : ¬ x ≤ 0 → G X res own cc nL fr lo (pc + 3) L st M) : G X res own cc nL fr lo pc L (.int x :: st) M := fun C H locs ls hP hS hl => lv_if_le C.1 C.2.1 d ht (fun h => kt h C H locs ls hP hS hl) (fun h => kf h C H locs ls hP hS hl)
theorem g_icmp_eq {x y : Int32} {off : Int} {tgt : Nat} (d : decode cc pc = .ok (.if_icmp .eq off, 3)) (ht : (pc : Int) + off = (tgt : Int)) (kt : x = y → G X res own cc nL fr lo tgt L st M) (kf : ¬ x = y → G X res own cc nL fr lo (pc + 3) L st M) : G X res own cc nL fr lo pc L (.int y :: .int x :: st) M := fun C H locs ls hP hS hl => lv_icmp_eq C.1 C.2.1 d ht (fun h => kt h C H locs ls hP hS hl) (fun h => kf h C H locs ls hP hS hl)
theorem g_icmp_ne {x y : Int32} {off : Int} {tgt : Nat} (d : decode cc pc = .ok (.if_icmp .ne off, 3)) (ht : (pc : Int) + off = (tgt : Int)) (kt : ¬ x = y → G X res own cc nL fr lo tgt L st M) (kf : x = y → G X res own cc nL fr lo (pc + 3) L st M) : G X res own cc nL fr lo pc L (.int y :: .int x :: st) M := fun C H locs ls hP hS hl => lv_icmp_ne C.1 C.2.1 d ht (fun h => kt h C H locs ls hP hS hl) (fun h => kf h C H locs ls hP hS hl)
theorem g_icmp_lt {x y : Int32} {off : Int} {tgt : Nat} (d : decode cc pc = .ok (.if_icmp .lt off, 3)) (ht : (pc : Int) + off = (tgt : Int)) (kt : x < y → G X res own cc nL fr lo tgt L st M) (kf : ¬ x < y → G X res own cc nL fr lo (pc + 3) L st M) : G X res own cc nL fr lo pc L (.int y :: .int x :: st) M := fun C H locs ls hP hS hl => lv_icmp_lt C.1 C.2.1 d ht (fun h => kt h C H locs ls hP hS hl) (fun h => kf h C H locs ls hP hS hl)
theorem g_icmp_ge {x y : Int32} {off : Int} {tgt : Nat} (d : decode cc pc = .ok (.if_icmp .ge off, 3)) (ht : (pc : Int) + off = (tgt : Int)) (kt : y ≤ x → G X res own cc nL fr lo tgt L st M) (kf : ¬ y ≤ x → G X res own cc nL fr lo (pc + 3) L st M) : G X res own cc nL fr lo pc L (.int y :: .int x :: st) M := fun C H locs ls hP hS hl => lv_icmp_ge C.1 C.2.1 d ht (fun h => kt h C H locs ls hP hS hl) (fun h => kf h C H locs ls hP hS hl)
theorem g_icmp_gt {x y : Int32} {off : Int} {tgt : Nat} (d : decode cc pc = .ok (.if_icmp .gt off, 3)) (ht : (pc : Int) + off = (tgt : Int)) (kt : y < x → G X res own cc nL fr lo tgt L st M) (kf : ¬ y < x → G X res own cc nL fr lo (pc + 3) L st M) : G X res own cc nL fr lo pc L (.int y :: .int x :: st) M := fun C H locs ls hP hS hl => lv_icmp_gt C.1 C.2.1 d ht (fun h => kt h C H locs ls hP hS hl) (fun h => kf h C H locs ls hP hS hl)
theorem g_icmp_le {x y : Int32} {off : Int} {tgt : Nat} (d : decode cc pc = .ok (.if_icmp .le off, 3)) (ht : (pc : Int) + off = (tgt : Int)) (kt : x ≤ y → G X res own cc nL fr lo tgt L st M) (kf : ¬ x ≤ y → G X res own cc nL fr lo (pc + 3) L st M) : G X res own cc nL fr lo pc L (.int y :: .int x :: st) M := fun C H locs ls hP hS hl => lv_icmp_le C.1 C.2.1 d ht (fun h => kt h C H locs ls hP hS hl) (fun h => kf h C H locs ls hP hS hl)
theorem g_goto {off : Int} {tgt : Nat} (d : decode cc pc = .ok (.goto off, 3)) (ht : (pc : Int) + off = (tgt : Int)) (k : G X res own cc nL fr lo tgt L st M) : G X res own cc nL fr lo pc L st M := fun C H locs ls hP hS hl => lv_goto C.1 C.2.1 d ht (k C H locs ls hP hS hl)
theorem lok1_0 {v0 : Option Value} {t : List (Option Value)} {x : Int32} : lok1 (v0 :: t) (some (.int x) :: t) 0 (.int x) := lok1_of (L := v0 :: t) (i := 0) (by simp) (fun h => absurd h (by omega))
theorem g_ist0 {v0 : Option Value} {t : List (Option Value)} {x : Int32} (d : decode cc pc = .ok (.istore_n 0, 1)) (hn : 0 < nL) (k : G X res own cc nL fr lo (pc + 1) (some (.int x) :: t) st M) : G X res own cc nL fr lo pc (v0 :: t) (.int x :: st) M := g_ist_n d rfl hn (lok1_0 ) k
theorem lok2_0 {v0 u : Option Value} {t : List (Option Value)} {x : Int64} : lok2 (v0 :: u :: t) (some (.long x) :: none :: t) 0 (.long x) := lok2_of (L := v0 :: u :: t) (i := 0) (by simp) (fun h => absurd h (by omega))
theorem g_lst0 {v0 u : Option Value} {t : List (Option Value)} {x : Int64} (d : decode cc pc = .ok (.lstore_n 0, 1)) (hn : 0 + 1 < nL) (k : G X res own cc nL fr lo (pc + 1) (some (.long x) :: none :: t) st M) : G X res own cc nL fr lo pc (v0 :: u :: t) (.long x :: st) M := g_lst_n d rfl hn (lok2_0 ) k
theorem g_iinc0 {t : List (Option Value)} {n : Int} {x v : Int32} (d : decode cc pc = .ok (.iinc 0 n, 3)) (hn : 0 < nL) (hv : x + Int32.ofInt n = v) (k : G X res own cc nL fr lo (pc + 3) (some (.int v) :: t) st M) : G X res own cc nL fr lo pc (some (.int x) :: t) st M := g_iincg d hn rfl hv (lok1_0 ) k
theorem lok1_1 {v0 v1 : Option Value} {t : List (Option Value)} {x : Int32} (hp : lnl v0) : lok1 (v0 :: v1 :: t) (v0 :: some (.int x) :: t) 1 (.int x) := lok1_of (L := v0 :: v1 :: t) (i := 1) (by simp) (fun _ => hp)
theorem g_ist1 {v0 v1 : Option Value} {t : List (Option Value)} {x : Int32} (d : decode cc pc = .ok (.istore_n 1, 1)) (hn : 1 < nL) (hp : lnl v0) (k : G X res own cc nL fr lo (pc + 1) (v0 :: some (.int x) :: t) st M) : G X res own cc nL fr lo pc (v0 :: v1 :: t) (.int x :: st) M := g_ist_n d rfl hn (lok1_1 hp) k
theorem lok2_1 {v0 v1 u : Option Value} {t : List (Option Value)} {x : Int64} (hp : lnl v0) : lok2 (v0 :: v1 :: u :: t) (v0 :: some (.long x) :: none :: t) 1 (.long x) := lok2_of (L := v0 :: v1 :: u :: t) (i := 1) (by simp) (fun _ => hp)
theorem g_lst1 {v0 v1 u : Option Value} {t : List (Option Value)} {x : Int64} (d : decode cc pc = .ok (.lstore_n 1, 1)) (hn : 1 + 1 < nL) (hp : lnl v0) (k : G X res own cc nL fr lo (pc + 1) (v0 :: some (.long x) :: none :: t) st M) : G X res own cc nL fr lo pc (v0 :: v1 :: u :: t) (.long x :: st) M := g_lst_n d rfl hn (lok2_1 hp) k
theorem g_iinc1 {v0 : Option Value} {t : List (Option Value)} {n : Int} {x v : Int32} (d : decode cc pc = .ok (.iinc 1 n, 3)) (hn : 1 < nL) (hp : lnl v0) (hv : x + Int32.ofInt n = v) (k : G X res own cc nL fr lo (pc + 3) (v0 :: some (.int v) :: t) st M) : G X res own cc nL fr lo pc (v0 :: some (.int x) :: t) st M := g_iincg d hn rfl hv (lok1_1 hp) k
theorem lok1_2 {v0 v1 v2 : Option Value} {t : List (Option Value)} {x : Int32} (hp : lnl v1) : lok1 (v0 :: v1 :: v2 :: t) (v0 :: v1 :: some (.int x) :: t) 2 (.int x) := lok1_of (L := v0 :: v1 :: v2 :: t) (i := 2) (by simp) (fun _ => hp)
theorem g_ist2 {v0 v1 v2 : Option Value} {t : List (Option Value)} {x : Int32} (d : decode cc pc = .ok (.istore_n 2, 1)) (hn : 2 < nL) (hp : lnl v1) (k : G X res own cc nL fr lo (pc + 1) (v0 :: v1 :: some (.int x) :: t) st M) : G X res own cc nL fr lo pc (v0 :: v1 :: v2 :: t) (.int x :: st) M := g_ist_n d rfl hn (lok1_2 hp) k
theorem lok2_2 {v0 v1 v2 u : Option Value} {t : List (Option Value)} {x : Int64} (hp : lnl v1) : lok2 (v0 :: v1 :: v2 :: u :: t) (v0 :: v1 :: some (.long x) :: none :: t) 2 (.long x) := lok2_of (L := v0 :: v1 :: v2 :: u :: t) (i := 2) (by simp) (fun _ => hp)
theorem g_lst2 {v0 v1 v2 u : Option Value} {t : List (Option Value)} {x : Int64} (d : decode cc pc = .ok (.lstore_n 2, 1)) (hn : 2 + 1 < nL) (hp : lnl v1) (k : G X res own cc nL fr lo (pc + 1) (v0 :: v1 :: some (.long x) :: none :: t) st M) : G X res own cc nL fr lo pc (v0 :: v1 :: v2 :: u :: t) (.long x :: st) M := g_lst_n d rfl hn (lok2_2 hp) k
theorem g_iinc2 {v0 v1 : Option Value} {t : List (Option Value)} {n : Int} {x v : Int32} (d : decode cc pc = .ok (.iinc 2 n, 3)) (hn : 2 < nL) (hp : lnl v1) (hv : x + Int32.ofInt n = v) (k : G X res own cc nL fr lo (pc + 3) (v0 :: v1 :: some (.int v) :: t) st M) : G X res own cc nL fr lo pc (v0 :: v1 :: some (.int x) :: t) st M := g_iincg d hn rfl hv (lok1_2 hp) k
theorem lok1_3 {v0 v1 v2 v3 : Option Value} {t : List (Option Value)} {x : Int32} (hp : lnl v2) : lok1 (v0 :: v1 :: v2 :: v3 :: t) (v0 :: v1 :: v2 :: some (.int x) :: t) 3 (.int x) := lok1_of (L := v0 :: v1 :: v2 :: v3 :: t) (i := 3) (by simp) (fun _ => hp)
theorem g_ist3 {v0 v1 v2 v3 : Option Value} {t : List (Option Value)} {x : Int32} (d : decode cc pc = .ok (.istore_n 3, 1)) (hn : 3 < nL) (hp : lnl v2) (k : G X res own cc nL fr lo (pc + 1) (v0 :: v1 :: v2 :: some (.int x) :: t) st M) : G X res own cc nL fr lo pc (v0 :: v1 :: v2 :: v3 :: t) (.int x :: st) M := g_ist_n d rfl hn (lok1_3 hp) k
theorem lok2_3 {v0 v1 v2 v3 u : Option Value} {t : List (Option Value)} {x : Int64} (hp : lnl v2) : lok2 (v0 :: v1 :: v2 :: v3 :: u :: t) (v0 :: v1 :: v2 :: some (.long x) :: none :: t) 3 (.long x) := lok2_of (L := v0 :: v1 :: v2 :: v3 :: u :: t) (i := 3) (by simp) (fun _ => hp)
theorem g_lst3 {v0 v1 v2 v3 u : Option Value} {t : List (Option Value)} {x : Int64} (d : decode cc pc = .ok (.lstore_n 3, 1)) (hn : 3 + 1 < nL) (hp : lnl v2) (k : G X res own cc nL fr lo (pc + 1) (v0 :: v1 :: v2 :: some (.long x) :: none :: t) st M) : G X res own cc nL fr lo pc (v0 :: v1 :: v2 :: v3 :: u :: t) (.long x :: st) M := g_lst_n d rfl hn (lok2_3 hp) k
theorem g_iinc3 {v0 v1 v2 : Option Value} {t : List (Option Value)} {n : Int} {x v : Int32} (d : decode cc pc = .ok (.iinc 3 n, 3)) (hn : 3 < nL) (hp : lnl v2) (hv : x + Int32.ofInt n = v) (k : G X res own cc nL fr lo (pc + 3) (v0 :: v1 :: v2 :: some (.int v) :: t) st M) : G X res own cc nL fr lo pc (v0 :: v1 :: v2 :: some (.int x) :: t) st M := g_iincg d hn rfl hv (lok1_3 hp) k
theorem lok1_4 {v0 v1 v2 v3 v4 : Option Value} {t : List (Option Value)} {x : Int32} (hp : lnl v3) : lok1 (v0 :: v1 :: v2 :: v3 :: v4 :: t) (v0 :: v1 :: v2 :: v3 :: some (.int x) :: t) 4 (.int x) := lok1_of (L := v0 :: v1 :: v2 :: v3 :: v4 :: t) (i := 4) (by simp) (fun _ => hp)
theorem g_ist4 {v0 v1 v2 v3 v4 : Option Value} {t : List (Option Value)} {x : Int32} (d : decode cc pc = .ok (.istore 4, 2)) (hn : 4 < nL) (hp : lnl v3) (k : G X res own cc nL fr lo (pc + 2) (v0 :: v1 :: v2 :: v3 :: some (.int x) :: t) st M) : G X res own cc nL fr lo pc (v0 :: v1 :: v2 :: v3 :: v4 :: t) (.int x :: st) M := g_ist d hn (lok1_4 hp) k
theorem lok2_4 {v0 v1 v2 v3 v4 u : Option Value} {t : List (Option Value)} {x : Int64} (hp : lnl v3) : lok2 (v0 :: v1 :: v2 :: v3 :: v4 :: u :: t) (v0 :: v1 :: v2 :: v3 :: some (.long x) :: none :: t) 4 (.long x) := lok2_of (L := v0 :: v1 :: v2 :: v3 :: v4 :: u :: t) (i := 4) (by simp) (fun _ => hp)
theorem g_lst4 {v0 v1 v2 v3 v4 u : Option Value} {t : List (Option Value)} {x : Int64} (d : decode cc pc = .ok (.lstore 4, 2)) (hn : 4 + 1 < nL) (hp : lnl v3) (k : G X res own cc nL fr lo (pc + 2) (v0 :: v1 :: v2 :: v3 :: some (.long x) :: none :: t) st M) : G X res own cc nL fr lo pc (v0 :: v1 :: v2 :: v3 :: v4 :: u :: t) (.long x :: st) M := g_lst d hn (lok2_4 hp) k
theorem g_iinc4 {v0 v1 v2 v3 : Option Value} {t : List (Option Value)} {n : Int} {x v : Int32} (d : decode cc pc = .ok (.iinc 4 n, 3)) (hn : 4 < nL) (hp : lnl v3) (hv : x + Int32.ofInt n = v) (k : G X res own cc nL fr lo (pc + 3) (v0 :: v1 :: v2 :: v3 :: some (.int v) :: t) st M) : G X res own cc nL fr lo pc (v0 :: v1 :: v2 :: v3 :: some (.int x) :: t) st M := g_iincg d hn rfl hv (lok1_4 hp) k
theorem lok1_5 {v0 v1 v2 v3 v4 v5 : Option Value} {t : List (Option Value)} {x : Int32} (hp : lnl v4) : lok1 (v0 :: v1 :: v2 :: v3 :: v4 :: v5 :: t) (v0 :: v1 :: v2 :: v3 :: v4 :: some (.int x) :: t) 5 (.int x) := lok1_of (L := v0 :: v1 :: v2 :: v3 :: v4 :: v5 :: t) (i := 5) (by simp) (fun _ => hp)
theorem g_ist5 {v0 v1 v2 v3 v4 v5 : Option Value} {t : List (Option Value)} {x : Int32} (d : decode cc pc = .ok (.istore 5, 2)) (hn : 5 < nL) (hp : lnl v4) (k : G X res own cc nL fr lo (pc + 2) (v0 :: v1 :: v2 :: v3 :: v4 :: some (.int x) :: t) st M) : G X res own cc nL fr lo pc (v0 :: v1 :: v2 :: v3 :: v4 :: v5 :: t) (.int x :: st) M := g_ist d hn (lok1_5 hp) k
theorem lok2_5 {v0 v1 v2 v3 v4 v5 u : Option Value} {t : List (Option Value)} {x : Int64} (hp : lnl v4) : lok2 (v0 :: v1 :: v2 :: v3 :: v4 :: v5 :: u :: t) (v0 :: v1 :: v2 :: v3 :: v4 :: some (.long x) :: none :: t) 5 (.long x) := lok2_of (L := v0 :: v1 :: v2 :: v3 :: v4 :: v5 :: u :: t) (i := 5) (by simp) (fun _ => hp)
theorem g_lst5 {v0 v1 v2 v3 v4 v5 u : Option Value} {t : List (Option Value)} {x : Int64} (d : decode cc pc = .ok (.lstore 5, 2)) (hn : 5 + 1 < nL) (hp : lnl v4) (k : G X res own cc nL fr lo (pc + 2) (v0 :: v1 :: v2 :: v3 :: v4 :: some (.long x) :: none :: t) st M) : G X res own cc nL fr lo pc (v0 :: v1 :: v2 :: v3 :: v4 :: v5 :: u :: t) (.long x :: st) M := g_lst d hn (lok2_5 hp) k
theorem g_iinc5 {v0 v1 v2 v3 v4 : Option Value} {t : List (Option Value)} {n : Int} {x v : Int32} (d : decode cc pc = .ok (.iinc 5 n, 3)) (hn : 5 < nL) (hp : lnl v4) (hv : x + Int32.ofInt n = v) (k : G X res own cc nL fr lo (pc + 3) (v0 :: v1 :: v2 :: v3 :: v4 :: some (.int v) :: t) st M) : G X res own cc nL fr lo pc (v0 :: v1 :: v2 :: v3 :: v4 :: some (.int x) :: t) st M := g_iincg d hn rfl hv (lok1_5 hp) k
theorem lok1_6 {v0 v1 v2 v3 v4 v5 v6 : Option Value} {t : List (Option Value)} {x : Int32} (hp : lnl v5) : lok1 (v0 :: v1 :: v2 :: v3 :: v4 :: v5 :: v6 :: t) (v0 :: v1 :: v2 :: v3 :: v4 :: v5 :: some (.int x) :: t) 6 (.int x) := lok1_of (L := v0 :: v1 :: v2 :: v3 :: v4 :: v5 :: v6 :: t) (i := 6) (by simp) (fun _ => hp)
theorem g_ist6 {v0 v1 v2 v3 v4 v5 v6 : Option Value} {t : List (Option Value)} {x : Int32} (d : decode cc pc = .ok (.istore 6, 2)) (hn : 6 < nL) (hp : lnl v5) (k : G X res own cc nL fr lo (pc + 2) (v0 :: v1 :: v2 :: v3 :: v4 :: v5 :: some (.int x) :: t) st M) : G X res own cc nL fr lo pc (v0 :: v1 :: v2 :: v3 :: v4 :: v5 :: v6 :: t) (.int x :: st) M := g_ist d hn (lok1_6 hp) k
theorem lok2_6 {v0 v1 v2 v3 v4 v5 v6 u : Option Value} {t : List (Option Value)} {x : Int64} (hp : lnl v5) : lok2 (v0 :: v1 :: v2 :: v3 :: v4 :: v5 :: v6 :: u :: t) (v0 :: v1 :: v2 :: v3 :: v4 :: v5 :: some (.long x) :: none :: t) 6 (.long x) := lok2_of (L := v0 :: v1 :: v2 :: v3 :: v4 :: v5 :: v6 :: u :: t) (i := 6) (by simp) (fun _ => hp)
theorem g_lst6 {v0 v1 v2 v3 v4 v5 v6 u : Option Value} {t : List (Option Value)} {x : Int64} (d : decode cc pc = .ok (.lstore 6, 2)) (hn : 6 + 1 < nL) (hp : lnl v5) (k : G X res own cc nL fr lo (pc + 2) (v0 :: v1 :: v2 :: v3 :: v4 :: v5 :: some (.long x) :: none :: t) st M) : G X res own cc nL fr lo pc (v0 :: v1 :: v2 :: v3 :: v4 :: v5 :: v6 :: u :: t) (.long x :: st) M := g_lst d hn (lok2_6 hp) k
theorem g_iinc6 {v0 v1 v2 v3 v4 v5 : Option Value} {t : List (Option Value)} {n : Int} {x v : Int32} (d : decode cc pc = .ok (.iinc 6 n, 3)) (hn : 6 < nL) (hp : lnl v5) (hv : x + Int32.ofInt n = v) (k : G X res own cc nL fr lo (pc + 3) (v0 :: v1 :: v2 :: v3 :: v4 :: v5 :: some (.int v) :: t) st M) : G X res own cc nL fr lo pc (v0 :: v1 :: v2 :: v3 :: v4 :: v5 :: some (.int x) :: t) st M := g_iincg d hn rfl hv (lok1_6 hp) k
theorem lok1_7 {v0 v1 v2 v3 v4 v5 v6 v7 : Option Value} {t : List (Option Value)} {x : Int32} (hp : lnl v6) : lok1 (v0 :: v1 :: v2 :: v3 :: v4 :: v5 :: v6 :: v7 :: t) (v0 :: v1 :: v2 :: v3 :: v4 :: v5 :: v6 :: some (.int x) :: t) 7 (.int x) := lok1_of (L := v0 :: v1 :: v2 :: v3 :: v4 :: v5 :: v6 :: v7 :: t) (i := 7) (by simp) (fun _ => hp)
theorem g_ist7 {v0 v1 v2 v3 v4 v5 v6 v7 : Option Value} {t : List (Option Value)} {x : Int32} (d : decode cc pc = .ok (.istore 7, 2)) (hn : 7 < nL) (hp : lnl v6) (k : G X res own cc nL fr lo (pc + 2) (v0 :: v1 :: v2 :: v3 :: v4 :: v5 :: v6 :: some (.int x) :: t) st M) : G X res own cc nL fr lo pc (v0 :: v1 :: v2 :: v3 :: v4 :: v5 :: v6 :: v7 :: t) (.int x :: st) M := g_ist d hn (lok1_7 hp) k
theorem lok2_7 {v0 v1 v2 v3 v4 v5 v6 v7 u : Option Value} {t : List (Option Value)} {x : Int64} (hp : lnl v6) : lok2 (v0 :: v1 :: v2 :: v3 :: v4 :: v5 :: v6 :: v7 :: u :: t) (v0 :: v1 :: v2 :: v3 :: v4 :: v5 :: v6 :: some (.long x) :: none :: t) 7 (.long x) := lok2_of (L := v0 :: v1 :: v2 :: v3 :: v4 :: v5 :: v6 :: v7 :: u :: t) (i := 7) (by simp) (fun _ => hp)
theorem g_lst7 {v0 v1 v2 v3 v4 v5 v6 v7 u : Option Value} {t : List (Option Value)} {x : Int64} (d : decode cc pc = .ok (.lstore 7, 2)) (hn : 7 + 1 < nL) (hp : lnl v6) (k : G X res own cc nL fr lo (pc + 2) (v0 :: v1 :: v2 :: v3 :: v4 :: v5 :: v6 :: some (.long x) :: none :: t) st M) : G X res own cc nL fr lo pc (v0 :: v1 :: v2 :: v3 :: v4 :: v5 :: v6 :: v7 :: u :: t) (.long x :: st) M := g_lst d hn (lok2_7 hp) k
theorem g_iinc7 {v0 v1 v2 v3 v4 v5 v6 : Option Value} {t : List (Option Value)} {n : Int} {x v : Int32} (d : decode cc pc = .ok (.iinc 7 n, 3)) (hn : 7 < nL) (hp : lnl v6) (hv : x + Int32.ofInt n = v) (k : G X res own cc nL fr lo (pc + 3) (v0 :: v1 :: v2 :: v3 :: v4 :: v5 :: v6 :: some (.int v) :: t) st M) : G X res own cc nL fr lo pc (v0 :: v1 :: v2 :: v3 :: v4 :: v5 :: v6 :: some (.int x) :: t) st M := g_iincg d hn rfl hv (lok1_7 hp) k
theorem lok1_8 {v0 v1 v2 v3 v4 v5 v6 v7 v8 : Option Value} {t : List (Option Value)} {x : Int32} (hp : lnl v7) : lok1 (v0 :: v1 :: v2 :: v3 :: v4 :: v5 :: v6 :: v7 :: v8 :: t) (v0 :: v1 :: v2 :: v3 :: v4 :: v5 :: v6 :: v7 :: some (.int x) :: t) 8 (.int x) := lok1_of (L := v0 :: v1 :: v2 :: v3 :: v4 :: v5 :: v6 :: v7 :: v8 :: t) (i := 8) (by simp) (fun _ => hp)
theorem g_ist8 {v0 v1 v2 v3 v4 v5 v6 v7 v8 : Option Value} {t : List (Option Value)} {x : Int32} (d : decode cc pc = .ok (.istore 8, 2)) (hn : 8 < nL) (hp : lnl v7) (k : G X res own cc nL fr lo (pc + 2) (v0 :: v1 :: v2 :: v3 :: v4 :: v5 :: v6 :: v7 :: some (.int x) :: t) st M) : G X res own cc nL fr lo pc (v0 :: v1 :: v2 :: v3 :: v4 :: v5 :: v6 :: v7 :: v8 :: t) (.int x :: st) M := g_ist d hn (lok1_8 hp) k
theorem lok2_8 {v0 v1 v2 v3 v4 v5 v6 v7 v8 u : Option Value} {t : List (Option Value)} {x : Int64} (hp : lnl v7) : lok2 (v0 :: v1 :: v2 :: v3 :: v4 :: v5 :: v6 :: v7 :: v8 :: u :: t) (v0 :: v1 :: v2 :: v3 :: v4 :: v5 :: v6 :: v7 :: some (.long x) :: none :: t) 8 (.long x) := lok2_of (L := v0 :: v1 :: v2 :: v3 :: v4 :: v5 :: v6 :: v7 :: v8 :: u :: t) (i := 8) (by simp) (fun _ => hp)
theorem g_lst8 {v0 v1 v2 v3 v4 v5 v6 v7 v8 u : Option Value} {t : List (Option Value)} {x : Int64} (d : decode cc pc = .ok (.lstore 8, 2)) (hn : 8 + 1 < nL) (hp : lnl v7) (k : G X res own cc nL fr lo (pc + 2) (v0 :: v1 :: v2 :: v3 :: v4 :: v5 :: v6 :: v7 :: some (.long x) :: none :: t) st M) : G X res own cc nL fr lo pc (v0 :: v1 :: v2 :: v3 :: v4 :: v5 :: v6 :: v7 :: v8 :: u :: t) (.long x :: st) M := g_lst d hn (lok2_8 hp) k
theorem g_iinc8 {v0 v1 v2 v3 v4 v5 v6 v7 : Option Value} {t : List (Option Value)} {n : Int} {x v : Int32} (d : decode cc pc = .ok (.iinc 8 n, 3)) (hn : 8 < nL) (hp : lnl v7) (hv : x + Int32.ofInt n = v) (k : G X res own cc nL fr lo (pc + 3) (v0 :: v1 :: v2 :: v3 :: v4 :: v5 :: v6 :: v7 :: some (.int v) :: t) st M) : G X res own cc nL fr lo pc (v0 :: v1 :: v2 :: v3 :: v4 :: v5 :: v6 :: v7 :: some (.int x) :: t) st M := g_iincg d hn rfl hv (lok1_8 hp) k
theorem lok1_9 {v0 v1 v2 v3 v4 v5 v6 v7 v8 v9 : Option Value} {t : List (Option Value)} {x : Int32} (hp : lnl v8) : lok1 (v0 :: v1 :: v2 :: v3 :: v4 :: v5 :: v6 :: v7 :: v8 :: v9 :: t) (v0 :: v1 :: v2 :: v3 :: v4 :: v5 :: v6 :: v7 :: v8 :: some (.int x) :: t) 9 (.int x) := lok1_of (L := v0 :: v1 :: v2 :: v3 :: v4 :: v5 :: v6 :: v7 :: v8 :: v9 :: t) (i := 9) (by simp) (fun _ => hp)
theorem g_ist9 {v0 v1 v2 v3 v4 v5 v6 v7 v8 v9 : Option Value} {t : List (Option Value)} {x : Int32} (d : decode cc pc = .ok (.istore 9, 2)) (hn : 9 < nL) (hp : lnl v8) (k : G X res own cc nL fr lo (pc + 2) (v0 :: v1 :: v2 :: v3 :: v4 :: v5 :: v6 :: v7 :: v8 :: some (.int x) :: t) st M) : G X res own cc nL fr lo pc (v0 :: v1 :: v2 :: v3 :: v4 :: v5 :: v6 :: v7 :: v8 :: v9 :: t) (.int x :: st) M := g_ist d hn (lok1_9 hp) k
theorem lok2_9 {v0 v1 v2 v3 v4 v5 v6 v7 v8 v9 u : Option Value} {t : List (Option Value)} {x : Int64} (hp : lnl v8) : lok2 (v0 :: v1 :: v2 :: v3 :: v4 :: v5 :: v6 :: v7 :: v8 :: v9 :: u :: t) (v0 :: v1 :: v2 :: v3 :: v4 :: v5 :: v6 :: v7 :: v8 :: some (.long x) :: none :: t) 9 (.long x) := lok2_of (L := v0 :: v1 :: v2 :: v3 :: v4 :: v5 :: v6 :: v7 :: v8 :: v9 :: u :: t) (i := 9) (by simp) (fun _ => hp)
theorem g_lst9 {v0 v1 v2 v3 v4 v5 v6 v7 v8 v9 u : Option Value} {t : List (Option Value)} {x : Int64} (d : decode cc pc = .ok (.lstore 9, 2)) (hn : 9 + 1 < nL) (hp : lnl v8) (k : G X res own cc nL fr lo (pc + 2) (v0 :: v1 :: v2 :: v3 :: v4 :: v5 :: v6 :: v7 :: v8 :: some (.long x) :: none :: t) st M) : G X res own cc nL fr lo pc (v0 :: v1 :: v2 :: v3 :: v4 :: v5 :: v6 :: v7 :: v8 :: v9 :: u :: t) (.long x :: st) M := g_lst d hn (lok2_9 hp) k
theorem g_iinc9 {v0 v1 v2 v3 v4 v5 v6 v7 v8 : Option Value} {t : List (Option Value)} {n : Int} {x v : Int32} (d : decode cc pc = .ok (.iinc 9 n, 3)) (hn : 9 < nL) (hp : lnl v8) (hv : x + Int32.ofInt n = v) (k : G X res own cc nL fr lo (pc + 3) (v0 :: v1 :: v2 :: v3 :: v4 :: v5 :: v6 :: v7 :: v8 :: some (.int v) :: t) st M) : G X res own cc nL fr lo pc (v0 :: v1 :: v2 :: v3 :: v4 :: v5 :: v6 :: v7 :: v8 :: some (.int x) :: t) st M := g_iincg d hn rfl hv (lok1_9 hp) k
theorem lok1_10 {v0 v1 v2 v3 v4 v5 v6 v7 v8 v9 v10 : Option Value} {t : List (Option Value)} {x : Int32} (hp : lnl v9) : lok1 (v0 :: v1 :: v2 :: v3 :: v4 :: v5 :: v6 :: v7 :: v8 :: v9 :: v10 :: t) (v0 :: v1 :: v2 :: v3 :: v4 :: v5 :: v6 :: v7 :: v8 :: v9 :: some (.int x) :: t) 10 (.int x) := lok1_of (L := v0 :: v1 :: v2 :: v3 :: v4 :: v5 :: v6 :: v7 :: v8 :: v9 :: v10 :: t) (i := 10) (by simp) (fun _ => hp)
theorem g_ist10 {v0 v1 v2 v3 v4 v5 v6 v7 v8 v9 v10 : Option Value} {t : List (Option Value)} {x : Int32} (d : decode cc pc = .ok (.istore 10, 2)) (hn : 10 < nL) (hp : lnl v9) (k : G X res own cc nL fr lo (pc + 2) (v0 :: v1 :: v2 :: v3 :: v4 :: v5 :: v6 :: v7 :: v8 :: v9 :: some (.int x) :: t) st M) : G X res own cc nL fr lo pc (v0 :: v1 :: v2 :: v3 :: v4 :: v5 :: v6 :: v7 :: v8 :: v9 :: v10 :: t) (.int x :: st) M := g_ist d hn (lok1_10 hp) k
theorem lok2_10 {v0 v1 v2 v3 v4 v5 v6 v7 v8 v9 v10 u : Option Value} {t : List (Option Value)} {x : Int64} (hp : lnl v9) : lok2 (v0 :: v1 :: v2 :: v3 :: v4 :: v5 :: v6 :: v7 :: v8 :: v9 :: v10 :: u :: t) (v0 :: v1 :: v2 :: v3 :: v4 :: v5 :: v6 :: v7 :: v8 :: v9 :: some (.long x) :: none :: t) 10 (.long x) := lok2_of (L := v0 :: v1 :: v2 :: v3 :: v4 :: v5 :: v6 :: v7 :: v8 :: v9 :: v10 :: u :: t) (i := 10) (by simp) (fun _ => hp)
theorem g_lst10 {v0 v1 v2 v3 v4 v5 v6 v7 v8 v9 v10 u : Option Value} {t : List (Option Value)} {x : Int64} (d : decode cc pc = .ok (.lstore 10, 2)) (hn : 10 + 1 < nL) (hp : lnl v9) (k : G X res own cc nL fr lo (pc + 2) (v0 :: v1 :: v2 :: v3 :: v4 :: v5 :: v6 :: v7 :: v8 :: v9 :: some (.long x) :: none :: t) st M) : G X res own cc nL fr lo pc (v0 :: v1 :: v2 :: v3 :: v4 :: v5 :: v6 :: v7 :: v8 :: v9 :: v10 :: u :: t) (.long x :: st) M := g_lst d hn (lok2_10 hp) k
theorem g_iinc10 {v0 v1 v2 v3 v4 v5 v6 v7 v8 v9 : Option Value} {t : List (Option Value)} {n : Int} {x v : Int32} (d : decode cc pc = .ok (.iinc 10 n, 3)) (hn : 10 < nL) (hp : lnl v9) (hv : x + Int32.ofInt n = v) (k : G X res own cc nL fr lo (pc + 3) (v0 :: v1 :: v2 :: v3 :: v4 :: v5 :: v6 :: v7 :: v8 :: v9 :: some (.int v) :: t) st M) : G X res own cc nL fr lo pc (v0 :: v1 :: v2 :: v3 :: v4 :: v5 :: v6 :: v7 :: v8 :: v9 :: some (.int x) :: t) st M := g_iincg d hn rfl hv (lok1_10 hp) k
theorem lok1_11 {v0 v1 v2 v3 v4 v5 v6 v7 v8 v9 v10 v11 : Option Value} {t : List (Option Value)} {x : Int32} (hp : lnl v10) : lok1 (v0 :: v1 :: v2 :: v3 :: v4 :: v5 :: v6 :: v7 :: v8 :: v9 :: v10 :: v11 :: t) (v0 :: v1 :: v2 :: v3 :: v4 :: v5 :: v6 :: v7 :: v8 :: v9 :: v10 :: some (.int x) :: t) 11 (.int x) := lok1_of (L := v0 :: v1 :: v2 :: v3 :: v4 :: v5 :: v6 :: v7 :: v8 :: v9 :: v10 :: v11 :: t) (i := 11) (by simp) (fun _ => hp)
theorem g_ist11 {v0 v1 v2 v3 v4 v5 v6 v7 v8 v9 v10 v11 : Option Value} {t : List (Option Value)} {x : Int32} (d : decode cc pc = .ok (.istore 11, 2)) (hn : 11 < nL) (hp : lnl v10) (k : G X res own cc nL fr lo (pc + 2) (v0 :: v1 :: v2 :: v3 :: v4 :: v5 :: v6 :: v7 :: v8 :: v9 :: v10 :: some (.int x) :: t) st M) : G X res own cc nL fr lo pc (v0 :: v1 :: v2 :: v3 :: v4 :: v5 :: v6 :: v7 :: v8 :: v9 :: v10 :: v11 :: t) (.int x :: st) M := g_ist d hn (lok1_11 hp) k
theorem lok2_11 {v0 v1 v2 v3 v4 v5 v6 v7 v8 v9 v10 v11 u : Option Value} {t : List (Option Value)} {x : Int64} (hp : lnl v10) : lok2 (v0 :: v1 :: v2 :: v3 :: v4 :: v5 :: v6 :: v7 :: v8 :: v9 :: v10 :: v11 :: u :: t) (v0 :: v1 :: v2 :: v3 :: v4 :: v5 :: v6 :: v7 :: v8 :: v9 :: v10 :: some (.long x) :: none :: t) 11 (.long x) := lok2_of (L := v0 :: v1 :: v2 :: v3 :: v4 :: v5 :: v6 :: v7 :: v8 :: v9 :: v10 :: v11 :: u :: t) (i := 11) (by simp) (fun _ => hp)
theorem g_lst11 {v0 v1 v2 v3 v4 v5 v6 v7 v8 v9 v10 v11 u : Option Value} {t : List (Option Value)} {x : Int64} (d : decode cc pc = .ok (.lstore 11, 2)) (hn : 11 + 1 < nL) (hp : lnl v10) (k : G X res own cc nL fr lo (pc + 2) (v0 :: v1 :: v2 :: v3 :: v4 :: v5 :: v6 :: v7 :: v8 :: v9 :: v10 :: some (.long x) :: none :: t) st M) : G X res own cc nL fr lo pc (v0 :: v1 :: v2 :: v3 :: v4 :: v5 :: v6 :: v7 :: v8 :: v9 :: v10 :: v11 :: u :: t) (.long x :: st) M := g_lst d hn (lok2_11 hp) k
theorem g_iinc11 {v0 v1 v2 v3 v4 v5 v6 v7 v8 v9 v10 : Option Value} {t : List (Option Value)} {n : Int} {x v : Int32} (d : decode cc pc = .ok (.iinc 11 n, 3)) (hn : 11 < nL) (hp : lnl v10) (hv : x + Int32.ofInt n = v) (k : G X res own cc nL fr lo (pc + 3) (v0 :: v1 :: v2 :: v3 :: v4 :: v5 :: v6 :: v7 :: v8 :: v9 :: v10 :: some (.int v) :: t) st M) : G X res own cc nL fr lo pc (v0 :: v1 :: v2 :: v3 :: v4 :: v5 :: v6 :: v7 :: v8 :: v9 :: v10 :: some (.int x) :: t) st M := g_iincg d hn rfl hv (lok1_11 hp) k
theorem lok1_12 {v0 v1 v2 v3 v4 v5 v6 v7 v8 v9 v10 v11 v12 : Option Value} {t : List (Option Value)} {x : Int32} (hp : lnl v11) : lok1 (v0 :: v1 :: v2 :: v3 :: v4 :: v5 :: v6 :: v7 :: v8 :: v9 :: v10 :: v11 :: v12 :: t) (v0 :: v1 :: v2 :: v3 :: v4 :: v5 :: v6 :: v7 :: v8 :: v9 :: v10 :: v11 :: some (.int x) :: t) 12 (.int x) := lok1_of (L := v0 :: v1 :: v2 :: v3 :: v4 :: v5 :: v6 :: v7 :: v8 :: v9 :: v10 :: v11 :: v12 :: t) (i := 12) (by simp) (fun _ => hp)
theorem g_ist12 {v0 v1 v2 v3 v4 v5 v6 v7 v8 v9 v10 v11 v12 : Option Value} {t : List (Option Value)} {x : Int32} (d : decode cc pc = .ok (.istore 12, 2)) (hn : 12 < nL) (hp : lnl v11) (k : G X res own cc nL fr lo (pc + 2) (v0 :: v1 :: v2 :: v3 :: v4 :: v5 :: v6 :: v7 :: v8 :: v9 :: v10 :: v11 :: some (.int x) :: t) st M) : G X res own cc nL fr lo pc (v0 :: v1 :: v2 :: v3 :: v4 :: v5 :: v6 :: v7 :: v8 :: v9 :: v10 :: v11 :: v12 :: t) (.int x :: st) M := g_ist d hn (lok1_12 hp) k
theorem lok2_12 {v0 v1 v2 v3 v4 v5 v6 v7 v8 v9 v10 v11 v12 u : Option Value} {t : List (Option Value)} {x : Int64} (hp : lnl v11) : lok2 (v0 :: v1 :: v2 :: v3 :: v4 :: v5 :: v6 :: v7 :: v8 :: v9 :: v10 :: v11 :: v12 :: u :: t) (v0 :: v1 :: v2 :: v3 :: v4 :: v5 :: v6 :: v7 :: v8 :: v9 :: v10 :: v11 :: some (.long x) :: none :: t) 12 (.long x) := lok2_of (L := v0 :: v1 :: v2 :: v3 :: v4 :: v5 :: v6 :: v7 :: v8 :: v9 :: v10 :: v11 :: v12 :: u :: t) (i := 12) (by simp) (fun _ => hp)
theorem g_lst12 {v0 v1 v2 v3 v4 v5 v6 v7 v8 v9 v10 v11 v12 u : Option Value} {t : List (Option Value)} {x : Int64} (d : decode cc pc = .ok (.lstore 12, 2)) (hn : 12 + 1 < nL) (hp : lnl v11) (k : G X res own cc nL fr lo (pc + 2) (v0 :: v1 :: v2 :: v3 :: v4 :: v5 :: v6 :: v7 :: v8 :: v9 :: v10 :: v11 :: some (.long x) :: none :: t) st M) : G X res own cc nL fr lo pc (v0 :: v1 :: v2 :: v3 :: v4 :: v5 :: v6 :: v7 :: v8 :: v9 :: v10 :: v11 :: v12 :: u :: t) (.long x :: st) M := g_lst d hn (lok2_12 hp) k
theorem g_iinc12 {v0 v1 v2 v3 v4 v5 v6 v7 v8 v9 v10 v11 : Option Value} {t : List (Option Value)} {n : Int} {x v : Int32} (d : decode cc pc = .ok (.iinc 12 n, 3)) (hn : 12 < nL) (hp : lnl v11) (hv : x + Int32.ofInt n = v) (k : G X res own cc nL fr lo (pc + 3) (v0 :: v1 :: v2 :: v3 :: v4 :: v5 :: v6 :: v7 :: v8 :: v9 :: v10 :: v11 :: some (.int v) :: t) st M) : G X res own cc nL fr lo pc (v0 :: v1 :: v2 :: v3 :: v4 :: v5 :: v6 :: v7 :: v8 :: v9 :: v10 :: v11 :: some (.int x) :: t) st M := g_iincg d hn rfl hv (lok1_12 hp) k
theorem lok1_13 {v0 v1 v2 v3 v4 v5 v6 v7 v8 v9 v10 v11 v12 v13 : Option Value} {t : List (Option Value)} {x : Int32} (hp : lnl v12) : lok1 (v0 :: v1 :: v2 :: v3 :: v4 :: v5 :: v6 :: v7 :: v8 :: v9 :: v10 :: v11 :: v12 :: v13 :: t) (v0 :: v1 :: v2 :: v3 :: v4 :: v5 :: v6 :: v7 :: v8 :: v9 :: v10 :: v11 :: v12 :: some (.int x) :: t) 13 (.int x) := lok1_of (L := v0 :: v1 :: v2 :: v3 :: v4 :: v5 :: v6 :: v7 :: v8 :: v9 :: v10 :: v11 :: v12 :: v13 :: t) (i := 13) (by simp) (fun _ => hp)
theorem g_ist13 {v0 v1 v2 v3 v4 v5 v6 v7 v8 v9 v10 v11 v12 v13 : Option Value} {t : List (Option Value)} {x : Int32} (d : decode cc pc = .ok (.istore 13, 2)) (hn : 13 < nL) (hp : lnl v12) (k : G X res own cc nL fr lo (pc + 2) (v0 :: v1 :: v2 :: v3 :: v4 :: v5 :: v6 :: v7 :: v8 :: v9 :: v10 :: v11 :: v12 :: some (.int x) :: t) st M) : G X res own cc nL fr lo pc (v0 :: v1 :: v2 :: v3 :: v4 :: v5 :: v6 :: v7 :: v8 :: v9 :: v10 :: v11 :: v12 :: v13 :: t) (.int x :: st) M := g_ist d hn (lok1_13 hp) k
theorem lok2_13 {v0 v1 v2 v3 v4 v5 v6 v7 v8 v9 v10 v11 v12 v13 u : Option Value} {t : List (Option Value)} {x : Int64} (hp : lnl v12) : lok2 (v0 :: v1 :: v2 :: v3 :: v4 :: v5 :: v6 :: v7 :: v8 :: v9 :: v10 :: v11 :: v12 :: v13 :: u :: t) (v0 :: v1 :: v2 :: v3 :: v4 :: v5 :: v6 :: v7 :: v8 :: v9 :: v10 :: v11 :: v12 :: some (.long x) :: none :: t) 13 (.long x) := lok2_of (L := v0 :: v1 :: v2 :: v3 :: v4 :: v5 :: v6 :: v7 :: v8 :: v9 :: v10 :: v11 :: v12 :: v13 :: u :: t) (i := 13) (by simp) (fun _ => hp)
theorem g_lst13 {v0 v1 v2 v3 v4 v5 v6 v7 v8 v9 v10 v11 v12 v13 u : Option Value} {t : List (Option Value)} {x : Int64} (d : decode cc pc = .ok (.lstore 13, 2)) (hn : 13 + 1 < nL) (hp : lnl v12) (k : G X res own cc nL fr lo (pc + 2) (v0 :: v1 :: v2 :: v3 :: v4 :: v5 :: v6 :: v7 :: v8 :: v9 :: v10 :: v11 :: v12 :: some (.long x) :: none :: t) st M) : G X res own cc nL fr lo pc (v0 :: v1 :: v2 :: v3 :: v4 :: v5 :: v6 :: v7 :: v8 :: v9 :: v10 :: v11 :: v12 :: v13 :: u :: t) (.long x :: st) M := g_lst d hn (lok2_13 hp) k
theorem g_iinc13 {v0 v1 v2 v3 v4 v5 v6 v7 v8 v9 v10 v11 v12 : Option Value} {t : List (Option Value)} {n : Int} {x v : Int32} (d : decode cc pc = .ok (.iinc 13 n, 3)) (hn : 13 < nL) (hp : lnl v12) (hv : x + Int32.ofInt n = v) (k : G X res own cc nL fr lo (pc + 3) (v0 :: v1 :: v2 :: v3 :: v4 :: v5 :: v6 :: v7 :: v8 :: v9 :: v10 :: v11 :: v12 :: some (.int v) :: t) st M) : G X res own cc nL fr lo pc (v0 :: v1 :: v2 :: v3 :: v4 :: v5 :: v6 :: v7 :: v8 :: v9 :: v10 :: v11 :: v12 :: some (.int x) :: t) st M := g_iincg d hn rfl hv (lok1_13 hp) k
theorem lok1_14 {v0 v1 v2 v3 v4 v5 v6 v7 v8 v9 v10 v11 v12 v13 v14 : Option Value} {t : List (Option Value)} {x : Int32} (hp : lnl v13) : lok1 (v0 :: v1 :: v2 :: v3 :: v4 :: v5 :: v6 :: v7 :: v8 :: v9 :: v10 :: v11 :: v12 :: v13 :: v14 :: t) (v0 :: v1 :: v2 :: v3 :: v4 :: v5 :: v6 :: v7 :: v8 :: v9 :: v10 :: v11 :: v12 :: v13 :: some (.int x) :: t) 14 (.int x) := lok1_of (L := v0 :: v1 :: v2 :: v3 :: v4 :: v5 :: v6 :: v7 :: v8 :: v9 :: v10 :: v11 :: v12 :: v13 :: v14 :: t) (i := 14) (by simp) (fun _ => hp)
theorem g_ist14 {v0 v1 v2 v3 v4 v5 v6 v7 v8 v9 v10 v11 v12 v13 v14 : Option Value} {t : List (Option Value)} {x : Int32} (d : decode cc pc = .ok (.istore 14, 2)) (hn : 14 < nL) (hp : lnl v13) (k : G X res own cc nL fr lo (pc + 2) (v0 :: v1 :: v2 :: v3 :: v4 :: v5 :: v6 :: v7 :: v8 :: v9 :: v10 :: v11 :: v12 :: v13 :: some (.int x) :: t) st M) : G X res own cc nL fr lo pc (v0 :: v1 :: v2 :: v3 :: v4 :: v5 :: v6 :: v7 :: v8 :: v9 :: v10 :: v11 :: v12 :: v13 :: v14 :: t) (.int x :: st) M := g_ist d hn (lok1_14 hp) k
theorem lok2_14 {v0 v1 v2 v3 v4 v5 v6 v7 v8 v9 v10 v11 v12 v13 v14 u : Option Value} {t : List (Option Value)} {x : Int64} (hp : lnl v13) : lok2 (v0 :: v1 :: v2 :: v3 :: v4 :: v5 :: v6 :: v7 :: v8 :: v9 :: v10 :: v11 :: v12 :: v13 :: v14 :: u :: t) (v0 :: v1 :: v2 :: v3 :: v4 :: v5 :: v6 :: v7 :: v8 :: v9 :: v10 :: v11 :: v12 :: v13 :: some (.long x) :: none :: t) 14 (.long x) := lok2_of (L := v0 :: v1 :: v2 :: v3 :: v4 :: v5 :: v6 :: v7 :: v8 :: v9 :: v10 :: v11 :: v12 :: v13 :: v14 :: u :: t) (i := 14) (by simp) (fun _ => hp)
theorem g_lst14 {v0 v1 v2 v3 v4 v5 v6 v7 v8 v9 v10 v11 v12 v13 v14 u : Option Value} {t : List (Option Value)} {x : Int64} (d : decode cc pc = .ok (.lstore 14, 2)) (hn : 14 + 1 < nL) (hp : lnl v13) (k : G X res own cc nL fr lo (pc + 2) (v0 :: v1 :: v2 :: v3 :: v4 :: v5 :: v6 :: v7 :: v8 :: v9 :: v10 :: v11 :: v12 :: v13 :: some (.long x) :: none :: t) st M) : G X res own cc nL fr lo pc (v0 :: v1 :: v2 :: v3 :: v4 :: v5 :: v6 :: v7 :: v8 :: v9 :: v10 :: v11 :: v12 :: v13 :: v14 :: u :: t) (.long x :: st) M := g_lst d hn (lok2_14 hp) k
theorem g_iinc14 {v0 v1 v2 v3 v4 v5 v6 v7 v8 v9 v10 v11 v12 v13 : Option Value} {t : List (Option Value)} {n : Int} {x v : Int32} (d : decode cc pc = .ok (.iinc 14 n, 3)) (hn : 14 < nL) (hp : lnl v13) (hv : x + Int32.ofInt n = v) (k : G X res own cc nL fr lo (pc + 3) (v0 :: v1 :: v2 :: v3 :: v4 :: v5 :: v6 :: v7 :: v8 :: v9 :: v10 :: v11 :: v12 :: v13 :: some (.int v) :: t) st M) : G X res own cc nL fr lo pc (v0 :: v1 :: v2 :: v3 :: v4 :: v5 :: v6 :: v7 :: v8 :: v9 :: v10 :: v11 :: v12 :: v13 :: some (.int x) :: t) st M := g_iincg d hn rfl hv (lok1_14 hp) k
theorem lok1_15 {v0 v1 v2 v3 v4 v5 v6 v7 v8 v9 v10 v11 v12 v13 v14 v15 : Option Value} {t : List (Option Value)} {x : Int32} (hp : lnl v14) : lok1 (v0 :: v1 :: v2 :: v3 :: v4 :: v5 :: v6 :: v7 :: v8 :: v9 :: v10 :: v11 :: v12 :: v13 :: v14 :: v15 :: t) (v0 :: v1 :: v2 :: v3 :: v4 :: v5 :: v6 :: v7 :: v8 :: v9 :: v10 :: v11 :: v12 :: v13 :: v14 :: some (.int x) :: t) 15 (.int x) := lok1_of (L := v0 :: v1 :: v2 :: v3 :: v4 :: v5 :: v6 :: v7 :: v8 :: v9 :: v10 :: v11 :: v12 :: v13 :: v14 :: v15 :: t) (i := 15) (by simp) (fun _ => hp)
theorem g_ist15 {v0 v1 v2 v3 v4 v5 v6 v7 v8 v9 v10 v11 v12 v13 v14 v15 : Option Value} {t : List (Option Value)} {x : Int32} (d : decode cc pc = .ok (.istore 15, 2)) (hn : 15 < nL) (hp : lnl v14) (k : G X res own cc nL fr lo (pc + 2) (v0 :: v1 :: v2 :: v3 :: v4 :: v5 :: v6 :: v7 :: v8 :: v9 :: v10 :: v11 :: v12 :: v13 :: v14 :: some (.int x) :: t) st M) : G X res own cc nL fr lo pc (v0 :: v1 :: v2 :: v3 :: v4 :: v5 :: v6 :: v7 :: v8 :: v9 :: v10 :: v11 :: v12 :: v13 :: v14 :: v15 :: t) (.int x :: st) M := g_ist d hn (lok1_15 hp) k
theorem lok2_15 {v0 v1 v2 v3 v4 v5 v6 v7 v8 v9 v10 v11 v12 v13 v14 v15 u : Option Value} {t : List (Option Value)} {x : Int64} (hp : lnl v14) : lok2 (v0 :: v1 :: v2 :: v3 :: v4 :: v5 :: v6 :: v7 :: v8 :: v9 :: v10 :: v11 :: v12 :: v13 :: v14 :: v15 :: u :: t) (v0 :: v1 :: v2 :: v3 :: v4 :: v5 :: v6 :: v7 :: v8 :: v9 :: v10 :: v11 :: v12 :: v13 :: v14 :: some (.long x) :: none :: t) 15 (.long x) := lok2_of (L := v0 :: v1 :: v2 :: v3 :: v4 :: v5 :: v6 :: v7 :: v8 :: v9 :: v10 :: v11 :: v12 :: v13 :: v14 :: v15 :: u :: t) (i := 15) (by simp) (fun _ => hp)
theorem g_lst15 {v0 v1 v2 v3 v4 v5 v6 v7 v8 v9 v10 v11 v12 v13 v14 v15 u : Option Value} {t : List (Option Value)} {x : Int64} (d : decode cc pc = .ok (.lstore 15, 2)) (hn : 15 + 1 < nL) (hp : lnl v14) (k : G X res own cc nL fr lo (pc + 2) (v0 :: v1 :: v2 :: v3 :: v4 :: v5 :: v6 :: v7 :: v8 :: v9 :: v10 :: v11 :: v12 :: v13 :: v14 :: some (.long x) :: none :: t) st M) : G X res own cc nL fr lo pc (v0 :: v1 :: v2 :: v3 :: v4 :: v5 :: v6 :: v7 :: v8 :: v9 :: v10 :: v11 :: v12 :: v13 :: v14 :: v15 :: u :: t) (.long x :: st) M := g_lst d hn (lok2_15 hp) k
theorem g_iinc15 {v0 v1 v2 v3 v4 v5 v6 v7 v8 v9 v10 v11 v12 v13 v14 : Option Value} {t : List (Option Value)} {n : Int} {x v : Int32} (d : decode cc pc = .ok (.iinc 15 n, 3)) (hn : 15 < nL) (hp : lnl v14) (hv : x + Int32.ofInt n = v) (k : G X res own cc nL fr lo (pc + 3) (v0 :: v1 :: v2 :: v3 :: v4 :: v5 :: v6 :: v7 :: v8 :: v9 :: v10 :: v11 :: v12 :: v13 :: v14 :: some (.int v) :: t) st M) : G X res own cc nL fr lo pc (v0 :: v1 :: v2 :: v3 :: v4 :: v5 :: v6 :: v7 :: v8 :: v9 :: v10 :: v11 :: v12 :: v13 :: v14 :: some (.int x) :: t) st M := g_iincg d hn rfl hv (lok1_15 hp) k
end GR
section GH
variable {X : Cx} {res : Option Value × Mem} {own : String} {cc : ByteArray} {nL fr lo pc : Nat} {L : List (Option Value)} {st : List Value} {M : Mem}
theorem g_ldc {index : Nat} {v : Int32} (hc : Cond.constant own index v ∈ TB) (d : decode cc pc = .ok (.ldc index, 2)) (k : G X res own cc nL fr lo (pc + 2) L (.int v :: st) M) : G X res own cc nL fr lo pc L st M := fun C H locs ls hP hS hl => lv_ldc C.1 C.2.1 C.2.2.2.1 (C.2.2.2.2.1 _ hc) d (k C H locs ls hP hS hl)
theorem g_ldc2 {index : Nat} {v : Int64} (hc : Cond.constantLong own index v ∈ TB) (d : decode cc pc = .ok (.ldc2_w index, 3)) (k : G X res own cc nL fr lo (pc + 3) L (.long v :: st) M) : G X res own cc nL fr lo pc L st M := fun C H locs ls hP hS hl => lv_ldc2 C.1 C.2.1 C.2.2.2.1 (C.2.2.2.2.1 _ hc) d (k C H locs ls hP hS hl)
/-- a field is read -/
theorem g_get {C0 : String} {T : u_T} {N ci index j kk : Nat} {fs : List Value} {v : Value} (hk : kk < nCell) (hc : cel X.1 kk (M.1 kk) (M.2 kk) = .inr (ci, fs)) (hcl : vwCl[ci]? = some (C0, T, N)) (hin : ∀ w ∈ u_ws C0 T N, w ∈ TB) (hlink : Cond.fieldLink own index (T j).1 (T j).2.1 (T j).2.2.1 ∈ TB) (hj : j < N) (hv : fs[j]? = some v) (d : decode cc pc = .ok (.getfield index, 3))
    (k : G X res own cc nL fr lo (pc + 3) L (v :: st) M) : G X res own cc nL fr lo pc L (.ref (X.1.1 kk) :: st) M := fun C H locs ls hP hS hl =>
  va_get (D := X.1.2.1) (ref := (T j).1) C.1 C.2.1 C.2.2.2.2.1 hin C.2.2.2.1 C.2.2.2.2.2.1 hP kk (by rw [wl_get hk, hc]) hcl j hj (C.2.2.2.2.1 _ hlink) (fun _ h => h) hv d (k C H locs ls hP hS hl)
/-- a field is written -/
theorem g_putI {C0 : String} {T : u_T} {N ci index j kk : Nat} {fs : List Value} {x : Int32} {ty0 : Nat → FieldType} (hk : kk < nCell) (hc : cel X.1 kk (M.1 kk) (M.2 kk) = .inr (ci, fs)) (hc2 : cel X.1 kk (upd (M.1 kk) j x) (M.2 kk) = .inr (ci, fs.set j (.int x))) (hcl : vwCl[ci]? = some (C0, T, N)) (hin : ∀ w ∈ u_ws C0 T N, w ∈ TB) (hty : ∀ k, k < N → parseFieldDescriptor (T k).2.2.1 = some (ty0 k)) (hnm : ∀ a, a < N → ∀ b, b < N → a ≠ b → (T a).2.1 ≠ (T b).2.1) (hlink : Cond.fieldLink own index (T j).1 (T j).2.1 (T j).2.2.1 ∈ TB) (hj : j < N) (hjl : j < fs.length) (hfin : (T j).2.2.2 = false) (hd : parseFieldDescriptor (T j).2.2.1 = some .int) (d : decode cc pc = .ok (.putfield index, 3))
    (k : G X res own cc nL fr lo (pc + 3) L st (mI M kk j x)) : G X res own cc nL fr lo pc L (.int x :: .ref (X.1.1 kk) :: st) M := fun C H locs ls hP hS hl =>
  va_put (D := X.1.2.1) (ref := (T j).1) (ty := .int) C.1 C.2.1 C.2.2.2.2.1 hin ty0 hty hnm C.2.2.2.1 C.2.2.2.2.2.1 hP (wl_D C.2.2.2.2.2.2.1 M) hS kk (by rw [wl_get hk, hc]) hcl j hj (C.2.2.2.2.1 _ hlink) (fun _ h => h) hfin hd rfl rfl hjl d
    (fun H1 locs1 hP1 _ hS1 => k C H1 locs1 ls (by rw [wl_rI hc2] at hP1; exact hP1) hS1 hl)
theorem g_putL {C0 : String} {T : u_T} {N ci index j kk : Nat} {fs : List Value} {x : Int64} {ty0 : Nat → FieldType} (hk : kk < nCell) (hc : cel X.1 kk (M.1 kk) (M.2 kk) = .inr (ci, fs)) (hc2 : cel X.1 kk (M.1 kk) (vp_updL (M.2 kk) j x) = .inr (ci, fs.set j (.long x))) (hcl : vwCl[ci]? = some (C0, T, N)) (hin : ∀ w ∈ u_ws C0 T N, w ∈ TB) (hty : ∀ k, k < N → parseFieldDescriptor (T k).2.2.1 = some (ty0 k)) (hnm : ∀ a, a < N → ∀ b, b < N → a ≠ b → (T a).2.1 ≠ (T b).2.1) (hlink : Cond.fieldLink own index (T j).1 (T j).2.1 (T j).2.2.1 ∈ TB) (hj : j < N) (hjl : j < fs.length) (hfin : (T j).2.2.2 = false) (hd : parseFieldDescriptor (T j).2.2.1 = some .long) (d : decode cc pc = .ok (.putfield index, 3))
    (k : G X res own cc nL fr lo (pc + 3) L st (mL M kk j x)) : G X res own cc nL fr lo pc L (.long x :: .ref (X.1.1 kk) :: st) M := fun C H locs ls hP hS hl =>
  va_put (D := X.1.2.1) (ref := (T j).1) (ty := .long) C.1 C.2.1 C.2.2.2.2.1 hin ty0 hty hnm C.2.2.2.1 C.2.2.2.2.2.1 hP (wl_D C.2.2.2.2.2.2.1 M) hS kk (by rw [wl_get hk, hc]) hcl j hj (C.2.2.2.2.1 _ hlink) (fun _ h => h) hfin hd rfl rfl hjl d
    (fun H1 locs1 hP1 _ hS1 => k C H1 locs1 ls (by rw [wl_rL hc2] at hP1; exact hP1) hS1 hl)
/-- arrays -/
theorem g_iaload {kk n j : Nat} {i : Int32} (hk : kk < nCell) (hc : ∀ f g, cel X.1 kk f g = .inl (X.1.2.2.1.1, n, .inl f)) (hin : vp_in i n) (hj : i.toNatClampNeg = j) (d : decode cc pc = .ok (.iaload, 1))
    (k : G X res own cc nL fr lo (pc + 1) L (.int (M.1 kk j) :: st) M) : G X res own cc nL fr lo pc L (.int i :: .ref (X.1.1 kk) :: st) M := fun C H locs ls hP hS hl => by
  subst hj
  exact va_iald C.1 C.2.1 C.2.2.2.2.2.1 hP kk 0 (by rw [wl_get hk, hc]) rfl hin d (k C H locs ls hP hS hl)
theorem g_zaload {kk n j : Nat} {i : Int32} (hk : kk < nCell) (hc : ∀ f g, cel X.1 kk f g = .inl (X.1.2.2.1.2.2.1, n, .inl f)) (hin : vp_in i n) (hj : i.toNatClampNeg = j) (d : decode cc pc = .ok (.baload, 1))
    (k : G X res own cc nL fr lo (pc + 1) L (.int (M.1 kk j) :: st) M) : G X res own cc nL fr lo pc L (.int i :: .ref (X.1.1 kk) :: st) M := fun C H locs ls hP hS hl => by
  subst hj
  exact va_zald C.1 C.2.1 C.2.2.2.2.2.1 hP kk 2 (by rw [wl_get hk, hc]) rfl hin d (k C H locs ls hP hS hl)
theorem g_laload {kk n j : Nat} {i : Int32} (hk : kk < nCell) (hc : ∀ f g, cel X.1 kk f g = .inl (X.1.2.2.1.2.1, n, .inr (.inl g))) (hin : vp_in i n) (hj : i.toNatClampNeg = j) (d : decode cc pc = .ok (.laload, 1))
    (k : G X res own cc nL fr lo (pc + 1) L (.long (M.2 kk j) :: st) M) : G X res own cc nL fr lo pc L (.int i :: .ref (X.1.1 kk) :: st) M := fun C H locs ls hP hS hl => by
  subst hj
  exact va_lald C.1 C.2.1 C.2.2.2.2.2.1 hP kk 1 (by rw [wl_get hk, hc]) rfl hin d (k C H locs ls hP hS hl)
theorem g_iastore {kk n j : Nat} {i x : Int32} (hk : kk < nCell) (hc : ∀ f g, cel X.1 kk f g = .inl (X.1.2.2.1.1, n, .inl f)) (hin : vp_in i n) (hj : i.toNatClampNeg = j) (d : decode cc pc = .ok (.iastore, 1))
    (k : G X res own cc nL fr lo (pc + 1) L st (mI M kk j x)) : G X res own cc nL fr lo pc L (.int x :: .int i :: .ref (X.1.1 kk) :: st) M := fun C H locs ls hP hS hl => by
  subst hj
  exact va_iast C.1 C.2.1 C.2.2.2.2.2.1 hP (wl_D C.2.2.2.2.2.2.1 M) hS kk 0 (by rw [wl_get hk, hc]) rfl hin d (fun H1 locs1 hP1 _ hS1 => k C H1 locs1 ls (by rw [wl_rI (f := upd (M.1 kk) i.toNatClampNeg x) (hc _ _)] at hP1; exact hP1) hS1 hl)
theorem g_zastore {kk n j : Nat} {i x : Int32} (hk : kk < nCell) (hc : ∀ f g, cel X.1 kk f g = .inl (X.1.2.2.1.2.2.1, n, .inl f)) (hin : vp_in i n) (hj : i.toNatClampNeg = j) (d : decode cc pc = .ok (.bastore, 1))
    (k : G X res own cc nL fr lo (pc + 1) L st (mI M kk j (vp_nar .boolean x))) : G X res own cc nL fr lo pc L (.int x :: .int i :: .ref (X.1.1 kk) :: st) M := fun C H locs ls hP hS hl => by
  subst hj
  exact va_zast C.1 C.2.1 C.2.2.2.2.2.1 hP (wl_D C.2.2.2.2.2.2.1 M) hS kk 2 (by rw [wl_get hk, hc]) rfl hin d (fun H1 locs1 hP1 _ hS1 => k C H1 locs1 ls (by rw [wl_rI (f := upd (M.1 kk) i.toNatClampNeg (vp_nar .boolean x)) (hc _ _)] at hP1; exact hP1) hS1 hl)
theorem g_lastore {kk n j : Nat} {i : Int32} {x : Int64} (hk : kk < nCell) (hc : ∀ f g, cel X.1 kk f g = .inl (X.1.2.2.1.2.1, n, .inr (.inl g))) (hin : vp_in i n) (hj : i.toNatClampNeg = j) (d : decode cc pc = .ok (.lastore, 1))
    (k : G X res own cc nL fr lo (pc + 1) L st (mL M kk j x)) : G X res own cc nL fr lo pc L (.long x :: .int i :: .ref (X.1.1 kk) :: st) M := fun C H locs ls hP hS hl => by
  subst hj
  exact va_last C.1 C.2.1 C.2.2.2.2.2.1 hP (wl_D C.2.2.2.2.2.2.1 M) hS kk 1 (by rw [wl_get hk, hc]) rfl hin d (fun H1 locs1 hP1 _ hS1 => k C H1 locs1 ls (by rw [wl_rL (f := vp_updL (M.2 kk) i.toNatClampNeg x) (hc _ _)] at hP1; exact hP1) hS1 hl)
/-- the row of images -/
theorem g_aaload {i : Int32} (hin : vp_in i 2) (d : decode cc pc = .ok (.aaload, 1))
    (k0 : i = 0 → G X res own cc nL fr lo (pc + 1) L (.ref (X.1.1 27) :: st) M) (k1 : ¬ i = 0 → G X res own cc nL fr lo (pc + 1) L (.ref (X.1.1 40) :: st) M) : G X res own cc nL fr lo pc L (.int i :: .ref (X.1.1 53) :: st) M := fun C H locs ls hP hS hl => by
  refine va_aldq C.1 C.2.1 C.2.2.2.2.2.1 hP 53 3 (by rw [wl_get (by decide), cel_53]) rfl hin d ?_
  obtain ⟨j, hj, rfl⟩ := vp_in_of hin (by decide)
  rw [nI_clamp (by omega)]
  by_cases h : j = 0
  · subst h
    exact k0 rfl C H locs ls hP hS hl
  · rw [if_neg h]
    exact k1 (nI_ne0 (by omega) (by omega)) C H locs ls hP hS hl
/-- System.arraycopy with known numbers -/
theorem g_copyI {index k0 k1 n0 n1 : Nat} {sp dp n : Int32} (hlink : Cond.methodLink own index arraycopyName ∈ TB) (hnat : Cond.native arraycopyName ∈ TB) (hstat : Cond.static arraycopyName ∈ TB) (hini : Cond.initialized "java/lang/System" ∈ TB) (hk0 : k0 < nCell) (hc0 : ∀ f g, cel X.1 k0 f g = .inl (X.1.2.2.1.1, n0, .inl f)) (hk1 : k1 < nCell) (hc1 : ∀ f g, cel X.1 k1 f g = .inl (X.1.2.2.1.1, n1, .inl f))
    (h1 : ¬ sp < 0) (h2 : ¬ dp < 0) (h3 : ¬ n < 0) (h4 : sp.toNatClampNeg + n.toNatClampNeg ≤ n0) (h5 : dp.toNatClampNeg + n.toNatClampNeg ≤ n1) (hfr : 1 ≤ fr) (hlo : (st.map fun v => v.category).sum + (nativeFrameWords "java/lang/System" "arraycopy" 5 + 11) ≤ lo) (d : decode cc pc = .ok (.invokestatic index, 3))
    (k : G X res own cc nL fr lo (pc + 3) L st (rI M k1 (va_cpy (M.1 k0) (M.1 k1) sp.toNatClampNeg dp.toNatClampNeg n.toNatClampNeg))) : G X res own cc nL fr lo pc L (.int n :: .int dp :: .ref (X.1.1 k1) :: .int sp :: .ref (X.1.1 k0) :: st) M := fun C H locs ls hP hS hl =>
  va_copyi C.1 C.2.1 (C.2.2.1.trans hl.1.symm) C.2.2.2.1 (C.2.2.2.2.1 _ hlink) (C.2.2.2.2.1 _ hnat) (C.2.2.2.2.1 _ hstat) (C.2.2.2.2.1 _ hini) C.2.2.2.2.2.1 hP (wl_D C.2.2.2.2.2.2.1 M) hS k0 k1 0 0 (by rw [wl_get hk0, hc0]) (by rw [wl_get hk1, hc1]) rfl rfl rfl h1 h2 h3 h4 h5 (fun _ _ => rfl) (Nat.le_trans hfr C.2.2.2.2.2.2.2.2.1) (Nat.le_trans hlo C.2.2.2.2.2.2.2.2.2.1) d
    (fun H1 locs1 hP1 _ hS1 => k C H1 locs1 ls (by rw [wl_rI (hc1 _ _)] at hP1; exact hP1) hS1 hl)
theorem g_copyL {index k0 k1 n0 n1 : Nat} {sp dp n : Int32} (hlink : Cond.methodLink own index arraycopyName ∈ TB) (hnat : Cond.native arraycopyName ∈ TB) (hstat : Cond.static arraycopyName ∈ TB) (hini : Cond.initialized "java/lang/System" ∈ TB) (hk0 : k0 < nCell) (hc0 : ∀ f g, cel X.1 k0 f g = .inl (X.1.2.2.1.2.1, n0, .inr (.inl g))) (hk1 : k1 < nCell) (hc1 : ∀ f g, cel X.1 k1 f g = .inl (X.1.2.2.1.2.1, n1, .inr (.inl g)))
    (h1 : ¬ sp < 0) (h2 : ¬ dp < 0) (h3 : ¬ n < 0) (h4 : sp.toNatClampNeg + n.toNatClampNeg ≤ n0) (h5 : dp.toNatClampNeg + n.toNatClampNeg ≤ n1) (hfr : 1 ≤ fr) (hlo : (st.map fun v => v.category).sum + (nativeFrameWords "java/lang/System" "arraycopy" 5 + 11) ≤ lo) (d : decode cc pc = .ok (.invokestatic index, 3))
    (k : G X res own cc nL fr lo (pc + 3) L st (rL M k1 (va_cpy (M.2 k0) (M.2 k1) sp.toNatClampNeg dp.toNatClampNeg n.toNatClampNeg))) : G X res own cc nL fr lo pc L (.int n :: .int dp :: .ref (X.1.1 k1) :: .int sp :: .ref (X.1.1 k0) :: st) M := fun C H locs ls hP hS hl =>
  va_copyl C.1 C.2.1 (C.2.2.1.trans hl.1.symm) C.2.2.2.1 (C.2.2.2.2.1 _ hlink) (C.2.2.2.2.1 _ hnat) (C.2.2.2.2.1 _ hstat) (C.2.2.2.2.1 _ hini) C.2.2.2.2.2.1 hP (wl_D C.2.2.2.2.2.2.1 M) hS k0 k1 1 1 (by rw [wl_get hk0, hc0]) (by rw [wl_get hk1, hc1]) rfl rfl rfl h1 h2 h3 h4 h5 (fun _ _ => rfl) (Nat.le_trans hfr C.2.2.2.2.2.2.2.2.1) (Nat.le_trans hlo C.2.2.2.2.2.2.2.2.2.1) d
    (fun H1 locs1 hP1 _ hS1 => k C H1 locs1 ls (by rw [wl_rL (hc1 _ _)] at hP1; exact hP1) hS1 hl)
/-- Math.max -/
theorem g_max {index : Nat} {x y : Int32} (hlink : Cond.methodLink own index Lib.Math.max.name ∈ TB) (hstat : Cond.static Lib.Math.max.name ∈ TB) (hini : Cond.initialized "java/lang/Math" ∈ TB) (hcode : Cond.code Lib.Math.max.name Lib.Math.max.code 2 (some .int) ∈ TB) (hfr : 1 ≤ fr) (hlo : (st.map fun v => v.category).sum + 13 ≤ lo) (d : decode cc pc = .ok (.invokestatic index, 3))
    (k : G X res own cc nL fr lo (pc + 3) L (.int (if x < y then y else x) :: st) M) : G X res own cc nL fr lo pc L (.int y :: .int x :: st) M := fun C H locs ls hP hS hl =>
  va_mmax C.1 C.2.1 (C.2.2.1.trans hl.1.symm) C.2.2.2.1 (C.2.2.2.2.1 _ hlink) (C.2.2.2.2.1 _ hstat) (C.2.2.2.2.1 _ hini) (C.2.2.2.2.1 _ hcode) (Nat.le_trans hfr C.2.2.2.2.2.2.2.2.1) (Nat.le_trans hlo C.2.2.2.2.2.2.2.2.2.1) (Nat.zero_le _) (Nat.zero_le _) d (k C H locs ls hP hS hl)
/-- a switch by a table -/
theorem g_tabOut {dflt lo9 hi9 : Int} {offs : Array Int} {len : Nat} {x : Int32} {tgt : Nat} (d : decode cc pc = .ok (.tableswitch dflt lo9 hi9 offs, len)) (h : x.toInt < lo9 ∨ hi9 < x.toInt) (ht : (pc : Int) + dflt = (tgt : Int)) (k : G X res own cc nL fr lo tgt L st M) : G X res own cc nL fr lo pc L (.int x :: st) M := fun C H locs ls hP hS hl => lv_tableOut C.1 C.2.1 d h ht (k C H locs ls hP hS hl)
theorem g_tabIn {dflt lo9 hi9 : Int} {offs : Array Int} {len : Nat} {x : Int32} {off : Int} {tgt : Nat} (d : decode cc pc = .ok (.tableswitch dflt lo9 hi9 offs, len)) (h1 : ¬ x.toInt < lo9) (h2 : ¬ hi9 < x.toInt) (ho : offs[(x.toInt - lo9).toNat]? = some off) (ht : (pc : Int) + off = (tgt : Int)) (k : G X res own cc nL fr lo tgt L st M) : G X res own cc nL fr lo pc L (.int x :: st) M := fun C H locs ls hP hS hl => lv_tableIn C.1 C.2.1 d h1 h2 ho ht (k C H locs ls hP hS hl)
theorem g_look {dflt : Int} {ps : Array (Int × Int)} {len : Nat} {x : Int32} {off : Int} {tgt : Nat} (d : decode cc pc = .ok (.lookupswitch dflt ps, len)) (hp : (ps.toList.zip (ps.toList.drop 1)).all (fun (a, next) => a.1 < next.1) = true) (ho : Op.lookupswitch.offset ps.toList dflt x.toInt = off) (ht : (pc : Int) + off = (tgt : Int)) (k : G X res own cc nL fr lo tgt L st M) : G X res own cc nL fr lo pc L (.int x :: st) M := fun C H locs ls hP hS hl => lv_lookup C.1 C.2.1 d hp ho ht (k C H locs ls hP hS hl)
/-- the ends -/
theorem g_iret {v : Int32} (hr : X.meth.sig.returnType = some .int) (d : decode cc pc = .ok (.ireturn, 1)) : G X (some (.int v), M) own cc nL fr lo pc L [.int v] M := fun C H locs ls hP hS hl => W.iret C.1 C.2.1 hr (fun t ht _ => ⟨rfl, by rw [ht]; exact hP, hS.F ht⟩) hS.2.2 d C.2.2.2.2.2.2.2.2.2.2
theorem g_lret {v : Int64} (hr : X.meth.sig.returnType = some .long) (d : decode cc pc = .ok (.lreturn, 1)) : G X (some (.long v), M) own cc nL fr lo pc L [.long v] M := fun C H locs ls hP hS hl => W.lret C.1 C.2.1 hr (fun t ht _ => ⟨rfl, by rw [ht]; exact hP, hS.F ht⟩) hS.2.2 d C.2.2.2.2.2.2.2.2.2.2
theorem g_zret {v : Int32} (hr : X.meth.sig.returnType = some .boolean) (hv : v = 0 ∨ v = 1) (d : decode cc pc = .ok (.ireturn, 1)) : G X (some (.int v), M) own cc nL fr lo pc L [.int v] M := fun C H locs ls hP hS hl => W.zret C.1 C.2.1 hr (by rcases hv with rfl | rfl <;> decide) (fun t ht _ => ⟨rfl, by rw [ht]; exact hP, hS.F ht⟩) hS.2.2 d C.2.2.2.2.2.2.2.2.2.2
theorem g_vret (hr : X.meth.sig.returnType = none) (d : decode cc pc = .ok (.return_, 1)) : G X (none, M) own cc nL fr lo pc L [] M := fun C H locs ls hP hS hl => W.vret C.1 C.2.1 hr (fun t ht _ => ⟨rfl, by rw [ht]; exact hP, hS.F ht⟩) hS.2.2 d C.2.2.2.2.2.2.2.2.2.2
end GH

