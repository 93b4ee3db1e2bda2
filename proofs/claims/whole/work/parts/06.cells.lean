def EC : EF := fun X k f g =>
  if 3 ≤ k ∧ k < 17 then .inl (xc X 1, 13, .inl f) else if 53 ≤ k ∧ k < 65 ∧ k % 2 = 1 then .inr (7, [.int (f 0), .int (f 1), .int (f 2), .int (f 3), .ref (xq X (k + 1))]) else if 53 ≤ k ∧ k < 65 then .inl (xc X 2, 60, .inr (.inl g)) else
  match k with
  | 0 => .inr (11, [.ref (xq X 1), .ref (xq X 17), .ref (xq X 21), .ref (xq X 24), .ref (xq X 27), .ref (xq X 32), .ref (xq X 36), .ref (xq X 39), .ref (xq X 41), .ref (xq X 43), .int (f 10), .ref (xq X 44), .ref (xq X 49), .ref (xq X 52)])
  | 1 => .inr (3, [.ref (xq X 2), .int (f 1), .int (f 2), .int (f 3)])
  | 2 => .inl (xc X 6, 14, .inr (.inr (.inr (.inr (fun i => some (xq X (3 + i)))))))
  | 17 => .inr (4, [.ref (xq X (f 0).toNatClampNeg), .int (f 1), .ref (xq X 19), .ref (xq X 20)])
  | 18 => .inl (xc X 1, 121, .inl f)
  | 19 => .inl (xc X 1, 6, .inl f)
  | 20 => .inl (xc X 1, 120, .inl f)
  | 21 => .inr (5, [.ref (xq X 22), .int (f 1), .int (f 2), .ref (xq X (f 3).toNatClampNeg), .int (f 4)])
  | 22 => .inl (xc X 1, 120, .inl f)
  | 23 => .inl (xc X 1, 121, .inl f)
  | 24 => .inr (6, [.ref (xq X 25), .int (f 1), .int (f 2), .int (f 3), .ref (xq X 1), .ref (xq X 17), .ref (xq X 26)])
  | 25 => .inl (xc X 1, 36, .inl f)
  | 26 => .inl (xc X 1, 10, .inl f)
  | 27 => .inr (9, [.int (f 0), .int (f 1), .ref (xq X 1), .ref (xq X 24), .ref (xq X 28), .ref (xq X 29), .ref (xq X 30), .ref (xq X 31)])
  | 28 => .inl (xc X 1, 10, .inl f)
  | 29 => .inl (xc X 1, 10, .inl f)
  | 30 => .inl (xc X 1, 10, .inl f)
  | 31 => .inl (xc X 1, 10, .inl f)
  | 32 => .inr (10, [.int (f 0), .int (f 1), .ref (xq X 1), .ref (xq X 24), .ref (xq X 33), .ref (xq X 34), .ref (xq X 35)])
  | 33 => .inl (xc X 1, 10, .inl f)
  | 34 => .inl (xc X 1, 10, .inl f)
  | 35 => .inl (xc X 1, 10, .inl f)
  | 36 => .inr (8, [.int (f 0), .int (f 1), .int (f 2), .int (f 3), .ref (xq X 1), .ref (xq X 37), .ref (xq X 38)])
  | 37 => .inl (xc X 1, 400, .inl f)
  | 38 => .inl (xc X 1, 20, .inl f)
  | 39 => .inr (2, [.ref (xq X 40), .int (f 1), .int (f 2), .int (f 3), .int (f 4)])
  | 40 => .inl (xc X 1, 36, .inl f)
  | 41 => .inr (2, [.ref (xq X 42), .int (f 1), .int (f 2), .int (f 3), .int (f 4)])
  | 42 => .inl (xc X 1, 36, .inl f)
  | 43 => .inl (xc X 1, 8, .inl f)
  | 44 => .inr (1, [.int (f 0), .int (f 1), .ref (xq X 45), .ref (xq X 46), .ref (xq X 47), .ref (xq X 48)])
  | 45 => .inl (xc X 1, 40, .inl f)
  | 46 => .inl (xc X 1, 40, .inl f)
  | 47 => .inl (xc X 1, 40, .inl f)
  | 48 => .inl (xc X 1, 40, .inl f)
  | 49 => .inr (0, [.ref (xq X 50), .int (f 1), .ref (xq X 51), .int (f 3)])
  | 50 => .inl (xc X 1, 50, .inl f)
  | 51 => .inl (xc X 1, 24, .inl f)
  | _ => .inl (xc X 5, 6, .inr (.inr (.inr (.inr (fun i => some (xq X (53 + 2 * i)))))))
theorem EC_0 (X : WX) (f : Nat → Int32) (g : Nat → Int64) : EC X 0 f g = .inr (11, [.ref (xq X 1), .ref (xq X 17), .ref (xq X 21), .ref (xq X 24), .ref (xq X 27), .ref (xq X 32), .ref (xq X 36), .ref (xq X 39), .ref (xq X 41), .ref (xq X 43), .int (f 10), .ref (xq X 44), .ref (xq X 49), .ref (xq X 52)]) := rfl
theorem EC_1 (X : WX) (f : Nat → Int32) (g : Nat → Int64) : EC X 1 f g = .inr (3, [.ref (xq X 2), .int (f 1), .int (f 2), .int (f 3)]) := rfl
theorem EC_2 (X : WX) (f : Nat → Int32) (g : Nat → Int64) : EC X 2 f g = .inl (xc X 6, 14, .inr (.inr (.inr (.inr (fun i => some (xq X (3 + i))))))) := rfl
theorem EC_3 (X : WX) (f : Nat → Int32) (g : Nat → Int64) : EC X 3 f g = .inl (xc X 1, 13, .inl f) := rfl
theorem EC_4 (X : WX) (f : Nat → Int32) (g : Nat → Int64) : EC X 4 f g = .inl (xc X 1, 13, .inl f) := rfl
theorem EC_5 (X : WX) (f : Nat → Int32) (g : Nat → Int64) : EC X 5 f g = .inl (xc X 1, 13, .inl f) := rfl
theorem EC_6 (X : WX) (f : Nat → Int32) (g : Nat → Int64) : EC X 6 f g = .inl (xc X 1, 13, .inl f) := rfl
theorem EC_7 (X : WX) (f : Nat → Int32) (g : Nat → Int64) : EC X 7 f g = .inl (xc X 1, 13, .inl f) := rfl
theorem EC_8 (X : WX) (f : Nat → Int32) (g : Nat → Int64) : EC X 8 f g = .inl (xc X 1, 13, .inl f) := rfl
theorem EC_9 (X : WX) (f : Nat → Int32) (g : Nat → Int64) : EC X 9 f g = .inl (xc X 1, 13, .inl f) := rfl
theorem EC_10 (X : WX) (f : Nat → Int32) (g : Nat → Int64) : EC X 10 f g = .inl (xc X 1, 13, .inl f) := rfl
theorem EC_11 (X : WX) (f : Nat → Int32) (g : Nat → Int64) : EC X 11 f g = .inl (xc X 1, 13, .inl f) := rfl
theorem EC_12 (X : WX) (f : Nat → Int32) (g : Nat → Int64) : EC X 12 f g = .inl (xc X 1, 13, .inl f) := rfl
theorem EC_13 (X : WX) (f : Nat → Int32) (g : Nat → Int64) : EC X 13 f g = .inl (xc X 1, 13, .inl f) := rfl
theorem EC_14 (X : WX) (f : Nat → Int32) (g : Nat → Int64) : EC X 14 f g = .inl (xc X 1, 13, .inl f) := rfl
theorem EC_15 (X : WX) (f : Nat → Int32) (g : Nat → Int64) : EC X 15 f g = .inl (xc X 1, 13, .inl f) := rfl
theorem EC_16 (X : WX) (f : Nat → Int32) (g : Nat → Int64) : EC X 16 f g = .inl (xc X 1, 13, .inl f) := rfl
theorem EC_17 (X : WX) (f : Nat → Int32) (g : Nat → Int64) : EC X 17 f g = .inr (4, [.ref (xq X (f 0).toNatClampNeg), .int (f 1), .ref (xq X 19), .ref (xq X 20)]) := rfl
theorem EC_18 (X : WX) (f : Nat → Int32) (g : Nat → Int64) : EC X 18 f g = .inl (xc X 1, 121, .inl f) := rfl
theorem EC_19 (X : WX) (f : Nat → Int32) (g : Nat → Int64) : EC X 19 f g = .inl (xc X 1, 6, .inl f) := rfl
theorem EC_20 (X : WX) (f : Nat → Int32) (g : Nat → Int64) : EC X 20 f g = .inl (xc X 1, 120, .inl f) := rfl
theorem EC_21 (X : WX) (f : Nat → Int32) (g : Nat → Int64) : EC X 21 f g = .inr (5, [.ref (xq X 22), .int (f 1), .int (f 2), .ref (xq X (f 3).toNatClampNeg), .int (f 4)]) := rfl
theorem EC_22 (X : WX) (f : Nat → Int32) (g : Nat → Int64) : EC X 22 f g = .inl (xc X 1, 120, .inl f) := rfl
theorem EC_23 (X : WX) (f : Nat → Int32) (g : Nat → Int64) : EC X 23 f g = .inl (xc X 1, 121, .inl f) := rfl
theorem EC_24 (X : WX) (f : Nat → Int32) (g : Nat → Int64) : EC X 24 f g = .inr (6, [.ref (xq X 25), .int (f 1), .int (f 2), .int (f 3), .ref (xq X 1), .ref (xq X 17), .ref (xq X 26)]) := rfl
theorem EC_25 (X : WX) (f : Nat → Int32) (g : Nat → Int64) : EC X 25 f g = .inl (xc X 1, 36, .inl f) := rfl
theorem EC_26 (X : WX) (f : Nat → Int32) (g : Nat → Int64) : EC X 26 f g = .inl (xc X 1, 10, .inl f) := rfl
theorem EC_27 (X : WX) (f : Nat → Int32) (g : Nat → Int64) : EC X 27 f g = .inr (9, [.int (f 0), .int (f 1), .ref (xq X 1), .ref (xq X 24), .ref (xq X 28), .ref (xq X 29), .ref (xq X 30), .ref (xq X 31)]) := rfl
theorem EC_28 (X : WX) (f : Nat → Int32) (g : Nat → Int64) : EC X 28 f g = .inl (xc X 1, 10, .inl f) := rfl
theorem EC_29 (X : WX) (f : Nat → Int32) (g : Nat → Int64) : EC X 29 f g = .inl (xc X 1, 10, .inl f) := rfl
theorem EC_30 (X : WX) (f : Nat → Int32) (g : Nat → Int64) : EC X 30 f g = .inl (xc X 1, 10, .inl f) := rfl
theorem EC_31 (X : WX) (f : Nat → Int32) (g : Nat → Int64) : EC X 31 f g = .inl (xc X 1, 10, .inl f) := rfl
theorem EC_32 (X : WX) (f : Nat → Int32) (g : Nat → Int64) : EC X 32 f g = .inr (10, [.int (f 0), .int (f 1), .ref (xq X 1), .ref (xq X 24), .ref (xq X 33), .ref (xq X 34), .ref (xq X 35)]) := rfl
theorem EC_33 (X : WX) (f : Nat → Int32) (g : Nat → Int64) : EC X 33 f g = .inl (xc X 1, 10, .inl f) := rfl
theorem EC_34 (X : WX) (f : Nat → Int32) (g : Nat → Int64) : EC X 34 f g = .inl (xc X 1, 10, .inl f) := rfl
theorem EC_35 (X : WX) (f : Nat → Int32) (g : Nat → Int64) : EC X 35 f g = .inl (xc X 1, 10, .inl f) := rfl
theorem EC_36 (X : WX) (f : Nat → Int32) (g : Nat → Int64) : EC X 36 f g = .inr (8, [.int (f 0), .int (f 1), .int (f 2), .int (f 3), .ref (xq X 1), .ref (xq X 37), .ref (xq X 38)]) := rfl
theorem EC_37 (X : WX) (f : Nat → Int32) (g : Nat → Int64) : EC X 37 f g = .inl (xc X 1, 400, .inl f) := rfl
theorem EC_38 (X : WX) (f : Nat → Int32) (g : Nat → Int64) : EC X 38 f g = .inl (xc X 1, 20, .inl f) := rfl
theorem EC_39 (X : WX) (f : Nat → Int32) (g : Nat → Int64) : EC X 39 f g = .inr (2, [.ref (xq X 40), .int (f 1), .int (f 2), .int (f 3), .int (f 4)]) := rfl
theorem EC_40 (X : WX) (f : Nat → Int32) (g : Nat → Int64) : EC X 40 f g = .inl (xc X 1, 36, .inl f) := rfl
theorem EC_41 (X : WX) (f : Nat → Int32) (g : Nat → Int64) : EC X 41 f g = .inr (2, [.ref (xq X 42), .int (f 1), .int (f 2), .int (f 3), .int (f 4)]) := rfl
theorem EC_42 (X : WX) (f : Nat → Int32) (g : Nat → Int64) : EC X 42 f g = .inl (xc X 1, 36, .inl f) := rfl
theorem EC_43 (X : WX) (f : Nat → Int32) (g : Nat → Int64) : EC X 43 f g = .inl (xc X 1, 8, .inl f) := rfl
theorem EC_44 (X : WX) (f : Nat → Int32) (g : Nat → Int64) : EC X 44 f g = .inr (1, [.int (f 0), .int (f 1), .ref (xq X 45), .ref (xq X 46), .ref (xq X 47), .ref (xq X 48)]) := rfl
theorem EC_45 (X : WX) (f : Nat → Int32) (g : Nat → Int64) : EC X 45 f g = .inl (xc X 1, 40, .inl f) := rfl
theorem EC_46 (X : WX) (f : Nat → Int32) (g : Nat → Int64) : EC X 46 f g = .inl (xc X 1, 40, .inl f) := rfl
theorem EC_47 (X : WX) (f : Nat → Int32) (g : Nat → Int64) : EC X 47 f g = .inl (xc X 1, 40, .inl f) := rfl
theorem EC_48 (X : WX) (f : Nat → Int32) (g : Nat → Int64) : EC X 48 f g = .inl (xc X 1, 40, .inl f) := rfl
theorem EC_49 (X : WX) (f : Nat → Int32) (g : Nat → Int64) : EC X 49 f g = .inr (0, [.ref (xq X 50), .int (f 1), .ref (xq X 51), .int (f 3)]) := rfl
theorem EC_50 (X : WX) (f : Nat → Int32) (g : Nat → Int64) : EC X 50 f g = .inl (xc X 1, 50, .inl f) := rfl
theorem EC_51 (X : WX) (f : Nat → Int32) (g : Nat → Int64) : EC X 51 f g = .inl (xc X 1, 24, .inl f) := rfl
theorem EC_52 (X : WX) (f : Nat → Int32) (g : Nat → Int64) : EC X 52 f g = .inl (xc X 5, 6, .inr (.inr (.inr (.inr (fun i => some (xq X (53 + 2 * i))))))) := rfl
def EM : EF := fun X k f g =>
  match k with
  | 0 => .inr (12, [.int (f 0), .int (f 1), .ref (xq X 1), .ref (xq X 2), .ref (xq X 3), .ref (xq X 4), .ref (xq X 5), .ref (xq X 6), .int (f 8), .ref (xq X 7), .ref (xq X 8), .ref (xq X 9), .ref (xq X 10), .int (f 13), .ref (xq X 11), .ref (xq X 12), .ref (xq X 13), .ref (xq X 14), .int (f 18), .int (f 19), .ref (xq X 15), .ref (xq X 16), .ref (xq X 17), .ref (xq X 18), .ref (xq X 19), .int (f 25), .int (f 26), .int (f 27), .int (f 28), .int (f 29), .ref (xq X 20), .ref (xq X 21), .ref (xq X 22), .ref (xq X 23), .ref (xq X 24), .ref (xq X 25), .ref (xq X 26), .int (f 37), .ref (xq X 27), .ref (xq X 28), .ref (xq X 29), .ref (xq X 30), .ref (xq X 31), .ref (xq X 32), .int (f 44), .int (f 45), .ref (xq X 33), .ref (xq X 34), .ref (xq X 35), .ref (xq X 36), .int (f 50), .ref (xq X 37), .int (f 52), .ref (xq X 38), .ref (xq X 39), .ref (xq X 40), .ref (xq X 41), .ref (xq X 42)])
  | 1 => .inl (xc X 1, 8, .inl f)
  | 2 => .inl (xc X 1, 8, .inl f)
  | 3 => .inl (xc X 1, 8, .inl f)
  | 4 => .inl (xc X 1, 8, .inl f)
  | 5 => .inl (xc X 1, 8, .inl f)
  | 6 => .inl (xc X 1, 8, .inl f)
  | 7 => .inl (xc X 1, 11, .inl f)
  | 8 => .inl (xc X 1, 11, .inl f)
  | 9 => .inl (xc X 1, 11, .inl f)
  | 10 => .inl (xc X 1, 11, .inl f)
  | 11 => .inl (xc X 1, 13, .inl f)
  | 12 => .inl (xc X 1, 13, .inl f)
  | 13 => .inl (xc X 1, 13, .inl f)
  | 14 => .inl (xc X 1, 13, .inl f)
  | 15 => .inl (xc X 1, 40, .inl f)
  | 16 => .inl (xc X 1, 40, .inl f)
  | 17 => .inl (xc X 1, 40, .inl f)
  | 18 => .inl (xc X 1, 40, .inl f)
  | 19 => .inl (xc X 0, 120, .inl f)
  | 20 => .inl (xc X 0, 260, .inl f)
  | 21 => .inl (xc X 1, 260, .inl f)
  | 22 => .inl (xc X 1, 2, .inl f)
  | 23 => .inl (xc X 3, 122, .inl f)
  | 24 => .inl (xc X 3, 122, .inl f)
  | 25 => .inl (xc X 1, 6, .inl f)
  | 26 => .inl (xc X 1, 130, .inl f)
  | 27 => .inl (xc X 1, 36, .inl f)
  | 28 => .inl (xc X 1, 8, .inl f)
  | 29 => .inl (xc X 1, 20, .inl f)
  | 30 => .inl (xc X 4, 11, .inl f)
  | 31 => .inl (xc X 1, 36, .inl f)
  | 32 => .inl (xc X 1, 4, .inl f)
  | 33 => .inl (xc X 4, 11, .inl f)
  | 34 => .inl (xc X 1, 36, .inl f)
  | 35 => .inl (xc X 1, 8, .inl f)
  | 36 => .inl (xc X 1, 4, .inl f)
  | 37 => .inl (xc X 1, 50, .inl f)
  | 38 => .inl (xc X 1, 24, .inl f)
  | 39 => .inl (xc X 1, 6, .inl f)
  | 40 => .inl (xc X 1, 6, .inl f)
  | 41 => .inl (xc X 2, 360, .inr (.inl g))
  | _ => .inl (xc X 2, 60, .inr (.inl g))
theorem EM_0 (X : WX) (f : Nat → Int32) (g : Nat → Int64) : EM X 0 f g = .inr (12, [.int (f 0), .int (f 1), .ref (xq X 1), .ref (xq X 2), .ref (xq X 3), .ref (xq X 4), .ref (xq X 5), .ref (xq X 6), .int (f 8), .ref (xq X 7), .ref (xq X 8), .ref (xq X 9), .ref (xq X 10), .int (f 13), .ref (xq X 11), .ref (xq X 12), .ref (xq X 13), .ref (xq X 14), .int (f 18), .int (f 19), .ref (xq X 15), .ref (xq X 16), .ref (xq X 17), .ref (xq X 18), .ref (xq X 19), .int (f 25), .int (f 26), .int (f 27), .int (f 28), .int (f 29), .ref (xq X 20), .ref (xq X 21), .ref (xq X 22), .ref (xq X 23), .ref (xq X 24), .ref (xq X 25), .ref (xq X 26), .int (f 37), .ref (xq X 27), .ref (xq X 28), .ref (xq X 29), .ref (xq X 30), .ref (xq X 31), .ref (xq X 32), .int (f 44), .int (f 45), .ref (xq X 33), .ref (xq X 34), .ref (xq X 35), .ref (xq X 36), .int (f 50), .ref (xq X 37), .int (f 52), .ref (xq X 38), .ref (xq X 39), .ref (xq X 40), .ref (xq X 41), .ref (xq X 42)]) := rfl
theorem EM_1 (X : WX) (f : Nat → Int32) (g : Nat → Int64) : EM X 1 f g = .inl (xc X 1, 8, .inl f) := rfl
theorem EM_2 (X : WX) (f : Nat → Int32) (g : Nat → Int64) : EM X 2 f g = .inl (xc X 1, 8, .inl f) := rfl
theorem EM_3 (X : WX) (f : Nat → Int32) (g : Nat → Int64) : EM X 3 f g = .inl (xc X 1, 8, .inl f) := rfl
theorem EM_4 (X : WX) (f : Nat → Int32) (g : Nat → Int64) : EM X 4 f g = .inl (xc X 1, 8, .inl f) := rfl
theorem EM_5 (X : WX) (f : Nat → Int32) (g : Nat → Int64) : EM X 5 f g = .inl (xc X 1, 8, .inl f) := rfl
theorem EM_6 (X : WX) (f : Nat → Int32) (g : Nat → Int64) : EM X 6 f g = .inl (xc X 1, 8, .inl f) := rfl
theorem EM_7 (X : WX) (f : Nat → Int32) (g : Nat → Int64) : EM X 7 f g = .inl (xc X 1, 11, .inl f) := rfl
theorem EM_8 (X : WX) (f : Nat → Int32) (g : Nat → Int64) : EM X 8 f g = .inl (xc X 1, 11, .inl f) := rfl
theorem EM_9 (X : WX) (f : Nat → Int32) (g : Nat → Int64) : EM X 9 f g = .inl (xc X 1, 11, .inl f) := rfl
theorem EM_10 (X : WX) (f : Nat → Int32) (g : Nat → Int64) : EM X 10 f g = .inl (xc X 1, 11, .inl f) := rfl
theorem EM_11 (X : WX) (f : Nat → Int32) (g : Nat → Int64) : EM X 11 f g = .inl (xc X 1, 13, .inl f) := rfl
theorem EM_12 (X : WX) (f : Nat → Int32) (g : Nat → Int64) : EM X 12 f g = .inl (xc X 1, 13, .inl f) := rfl
theorem EM_13 (X : WX) (f : Nat → Int32) (g : Nat → Int64) : EM X 13 f g = .inl (xc X 1, 13, .inl f) := rfl
theorem EM_14 (X : WX) (f : Nat → Int32) (g : Nat → Int64) : EM X 14 f g = .inl (xc X 1, 13, .inl f) := rfl
theorem EM_15 (X : WX) (f : Nat → Int32) (g : Nat → Int64) : EM X 15 f g = .inl (xc X 1, 40, .inl f) := rfl
theorem EM_16 (X : WX) (f : Nat → Int32) (g : Nat → Int64) : EM X 16 f g = .inl (xc X 1, 40, .inl f) := rfl
theorem EM_17 (X : WX) (f : Nat → Int32) (g : Nat → Int64) : EM X 17 f g = .inl (xc X 1, 40, .inl f) := rfl
theorem EM_18 (X : WX) (f : Nat → Int32) (g : Nat → Int64) : EM X 18 f g = .inl (xc X 1, 40, .inl f) := rfl
theorem EM_19 (X : WX) (f : Nat → Int32) (g : Nat → Int64) : EM X 19 f g = .inl (xc X 0, 120, .inl f) := rfl
theorem EM_20 (X : WX) (f : Nat → Int32) (g : Nat → Int64) : EM X 20 f g = .inl (xc X 0, 260, .inl f) := rfl
theorem EM_21 (X : WX) (f : Nat → Int32) (g : Nat → Int64) : EM X 21 f g = .inl (xc X 1, 260, .inl f) := rfl
theorem EM_22 (X : WX) (f : Nat → Int32) (g : Nat → Int64) : EM X 22 f g = .inl (xc X 1, 2, .inl f) := rfl
theorem EM_23 (X : WX) (f : Nat → Int32) (g : Nat → Int64) : EM X 23 f g = .inl (xc X 3, 122, .inl f) := rfl
theorem EM_24 (X : WX) (f : Nat → Int32) (g : Nat → Int64) : EM X 24 f g = .inl (xc X 3, 122, .inl f) := rfl
theorem EM_25 (X : WX) (f : Nat → Int32) (g : Nat → Int64) : EM X 25 f g = .inl (xc X 1, 6, .inl f) := rfl
theorem EM_26 (X : WX) (f : Nat → Int32) (g : Nat → Int64) : EM X 26 f g = .inl (xc X 1, 130, .inl f) := rfl
theorem EM_27 (X : WX) (f : Nat → Int32) (g : Nat → Int64) : EM X 27 f g = .inl (xc X 1, 36, .inl f) := rfl
theorem EM_28 (X : WX) (f : Nat → Int32) (g : Nat → Int64) : EM X 28 f g = .inl (xc X 1, 8, .inl f) := rfl
theorem EM_29 (X : WX) (f : Nat → Int32) (g : Nat → Int64) : EM X 29 f g = .inl (xc X 1, 20, .inl f) := rfl
theorem EM_30 (X : WX) (f : Nat → Int32) (g : Nat → Int64) : EM X 30 f g = .inl (xc X 4, 11, .inl f) := rfl
theorem EM_31 (X : WX) (f : Nat → Int32) (g : Nat → Int64) : EM X 31 f g = .inl (xc X 1, 36, .inl f) := rfl
theorem EM_32 (X : WX) (f : Nat → Int32) (g : Nat → Int64) : EM X 32 f g = .inl (xc X 1, 4, .inl f) := rfl
theorem EM_33 (X : WX) (f : Nat → Int32) (g : Nat → Int64) : EM X 33 f g = .inl (xc X 4, 11, .inl f) := rfl
theorem EM_34 (X : WX) (f : Nat → Int32) (g : Nat → Int64) : EM X 34 f g = .inl (xc X 1, 36, .inl f) := rfl
theorem EM_35 (X : WX) (f : Nat → Int32) (g : Nat → Int64) : EM X 35 f g = .inl (xc X 1, 8, .inl f) := rfl
theorem EM_36 (X : WX) (f : Nat → Int32) (g : Nat → Int64) : EM X 36 f g = .inl (xc X 1, 4, .inl f) := rfl
theorem EM_37 (X : WX) (f : Nat → Int32) (g : Nat → Int64) : EM X 37 f g = .inl (xc X 1, 50, .inl f) := rfl
theorem EM_38 (X : WX) (f : Nat → Int32) (g : Nat → Int64) : EM X 38 f g = .inl (xc X 1, 24, .inl f) := rfl
theorem EM_39 (X : WX) (f : Nat → Int32) (g : Nat → Int64) : EM X 39 f g = .inl (xc X 1, 6, .inl f) := rfl
theorem EM_40 (X : WX) (f : Nat → Int32) (g : Nat → Int64) : EM X 40 f g = .inl (xc X 1, 6, .inl f) := rfl
theorem EM_41 (X : WX) (f : Nat → Int32) (g : Nat → Int64) : EM X 41 f g = .inl (xc X 2, 360, .inr (.inl g)) := rfl
theorem EM_42 (X : WX) (f : Nat → Int32) (g : Nat → Int64) : EM X 42 f g = .inl (xc X 2, 60, .inr (.inl g)) := rfl
theorem EC_row (X : WX) {i : Int32} (h : inB i 14 = true) (f : Nat → Int32) (g : Nat → Int64) : EC X (3 + i.toNatClampNeg) f g = .inl (xc X 1, 13, .inl f) := if_pos ⟨by omega, by have := inB_lt h; omega⟩
theorem EC_rowN {i : Int32} (h : inB i 14 = true) : 3 + i.toNatClampNeg < 65 := by have := inB_lt h; omega
theorem EC_sh (X : WX) {i : Nat} (h : i < 6) (f : Nat → Int32) (g : Nat → Int64) : EC X (53 + 2 * i) f g = .inr (7, [.int (f 0), .int (f 1), .int (f 2), .int (f 3), .ref (xq X (54 + 2 * i))]) := by
  unfold EC
  rw [if_neg (by omega), if_pos ⟨by omega, by omega, by omega⟩, show 53 + 2 * i + 1 = 54 + 2 * i by omega]
theorem EC_el (X : WX) {i : Nat} (h : i < 6) (f : Nat → Int32) (g : Nat → Int64) : EC X (54 + 2 * i) f g = .inl (xc X 2, 60, .inr (.inl g)) := by
  unfold EC
  rw [if_neg (by omega), if_neg (by omega), if_pos ⟨by omega, by omega⟩]
/-- the two rows that may be a code -/
def cdB (x : Int32) : Bool := decide (x = 18 ∨ x = 23)
theorem EC_cd (X : WX) {x : Int32} (h : cdB x = true) (f : Nat → Int32) (g : Nat → Int64) : EC X x.toNatClampNeg f g = .inl (xc X 1, 121, .inl f) := by
  unfold cdB at h
  rcases of_decide_eq_true h with rfl | rfl <;> rfl
theorem EC_cdN {x : Int32} (h : cdB x = true) : x.toNatClampNeg < 65 := by
  unfold cdB at h
  rcases of_decide_eq_true h with rfl | rfl <;> decide
